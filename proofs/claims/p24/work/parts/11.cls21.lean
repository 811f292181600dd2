theorem dX10_write_0 : decode cX10_write 0 = .ok (.aload_n 0, 1) := by decide +kernel
theorem dX10_write_1 : decode cX10_write 1 = .ok (.getfield 48, 3) := by decide +kernel
theorem dX10_write_4 : decode cX10_write 4 = .ok (.iload_n 1, 1) := by decide +kernel
theorem dX10_write_5 : decode cX10_write 5 = .ok (.invokevirtual 140, 3) := by decide +kernel
theorem dX10_write_8 : decode cX10_write 8 = .ok (.ifCond .eq 23, 3) := by decide +kernel
theorem dX10_write_11 : decode cX10_write 11 = .ok (.aload_n 0, 1) := by decide +kernel
theorem dX10_write_12 : decode cX10_write 12 = .ok (.iload_n 2, 1) := by decide +kernel
theorem dX10_write_13 : decode cX10_write 13 = .ok (.invokevirtual 144, 3) := by decide +kernel
theorem dX10_write_16 : decode cX10_write 16 = .ok (.ifCond .eq 15, 3) := by decide +kernel
theorem dX10_write_19 : decode cX10_write 19 = .ok (.iload_n 3, 1) := by decide +kernel
theorem dX10_write_20 : decode cX10_write 20 = .ok (.ifCond .lt 11, 3) := by decide +kernel
theorem dX10_write_23 : decode cX10_write 23 = .ok (.iload_n 3, 1) := by decide +kernel
theorem dX10_write_24 : decode cX10_write 24 = .ok (.aload_n 0, 1) := by decide +kernel
theorem dX10_write_25 : decode cX10_write 25 = .ok (.getfield 13, 3) := by decide +kernel
theorem dX10_write_28 : decode cX10_write 28 = .ok (.if_icmp .le 5, 3) := by decide +kernel
theorem dX10_write_31 : decode cX10_write 31 = .ok (.iconst (-1), 1) := by decide +kernel
theorem dX10_write_32 : decode cX10_write 32 = .ok (.ireturn, 1) := by decide +kernel
theorem dX10_write_33 : decode cX10_write 33 = .ok (.aload_n 0, 1) := by decide +kernel
theorem dX10_write_34 : decode cX10_write 34 = .ok (.iconst 0, 1) := by decide +kernel
theorem dX10_write_35 : decode cX10_write 35 = .ok (.putfield 13, 3) := by decide +kernel
theorem dX10_write_38 : decode cX10_write 38 = .ok (.aload_n 0, 1) := by decide +kernel
theorem dX10_write_39 : decode cX10_write 39 = .ok (.getfield 22, 3) := by decide +kernel
theorem dX10_write_42 : decode cX10_write 42 = .ok (.iload_n 3, 1) := by decide +kernel
theorem dX10_write_43 : decode cX10_write 43 = .ok (.invokevirtual 114, 3) := by decide +kernel
theorem dX10_write_46 : decode cX10_write 46 = .ok (.aload_n 0, 1) := by decide +kernel
theorem dX10_write_47 : decode cX10_write 47 = .ok (.getfield 88, 3) := by decide +kernel
theorem dX10_write_50 : decode cX10_write 50 = .ok (.aload_n 0, 1) := by decide +kernel
theorem dX10_write_51 : decode cX10_write 51 = .ok (.getfield 29, 3) := by decide +kernel
theorem dX10_write_54 : decode cX10_write 54 = .ok (.iload_n 2, 1) := by decide +kernel
theorem dX10_write_55 : decode cX10_write 55 = .ok (.invokevirtual 147, 3) := by decide +kernel
theorem dX10_write_58 : decode cX10_write 58 = .ok (.invokevirtual 151, 3) := by decide +kernel
theorem dX10_write_61 : decode cX10_write 61 = .ok (.ifCond .ne 11, 3) := by decide +kernel
theorem dX10_write_64 : decode cX10_write 64 = .ok (.aload_n 0, 1) := by decide +kernel
theorem dX10_write_65 : decode cX10_write 65 = .ok (.getfield 22, 3) := by decide +kernel
theorem dX10_write_68 : decode cX10_write 68 = .ok (.invokevirtual 121, 3) := by decide +kernel
theorem dX10_write_71 : decode cX10_write 71 = .ok (.ireturn, 1) := by decide +kernel
theorem dX10_write_72 : decode cX10_write 72 = .ok (.aload_n 0, 1) := by decide +kernel
theorem dX10_write_73 : decode cX10_write 73 = .ok (.getfield 95, 3) := by decide +kernel
theorem dX10_write_76 : decode cX10_write 76 = .ok (.aload_n 0, 1) := by decide +kernel
theorem dX10_write_77 : decode cX10_write 77 = .ok (.getfield 77, 3) := by decide +kernel
theorem dX10_write_80 : decode cX10_write 80 = .ok (.aload_n 0, 1) := by decide +kernel
theorem dX10_write_81 : decode cX10_write 81 = .ok (.getfield 29, 3) := by decide +kernel
theorem dX10_write_84 : decode cX10_write 84 = .ok (.iload_n 2, 1) := by decide +kernel
theorem dX10_write_85 : decode cX10_write 85 = .ok (.invokevirtual 147, 3) := by decide +kernel
theorem dX10_write_88 : decode cX10_write 88 = .ok (.invokevirtual 153, 3) := by decide +kernel
theorem dX10_write_91 : decode cX10_write 91 = .ok (.aload_n 0, 1) := by decide +kernel
theorem dX10_write_92 : decode cX10_write 92 = .ok (.getfield 95, 3) := by decide +kernel
theorem dX10_write_95 : decode cX10_write 95 = .ok (.getfield 157, 3) := by decide +kernel
theorem dX10_write_98 : decode cX10_write 98 = .ok (.sipush 400, 3) := by decide +kernel
theorem dX10_write_101 : decode cX10_write 101 = .ok (.if_icmp .le 21, 3) := by decide +kernel
theorem dX10_write_104 : decode cX10_write 104 = .ok (.aload_n 0, 1) := by decide +kernel
theorem dX10_write_105 : decode cX10_write 105 = .ok (.getfield 22, 3) := by decide +kernel
theorem dX10_write_108 : decode cX10_write 108 = .ok (.bipush 7, 2) := by decide +kernel
theorem dX10_write_110 : decode cX10_write 110 = .ok (.invokevirtual 160, 3) := by decide +kernel
theorem dX10_write_113 : decode cX10_write 113 = .ok (.pop, 1) := by decide +kernel
theorem dX10_write_114 : decode cX10_write 114 = .ok (.aload_n 0, 1) := by decide +kernel
theorem dX10_write_115 : decode cX10_write 115 = .ok (.getfield 22, 3) := by decide +kernel
theorem dX10_write_118 : decode cX10_write 118 = .ok (.invokevirtual 121, 3) := by decide +kernel
theorem dX10_write_121 : decode cX10_write 121 = .ok (.ireturn, 1) := by decide +kernel
theorem dX10_write_122 : decode cX10_write 122 = .ok (.aload_n 0, 1) := by decide +kernel
theorem dX10_write_123 : decode cX10_write 123 = .ok (.getfield 48, 3) := by decide +kernel
theorem dX10_write_126 : decode cX10_write 126 = .ok (.iload_n 1, 1) := by decide +kernel
theorem dX10_write_127 : decode cX10_write 127 = .ok (.iload_n 2, 1) := by decide +kernel
theorem dX10_write_128 : decode cX10_write 128 = .ok (.aload_n 0, 1) := by decide +kernel
theorem dX10_write_129 : decode cX10_write 129 = .ok (.getfield 95, 3) := by decide +kernel
theorem dX10_write_132 : decode cX10_write 132 = .ok (.invokevirtual 163, 3) := by decide +kernel
theorem dX10_write_135 : decode cX10_write 135 = .ok (.aload_n 0, 1) := by decide +kernel
theorem dX10_write_136 : decode cX10_write 136 = .ok (.getfield 95, 3) := by decide +kernel
theorem dX10_write_139 : decode cX10_write 139 = .ok (.getfield 157, 3) := by decide +kernel
theorem dX10_write_142 : decode cX10_write 142 = .ok (.ireturn, 1) := by decide +kernel
theorem dX8_parse_0 : decode cX8_parse 0 = .ok (.aload_n 0, 1) := by decide +kernel
theorem dX8_parse_1 : decode cX8_parse 1 = .ok (.getfield 19, 3) := by decide +kernel
theorem dX8_parse_4 : decode cX8_parse 4 = .ok (.invokevirtual 23, 3) := by decide +kernel
theorem dX8_parse_7 : decode cX8_parse 7 = .ok (.aload_n 0, 1) := by decide +kernel
theorem dX8_parse_8 : decode cX8_parse 8 = .ok (.iload_n 1, 1) := by decide +kernel
theorem dX8_parse_9 : decode cX8_parse 9 = .ok (.iconst (-1), 1) := by decide +kernel
theorem dX8_parse_10 : decode cX8_parse 10 = .ok (.iconst 0, 1) := by decide +kernel
theorem dX8_parse_11 : decode cX8_parse 11 = .ok (.iconst 0, 1) := by decide +kernel
theorem dX8_parse_12 : decode cX8_parse 12 = .ok (.invokevirtual 28, 3) := by decide +kernel
theorem dX8_parse_15 : decode cX8_parse 15 = .ok (.ifCond .ne 5, 3) := by decide +kernel
theorem dX8_parse_18 : decode cX8_parse 18 = .ok (.iconst 0, 1) := by decide +kernel
theorem dX8_parse_19 : decode cX8_parse 19 = .ok (.ireturn, 1) := by decide +kernel
theorem dX8_parse_20 : decode cX8_parse 20 = .ok (.aload_n 0, 1) := by decide +kernel
theorem dX8_parse_21 : decode cX8_parse 21 = .ok (.getfield 9, 3) := by decide +kernel
theorem dX8_parse_24 : decode cX8_parse 24 = .ok (.getfield 32, 3) := by decide +kernel
theorem dX8_parse_27 : decode cX8_parse 27 = .ok (.ifCond .eq 14, 3) := by decide +kernel
theorem dX8_parse_30 : decode cX8_parse 30 = .ok (.aload_n 0, 1) := by decide +kernel
theorem dX8_parse_31 : decode cX8_parse 31 = .ok (.getfield 9, 3) := by decide +kernel
theorem dX8_parse_34 : decode cX8_parse 34 = .ok (.iconst 1, 1) := by decide +kernel
theorem dX8_parse_35 : decode cX8_parse 35 = .ok (.invokevirtual 38, 3) := by decide +kernel
theorem dX8_parse_38 : decode cX8_parse 38 = .ok (.ifCond .eq 7, 3) := by decide +kernel
theorem dX8_parse_41 : decode cX8_parse 41 = .ok (.iconst 1, 1) := by decide +kernel
theorem dX8_parse_42 : decode cX8_parse 42 = .ok (.goto 4, 3) := by decide +kernel
theorem dX8_parse_45 : decode cX8_parse 45 = .ok (.iconst 0, 1) := by decide +kernel
theorem dX8_parse_46 : decode cX8_parse 46 = .ok (.ireturn, 1) := by decide +kernel
def f_X8_parseFields_90 (r_X8_parseFields : Int32 → Int32 → Int32 → ST → Option (Int32 × ST)) (r_X8_parseItems : Int32 → Int32 → Int32 → ST → Option (Int32 × ST)) (r_X8_parseValue : Int32 → Int32 → Int32 → Int32 → ST → Option (Int32 × ST)) (σ : ST) : Option (Int32 × ST) := (f_X6_refuse  3 σ).bind fun q1 => if q1.1 = 0 ∨ q1.1 = 1 then some (q1.1, q1.2) else none
def f_X8_parseFields_204 (r_X8_parseFields : Int32 → Int32 → Int32 → ST → Option (Int32 × ST)) (r_X8_parseItems : Int32 → Int32 → Int32 → ST → Option (Int32 × ST)) (r_X8_parseValue : Int32 → Int32 → Int32 → Int32 → ST → Option (Int32 × ST)) (k25 : Int32 → Int32 → Int32 → Int32 → Int32 → Int32 → ST → Option (Int32 × ST)) (x1 : Int32) (x2 : Int32) (x3 : Int32) (x4 : Int32) (x5 : Int32) (x6 : Int32) (σ : ST) : Option (Int32 × ST) := k25 x1 x2 x3 x4 x5 (x6 + 1) σ
def f_X8_parseFields_190 (r_X8_parseFields : Int32 → Int32 → Int32 → ST → Option (Int32 × ST)) (r_X8_parseItems : Int32 → Int32 → Int32 → ST → Option (Int32 × ST)) (r_X8_parseValue : Int32 → Int32 → Int32 → Int32 → ST → Option (Int32 × ST)) (k25 : Int32 → Int32 → Int32 → Int32 → Int32 → Int32 → ST → Option (Int32 × ST)) (x1 : Int32) (x2 : Int32) (x3 : Int32) (x4 : Int32) (x6 : Int32) (y0 : Int32) (σ : ST) : Option (Int32 × ST) := if y0 = 0 then (f_X8_parseFields_204 r_X8_parseFields r_X8_parseItems r_X8_parseValue k25 x1 x2 x3 x4 y0 x6 σ) else ((f_X6_advance   σ).bind fun q1 => f_X8_parseFields_204 r_X8_parseFields r_X8_parseItems r_X8_parseValue k25 x1 x2 x3 x4 y0 x6 q1)
def f_X8_parseFields_173 (r_X8_parseFields : Int32 → Int32 → Int32 → ST → Option (Int32 × ST)) (r_X8_parseItems : Int32 → Int32 → Int32 → ST → Option (Int32 × ST)) (r_X8_parseValue : Int32 → Int32 → Int32 → Int32 → ST → Option (Int32 × ST)) (k25 : Int32 → Int32 → Int32 → Int32 → Int32 → Int32 → ST → Option (Int32 × ST)) (x1 : Int32) (x2 : Int32) (x3 : Int32) (x4 : Int32) (x6 : Int32) (σ : ST) : Option (Int32 × ST) := if (σ.1 2 4) = 44 then (f_X8_parseFields_190 r_X8_parseFields r_X8_parseItems r_X8_parseValue k25 x1 x2 x3 x4 x6 1 σ) else (f_X8_parseFields_190 r_X8_parseFields r_X8_parseItems r_X8_parseValue k25 x1 x2 x3 x4 x6 0 σ)
def f_X8_parseFields_210 (r_X8_parseFields : Int32 → Int32 → Int32 → ST → Option (Int32 × ST)) (r_X8_parseItems : Int32 → Int32 → Int32 → ST → Option (Int32 × ST)) (r_X8_parseValue : Int32 → Int32 → Int32 → Int32 → ST → Option (Int32 × ST)) (x1 : Int32) (x4 : Int32) (σ : ST) : Option (Int32 × ST) := (f_X8_closeRecord  x1 x4 σ).bind fun q1 => if q1.1 = 0 ∨ q1.1 = 1 then some (q1.1, q1.2) else none
def f_X8_parseFields_25 (r_X8_parseFields : Int32 → Int32 → Int32 → ST → Option (Int32 × ST)) (r_X8_parseItems : Int32 → Int32 → Int32 → ST → Option (Int32 × ST)) (r_X8_parseValue : Int32 → Int32 → Int32 → Int32 → ST → Option (Int32 × ST)) : Nat → Int32 → Int32 → Int32 → Int32 → Int32 → Int32 → ST → Option (Int32 × ST)
  | 0, _, _, _, _, _, _, _ => none
  | n + 1, x1, x2, x3, x4, x5, x6, σ => if 8 < x6 then (f_X8_parseFields_210 r_X8_parseFields r_X8_parseItems r_X8_parseValue x1 x4 σ) else (if x5 = 0 then (f_X8_parseFields_210 r_X8_parseFields r_X8_parseItems r_X8_parseValue x1 x4 σ) else (if (σ.1 2 4) = 3 then ((f_X5_fieldNamed 4 x1 (σ.2.1 2 7) σ).bind fun q1 => if q1.1 = (-1) then (f_X8_parseFields_90 r_X8_parseFields r_X8_parseItems r_X8_parseValue  q1.2) else (if ((x4 >>> (q1.1 &&& 31)) &&& 1) = 0 then ((f_X6_advance   q1.2).bind fun q3 => (f_X5_typeOf 4 x1 q1.1 q3).bind fun q5 => (r_X8_parseValue  q5.1 x2 q1.1 (x3 + 1) q5.2).bind fun q7 => if q7.1 = 0 then (some (0, q7.2)) else (if (q7.2.1 2 4) = 44 then (f_X8_parseFields_173 r_X8_parseFields r_X8_parseItems r_X8_parseValue (f_X8_parseFields_25 r_X8_parseFields r_X8_parseItems r_X8_parseValue n) x1 x2 x3 (x4 ||| (1 <<< (q1.1 &&& 31))) x6 q7.2) else (if (q7.2.1 2 4) = 125 then (f_X8_parseFields_173 r_X8_parseFields r_X8_parseItems r_X8_parseValue (f_X8_parseFields_25 r_X8_parseFields r_X8_parseItems r_X8_parseValue n) x1 x2 x3 (x4 ||| (1 <<< (q1.1 &&& 31))) x6 q7.2) else ((f_X6_refuse  1 q7.2).bind fun q9 => if q9.1 = 0 ∨ q9.1 = 1 then some (q9.1, q9.2) else none)))) else (f_X8_parseFields_90 r_X8_parseFields r_X8_parseItems r_X8_parseValue  q1.2))) else ((f_X6_refuse  1 σ).bind fun q11 => if q11.1 = 0 ∨ q11.1 = 1 then some (q11.1, q11.2) else none)))
def f_X8_parseFields_20 (r_X8_parseFields : Int32 → Int32 → Int32 → ST → Option (Int32 × ST)) (r_X8_parseItems : Int32 → Int32 → Int32 → ST → Option (Int32 × ST)) (r_X8_parseValue : Int32 → Int32 → Int32 → Int32 → ST → Option (Int32 × ST)) (x1 : Int32) (x2 : Int32) (x3 : Int32) (x4 : Int32) (y0 : Int32) (σ : ST) : Option (Int32 × ST) := f_X8_parseFields_25 r_X8_parseFields r_X8_parseItems r_X8_parseValue FU x1 x2 x3 x4 y0 0 σ
def f_X8_parseFields (r_X8_parseFields : Int32 → Int32 → Int32 → ST → Option (Int32 × ST)) (r_X8_parseItems : Int32 → Int32 → Int32 → ST → Option (Int32 × ST)) (r_X8_parseValue : Int32 → Int32 → Int32 → Int32 → ST → Option (Int32 × ST)) (p0 : Int32) (p1 : Int32) (p2 : Int32) (σ : ST) : Option (Int32 × ST) := if (σ.1 2 4) = 125 then (f_X8_parseFields_20 r_X8_parseFields r_X8_parseItems r_X8_parseValue p0 p1 p2 0 0 σ) else (f_X8_parseFields_20 r_X8_parseFields r_X8_parseItems r_X8_parseValue p0 p1 p2 0 1 σ)

def f_X8_parseItems_24 (r_X8_parseFields : Int32 → Int32 → Int32 → ST → Option (Int32 × ST)) (r_X8_parseItems : Int32 → Int32 → Int32 → ST → Option (Int32 × ST)) (r_X8_parseValue : Int32 → Int32 → Int32 → Int32 → ST → Option (Int32 × ST)) : Nat → Int32 → Int32 → Int32 → Int32 → ST → Option (Int32 × ST)
  | 0, _, _, _, _, _ => none
  | n + 1, x1, x2, x3, x4, σ => if 200 < x4 then (some (0, σ)) else ((r_X8_parseValue  x1 x2 x4 (x3 + 1) σ).bind fun q1 => if q1.1 = 0 then (some (0, q1.2)) else (if (q1.2.1 2 4) = 93 then ((f_X7_setWorth 62 x2 (x4 + 1) 0 q1.2).bind fun q7 => (f_X6_advance   q7).bind fun q9 => some (1, q9)) else (if (q1.2.1 2 4) = 44 then ((f_X6_advance   q1.2).bind fun q3 => f_X8_parseItems_24 r_X8_parseFields r_X8_parseItems r_X8_parseValue n x1 x2 x3 (x4 + 1) q3) else ((f_X6_refuse  1 q1.2).bind fun q5 => if q5.1 = 0 ∨ q5.1 = 1 then some (q5.1, q5.2) else none))))
def f_X8_parseItems (r_X8_parseFields : Int32 → Int32 → Int32 → ST → Option (Int32 × ST)) (r_X8_parseItems : Int32 → Int32 → Int32 → ST → Option (Int32 × ST)) (r_X8_parseValue : Int32 → Int32 → Int32 → Int32 → ST → Option (Int32 × ST)) (p0 : Int32) (p1 : Int32) (p2 : Int32) (σ : ST) : Option (Int32 × ST) := if (σ.1 2 4) = 93 then ((f_X6_advance   σ).bind fun q1 => some (1, q1)) else (f_X8_parseItems_24 r_X8_parseFields r_X8_parseItems r_X8_parseValue FU p0 p1 p2 0 σ)

def f_X8_parseValue_142 (r_X8_parseFields : Int32 → Int32 → Int32 → ST → Option (Int32 × ST)) (r_X8_parseItems : Int32 → Int32 → Int32 → ST → Option (Int32 × ST)) (r_X8_parseValue : Int32 → Int32 → Int32 → Int32 → ST → Option (Int32 × ST)) (x4 : Int32) (x5 : Int32) (x6 : Int32) (x7 : Int32) (x8 : Int64) (y0 : Int32) (y1 : Int32) (σ : ST) : Option (Int32 × ST) := (f_X7_setWorth 62 y1 y0 x8 σ).bind fun q1 => (f_X6_advance   q1).bind fun q3 => if x6 = 6 then ((f_X5_innerOf 4 x5 q3).bind fun q9 => (r_X8_parseItems  q9.1 x7 x4 q9.2).bind fun q11 => if q11.1 = 0 ∨ q11.1 = 1 then some (q11.1, q11.2) else none) else (if x6 = 7 then ((f_X5_innerOf 4 x5 q3).bind fun q5 => (r_X8_parseFields  q5.1 x7 x4 q5.2).bind fun q7 => if q7.1 = 0 ∨ q7.1 = 1 then some (q7.1, q7.2) else none) else (some (1, q3)))
def f_X8_parseValue_93 (r_X8_parseFields : Int32 → Int32 → Int32 → ST → Option (Int32 × ST)) (r_X8_parseItems : Int32 → Int32 → Int32 → ST → Option (Int32 × ST)) (r_X8_parseValue : Int32 → Int32 → Int32 → Int32 → ST → Option (Int32 × ST)) (x4 : Int32) (x5 : Int32) (x6 : Int32) (y0 : Int32) (σ : ST) : Option (Int32 × ST) := if y0 = (-1) then ((f_X6_refuse  4 σ).bind fun q5 => if q5.1 = 0 ∨ q5.1 = 1 then some (q5.1, q5.2) else none) else ((f_X6_worth  x6 σ).bind fun q1 => if x6 = 5 then ((f_X10_lettersIn  q1.1 q1.2).bind fun q3 => f_X8_parseValue_142 r_X8_parseFields r_X8_parseItems r_X8_parseValue x4 x5 x6 y0 q1.1 q3.1 y0 q3.2) else (f_X8_parseValue_142 r_X8_parseFields r_X8_parseItems r_X8_parseValue x4 x5 x6 y0 q1.1 0 y0 q1.2))
def f_X8_parseValue_78 (r_X8_parseFields : Int32 → Int32 → Int32 → ST → Option (Int32 × ST)) (r_X8_parseItems : Int32 → Int32 → Int32 → ST → Option (Int32 × ST)) (r_X8_parseValue : Int32 → Int32 → Int32 → Int32 → ST → Option (Int32 × ST)) (x4 : Int32) (x5 : Int32) (x6 : Int32) (σ : ST) : Option (Int32 × ST) := f_X8_parseValue_93 r_X8_parseFields r_X8_parseItems r_X8_parseValue x4 x5 x6 (-1) σ
def f_X8_parseValue_31 (r_X8_parseFields : Int32 → Int32 → Int32 → ST → Option (Int32 × ST)) (r_X8_parseItems : Int32 → Int32 → Int32 → ST → Option (Int32 × ST)) (r_X8_parseValue : Int32 → Int32 → Int32 → Int32 → ST → Option (Int32 × ST)) (x1 : Int32) (x2 : Int32) (x3 : Int32) (x4 : Int32) (σ : ST) : Option (Int32 × ST) := (f_X8_fittingType  x1 σ).bind fun q1 => if q1.1 = (-1) then ((f_X6_refuse  2 q1.2).bind fun q7 => if q7.1 = 0 ∨ q7.1 = 1 then some (q7.1, q7.2) else none) else ((f_X5_sortOf 4 q1.1 q1.2).bind fun q3 => if 31 ≤ x4 then (f_X8_parseValue_78 r_X8_parseFields r_X8_parseItems r_X8_parseValue x4 q1.1 q3.1 q3.2) else (if x3 < 200 then ((f_X7_grow 62 q3.1 x2 x3 q3.2).bind fun q5 => f_X8_parseValue_93 r_X8_parseFields r_X8_parseItems r_X8_parseValue x4 q1.1 q3.1 q5.1 q5.2) else (f_X8_parseValue_78 r_X8_parseFields r_X8_parseItems r_X8_parseValue x4 q1.1 q3.1 q3.2)))
def f_X8_parseValue (r_X8_parseFields : Int32 → Int32 → Int32 → ST → Option (Int32 × ST)) (r_X8_parseItems : Int32 → Int32 → Int32 → ST → Option (Int32 × ST)) (r_X8_parseValue : Int32 → Int32 → Int32 → Int32 → ST → Option (Int32 × ST)) (p0 : Int32) (p1 : Int32) (p2 : Int32) (p3 : Int32) (σ : ST) : Option (Int32 × ST) := (f_X6_beginsLiteral   σ).bind fun q1 => if q1.1 = 0 then (if (q1.2.1 2 4) = 123 then (f_X8_parseValue_31 r_X8_parseFields r_X8_parseItems r_X8_parseValue p0 p1 p2 p3 q1.2) else ((f_X6_refuse  1 q1.2).bind fun q3 => if q3.1 = 0 ∨ q3.1 = 1 then some (q3.1, q3.2) else none)) else (f_X8_parseValue_31 r_X8_parseFields r_X8_parseItems r_X8_parseValue p0 p1 p2 p3 q1.2)

def R_X8_parseFields : Nat → (Int32 → Int32 → Int32 → ST → Option (Int32 × ST)) × (Int32 → Int32 → Int32 → ST → Option (Int32 × ST)) × (Int32 → Int32 → Int32 → Int32 → ST → Option (Int32 × ST))
  | 0 => ((fun _ _ _ _ => none), (fun _ _ _ _ => none), (fun _ _ _ _ _ => none))
  | n + 1 => (f_X8_parseFields ((R_X8_parseFields n).1) ((R_X8_parseFields n).2.1) ((R_X8_parseFields n).2.2), f_X8_parseItems ((R_X8_parseFields n).1) ((R_X8_parseFields n).2.1) ((R_X8_parseFields n).2.2), f_X8_parseValue ((R_X8_parseFields n).1) ((R_X8_parseFields n).2.1) ((R_X8_parseFields n).2.2))
def f_T_X8_parseFields (p0 : Int32) (p1 : Int32) (p2 : Int32) (σ : ST) : Option (Int32 × ST) := (R_X8_parseFields FR).1 p0 p1 p2 σ
def f_T_X8_parseItems (p0 : Int32) (p1 : Int32) (p2 : Int32) (σ : ST) : Option (Int32 × ST) := (R_X8_parseFields FR).2.1 p0 p1 p2 σ
def f_T_X8_parseValue (p0 : Int32) (p1 : Int32) (p2 : Int32) (p3 : Int32) (σ : ST) : Option (Int32 × ST) := (R_X8_parseFields FR).2.2 p0 p1 p2 p3 σ

set_option maxRecDepth 100000 in
set_option maxHeartbeats 4000000 in
theorem b_X8_parseFields_90 {p : Program} {l : Launch} {e : Env} {s : State} {m : MethodId} {args : Array Value} {below : List Frame} {meth : Method} {c : Code} {dC : Nat → ClassId} {dI : Nat → Nat → Nat} {a : Nat → Nat} {k : Nat → ClassId} {A : Nat → Prop} {q : Int32 × ST} (hC : CxA p s m args meth c dC dI k A cX8_parseFields RX8 (some .boolean) 8) {nn : Nat} {r_X8_parseFields : Int32 → Int32 → Int32 → ST → Option (Int32 × ST)} (hr_X8_parseFields : ∀ {sz : Nat} {p0 : Int32} {p1 : Int32} {p2 : Int32} {σ : ST} {q : Int32 × ST}, r_X8_parseFields  p0 p1 p2 σ = some q → Met l yX8_parseFields (.code yX8_parseFields cX8_parseFields 8 (some .boolean) :: pw) ({ frames := 4 + nn, cells := 0, slots := 0, locals := 91 + 29 * nn } : Room) (va_Pc [.ref (a 86), .int p0, .int p1, .int p2] (vPre dC dI (wA a k σ) (tA k) sz)) (qAi dC dI a k (va_A (wA a k σ) sz) q) 0 0 (va_A (wA a k σ) sz)) {r_X8_parseItems : Int32 → Int32 → Int32 → ST → Option (Int32 × ST)} (hr_X8_parseItems : ∀ {sz : Nat} {p0 : Int32} {p1 : Int32} {p2 : Int32} {σ : ST} {q : Int32 × ST}, r_X8_parseItems  p0 p1 p2 σ = some q → Met l yX8_parseItems (.code yX8_parseItems cX8_parseItems 5 (some .boolean) :: pw) ({ frames := 4 + nn, cells := 0, slots := 0, locals := 91 + 29 * nn } : Room) (va_Pc [.ref (a 86), .int p0, .int p1, .int p2] (vPre dC dI (wA a k σ) (tA k) sz)) (qAi dC dI a k (va_A (wA a k σ) sz) q) 0 0 (va_A (wA a k σ) sz)) {r_X8_parseValue : Int32 → Int32 → Int32 → Int32 → ST → Option (Int32 × ST)} (hr_X8_parseValue : ∀ {sz : Nat} {p0 : Int32} {p1 : Int32} {p2 : Int32} {p3 : Int32} {σ : ST} {q : Int32 × ST}, r_X8_parseValue  p0 p1 p2 p3 σ = some q → Met l yX8_parseValue (.code yX8_parseValue cX8_parseValue 10 (some .boolean) :: pw) ({ frames := 4 + nn, cells := 0, slots := 0, locals := 91 + 29 * nn } : Room) (va_Pc [.ref (a 86), .int p0, .int p1, .int p2, .int p3] (vPre dC dI (wA a k σ) (tA k) sz)) (qAi dC dI a k (va_A (wA a k σ) sz) q) 0 0 (va_A (wA a k σ) sz))   {σ : ST} (h : f_X8_parseFields_90 r_X8_parseFields r_X8_parseItems r_X8_parseValue  σ = some q) : GoA p l e ({ frames := 4 + (nn + 1), cells := 0, slots := 0, locals := 91 + 29 * (nn + 1) } : Room) s m args below meth c (MQ below (qAi dC dI a k A q) args s 0 0 A) dC dI a k A 8 90 σ [(0, .ref (a 86))] [] := by
  have hC0 := hC
  obtain ⟨hx, hb, hr, hml, hown, hts, hlocks, hA, hN, hK⟩ := hC0
  intro H locs ls hP hD hS hl
  have hD0 : ∀ σ1 : ST, va_D A (wA a k σ1) := fun σ1 => wA_D hD
  unfold f_X8_parseFields_90 at h
  refine lv_aload_n hx hb dX8_parseFields_90 rfl (lv_at hl 0 rfl) ?_
  refine va_get (D := (dC, dI)) (ci := 8) (C := RX8) (T := TX8) (N := 3) hx hb hts inlX8 hown hK hP 86 gA_86 rfl 0 (by decide) (hts (.fieldLink RX8 9 "ShapeReader$ValueText" "tokens" "LShapeReader$Tokens;") mw_19_5) (fun _ h9 => h9) rfl dX8_parseFields_91 ?_
  refine lv_iconst (v := 3) hx hb dX8_parseFields_94 (by decide) ?_
  obtain ⟨q1, hc, h⟩ := ib h
  have hF := va_frees hD hS hA
  refine va_calli (va_runV (As := [.int 3]) (rest := []) ⟨hx, hb, hml, hown, hts⟩ (s_X6_refuse hc) (cwV 1 hts (gV mw_19_13 mw_7_15 mw_7_16 mw_0_10 mw_51_4) rfl rfl rfl (by decide +kernel) ⟨by show 1 + 1 ≤ 4 + (nn + 1); omega, by show 8 + (2 + 11) + 22 ≤ 91 + 29 * (nn + 1); omega⟩) (vV (ci := 6) (q0 := 2) hK hP hD hN rfl gA_2) rfl rfl hl.1 rfl (lv_room (Nat.le_of_ble_eq_true rfl)) dX8_parseFields_95 ⟨(Nat.le_of_ble_eq_true rfl), (Nat.le_of_ble_eq_true rfl)⟩) hS (fun q _ h => hF q h) hF (fun r2 u t H locs ht hvm hw hB _ _ hS => ?_)
  obtain rfl : r2 = q1.1 := hw
  replace hP : va_P (dC, dI) vwCl (wA a k q1.2) H := by rw [← ht]; exact hB.1
  replace hD := hD0 (q1.2)
  clear hB hF
  obtain ⟨hg, h⟩ := ig h
  obtain rfl := Option.some.inj h
  exact W.zret hx hb hr (zn hg) (fun t ht hW => ⟨⟨_, (), rfl, rfl, ⟨by rw [ht]; exact hP, va_K.moved hW.alike hK, hD⟩⟩, hS.F ht⟩) hS.2.2 dX8_parseFields_98

set_option maxRecDepth 100000 in
set_option maxHeartbeats 4000000 in
theorem b_X8_parseFields_204 {p : Program} {l : Launch} {e : Env} {s : State} {m : MethodId} {args : Array Value} {below : List Frame} {meth : Method} {c : Code} {dC : Nat → ClassId} {dI : Nat → Nat → Nat} {a : Nat → Nat} {k : Nat → ClassId} {A : Nat → Prop} {q : Int32 × ST} (hC : CxA p s m args meth c dC dI k A cX8_parseFields RX8 (some .boolean) 8) {nn : Nat} {r_X8_parseFields : Int32 → Int32 → Int32 → ST → Option (Int32 × ST)} (hr_X8_parseFields : ∀ {sz : Nat} {p0 : Int32} {p1 : Int32} {p2 : Int32} {σ : ST} {q : Int32 × ST}, r_X8_parseFields  p0 p1 p2 σ = some q → Met l yX8_parseFields (.code yX8_parseFields cX8_parseFields 8 (some .boolean) :: pw) ({ frames := 4 + nn, cells := 0, slots := 0, locals := 91 + 29 * nn } : Room) (va_Pc [.ref (a 86), .int p0, .int p1, .int p2] (vPre dC dI (wA a k σ) (tA k) sz)) (qAi dC dI a k (va_A (wA a k σ) sz) q) 0 0 (va_A (wA a k σ) sz)) {r_X8_parseItems : Int32 → Int32 → Int32 → ST → Option (Int32 × ST)} (hr_X8_parseItems : ∀ {sz : Nat} {p0 : Int32} {p1 : Int32} {p2 : Int32} {σ : ST} {q : Int32 × ST}, r_X8_parseItems  p0 p1 p2 σ = some q → Met l yX8_parseItems (.code yX8_parseItems cX8_parseItems 5 (some .boolean) :: pw) ({ frames := 4 + nn, cells := 0, slots := 0, locals := 91 + 29 * nn } : Room) (va_Pc [.ref (a 86), .int p0, .int p1, .int p2] (vPre dC dI (wA a k σ) (tA k) sz)) (qAi dC dI a k (va_A (wA a k σ) sz) q) 0 0 (va_A (wA a k σ) sz)) {r_X8_parseValue : Int32 → Int32 → Int32 → Int32 → ST → Option (Int32 × ST)} (hr_X8_parseValue : ∀ {sz : Nat} {p0 : Int32} {p1 : Int32} {p2 : Int32} {p3 : Int32} {σ : ST} {q : Int32 × ST}, r_X8_parseValue  p0 p1 p2 p3 σ = some q → Met l yX8_parseValue (.code yX8_parseValue cX8_parseValue 10 (some .boolean) :: pw) ({ frames := 4 + nn, cells := 0, slots := 0, locals := 91 + 29 * nn } : Room) (va_Pc [.ref (a 86), .int p0, .int p1, .int p2, .int p3] (vPre dC dI (wA a k σ) (tA k) sz)) (qAi dC dI a k (va_A (wA a k σ) sz) q) 0 0 (va_A (wA a k σ) sz)) {k25 : Int32 → Int32 → Int32 → Int32 → Int32 → Int32 → ST → Option (Int32 × ST)} (hk25 : ∀ (x1 : Int32) (x2 : Int32) (x3 : Int32) (x4 : Int32) (x5 : Int32) (x6 : Int32) (σ : ST), k25 x1 x2 x3 x4 x5 x6 σ = some q → GoA p l e ({ frames := 4 + (nn + 1), cells := 0, slots := 0, locals := 91 + 29 * (nn + 1) } : Room) s m args below meth c (MQ below (qAi dC dI a k A q) args s 0 0 A) dC dI a k A 8 25 σ [(0, .ref (a 86)), (1, .int x1), (2, .int x2), (3, .int x3), (4, .int x4), (5, .int x5), (6, .int x6)] []) {x1 : Int32} {x2 : Int32} {x3 : Int32} {x4 : Int32} {x5 : Int32} {x6 : Int32} {σ : ST} (h : f_X8_parseFields_204 r_X8_parseFields r_X8_parseItems r_X8_parseValue k25 x1 x2 x3 x4 x5 x6 σ = some q) : GoA p l e ({ frames := 4 + (nn + 1), cells := 0, slots := 0, locals := 91 + 29 * (nn + 1) } : Room) s m args below meth c (MQ below (qAi dC dI a k A q) args s 0 0 A) dC dI a k A 8 204 σ [(0, .ref (a 86)), (1, .int x1), (2, .int x2), (3, .int x3), (4, .int x4), (5, .int x5), (6, .int x6)] [] := by
  have hC0 := hC
  obtain ⟨hx, hb, hr, hml, hown, hts, hlocks, hA, hN, hK⟩ := hC0
  intro H locs ls hP hD hS hl
  have hD0 : ∀ σ1 : ST, va_D A (wA a k σ1) := fun σ1 => wA_D hD
  unfold f_X8_parseFields_204 at h
  refine lv_iinc (v := (x6 + 1)) (lv' := [(6, .int (x6 + 1)), (0, .ref (a 86)), (1, .int x1), (2, .int x2), (3, .int x3), (4, .int x4), (5, .int x5)]) hx hb dX8_parseFields_204 hl (k := 6) rfl rfl (by decide) rfl (fun ls hl => ?_)
  refine lv_goto (tgt := 25) hx hb dX8_parseFields_207 (by decide) ?_
  exact hk25 _ _ _ _ _ _ _ h _ _ _ hP hD hS (lv_sub hl [1, 2, 3, 4, 5, 6, 0] rfl)

set_option maxRecDepth 100000 in
set_option maxHeartbeats 4000000 in
theorem b_X8_parseFields_190 {p : Program} {l : Launch} {e : Env} {s : State} {m : MethodId} {args : Array Value} {below : List Frame} {meth : Method} {c : Code} {dC : Nat → ClassId} {dI : Nat → Nat → Nat} {a : Nat → Nat} {k : Nat → ClassId} {A : Nat → Prop} {q : Int32 × ST} (hC : CxA p s m args meth c dC dI k A cX8_parseFields RX8 (some .boolean) 8) {nn : Nat} {r_X8_parseFields : Int32 → Int32 → Int32 → ST → Option (Int32 × ST)} (hr_X8_parseFields : ∀ {sz : Nat} {p0 : Int32} {p1 : Int32} {p2 : Int32} {σ : ST} {q : Int32 × ST}, r_X8_parseFields  p0 p1 p2 σ = some q → Met l yX8_parseFields (.code yX8_parseFields cX8_parseFields 8 (some .boolean) :: pw) ({ frames := 4 + nn, cells := 0, slots := 0, locals := 91 + 29 * nn } : Room) (va_Pc [.ref (a 86), .int p0, .int p1, .int p2] (vPre dC dI (wA a k σ) (tA k) sz)) (qAi dC dI a k (va_A (wA a k σ) sz) q) 0 0 (va_A (wA a k σ) sz)) {r_X8_parseItems : Int32 → Int32 → Int32 → ST → Option (Int32 × ST)} (hr_X8_parseItems : ∀ {sz : Nat} {p0 : Int32} {p1 : Int32} {p2 : Int32} {σ : ST} {q : Int32 × ST}, r_X8_parseItems  p0 p1 p2 σ = some q → Met l yX8_parseItems (.code yX8_parseItems cX8_parseItems 5 (some .boolean) :: pw) ({ frames := 4 + nn, cells := 0, slots := 0, locals := 91 + 29 * nn } : Room) (va_Pc [.ref (a 86), .int p0, .int p1, .int p2] (vPre dC dI (wA a k σ) (tA k) sz)) (qAi dC dI a k (va_A (wA a k σ) sz) q) 0 0 (va_A (wA a k σ) sz)) {r_X8_parseValue : Int32 → Int32 → Int32 → Int32 → ST → Option (Int32 × ST)} (hr_X8_parseValue : ∀ {sz : Nat} {p0 : Int32} {p1 : Int32} {p2 : Int32} {p3 : Int32} {σ : ST} {q : Int32 × ST}, r_X8_parseValue  p0 p1 p2 p3 σ = some q → Met l yX8_parseValue (.code yX8_parseValue cX8_parseValue 10 (some .boolean) :: pw) ({ frames := 4 + nn, cells := 0, slots := 0, locals := 91 + 29 * nn } : Room) (va_Pc [.ref (a 86), .int p0, .int p1, .int p2, .int p3] (vPre dC dI (wA a k σ) (tA k) sz)) (qAi dC dI a k (va_A (wA a k σ) sz) q) 0 0 (va_A (wA a k σ) sz)) {k25 : Int32 → Int32 → Int32 → Int32 → Int32 → Int32 → ST → Option (Int32 × ST)} (hk25 : ∀ (x1 : Int32) (x2 : Int32) (x3 : Int32) (x4 : Int32) (x5 : Int32) (x6 : Int32) (σ : ST), k25 x1 x2 x3 x4 x5 x6 σ = some q → GoA p l e ({ frames := 4 + (nn + 1), cells := 0, slots := 0, locals := 91 + 29 * (nn + 1) } : Room) s m args below meth c (MQ below (qAi dC dI a k A q) args s 0 0 A) dC dI a k A 8 25 σ [(0, .ref (a 86)), (1, .int x1), (2, .int x2), (3, .int x3), (4, .int x4), (5, .int x5), (6, .int x6)] []) {x1 : Int32} {x2 : Int32} {x3 : Int32} {x4 : Int32} {x6 : Int32} {y0 : Int32} {σ : ST} (h : f_X8_parseFields_190 r_X8_parseFields r_X8_parseItems r_X8_parseValue k25 x1 x2 x3 x4 x6 y0 σ = some q) : GoA p l e ({ frames := 4 + (nn + 1), cells := 0, slots := 0, locals := 91 + 29 * (nn + 1) } : Room) s m args below meth c (MQ below (qAi dC dI a k A q) args s 0 0 A) dC dI a k A 8 190 σ [(0, .ref (a 86)), (1, .int x1), (2, .int x2), (3, .int x3), (4, .int x4), (6, .int x6)] [.int y0] := by
  have hC0 := hC
  obtain ⟨hx, hb, hr, hml, hown, hts, hlocks, hA, hN, hK⟩ := hC0
  intro H locs ls hP hD hS hl
  have hD0 : ∀ σ1 : ST, va_D A (wA a k σ1) := fun σ1 => wA_D hD
  unfold f_X8_parseFields_190 at h
  refine lv_istore (lv' := [(5, .int y0), (0, .ref (a 86)), (1, .int x1), (2, .int x2), (3, .int x3), (4, .int x4), (6, .int x6)]) hx hb dX8_parseFields_190 hl (by decide) rfl (fun ls hl => ?_)
  refine lv_iload hx hb dX8_parseFields_192 (lv_at hl 0 rfl) ?_
  refine lv_if_eq (tgt := 204) hx hb dX8_parseFields_194 (by decide) (fun hc => ?_) (fun hc => ?_)
  · replace h := ip hc h
    exact b_X8_parseFields_204 hC hr_X8_parseFields hr_X8_parseItems hr_X8_parseValue hk25 h _ _ _ hP hD hS (lv_sub hl [1, 2, 3, 4, 5, 0, 6] rfl)
  · replace h := iq hc h
    refine lv_aload_n hx hb dX8_parseFields_197 rfl (lv_at hl 1 rfl) ?_
    refine va_get (D := (dC, dI)) (ci := 8) (C := RX8) (T := TX8) (N := 3) hx hb hts inlX8 hown hK hP 86 gA_86 rfl 0 (by decide) (hts (.fieldLink RX8 9 "ShapeReader$ValueText" "tokens" "LShapeReader$Tokens;") mw_19_5) (fun _ h9 => h9) rfl dX8_parseFields_198 ?_
    obtain ⟨q1, hc, h⟩ := ib h
    have hF := va_frees hD hS hA
    refine va_callv (va_runV (As := []) (rest := []) ⟨hx, hb, hml, hown, hts⟩ (s_X6_advance hc) (cwV 0 hts (gV mw_19_22 mw_8_6 mw_8_7 mw_0_10 mw_51_8) rfl rfl rfl (by decide +kernel) ⟨by show 2 + 1 ≤ 4 + (nn + 1); omega, by show 8 + (2 + 11) + 47 ≤ 91 + 29 * (nn + 1); omega⟩) (vV (ci := 6) (q0 := 2) hK hP hD hN rfl gA_2) rfl rfl hl.1 rfl (lv_room (Nat.le_of_ble_eq_true rfl)) dX8_parseFields_201 ⟨(Nat.le_of_ble_eq_true rfl), (Nat.le_of_ble_eq_true rfl)⟩) hS (fun q _ h => hF q h) hF (fun u t H locs ht hvm hw hB _ _ hS => ?_)
    replace hP : va_P (dC, dI) vwCl (wA a k q1) H := by rw [← ht]; exact hB.1
    replace hD := hD0 (q1)
    clear hB hF
    exact b_X8_parseFields_204 hC hr_X8_parseFields hr_X8_parseItems hr_X8_parseValue hk25 h _ _ _ hP hD hS (lv_sub hl [1, 2, 3, 4, 5, 0, 6] rfl)

set_option maxRecDepth 100000 in
set_option maxHeartbeats 4000000 in
theorem b_X8_parseFields_173 {p : Program} {l : Launch} {e : Env} {s : State} {m : MethodId} {args : Array Value} {below : List Frame} {meth : Method} {c : Code} {dC : Nat → ClassId} {dI : Nat → Nat → Nat} {a : Nat → Nat} {k : Nat → ClassId} {A : Nat → Prop} {q : Int32 × ST} (hC : CxA p s m args meth c dC dI k A cX8_parseFields RX8 (some .boolean) 8) {nn : Nat} {r_X8_parseFields : Int32 → Int32 → Int32 → ST → Option (Int32 × ST)} (hr_X8_parseFields : ∀ {sz : Nat} {p0 : Int32} {p1 : Int32} {p2 : Int32} {σ : ST} {q : Int32 × ST}, r_X8_parseFields  p0 p1 p2 σ = some q → Met l yX8_parseFields (.code yX8_parseFields cX8_parseFields 8 (some .boolean) :: pw) ({ frames := 4 + nn, cells := 0, slots := 0, locals := 91 + 29 * nn } : Room) (va_Pc [.ref (a 86), .int p0, .int p1, .int p2] (vPre dC dI (wA a k σ) (tA k) sz)) (qAi dC dI a k (va_A (wA a k σ) sz) q) 0 0 (va_A (wA a k σ) sz)) {r_X8_parseItems : Int32 → Int32 → Int32 → ST → Option (Int32 × ST)} (hr_X8_parseItems : ∀ {sz : Nat} {p0 : Int32} {p1 : Int32} {p2 : Int32} {σ : ST} {q : Int32 × ST}, r_X8_parseItems  p0 p1 p2 σ = some q → Met l yX8_parseItems (.code yX8_parseItems cX8_parseItems 5 (some .boolean) :: pw) ({ frames := 4 + nn, cells := 0, slots := 0, locals := 91 + 29 * nn } : Room) (va_Pc [.ref (a 86), .int p0, .int p1, .int p2] (vPre dC dI (wA a k σ) (tA k) sz)) (qAi dC dI a k (va_A (wA a k σ) sz) q) 0 0 (va_A (wA a k σ) sz)) {r_X8_parseValue : Int32 → Int32 → Int32 → Int32 → ST → Option (Int32 × ST)} (hr_X8_parseValue : ∀ {sz : Nat} {p0 : Int32} {p1 : Int32} {p2 : Int32} {p3 : Int32} {σ : ST} {q : Int32 × ST}, r_X8_parseValue  p0 p1 p2 p3 σ = some q → Met l yX8_parseValue (.code yX8_parseValue cX8_parseValue 10 (some .boolean) :: pw) ({ frames := 4 + nn, cells := 0, slots := 0, locals := 91 + 29 * nn } : Room) (va_Pc [.ref (a 86), .int p0, .int p1, .int p2, .int p3] (vPre dC dI (wA a k σ) (tA k) sz)) (qAi dC dI a k (va_A (wA a k σ) sz) q) 0 0 (va_A (wA a k σ) sz)) {k25 : Int32 → Int32 → Int32 → Int32 → Int32 → Int32 → ST → Option (Int32 × ST)} (hk25 : ∀ (x1 : Int32) (x2 : Int32) (x3 : Int32) (x4 : Int32) (x5 : Int32) (x6 : Int32) (σ : ST), k25 x1 x2 x3 x4 x5 x6 σ = some q → GoA p l e ({ frames := 4 + (nn + 1), cells := 0, slots := 0, locals := 91 + 29 * (nn + 1) } : Room) s m args below meth c (MQ below (qAi dC dI a k A q) args s 0 0 A) dC dI a k A 8 25 σ [(0, .ref (a 86)), (1, .int x1), (2, .int x2), (3, .int x3), (4, .int x4), (5, .int x5), (6, .int x6)] []) {x1 : Int32} {x2 : Int32} {x3 : Int32} {x4 : Int32} {x6 : Int32} {σ : ST} (h : f_X8_parseFields_173 r_X8_parseFields r_X8_parseItems r_X8_parseValue k25 x1 x2 x3 x4 x6 σ = some q) : GoA p l e ({ frames := 4 + (nn + 1), cells := 0, slots := 0, locals := 91 + 29 * (nn + 1) } : Room) s m args below meth c (MQ below (qAi dC dI a k A q) args s 0 0 A) dC dI a k A 8 173 σ [(0, .ref (a 86)), (1, .int x1), (2, .int x2), (3, .int x3), (4, .int x4), (6, .int x6)] [] := by
  have hC0 := hC
  obtain ⟨hx, hb, hr, hml, hown, hts, hlocks, hA, hN, hK⟩ := hC0
  intro H locs ls hP hD hS hl
  have hD0 : ∀ σ1 : ST, va_D A (wA a k σ1) := fun σ1 => wA_D hD
  unfold f_X8_parseFields_173 at h
  refine lv_aload_n hx hb dX8_parseFields_173 rfl (lv_at hl 0 rfl) ?_
  refine va_get (D := (dC, dI)) (ci := 8) (C := RX8) (T := TX8) (N := 3) hx hb hts inlX8 hown hK hP 86 gA_86 rfl 0 (by decide) (hts (.fieldLink RX8 9 "ShapeReader$ValueText" "tokens" "LShapeReader$Tokens;") mw_19_5) (fun _ h9 => h9) rfl dX8_parseFields_174 ?_
  refine va_get (D := (dC, dI)) (ci := 6) (C := RX6) (T := TX6) (N := 14) hx hb hts inlX6 hown hK hP 2 gA_2 rfl 4 (by decide) (hts (.fieldLink RX8 32 "ShapeReader$Tokens" "kind" "I") mw_19_12) (fun _ h9 => h9) rfl dX8_parseFields_177 ?_
  refine lv_bipush (v := 44) hx hb dX8_parseFields_180 (by decide) ?_
  refine lv_icmp_ne (tgt := 189) hx hb dX8_parseFields_182 (by decide) (fun hc => ?_) (fun hc => ?_)
  · replace h := iq hc h
    refine lv_iconst (v := 0) hx hb dX8_parseFields_189 (by decide) ?_
    exact b_X8_parseFields_190 hC hr_X8_parseFields hr_X8_parseItems hr_X8_parseValue hk25 h _ _ _ hP hD hS (lv_sub hl [0, 1, 2, 3, 4, 5] rfl)
  · replace h := ip hc h
    refine lv_iconst (v := 1) hx hb dX8_parseFields_185 (by decide) ?_
    refine lv_goto (tgt := 190) hx hb dX8_parseFields_186 (by decide) ?_
    exact b_X8_parseFields_190 hC hr_X8_parseFields hr_X8_parseItems hr_X8_parseValue hk25 h _ _ _ hP hD hS (lv_sub hl [0, 1, 2, 3, 4, 5] rfl)

set_option maxRecDepth 100000 in
set_option maxHeartbeats 4000000 in
theorem b_X8_parseFields_210 {p : Program} {l : Launch} {e : Env} {s : State} {m : MethodId} {args : Array Value} {below : List Frame} {meth : Method} {c : Code} {dC : Nat → ClassId} {dI : Nat → Nat → Nat} {a : Nat → Nat} {k : Nat → ClassId} {A : Nat → Prop} {q : Int32 × ST} (hC : CxA p s m args meth c dC dI k A cX8_parseFields RX8 (some .boolean) 8) {nn : Nat} {r_X8_parseFields : Int32 → Int32 → Int32 → ST → Option (Int32 × ST)} (hr_X8_parseFields : ∀ {sz : Nat} {p0 : Int32} {p1 : Int32} {p2 : Int32} {σ : ST} {q : Int32 × ST}, r_X8_parseFields  p0 p1 p2 σ = some q → Met l yX8_parseFields (.code yX8_parseFields cX8_parseFields 8 (some .boolean) :: pw) ({ frames := 4 + nn, cells := 0, slots := 0, locals := 91 + 29 * nn } : Room) (va_Pc [.ref (a 86), .int p0, .int p1, .int p2] (vPre dC dI (wA a k σ) (tA k) sz)) (qAi dC dI a k (va_A (wA a k σ) sz) q) 0 0 (va_A (wA a k σ) sz)) {r_X8_parseItems : Int32 → Int32 → Int32 → ST → Option (Int32 × ST)} (hr_X8_parseItems : ∀ {sz : Nat} {p0 : Int32} {p1 : Int32} {p2 : Int32} {σ : ST} {q : Int32 × ST}, r_X8_parseItems  p0 p1 p2 σ = some q → Met l yX8_parseItems (.code yX8_parseItems cX8_parseItems 5 (some .boolean) :: pw) ({ frames := 4 + nn, cells := 0, slots := 0, locals := 91 + 29 * nn } : Room) (va_Pc [.ref (a 86), .int p0, .int p1, .int p2] (vPre dC dI (wA a k σ) (tA k) sz)) (qAi dC dI a k (va_A (wA a k σ) sz) q) 0 0 (va_A (wA a k σ) sz)) {r_X8_parseValue : Int32 → Int32 → Int32 → Int32 → ST → Option (Int32 × ST)} (hr_X8_parseValue : ∀ {sz : Nat} {p0 : Int32} {p1 : Int32} {p2 : Int32} {p3 : Int32} {σ : ST} {q : Int32 × ST}, r_X8_parseValue  p0 p1 p2 p3 σ = some q → Met l yX8_parseValue (.code yX8_parseValue cX8_parseValue 10 (some .boolean) :: pw) ({ frames := 4 + nn, cells := 0, slots := 0, locals := 91 + 29 * nn } : Room) (va_Pc [.ref (a 86), .int p0, .int p1, .int p2, .int p3] (vPre dC dI (wA a k σ) (tA k) sz)) (qAi dC dI a k (va_A (wA a k σ) sz) q) 0 0 (va_A (wA a k σ) sz))  {x1 : Int32} {x4 : Int32} {σ : ST} (h : f_X8_parseFields_210 r_X8_parseFields r_X8_parseItems r_X8_parseValue x1 x4 σ = some q) : GoA p l e ({ frames := 4 + (nn + 1), cells := 0, slots := 0, locals := 91 + 29 * (nn + 1) } : Room) s m args below meth c (MQ below (qAi dC dI a k A q) args s 0 0 A) dC dI a k A 8 210 σ [(0, .ref (a 86)), (1, .int x1), (4, .int x4)] [] := by
  have hC0 := hC
  obtain ⟨hx, hb, hr, hml, hown, hts, hlocks, hA, hN, hK⟩ := hC0
  intro H locs ls hP hD hS hl
  have hD0 : ∀ σ1 : ST, va_D A (wA a k σ1) := fun σ1 => wA_D hD
  unfold f_X8_parseFields_210 at h
  refine lv_aload_n hx hb dX8_parseFields_210 rfl (lv_at hl 0 rfl) ?_
  refine lv_iload_n hx hb dX8_parseFields_211 rfl (lv_at hl 1 rfl) ?_
  refine lv_iload hx hb dX8_parseFields_212 (lv_at hl 2 rfl) ?_
  obtain ⟨q1, hc, h⟩ := ib h
  have hF := va_frees hD hS hA
  refine va_calli (va_runV (As := [.int x1, .int x4]) (rest := []) ⟨hx, hb, hml, hown, hts⟩ (s_X8_closeRecord hc) (cwV 2 hts (gV mw_20_5 mw_20_6 mw_20_7 mw_0_12 mw_52_18) rfl rfl rfl (by decide +kernel) ⟨by show 3 + 1 ≤ 4 + (nn + 1); omega, by show 8 + (4 + 11) + 68 ≤ 91 + 29 * (nn + 1); omega⟩) (vV (ci := 8) (q0 := 86) hK hP hD hN rfl gA_86) rfl rfl hl.1 rfl (lv_room (Nat.le_of_ble_eq_true rfl)) dX8_parseFields_214 ⟨(Nat.le_of_ble_eq_true rfl), (Nat.le_of_ble_eq_true rfl)⟩) hS (fun q _ h => hF q h) hF (fun r2 u t H locs ht hvm hw hB _ _ hS => ?_)
  obtain rfl : r2 = q1.1 := hw
  replace hP : va_P (dC, dI) vwCl (wA a k q1.2) H := by rw [← ht]; exact hB.1
  replace hD := hD0 (q1.2)
  clear hB hF
  obtain ⟨hg, h⟩ := ig h
  obtain rfl := Option.some.inj h
  exact W.zret hx hb hr (zn hg) (fun t ht hW => ⟨⟨_, (), rfl, rfl, ⟨by rw [ht]; exact hP, va_K.moved hW.alike hK, hD⟩⟩, hS.F ht⟩) hS.2.2 dX8_parseFields_217

set_option maxRecDepth 100000 in
set_option maxHeartbeats 4000000 in
theorem b_X8_parseFields_25 {p : Program} {l : Launch} {e : Env} {s : State} {m : MethodId} {args : Array Value} {below : List Frame} {meth : Method} {c : Code} {dC : Nat → ClassId} {dI : Nat → Nat → Nat} {a : Nat → Nat} {k : Nat → ClassId} {A : Nat → Prop} {q : Int32 × ST} (hC : CxA p s m args meth c dC dI k A cX8_parseFields RX8 (some .boolean) 8) {nn : Nat} {r_X8_parseFields : Int32 → Int32 → Int32 → ST → Option (Int32 × ST)} (hr_X8_parseFields : ∀ {sz : Nat} {p0 : Int32} {p1 : Int32} {p2 : Int32} {σ : ST} {q : Int32 × ST}, r_X8_parseFields  p0 p1 p2 σ = some q → Met l yX8_parseFields (.code yX8_parseFields cX8_parseFields 8 (some .boolean) :: pw) ({ frames := 4 + nn, cells := 0, slots := 0, locals := 91 + 29 * nn } : Room) (va_Pc [.ref (a 86), .int p0, .int p1, .int p2] (vPre dC dI (wA a k σ) (tA k) sz)) (qAi dC dI a k (va_A (wA a k σ) sz) q) 0 0 (va_A (wA a k σ) sz)) {r_X8_parseItems : Int32 → Int32 → Int32 → ST → Option (Int32 × ST)} (hr_X8_parseItems : ∀ {sz : Nat} {p0 : Int32} {p1 : Int32} {p2 : Int32} {σ : ST} {q : Int32 × ST}, r_X8_parseItems  p0 p1 p2 σ = some q → Met l yX8_parseItems (.code yX8_parseItems cX8_parseItems 5 (some .boolean) :: pw) ({ frames := 4 + nn, cells := 0, slots := 0, locals := 91 + 29 * nn } : Room) (va_Pc [.ref (a 86), .int p0, .int p1, .int p2] (vPre dC dI (wA a k σ) (tA k) sz)) (qAi dC dI a k (va_A (wA a k σ) sz) q) 0 0 (va_A (wA a k σ) sz)) {r_X8_parseValue : Int32 → Int32 → Int32 → Int32 → ST → Option (Int32 × ST)} (hr_X8_parseValue : ∀ {sz : Nat} {p0 : Int32} {p1 : Int32} {p2 : Int32} {p3 : Int32} {σ : ST} {q : Int32 × ST}, r_X8_parseValue  p0 p1 p2 p3 σ = some q → Met l yX8_parseValue (.code yX8_parseValue cX8_parseValue 10 (some .boolean) :: pw) ({ frames := 4 + nn, cells := 0, slots := 0, locals := 91 + 29 * nn } : Room) (va_Pc [.ref (a 86), .int p0, .int p1, .int p2, .int p3] (vPre dC dI (wA a k σ) (tA k) sz)) (qAi dC dI a k (va_A (wA a k σ) sz) q) 0 0 (va_A (wA a k σ) sz))  : ∀ (n : Nat) (x1 : Int32) (x2 : Int32) (x3 : Int32) (x4 : Int32) (x5 : Int32) (x6 : Int32) (σ : ST), f_X8_parseFields_25 r_X8_parseFields r_X8_parseItems r_X8_parseValue n x1 x2 x3 x4 x5 x6 σ = some q → GoA p l e ({ frames := 4 + (nn + 1), cells := 0, slots := 0, locals := 91 + 29 * (nn + 1) } : Room) s m args below meth c (MQ below (qAi dC dI a k A q) args s 0 0 A) dC dI a k A 8 25 σ [(0, .ref (a 86)), (1, .int x1), (2, .int x2), (3, .int x3), (4, .int x4), (5, .int x5), (6, .int x6)] [] := by
  intro n
  induction n with
  | zero =>
    intro x1 x2 x3 x4 x5 x6 σ h
    rw [f_X8_parseFields_25] at h
    cases h
  | succ n ih =>
    intro x1 x2 x3 x4 x5 x6 σ h
    have hC0 := hC
    obtain ⟨hx, hb, hr, hml, hown, hts, hlocks, hA, hN, hK⟩ := hC0
    intro H locs ls hP hD hS hl
    have hD0 : ∀ σ1 : ST, va_D A (wA a k σ1) := fun σ1 => wA_D hD
    rw [f_X8_parseFields_25] at h
    refine lv_iload hx hb dX8_parseFields_25 (lv_at hl 6 rfl) ?_
    refine lv_bipush (v := 8) hx hb dX8_parseFields_27 (by decide) ?_
    refine lv_icmp_gt (tgt := 210) hx hb dX8_parseFields_29 (by decide) (fun hc => ?_) (fun hc => ?_)
    · replace h := ip hc h
      exact b_X8_parseFields_210 hC hr_X8_parseFields hr_X8_parseItems hr_X8_parseValue h _ _ _ hP hD hS (lv_sub hl [0, 1, 4] rfl)
    · replace h := iq hc h
      refine lv_iload hx hb dX8_parseFields_32 (lv_at hl 5 rfl) ?_
      refine lv_if_eq (tgt := 210) hx hb dX8_parseFields_34 (by decide) (fun hc => ?_) (fun hc => ?_)
      · replace h := ip hc h
        exact b_X8_parseFields_210 hC hr_X8_parseFields hr_X8_parseItems hr_X8_parseValue h _ _ _ hP hD hS (lv_sub hl [0, 1, 4] rfl)
      · replace h := iq hc h
        refine lv_aload_n hx hb dX8_parseFields_37 rfl (lv_at hl 0 rfl) ?_
        refine va_get (D := (dC, dI)) (ci := 8) (C := RX8) (T := TX8) (N := 3) hx hb hts inlX8 hown hK hP 86 gA_86 rfl 0 (by decide) (hts (.fieldLink RX8 9 "ShapeReader$ValueText" "tokens" "LShapeReader$Tokens;") mw_19_5) (fun _ h9 => h9) rfl dX8_parseFields_38 ?_
        refine va_get (D := (dC, dI)) (ci := 6) (C := RX6) (T := TX6) (N := 14) hx hb hts inlX6 hown hK hP 2 gA_2 rfl 4 (by decide) (hts (.fieldLink RX8 32 "ShapeReader$Tokens" "kind" "I") mw_19_12) (fun _ h9 => h9) rfl dX8_parseFields_41 ?_
        refine lv_iconst (v := 3) hx hb dX8_parseFields_44 (by decide) ?_
        refine lv_icmp_eq (tgt := 57) hx hb dX8_parseFields_45 (by decide) (fun hc => ?_) (fun hc => ?_)
        · replace h := ip hc h
          refine lv_aload_n hx hb dX8_parseFields_57 rfl (lv_at hl 0 rfl) ?_
          refine va_get (D := (dC, dI)) (ci := 8) (C := RX8) (T := TX8) (N := 3) hx hb hts inlX8 hown hK hP 86 gA_86 rfl 1 (by decide) (hts (.fieldLink RX8 15 "ShapeReader$ValueText" "shapes" "LShapeReader$Shapes;") mw_19_6) (fun _ h9 => h9) rfl dX8_parseFields_58 ?_
          refine lv_iload_n hx hb dX8_parseFields_61 rfl (lv_at hl 1 rfl) ?_
          refine lv_aload_n hx hb dX8_parseFields_62 rfl (lv_at hl 0 rfl) ?_
          refine va_get (D := (dC, dI)) (ci := 8) (C := RX8) (T := TX8) (N := 3) hx hb hts inlX8 hown hK hP 86 gA_86 rfl 0 (by decide) (hts (.fieldLink RX8 9 "ShapeReader$ValueText" "tokens" "LShapeReader$Tokens;") mw_19_5) (fun _ h9 => h9) rfl dX8_parseFields_63 ?_
          refine va_get (D := (dC, dI)) (ci := 6) (C := RX6) (T := TX6) (N := 14) hx hb hts inlX6 hown hK hP 2 gA_2 rfl 7 (by decide) (hts (.fieldLink RX8 90 "ShapeReader$Tokens" "letters" "J") mw_20_2) (fun _ h9 => h9) rfl dX8_parseFields_66 ?_
          obtain ⟨q1, hc, h⟩ := ib h
          have hF := va_frees hD hS hA
          refine va_calli (va_runV (As := [.int x1, .long (σ.2.1 2 7)]) (rest := []) ⟨hx, hb, hml, hown, hts⟩ (s_X5_fieldNamed_4 hc) (cwV 2 hts (gV mw_20_3 mw_8_19 mw_8_20 mw_0_9 mw_50_14) rfl rfl rfl (by decide +kernel) ⟨by show 1 + 1 ≤ 4 + (nn + 1); omega, by show 8 + (7 + 11) + 21 ≤ 91 + 29 * (nn + 1); omega⟩) (vV (ci := 5) (q0 := 4) hK hP hD hN rfl gA_4) rfl rfl hl.1 rfl (lv_room (Nat.le_of_ble_eq_true rfl)) dX8_parseFields_69 ⟨(Nat.le_of_ble_eq_true rfl), (Nat.le_of_ble_eq_true rfl)⟩) hS (fun q _ h => hF q h) hF (fun r2 u t H locs ht hvm hw hB _ _ hS => ?_)
          obtain rfl : r2 = q1.1 := hw
          replace hP : va_P (dC, dI) vwCl (wA a k q1.2) H := by rw [← ht]; exact hB.1
          replace hD := hD0 (q1.2)
          clear hB hF
          refine lv_istore (lv' := [(7, .int q1.1), (0, .ref (a 86)), (1, .int x1), (2, .int x2), (3, .int x3), (4, .int x4), (5, .int x5), (6, .int x6)]) hx hb dX8_parseFields_72 hl (by decide) rfl (fun ls hl => ?_)
          refine lv_iload hx hb dX8_parseFields_74 (lv_at hl 0 rfl) ?_
          refine lv_iconst (v := (-1)) hx hb dX8_parseFields_76 (by decide) ?_
          refine lv_icmp_eq (tgt := 90) hx hb dX8_parseFields_77 (by decide) (fun hc => ?_) (fun hc => ?_)
          · replace h := ip hc h
            exact b_X8_parseFields_90 hC hr_X8_parseFields hr_X8_parseItems hr_X8_parseValue h _ _ _ hP hD hS (lv_sub hl [1] rfl)
          · replace h := iq hc h
            refine lv_iload hx hb dX8_parseFields_80 (lv_at hl 5 rfl) ?_
            refine lv_iload hx hb dX8_parseFields_82 (lv_at hl 0 rfl) ?_
            refine lv_ishr hx hb dX8_parseFields_84 ?_
            refine lv_iconst (v := 1) hx hb dX8_parseFields_85 (by decide) ?_
            refine lv_iand hx hb dX8_parseFields_86 ?_
            refine lv_if_eq (tgt := 99) hx hb dX8_parseFields_87 (by decide) (fun hc => ?_) (fun hc => ?_)
            · replace h := ip hc h
              refine lv_iload hx hb dX8_parseFields_99 (lv_at hl 5 rfl) ?_
              refine lv_iconst (v := 1) hx hb dX8_parseFields_101 (by decide) ?_
              refine lv_iload hx hb dX8_parseFields_102 (lv_at hl 0 rfl) ?_
              refine lv_ishl hx hb dX8_parseFields_104 ?_
              refine lv_ior hx hb dX8_parseFields_105 ?_
              refine lv_istore (lv' := [(4, .int (x4 ||| (1 <<< (q1.1 &&& 31)))), (7, .int q1.1), (0, .ref (a 86)), (1, .int x1), (2, .int x2), (3, .int x3), (5, .int x5), (6, .int x6)]) hx hb dX8_parseFields_106 hl (by decide) rfl (fun ls hl => ?_)
              refine lv_aload_n hx hb dX8_parseFields_108 rfl (lv_at hl 2 rfl) ?_
              refine va_get (D := (dC, dI)) (ci := 8) (C := RX8) (T := TX8) (N := 3) hx hb hts inlX8 hown hK hP 86 gA_86 rfl 0 (by decide) (hts (.fieldLink RX8 9 "ShapeReader$ValueText" "tokens" "LShapeReader$Tokens;") mw_19_5) (fun _ h9 => h9) rfl dX8_parseFields_109 ?_
              obtain ⟨q3, hc, h⟩ := ib h
              have hF := va_frees hD hS hA
              refine va_callv (va_runV (As := []) (rest := []) ⟨hx, hb, hml, hown, hts⟩ (s_X6_advance hc) (cwV 0 hts (gV mw_19_22 mw_8_6 mw_8_7 mw_0_10 mw_51_8) rfl rfl rfl (by decide +kernel) ⟨by show 2 + 1 ≤ 4 + (nn + 1); omega, by show 8 + (2 + 11) + 47 ≤ 91 + 29 * (nn + 1); omega⟩) (vV (ci := 6) (q0 := 2) hK hP hD hN rfl gA_2) rfl rfl hl.1 rfl (lv_room (Nat.le_of_ble_eq_true rfl)) dX8_parseFields_112 ⟨(Nat.le_of_ble_eq_true rfl), (Nat.le_of_ble_eq_true rfl)⟩) hS (fun q _ h => hF q h) hF (fun u t H locs ht hvm hw hB _ _ hS => ?_)
              replace hP : va_P (dC, dI) vwCl (wA a k q3) H := by rw [← ht]; exact hB.1
              replace hD := hD0 (q3)
              clear hB hF
              refine lv_aload_n hx hb dX8_parseFields_115 rfl (lv_at hl 2 rfl) ?_
              refine lv_aload_n hx hb dX8_parseFields_116 rfl (lv_at hl 2 rfl) ?_
              refine va_get (D := (dC, dI)) (ci := 8) (C := RX8) (T := TX8) (N := 3) hx hb hts inlX8 hown hK hP 86 gA_86 rfl 1 (by decide) (hts (.fieldLink RX8 15 "ShapeReader$ValueText" "shapes" "LShapeReader$Shapes;") mw_19_6) (fun _ h9 => h9) rfl dX8_parseFields_117 ?_
              refine lv_iload_n hx hb dX8_parseFields_120 rfl (lv_at hl 3 rfl) ?_
              refine lv_iload hx hb dX8_parseFields_121 (lv_at hl 1 rfl) ?_
              obtain ⟨q5, hc, h⟩ := ib h
              have hF := va_frees hD hS hA
              refine va_calli (va_runV (As := [.int x1, .int q1.1]) (rest := [.ref (a 86)]) ⟨hx, hb, hml, hown, hts⟩ (s_X5_typeOf_4 hc) (cwV 2 hts (gV mw_20_4 mw_2_7 mw_2_8 mw_0_9 mw_50_3) rfl rfl rfl (by decide +kernel) ⟨by show 1 + 1 ≤ 4 + (nn + 1); omega, by show 8 + (3 + 11) + 21 ≤ 91 + 29 * (nn + 1); omega⟩) (vV (ci := 5) (q0 := 4) hK hP hD hN rfl gA_4) rfl rfl hl.1 rfl (lv_room (Nat.le_of_ble_eq_true rfl)) dX8_parseFields_123 ⟨(Nat.le_of_ble_eq_true rfl), (Nat.le_of_ble_eq_true rfl)⟩) hS (fun q _ h => hF q h) hF (fun r6 u t H locs ht hvm hw hB _ _ hS => ?_)
              obtain rfl : r6 = q5.1 := hw
              replace hP : va_P (dC, dI) vwCl (wA a k q5.2) H := by rw [← ht]; exact hB.1
              replace hD := hD0 (q5.2)
              clear hB hF
              refine lv_iload_n hx hb dX8_parseFields_126 rfl (lv_at hl 4 rfl) ?_
              refine lv_iload hx hb dX8_parseFields_127 (lv_at hl 1 rfl) ?_
              refine lv_iload_n hx hb dX8_parseFields_129 rfl (lv_at hl 5 rfl) ?_
              refine lv_iconst (v := 1) hx hb dX8_parseFields_130 (by decide) ?_
              refine lv_iadd hx hb dX8_parseFields_131 ?_
              obtain ⟨q7, hc, h⟩ := ib h
              have hF := va_frees hD hS hA
              refine va_calli (va_runV (As := [.int q5.1, .int x2, .int q1.1, .int (x3 + 1)]) (rest := []) ⟨hx, hb, hml, hown, hts⟩ (hr_X8_parseValue hc) (cwV 4 hts (gV mw_19_9 mw_19_10 mw_19_11 mw_0_12 mw_52_14) rfl rfl rfl (by decide +kernel) ⟨by show (4 + nn) + 1 ≤ 4 + (nn + 1); omega, by show 8 + (10 + 11) + (91 + 29 * nn) ≤ 91 + 29 * (nn + 1); omega⟩) (vV (ci := 8) (q0 := 86) hK hP hD hN rfl gA_86) rfl rfl hl.1 rfl (lv_room (Nat.le_of_ble_eq_true rfl)) dX8_parseFields_132 ⟨(Nat.le_of_ble_eq_true rfl), (Nat.le_of_ble_eq_true rfl)⟩) hS (fun q _ h => hF q h) hF (fun r8 u t H locs ht hvm hw hB _ _ hS => ?_)
              obtain rfl : r8 = q7.1 := hw
              replace hP : va_P (dC, dI) vwCl (wA a k q7.2) H := by rw [← ht]; exact hB.1
              replace hD := hD0 (q7.2)
              clear hB hF
              refine lv_if_ne (tgt := 140) hx hb dX8_parseFields_135 (by decide) (fun hc => ?_) (fun hc => ?_)
              · replace h := iq hc h
                refine lv_aload_n hx hb dX8_parseFields_140 rfl (lv_at hl 2 rfl) ?_
                refine va_get (D := (dC, dI)) (ci := 8) (C := RX8) (T := TX8) (N := 3) hx hb hts inlX8 hown hK hP 86 gA_86 rfl 0 (by decide) (hts (.fieldLink RX8 9 "ShapeReader$ValueText" "tokens" "LShapeReader$Tokens;") mw_19_5) (fun _ h9 => h9) rfl dX8_parseFields_141 ?_
                refine va_get (D := (dC, dI)) (ci := 6) (C := RX6) (T := TX6) (N := 14) hx hb hts inlX6 hown hK hP 2 gA_2 rfl 4 (by decide) (hts (.fieldLink RX8 32 "ShapeReader$Tokens" "kind" "I") mw_19_12) (fun _ h9 => h9) rfl dX8_parseFields_144 ?_
                refine lv_bipush (v := 44) hx hb dX8_parseFields_147 (by decide) ?_
                refine lv_icmp_eq (tgt := 173) hx hb dX8_parseFields_149 (by decide) (fun hc => ?_) (fun hc => ?_)
                · replace h := ip hc h
                  exact b_X8_parseFields_173 hC hr_X8_parseFields hr_X8_parseItems hr_X8_parseValue ih h _ _ _ hP hD hS (lv_sub hl [2, 3, 4, 5, 0, 7] rfl)
                · replace h := iq hc h
                  refine lv_aload_n hx hb dX8_parseFields_152 rfl (lv_at hl 2 rfl) ?_
                  refine va_get (D := (dC, dI)) (ci := 8) (C := RX8) (T := TX8) (N := 3) hx hb hts inlX8 hown hK hP 86 gA_86 rfl 0 (by decide) (hts (.fieldLink RX8 9 "ShapeReader$ValueText" "tokens" "LShapeReader$Tokens;") mw_19_5) (fun _ h9 => h9) rfl dX8_parseFields_153 ?_
                  refine va_get (D := (dC, dI)) (ci := 6) (C := RX6) (T := TX6) (N := 14) hx hb hts inlX6 hown hK hP 2 gA_2 rfl 4 (by decide) (hts (.fieldLink RX8 32 "ShapeReader$Tokens" "kind" "I") mw_19_12) (fun _ h9 => h9) rfl dX8_parseFields_156 ?_
                  refine lv_bipush (v := 125) hx hb dX8_parseFields_159 (by decide) ?_
                  refine lv_icmp_eq (tgt := 173) hx hb dX8_parseFields_161 (by decide) (fun hc => ?_) (fun hc => ?_)
                  · replace h := ip hc h
                    exact b_X8_parseFields_173 hC hr_X8_parseFields hr_X8_parseItems hr_X8_parseValue ih h _ _ _ hP hD hS (lv_sub hl [2, 3, 4, 5, 0, 7] rfl)
                  · replace h := iq hc h
                    refine lv_aload_n hx hb dX8_parseFields_164 rfl (lv_at hl 2 rfl) ?_
                    refine va_get (D := (dC, dI)) (ci := 8) (C := RX8) (T := TX8) (N := 3) hx hb hts inlX8 hown hK hP 86 gA_86 rfl 0 (by decide) (hts (.fieldLink RX8 9 "ShapeReader$ValueText" "tokens" "LShapeReader$Tokens;") mw_19_5) (fun _ h9 => h9) rfl dX8_parseFields_165 ?_
                    refine lv_iconst (v := 1) hx hb dX8_parseFields_168 (by decide) ?_
                    obtain ⟨q9, hc, h⟩ := ib h
                    have hF := va_frees hD hS hA
                    refine va_calli (va_runV (As := [.int 1]) (rest := []) ⟨hx, hb, hml, hown, hts⟩ (s_X6_refuse hc) (cwV 1 hts (gV mw_19_13 mw_7_15 mw_7_16 mw_0_10 mw_51_4) rfl rfl rfl (by decide +kernel) ⟨by show 1 + 1 ≤ 4 + (nn + 1); omega, by show 8 + (2 + 11) + 22 ≤ 91 + 29 * (nn + 1); omega⟩) (vV (ci := 6) (q0 := 2) hK hP hD hN rfl gA_2) rfl rfl hl.1 rfl (lv_room (Nat.le_of_ble_eq_true rfl)) dX8_parseFields_169 ⟨(Nat.le_of_ble_eq_true rfl), (Nat.le_of_ble_eq_true rfl)⟩) hS (fun q _ h => hF q h) hF (fun r10 u t H locs ht hvm hw hB _ _ hS => ?_)
                    obtain rfl : r10 = q9.1 := hw
                    replace hP : va_P (dC, dI) vwCl (wA a k q9.2) H := by rw [← ht]; exact hB.1
                    replace hD := hD0 (q9.2)
                    clear hB hF
                    obtain ⟨hg, h⟩ := ig h
                    obtain rfl := Option.some.inj h
                    exact W.zret hx hb hr (zn hg) (fun t ht hW => ⟨⟨_, (), rfl, rfl, ⟨by rw [ht]; exact hP, va_K.moved hW.alike hK, hD⟩⟩, hS.F ht⟩) hS.2.2 dX8_parseFields_172
              · replace h := ip hc h
                refine lv_iconst (v := 0) hx hb dX8_parseFields_138 (by decide) ?_
                obtain rfl := Option.some.inj h
                exact W.zret hx hb hr rfl (fun t ht hW => ⟨⟨_, (), rfl, rfl, ⟨by rw [ht]; exact hP, va_K.moved hW.alike hK, hD⟩⟩, hS.F ht⟩) hS.2.2 dX8_parseFields_139
            · replace h := iq hc h
              exact b_X8_parseFields_90 hC hr_X8_parseFields hr_X8_parseItems hr_X8_parseValue h _ _ _ hP hD hS (lv_sub hl [1] rfl)
        · replace h := iq hc h
          refine lv_aload_n hx hb dX8_parseFields_48 rfl (lv_at hl 0 rfl) ?_
          refine va_get (D := (dC, dI)) (ci := 8) (C := RX8) (T := TX8) (N := 3) hx hb hts inlX8 hown hK hP 86 gA_86 rfl 0 (by decide) (hts (.fieldLink RX8 9 "ShapeReader$ValueText" "tokens" "LShapeReader$Tokens;") mw_19_5) (fun _ h9 => h9) rfl dX8_parseFields_49 ?_
          refine lv_iconst (v := 1) hx hb dX8_parseFields_52 (by decide) ?_
          obtain ⟨q11, hc, h⟩ := ib h
          have hF := va_frees hD hS hA
          refine va_calli (va_runV (As := [.int 1]) (rest := []) ⟨hx, hb, hml, hown, hts⟩ (s_X6_refuse hc) (cwV 1 hts (gV mw_19_13 mw_7_15 mw_7_16 mw_0_10 mw_51_4) rfl rfl rfl (by decide +kernel) ⟨by show 1 + 1 ≤ 4 + (nn + 1); omega, by show 8 + (2 + 11) + 22 ≤ 91 + 29 * (nn + 1); omega⟩) (vV (ci := 6) (q0 := 2) hK hP hD hN rfl gA_2) rfl rfl hl.1 rfl (lv_room (Nat.le_of_ble_eq_true rfl)) dX8_parseFields_53 ⟨(Nat.le_of_ble_eq_true rfl), (Nat.le_of_ble_eq_true rfl)⟩) hS (fun q _ h => hF q h) hF (fun r12 u t H locs ht hvm hw hB _ _ hS => ?_)
          obtain rfl : r12 = q11.1 := hw
          replace hP : va_P (dC, dI) vwCl (wA a k q11.2) H := by rw [← ht]; exact hB.1
          replace hD := hD0 (q11.2)
          clear hB hF
          obtain ⟨hg, h⟩ := ig h
          obtain rfl := Option.some.inj h
          exact W.zret hx hb hr (zn hg) (fun t ht hW => ⟨⟨_, (), rfl, rfl, ⟨by rw [ht]; exact hP, va_K.moved hW.alike hK, hD⟩⟩, hS.F ht⟩) hS.2.2 dX8_parseFields_56

set_option maxRecDepth 100000 in
set_option maxHeartbeats 4000000 in
theorem b_X8_parseFields_20 {p : Program} {l : Launch} {e : Env} {s : State} {m : MethodId} {args : Array Value} {below : List Frame} {meth : Method} {c : Code} {dC : Nat → ClassId} {dI : Nat → Nat → Nat} {a : Nat → Nat} {k : Nat → ClassId} {A : Nat → Prop} {q : Int32 × ST} (hC : CxA p s m args meth c dC dI k A cX8_parseFields RX8 (some .boolean) 8) {nn : Nat} {r_X8_parseFields : Int32 → Int32 → Int32 → ST → Option (Int32 × ST)} (hr_X8_parseFields : ∀ {sz : Nat} {p0 : Int32} {p1 : Int32} {p2 : Int32} {σ : ST} {q : Int32 × ST}, r_X8_parseFields  p0 p1 p2 σ = some q → Met l yX8_parseFields (.code yX8_parseFields cX8_parseFields 8 (some .boolean) :: pw) ({ frames := 4 + nn, cells := 0, slots := 0, locals := 91 + 29 * nn } : Room) (va_Pc [.ref (a 86), .int p0, .int p1, .int p2] (vPre dC dI (wA a k σ) (tA k) sz)) (qAi dC dI a k (va_A (wA a k σ) sz) q) 0 0 (va_A (wA a k σ) sz)) {r_X8_parseItems : Int32 → Int32 → Int32 → ST → Option (Int32 × ST)} (hr_X8_parseItems : ∀ {sz : Nat} {p0 : Int32} {p1 : Int32} {p2 : Int32} {σ : ST} {q : Int32 × ST}, r_X8_parseItems  p0 p1 p2 σ = some q → Met l yX8_parseItems (.code yX8_parseItems cX8_parseItems 5 (some .boolean) :: pw) ({ frames := 4 + nn, cells := 0, slots := 0, locals := 91 + 29 * nn } : Room) (va_Pc [.ref (a 86), .int p0, .int p1, .int p2] (vPre dC dI (wA a k σ) (tA k) sz)) (qAi dC dI a k (va_A (wA a k σ) sz) q) 0 0 (va_A (wA a k σ) sz)) {r_X8_parseValue : Int32 → Int32 → Int32 → Int32 → ST → Option (Int32 × ST)} (hr_X8_parseValue : ∀ {sz : Nat} {p0 : Int32} {p1 : Int32} {p2 : Int32} {p3 : Int32} {σ : ST} {q : Int32 × ST}, r_X8_parseValue  p0 p1 p2 p3 σ = some q → Met l yX8_parseValue (.code yX8_parseValue cX8_parseValue 10 (some .boolean) :: pw) ({ frames := 4 + nn, cells := 0, slots := 0, locals := 91 + 29 * nn } : Room) (va_Pc [.ref (a 86), .int p0, .int p1, .int p2, .int p3] (vPre dC dI (wA a k σ) (tA k) sz)) (qAi dC dI a k (va_A (wA a k σ) sz) q) 0 0 (va_A (wA a k σ) sz))  {x1 : Int32} {x2 : Int32} {x3 : Int32} {x4 : Int32} {y0 : Int32} {σ : ST} (h : f_X8_parseFields_20 r_X8_parseFields r_X8_parseItems r_X8_parseValue x1 x2 x3 x4 y0 σ = some q) : GoA p l e ({ frames := 4 + (nn + 1), cells := 0, slots := 0, locals := 91 + 29 * (nn + 1) } : Room) s m args below meth c (MQ below (qAi dC dI a k A q) args s 0 0 A) dC dI a k A 8 20 σ [(0, .ref (a 86)), (1, .int x1), (2, .int x2), (3, .int x3), (4, .int x4)] [.int y0] := by
  have hC0 := hC
  obtain ⟨hx, hb, hr, hml, hown, hts, hlocks, hA, hN, hK⟩ := hC0
  intro H locs ls hP hD hS hl
  have hD0 : ∀ σ1 : ST, va_D A (wA a k σ1) := fun σ1 => wA_D hD
  unfold f_X8_parseFields_20 at h
  refine lv_istore (lv' := [(5, .int y0), (0, .ref (a 86)), (1, .int x1), (2, .int x2), (3, .int x3), (4, .int x4)]) hx hb dX8_parseFields_20 hl (by decide) rfl (fun ls hl => ?_)
  refine lv_iconst (v := 0) hx hb dX8_parseFields_22 (by decide) ?_
  refine lv_istore (lv' := [(6, .int 0), (5, .int y0), (0, .ref (a 86)), (1, .int x1), (2, .int x2), (3, .int x3), (4, .int x4)]) hx hb dX8_parseFields_23 hl (by decide) rfl (fun ls hl => ?_)
  exact b_X8_parseFields_25 hC hr_X8_parseFields hr_X8_parseItems hr_X8_parseValue FU _ _ _ _ _ _ _ h _ _ _ hP hD hS (lv_sub hl [2, 3, 4, 5, 6, 1, 0] rfl)

set_option maxRecDepth 100000 in
set_option maxHeartbeats 4000000 in
theorem b_X8_parseFields_e {p : Program} {l : Launch} {e : Env} {s : State} {m : MethodId} {args : Array Value} {below : List Frame} {meth : Method} {c : Code} {dC : Nat → ClassId} {dI : Nat → Nat → Nat} {a : Nat → Nat} {k : Nat → ClassId} {A : Nat → Prop} {q : Int32 × ST} (hC : CxA p s m args meth c dC dI k A cX8_parseFields RX8 (some .boolean) 8) {nn : Nat} {r_X8_parseFields : Int32 → Int32 → Int32 → ST → Option (Int32 × ST)} (hr_X8_parseFields : ∀ {sz : Nat} {p0 : Int32} {p1 : Int32} {p2 : Int32} {σ : ST} {q : Int32 × ST}, r_X8_parseFields  p0 p1 p2 σ = some q → Met l yX8_parseFields (.code yX8_parseFields cX8_parseFields 8 (some .boolean) :: pw) ({ frames := 4 + nn, cells := 0, slots := 0, locals := 91 + 29 * nn } : Room) (va_Pc [.ref (a 86), .int p0, .int p1, .int p2] (vPre dC dI (wA a k σ) (tA k) sz)) (qAi dC dI a k (va_A (wA a k σ) sz) q) 0 0 (va_A (wA a k σ) sz)) {r_X8_parseItems : Int32 → Int32 → Int32 → ST → Option (Int32 × ST)} (hr_X8_parseItems : ∀ {sz : Nat} {p0 : Int32} {p1 : Int32} {p2 : Int32} {σ : ST} {q : Int32 × ST}, r_X8_parseItems  p0 p1 p2 σ = some q → Met l yX8_parseItems (.code yX8_parseItems cX8_parseItems 5 (some .boolean) :: pw) ({ frames := 4 + nn, cells := 0, slots := 0, locals := 91 + 29 * nn } : Room) (va_Pc [.ref (a 86), .int p0, .int p1, .int p2] (vPre dC dI (wA a k σ) (tA k) sz)) (qAi dC dI a k (va_A (wA a k σ) sz) q) 0 0 (va_A (wA a k σ) sz)) {r_X8_parseValue : Int32 → Int32 → Int32 → Int32 → ST → Option (Int32 × ST)} (hr_X8_parseValue : ∀ {sz : Nat} {p0 : Int32} {p1 : Int32} {p2 : Int32} {p3 : Int32} {σ : ST} {q : Int32 × ST}, r_X8_parseValue  p0 p1 p2 p3 σ = some q → Met l yX8_parseValue (.code yX8_parseValue cX8_parseValue 10 (some .boolean) :: pw) ({ frames := 4 + nn, cells := 0, slots := 0, locals := 91 + 29 * nn } : Room) (va_Pc [.ref (a 86), .int p0, .int p1, .int p2, .int p3] (vPre dC dI (wA a k σ) (tA k) sz)) (qAi dC dI a k (va_A (wA a k σ) sz) q) 0 0 (va_A (wA a k σ) sz))  {p0 : Int32} {p1 : Int32} {p2 : Int32} {σ : ST} (h : f_X8_parseFields r_X8_parseFields r_X8_parseItems r_X8_parseValue p0 p1 p2 σ = some q) : GoA p l e ({ frames := 4 + (nn + 1), cells := 0, slots := 0, locals := 91 + 29 * (nn + 1) } : Room) s m args below meth c (MQ below (qAi dC dI a k A q) args s 0 0 A) dC dI a k A 8 0 σ (lv_args 0 [.ref (a 86), .int p0, .int p1, .int p2]) [] := by
  have hC0 := hC
  obtain ⟨hx, hb, hr, hml, hown, hts, hlocks, hA, hN, hK⟩ := hC0
  intro H locs ls hP hD hS hl
  have hD0 : ∀ σ1 : ST, va_D A (wA a k σ1) := fun σ1 => wA_D hD
  replace hl : lv_has ls 8 [(0, .ref (a 86)), (1, .int p0), (2, .int p1), (3, .int p2)] := hl
  unfold f_X8_parseFields at h
  refine lv_iconst (v := 0) hx hb dX8_parseFields_0 (by decide) ?_
  refine lv_istore (lv' := [(4, .int 0), (0, .ref (a 86)), (1, .int p0), (2, .int p1), (3, .int p2)]) hx hb dX8_parseFields_1 hl (by decide) rfl (fun ls hl => ?_)
  refine lv_aload_n hx hb dX8_parseFields_3 rfl (lv_at hl 1 rfl) ?_
  refine va_get (D := (dC, dI)) (ci := 8) (C := RX8) (T := TX8) (N := 3) hx hb hts inlX8 hown hK hP 86 gA_86 rfl 0 (by decide) (hts (.fieldLink RX8 9 "ShapeReader$ValueText" "tokens" "LShapeReader$Tokens;") mw_19_5) (fun _ h9 => h9) rfl dX8_parseFields_4 ?_
  refine va_get (D := (dC, dI)) (ci := 6) (C := RX6) (T := TX6) (N := 14) hx hb hts inlX6 hown hK hP 2 gA_2 rfl 4 (by decide) (hts (.fieldLink RX8 32 "ShapeReader$Tokens" "kind" "I") mw_19_12) (fun _ h9 => h9) rfl dX8_parseFields_7 ?_
  refine lv_bipush (v := 125) hx hb dX8_parseFields_10 (by decide) ?_
  refine lv_icmp_eq (tgt := 19) hx hb dX8_parseFields_12 (by decide) (fun hc => ?_) (fun hc => ?_)
  · replace h := ip hc h
    refine lv_iconst (v := 0) hx hb dX8_parseFields_19 (by decide) ?_
    exact b_X8_parseFields_20 hC hr_X8_parseFields hr_X8_parseItems hr_X8_parseValue h _ _ _ hP hD hS (lv_sub hl [1, 2, 3, 4, 0] rfl)
  · replace h := iq hc h
    refine lv_iconst (v := 1) hx hb dX8_parseFields_15 (by decide) ?_
    refine lv_goto (tgt := 20) hx hb dX8_parseFields_16 (by decide) ?_
    exact b_X8_parseFields_20 hC hr_X8_parseFields hr_X8_parseItems hr_X8_parseValue h _ _ _ hP hD hS (lv_sub hl [1, 2, 3, 4, 0] rfl)


set_option maxRecDepth 100000 in
set_option maxHeartbeats 4000000 in
theorem b_X8_parseItems_24 {p : Program} {l : Launch} {e : Env} {s : State} {m : MethodId} {args : Array Value} {below : List Frame} {meth : Method} {c : Code} {dC : Nat → ClassId} {dI : Nat → Nat → Nat} {a : Nat → Nat} {k : Nat → ClassId} {A : Nat → Prop} {q : Int32 × ST} (hC : CxA p s m args meth c dC dI k A cX8_parseItems RX8 (some .boolean) 5) {nn : Nat} {r_X8_parseFields : Int32 → Int32 → Int32 → ST → Option (Int32 × ST)} (hr_X8_parseFields : ∀ {sz : Nat} {p0 : Int32} {p1 : Int32} {p2 : Int32} {σ : ST} {q : Int32 × ST}, r_X8_parseFields  p0 p1 p2 σ = some q → Met l yX8_parseFields (.code yX8_parseFields cX8_parseFields 8 (some .boolean) :: pw) ({ frames := 4 + nn, cells := 0, slots := 0, locals := 91 + 29 * nn } : Room) (va_Pc [.ref (a 86), .int p0, .int p1, .int p2] (vPre dC dI (wA a k σ) (tA k) sz)) (qAi dC dI a k (va_A (wA a k σ) sz) q) 0 0 (va_A (wA a k σ) sz)) {r_X8_parseItems : Int32 → Int32 → Int32 → ST → Option (Int32 × ST)} (hr_X8_parseItems : ∀ {sz : Nat} {p0 : Int32} {p1 : Int32} {p2 : Int32} {σ : ST} {q : Int32 × ST}, r_X8_parseItems  p0 p1 p2 σ = some q → Met l yX8_parseItems (.code yX8_parseItems cX8_parseItems 5 (some .boolean) :: pw) ({ frames := 4 + nn, cells := 0, slots := 0, locals := 91 + 29 * nn } : Room) (va_Pc [.ref (a 86), .int p0, .int p1, .int p2] (vPre dC dI (wA a k σ) (tA k) sz)) (qAi dC dI a k (va_A (wA a k σ) sz) q) 0 0 (va_A (wA a k σ) sz)) {r_X8_parseValue : Int32 → Int32 → Int32 → Int32 → ST → Option (Int32 × ST)} (hr_X8_parseValue : ∀ {sz : Nat} {p0 : Int32} {p1 : Int32} {p2 : Int32} {p3 : Int32} {σ : ST} {q : Int32 × ST}, r_X8_parseValue  p0 p1 p2 p3 σ = some q → Met l yX8_parseValue (.code yX8_parseValue cX8_parseValue 10 (some .boolean) :: pw) ({ frames := 4 + nn, cells := 0, slots := 0, locals := 91 + 29 * nn } : Room) (va_Pc [.ref (a 86), .int p0, .int p1, .int p2, .int p3] (vPre dC dI (wA a k σ) (tA k) sz)) (qAi dC dI a k (va_A (wA a k σ) sz) q) 0 0 (va_A (wA a k σ) sz))  : ∀ (n : Nat) (x1 : Int32) (x2 : Int32) (x3 : Int32) (x4 : Int32) (σ : ST), f_X8_parseItems_24 r_X8_parseFields r_X8_parseItems r_X8_parseValue n x1 x2 x3 x4 σ = some q → GoA p l e ({ frames := 4 + (nn + 1), cells := 0, slots := 0, locals := 91 + 29 * (nn + 1) } : Room) s m args below meth c (MQ below (qAi dC dI a k A q) args s 0 0 A) dC dI a k A 5 24 σ [(0, .ref (a 86)), (1, .int x1), (2, .int x2), (3, .int x3), (4, .int x4)] [] := by
  intro n
  induction n with
  | zero =>
    intro x1 x2 x3 x4 σ h
    rw [f_X8_parseItems_24] at h
    cases h
  | succ n ih =>
    intro x1 x2 x3 x4 σ h
    have hC0 := hC
    obtain ⟨hx, hb, hr, hml, hown, hts, hlocks, hA, hN, hK⟩ := hC0
    intro H locs ls hP hD hS hl
    have hD0 : ∀ σ1 : ST, va_D A (wA a k σ1) := fun σ1 => wA_D hD
    rw [f_X8_parseItems_24] at h
    refine lv_iload hx hb dX8_parseItems_24 (lv_at hl 4 rfl) ?_
    refine lv_sipush (v := 200) hx hb dX8_parseItems_26 (by decide) ?_
    refine lv_icmp_gt (tgt := 116) hx hb dX8_parseItems_29 (by decide) (fun hc => ?_) (fun hc => ?_)
    · replace h := ip hc h
      refine lv_iconst (v := 0) hx hb dX8_parseItems_116 (by decide) ?_
      obtain rfl := Option.some.inj h
      exact W.zret hx hb hr rfl (fun t ht hW => ⟨⟨_, (), rfl, rfl, ⟨by rw [ht]; exact hP, va_K.moved hW.alike hK, hD⟩⟩, hS.F ht⟩) hS.2.2 dX8_parseItems_117
    · replace h := iq hc h
      refine lv_aload_n hx hb dX8_parseItems_32 rfl (lv_at hl 0 rfl) ?_
      refine lv_iload_n hx hb dX8_parseItems_33 rfl (lv_at hl 1 rfl) ?_
      refine lv_iload_n hx hb dX8_parseItems_34 rfl (lv_at hl 2 rfl) ?_
      refine lv_iload hx hb dX8_parseItems_35 (lv_at hl 4 rfl) ?_
      refine lv_iload_n hx hb dX8_parseItems_37 rfl (lv_at hl 3 rfl) ?_
      refine lv_iconst (v := 1) hx hb dX8_parseItems_38 (by decide) ?_
      refine lv_iadd hx hb dX8_parseItems_39 ?_
      obtain ⟨q1, hc, h⟩ := ib h
      have hF := va_frees hD hS hA
      refine va_calli (va_runV (As := [.int x1, .int x2, .int x4, .int (x3 + 1)]) (rest := []) ⟨hx, hb, hml, hown, hts⟩ (hr_X8_parseValue hc) (cwV 4 hts (gV mw_19_9 mw_19_10 mw_19_11 mw_0_12 mw_52_14) rfl rfl rfl (by decide +kernel) ⟨by show (4 + nn) + 1 ≤ 4 + (nn + 1); omega, by show 8 + (10 + 11) + (91 + 29 * nn) ≤ 91 + 29 * (nn + 1); omega⟩) (vV (ci := 8) (q0 := 86) hK hP hD hN rfl gA_86) rfl rfl hl.1 rfl (lv_room (Nat.le_of_ble_eq_true rfl)) dX8_parseItems_40 ⟨(Nat.le_of_ble_eq_true rfl), (Nat.le_of_ble_eq_true rfl)⟩) hS (fun q _ h => hF q h) hF (fun r2 u t H locs ht hvm hw hB _ _ hS => ?_)
      obtain rfl : r2 = q1.1 := hw
      replace hP : va_P (dC, dI) vwCl (wA a k q1.2) H := by rw [← ht]; exact hB.1
      replace hD := hD0 (q1.2)
      clear hB hF
      refine lv_if_ne (tgt := 48) hx hb dX8_parseItems_43 (by decide) (fun hc => ?_) (fun hc => ?_)
      · replace h := iq hc h
        refine lv_aload_n hx hb dX8_parseItems_48 rfl (lv_at hl 0 rfl) ?_
        refine va_get (D := (dC, dI)) (ci := 8) (C := RX8) (T := TX8) (N := 3) hx hb hts inlX8 hown hK hP 86 gA_86 rfl 0 (by decide) (hts (.fieldLink RX8 9 "ShapeReader$ValueText" "tokens" "LShapeReader$Tokens;") mw_19_5) (fun _ h9 => h9) rfl dX8_parseItems_49 ?_
        refine va_get (D := (dC, dI)) (ci := 6) (C := RX6) (T := TX6) (N := 14) hx hb hts inlX6 hown hK hP 2 gA_2 rfl 4 (by decide) (hts (.fieldLink RX8 32 "ShapeReader$Tokens" "kind" "I") mw_19_12) (fun _ h9 => h9) rfl dX8_parseItems_52 ?_
        refine lv_bipush (v := 93) hx hb dX8_parseItems_55 (by decide) ?_
        refine lv_icmp_ne (tgt := 82) hx hb dX8_parseItems_57 (by decide) (fun hc => ?_) (fun hc => ?_)
        · replace h := iq hc h
          refine lv_aload_n hx hb dX8_parseItems_82 rfl (lv_at hl 0 rfl) ?_
          refine va_get (D := (dC, dI)) (ci := 8) (C := RX8) (T := TX8) (N := 3) hx hb hts inlX8 hown hK hP 86 gA_86 rfl 0 (by decide) (hts (.fieldLink RX8 9 "ShapeReader$ValueText" "tokens" "LShapeReader$Tokens;") mw_19_5) (fun _ h9 => h9) rfl dX8_parseItems_83 ?_
          refine va_get (D := (dC, dI)) (ci := 6) (C := RX6) (T := TX6) (N := 14) hx hb hts inlX6 hown hK hP 2 gA_2 rfl 4 (by decide) (hts (.fieldLink RX8 32 "ShapeReader$Tokens" "kind" "I") mw_19_12) (fun _ h9 => h9) rfl dX8_parseItems_86 ?_
          refine lv_bipush (v := 44) hx hb dX8_parseItems_89 (by decide) ?_
          refine lv_icmp_eq (tgt := 103) hx hb dX8_parseItems_91 (by decide) (fun hc => ?_) (fun hc => ?_)
          · replace h := ip hc h
            refine lv_aload_n hx hb dX8_parseItems_103 rfl (lv_at hl 0 rfl) ?_
            refine va_get (D := (dC, dI)) (ci := 8) (C := RX8) (T := TX8) (N := 3) hx hb hts inlX8 hown hK hP 86 gA_86 rfl 0 (by decide) (hts (.fieldLink RX8 9 "ShapeReader$ValueText" "tokens" "LShapeReader$Tokens;") mw_19_5) (fun _ h9 => h9) rfl dX8_parseItems_104 ?_
            obtain ⟨q3, hc, h⟩ := ib h
            have hF := va_frees hD hS hA
            refine va_callv (va_runV (As := []) (rest := []) ⟨hx, hb, hml, hown, hts⟩ (s_X6_advance hc) (cwV 0 hts (gV mw_19_22 mw_8_6 mw_8_7 mw_0_10 mw_51_8) rfl rfl rfl (by decide +kernel) ⟨by show 2 + 1 ≤ 4 + (nn + 1); omega, by show 8 + (2 + 11) + 47 ≤ 91 + 29 * (nn + 1); omega⟩) (vV (ci := 6) (q0 := 2) hK hP hD hN rfl gA_2) rfl rfl hl.1 rfl (lv_room (Nat.le_of_ble_eq_true rfl)) dX8_parseItems_107 ⟨(Nat.le_of_ble_eq_true rfl), (Nat.le_of_ble_eq_true rfl)⟩) hS (fun q _ h => hF q h) hF (fun u t H locs ht hvm hw hB _ _ hS => ?_)
            replace hP : va_P (dC, dI) vwCl (wA a k q3) H := by rw [← ht]; exact hB.1
            replace hD := hD0 (q3)
            clear hB hF
            refine lv_iinc (v := (x4 + 1)) (lv' := [(4, .int (x4 + 1)), (0, .ref (a 86)), (1, .int x1), (2, .int x2), (3, .int x3)]) hx hb dX8_parseItems_110 hl (k := 4) rfl rfl (by decide) rfl (fun ls hl => ?_)
            refine lv_goto (tgt := 24) hx hb dX8_parseItems_113 (by decide) ?_
            exact ih _ _ _ _ _ h _ _ _ hP hD hS (lv_sub hl [1, 2, 3, 4, 0] rfl)
          · replace h := iq hc h
            refine lv_aload_n hx hb dX8_parseItems_94 rfl (lv_at hl 0 rfl) ?_
            refine va_get (D := (dC, dI)) (ci := 8) (C := RX8) (T := TX8) (N := 3) hx hb hts inlX8 hown hK hP 86 gA_86 rfl 0 (by decide) (hts (.fieldLink RX8 9 "ShapeReader$ValueText" "tokens" "LShapeReader$Tokens;") mw_19_5) (fun _ h9 => h9) rfl dX8_parseItems_95 ?_
            refine lv_iconst (v := 1) hx hb dX8_parseItems_98 (by decide) ?_
            obtain ⟨q5, hc, h⟩ := ib h
            have hF := va_frees hD hS hA
            refine va_calli (va_runV (As := [.int 1]) (rest := []) ⟨hx, hb, hml, hown, hts⟩ (s_X6_refuse hc) (cwV 1 hts (gV mw_19_13 mw_7_15 mw_7_16 mw_0_10 mw_51_4) rfl rfl rfl (by decide +kernel) ⟨by show 1 + 1 ≤ 4 + (nn + 1); omega, by show 8 + (2 + 11) + 22 ≤ 91 + 29 * (nn + 1); omega⟩) (vV (ci := 6) (q0 := 2) hK hP hD hN rfl gA_2) rfl rfl hl.1 rfl (lv_room (Nat.le_of_ble_eq_true rfl)) dX8_parseItems_99 ⟨(Nat.le_of_ble_eq_true rfl), (Nat.le_of_ble_eq_true rfl)⟩) hS (fun q _ h => hF q h) hF (fun r6 u t H locs ht hvm hw hB _ _ hS => ?_)
            obtain rfl : r6 = q5.1 := hw
            replace hP : va_P (dC, dI) vwCl (wA a k q5.2) H := by rw [← ht]; exact hB.1
            replace hD := hD0 (q5.2)
            clear hB hF
            obtain ⟨hg, h⟩ := ig h
            obtain rfl := Option.some.inj h
            exact W.zret hx hb hr (zn hg) (fun t ht hW => ⟨⟨_, (), rfl, rfl, ⟨by rw [ht]; exact hP, va_K.moved hW.alike hK, hD⟩⟩, hS.F ht⟩) hS.2.2 dX8_parseItems_102
        · replace h := ip hc h
          refine lv_aload_n hx hb dX8_parseItems_60 rfl (lv_at hl 0 rfl) ?_
          refine va_get (D := (dC, dI)) (ci := 8) (C := RX8) (T := TX8) (N := 3) hx hb hts inlX8 hown hK hP 86 gA_86 rfl 2 (by decide) (hts (.fieldLink RX8 19 "ShapeReader$ValueText" "tree" "LShapeReader$Tree;") mw_19_7) (fun _ h9 => h9) rfl dX8_parseItems_61 ?_
          refine lv_iload_n hx hb dX8_parseItems_64 rfl (lv_at hl 2 rfl) ?_
          refine lv_iload hx hb dX8_parseItems_65 (lv_at hl 4 rfl) ?_
          refine lv_iconst (v := 1) hx hb dX8_parseItems_67 (by decide) ?_
          refine lv_iadd hx hb dX8_parseItems_68 ?_
          refine lv_lconst (v := 0) hx hb dX8_parseItems_69 (by decide) ?_
          obtain ⟨q7, hc, h⟩ := ib h
          have hF := va_frees hD hS hA
          refine va_callv (va_runV (As := [.int x2, .int (x4 + 1), .long 0]) (rest := []) ⟨hx, hb, hml, hown, hts⟩ (s_X7_setWorth_62 hc) (cwV 3 hts (gV mw_19_21 mw_13_3 mw_13_4 mw_0_11 mw_51_27) rfl rfl rfl (by decide +kernel) ⟨by show 1 + 1 ≤ 4 + (nn + 1); omega, by show 8 + (5 + 11) + 21 ≤ 91 + 29 * (nn + 1); omega⟩) (vV (ci := 7) (q0 := 62) hK hP hD hN rfl gA_62) rfl rfl hl.1 rfl (lv_room (Nat.le_of_ble_eq_true rfl)) dX8_parseItems_70 ⟨(Nat.le_of_ble_eq_true rfl), (Nat.le_of_ble_eq_true rfl)⟩) hS (fun q _ h => hF q h) hF (fun u t H locs ht hvm hw hB _ _ hS => ?_)
          replace hP : va_P (dC, dI) vwCl (wA a k q7) H := by rw [← ht]; exact hB.1
          replace hD := hD0 (q7)
          clear hB hF
          refine lv_aload_n hx hb dX8_parseItems_73 rfl (lv_at hl 0 rfl) ?_
          refine va_get (D := (dC, dI)) (ci := 8) (C := RX8) (T := TX8) (N := 3) hx hb hts inlX8 hown hK hP 86 gA_86 rfl 0 (by decide) (hts (.fieldLink RX8 9 "ShapeReader$ValueText" "tokens" "LShapeReader$Tokens;") mw_19_5) (fun _ h9 => h9) rfl dX8_parseItems_74 ?_
          obtain ⟨q9, hc, h⟩ := ib h
          have hF := va_frees hD hS hA
          refine va_callv (va_runV (As := []) (rest := []) ⟨hx, hb, hml, hown, hts⟩ (s_X6_advance hc) (cwV 0 hts (gV mw_19_22 mw_8_6 mw_8_7 mw_0_10 mw_51_8) rfl rfl rfl (by decide +kernel) ⟨by show 2 + 1 ≤ 4 + (nn + 1); omega, by show 8 + (2 + 11) + 47 ≤ 91 + 29 * (nn + 1); omega⟩) (vV (ci := 6) (q0 := 2) hK hP hD hN rfl gA_2) rfl rfl hl.1 rfl (lv_room (Nat.le_of_ble_eq_true rfl)) dX8_parseItems_77 ⟨(Nat.le_of_ble_eq_true rfl), (Nat.le_of_ble_eq_true rfl)⟩) hS (fun q _ h => hF q h) hF (fun u t H locs ht hvm hw hB _ _ hS => ?_)
          replace hP : va_P (dC, dI) vwCl (wA a k q9) H := by rw [← ht]; exact hB.1
          replace hD := hD0 (q9)
          clear hB hF
          refine lv_iconst (v := 1) hx hb dX8_parseItems_80 (by decide) ?_
          obtain rfl := Option.some.inj h
          exact W.zret hx hb hr rfl (fun t ht hW => ⟨⟨_, (), rfl, rfl, ⟨by rw [ht]; exact hP, va_K.moved hW.alike hK, hD⟩⟩, hS.F ht⟩) hS.2.2 dX8_parseItems_81
      · replace h := ip hc h
        refine lv_iconst (v := 0) hx hb dX8_parseItems_46 (by decide) ?_
        obtain rfl := Option.some.inj h
        exact W.zret hx hb hr rfl (fun t ht hW => ⟨⟨_, (), rfl, rfl, ⟨by rw [ht]; exact hP, va_K.moved hW.alike hK, hD⟩⟩, hS.F ht⟩) hS.2.2 dX8_parseItems_47

set_option maxRecDepth 100000 in
set_option maxHeartbeats 4000000 in
theorem b_X8_parseItems_e {p : Program} {l : Launch} {e : Env} {s : State} {m : MethodId} {args : Array Value} {below : List Frame} {meth : Method} {c : Code} {dC : Nat → ClassId} {dI : Nat → Nat → Nat} {a : Nat → Nat} {k : Nat → ClassId} {A : Nat → Prop} {q : Int32 × ST} (hC : CxA p s m args meth c dC dI k A cX8_parseItems RX8 (some .boolean) 5) {nn : Nat} {r_X8_parseFields : Int32 → Int32 → Int32 → ST → Option (Int32 × ST)} (hr_X8_parseFields : ∀ {sz : Nat} {p0 : Int32} {p1 : Int32} {p2 : Int32} {σ : ST} {q : Int32 × ST}, r_X8_parseFields  p0 p1 p2 σ = some q → Met l yX8_parseFields (.code yX8_parseFields cX8_parseFields 8 (some .boolean) :: pw) ({ frames := 4 + nn, cells := 0, slots := 0, locals := 91 + 29 * nn } : Room) (va_Pc [.ref (a 86), .int p0, .int p1, .int p2] (vPre dC dI (wA a k σ) (tA k) sz)) (qAi dC dI a k (va_A (wA a k σ) sz) q) 0 0 (va_A (wA a k σ) sz)) {r_X8_parseItems : Int32 → Int32 → Int32 → ST → Option (Int32 × ST)} (hr_X8_parseItems : ∀ {sz : Nat} {p0 : Int32} {p1 : Int32} {p2 : Int32} {σ : ST} {q : Int32 × ST}, r_X8_parseItems  p0 p1 p2 σ = some q → Met l yX8_parseItems (.code yX8_parseItems cX8_parseItems 5 (some .boolean) :: pw) ({ frames := 4 + nn, cells := 0, slots := 0, locals := 91 + 29 * nn } : Room) (va_Pc [.ref (a 86), .int p0, .int p1, .int p2] (vPre dC dI (wA a k σ) (tA k) sz)) (qAi dC dI a k (va_A (wA a k σ) sz) q) 0 0 (va_A (wA a k σ) sz)) {r_X8_parseValue : Int32 → Int32 → Int32 → Int32 → ST → Option (Int32 × ST)} (hr_X8_parseValue : ∀ {sz : Nat} {p0 : Int32} {p1 : Int32} {p2 : Int32} {p3 : Int32} {σ : ST} {q : Int32 × ST}, r_X8_parseValue  p0 p1 p2 p3 σ = some q → Met l yX8_parseValue (.code yX8_parseValue cX8_parseValue 10 (some .boolean) :: pw) ({ frames := 4 + nn, cells := 0, slots := 0, locals := 91 + 29 * nn } : Room) (va_Pc [.ref (a 86), .int p0, .int p1, .int p2, .int p3] (vPre dC dI (wA a k σ) (tA k) sz)) (qAi dC dI a k (va_A (wA a k σ) sz) q) 0 0 (va_A (wA a k σ) sz))  {p0 : Int32} {p1 : Int32} {p2 : Int32} {σ : ST} (h : f_X8_parseItems r_X8_parseFields r_X8_parseItems r_X8_parseValue p0 p1 p2 σ = some q) : GoA p l e ({ frames := 4 + (nn + 1), cells := 0, slots := 0, locals := 91 + 29 * (nn + 1) } : Room) s m args below meth c (MQ below (qAi dC dI a k A q) args s 0 0 A) dC dI a k A 5 0 σ (lv_args 0 [.ref (a 86), .int p0, .int p1, .int p2]) [] := by
  have hC0 := hC
  obtain ⟨hx, hb, hr, hml, hown, hts, hlocks, hA, hN, hK⟩ := hC0
  intro H locs ls hP hD hS hl
  have hD0 : ∀ σ1 : ST, va_D A (wA a k σ1) := fun σ1 => wA_D hD
  replace hl : lv_has ls 5 [(0, .ref (a 86)), (1, .int p0), (2, .int p1), (3, .int p2)] := hl
  unfold f_X8_parseItems at h
  refine lv_aload_n hx hb dX8_parseItems_0 rfl (lv_at hl 0 rfl) ?_
  refine va_get (D := (dC, dI)) (ci := 8) (C := RX8) (T := TX8) (N := 3) hx hb hts inlX8 hown hK hP 86 gA_86 rfl 0 (by decide) (hts (.fieldLink RX8 9 "ShapeReader$ValueText" "tokens" "LShapeReader$Tokens;") mw_19_5) (fun _ h9 => h9) rfl dX8_parseItems_1 ?_
  refine va_get (D := (dC, dI)) (ci := 6) (C := RX6) (T := TX6) (N := 14) hx hb hts inlX6 hown hK hP 2 gA_2 rfl 4 (by decide) (hts (.fieldLink RX8 32 "ShapeReader$Tokens" "kind" "I") mw_19_12) (fun _ h9 => h9) rfl dX8_parseItems_4 ?_
  refine lv_bipush (v := 93) hx hb dX8_parseItems_7 (by decide) ?_
  refine lv_icmp_ne (tgt := 21) hx hb dX8_parseItems_9 (by decide) (fun hc => ?_) (fun hc => ?_)
  · replace h := iq hc h
    refine lv_iconst (v := 0) hx hb dX8_parseItems_21 (by decide) ?_
    refine lv_istore (lv' := [(4, .int 0), (0, .ref (a 86)), (1, .int p0), (2, .int p1), (3, .int p2)]) hx hb dX8_parseItems_22 hl (by decide) rfl (fun ls hl => ?_)
    exact b_X8_parseItems_24 hC hr_X8_parseFields hr_X8_parseItems hr_X8_parseValue FU _ _ _ _ _ h _ _ _ hP hD hS (lv_sub hl [1, 2, 3, 4, 0] rfl)
  · replace h := ip hc h
    refine lv_aload_n hx hb dX8_parseItems_12 rfl (lv_at hl 0 rfl) ?_
    refine va_get (D := (dC, dI)) (ci := 8) (C := RX8) (T := TX8) (N := 3) hx hb hts inlX8 hown hK hP 86 gA_86 rfl 0 (by decide) (hts (.fieldLink RX8 9 "ShapeReader$ValueText" "tokens" "LShapeReader$Tokens;") mw_19_5) (fun _ h9 => h9) rfl dX8_parseItems_13 ?_
    obtain ⟨q1, hc, h⟩ := ib h
    have hF := va_frees hD hS hA
    refine va_callv (va_runV (As := []) (rest := []) ⟨hx, hb, hml, hown, hts⟩ (s_X6_advance hc) (cwV 0 hts (gV mw_19_22 mw_8_6 mw_8_7 mw_0_10 mw_51_8) rfl rfl rfl (by decide +kernel) ⟨by show 2 + 1 ≤ 4 + (nn + 1); omega, by show 8 + (2 + 11) + 47 ≤ 91 + 29 * (nn + 1); omega⟩) (vV (ci := 6) (q0 := 2) hK hP hD hN rfl gA_2) rfl rfl hl.1 rfl (lv_room (Nat.le_of_ble_eq_true rfl)) dX8_parseItems_16 ⟨(Nat.le_of_ble_eq_true rfl), (Nat.le_of_ble_eq_true rfl)⟩) hS (fun q _ h => hF q h) hF (fun u t H locs ht hvm hw hB _ _ hS => ?_)
    replace hP : va_P (dC, dI) vwCl (wA a k q1) H := by rw [← ht]; exact hB.1
    replace hD := hD0 (q1)
    clear hB hF
    refine lv_iconst (v := 1) hx hb dX8_parseItems_19 (by decide) ?_
    obtain rfl := Option.some.inj h
    exact W.zret hx hb hr rfl (fun t ht hW => ⟨⟨_, (), rfl, rfl, ⟨by rw [ht]; exact hP, va_K.moved hW.alike hK, hD⟩⟩, hS.F ht⟩) hS.2.2 dX8_parseItems_20


set_option maxRecDepth 100000 in
set_option maxHeartbeats 4000000 in
theorem b_X8_parseValue_142 {p : Program} {l : Launch} {e : Env} {s : State} {m : MethodId} {args : Array Value} {below : List Frame} {meth : Method} {c : Code} {dC : Nat → ClassId} {dI : Nat → Nat → Nat} {a : Nat → Nat} {k : Nat → ClassId} {A : Nat → Prop} {q : Int32 × ST} (hC : CxA p s m args meth c dC dI k A cX8_parseValue RX8 (some .boolean) 10) {nn : Nat} {r_X8_parseFields : Int32 → Int32 → Int32 → ST → Option (Int32 × ST)} (hr_X8_parseFields : ∀ {sz : Nat} {p0 : Int32} {p1 : Int32} {p2 : Int32} {σ : ST} {q : Int32 × ST}, r_X8_parseFields  p0 p1 p2 σ = some q → Met l yX8_parseFields (.code yX8_parseFields cX8_parseFields 8 (some .boolean) :: pw) ({ frames := 4 + nn, cells := 0, slots := 0, locals := 91 + 29 * nn } : Room) (va_Pc [.ref (a 86), .int p0, .int p1, .int p2] (vPre dC dI (wA a k σ) (tA k) sz)) (qAi dC dI a k (va_A (wA a k σ) sz) q) 0 0 (va_A (wA a k σ) sz)) {r_X8_parseItems : Int32 → Int32 → Int32 → ST → Option (Int32 × ST)} (hr_X8_parseItems : ∀ {sz : Nat} {p0 : Int32} {p1 : Int32} {p2 : Int32} {σ : ST} {q : Int32 × ST}, r_X8_parseItems  p0 p1 p2 σ = some q → Met l yX8_parseItems (.code yX8_parseItems cX8_parseItems 5 (some .boolean) :: pw) ({ frames := 4 + nn, cells := 0, slots := 0, locals := 91 + 29 * nn } : Room) (va_Pc [.ref (a 86), .int p0, .int p1, .int p2] (vPre dC dI (wA a k σ) (tA k) sz)) (qAi dC dI a k (va_A (wA a k σ) sz) q) 0 0 (va_A (wA a k σ) sz)) {r_X8_parseValue : Int32 → Int32 → Int32 → Int32 → ST → Option (Int32 × ST)} (hr_X8_parseValue : ∀ {sz : Nat} {p0 : Int32} {p1 : Int32} {p2 : Int32} {p3 : Int32} {σ : ST} {q : Int32 × ST}, r_X8_parseValue  p0 p1 p2 p3 σ = some q → Met l yX8_parseValue (.code yX8_parseValue cX8_parseValue 10 (some .boolean) :: pw) ({ frames := 4 + nn, cells := 0, slots := 0, locals := 91 + 29 * nn } : Room) (va_Pc [.ref (a 86), .int p0, .int p1, .int p2, .int p3] (vPre dC dI (wA a k σ) (tA k) sz)) (qAi dC dI a k (va_A (wA a k σ) sz) q) 0 0 (va_A (wA a k σ) sz))  {x4 : Int32} {x5 : Int32} {x6 : Int32} {x7 : Int32} {x8 : Int64} {y0 : Int32} {y1 : Int32} {σ : ST} (h : f_X8_parseValue_142 r_X8_parseFields r_X8_parseItems r_X8_parseValue x4 x5 x6 x7 x8 y0 y1 σ = some q) : GoA p l e ({ frames := 4 + (nn + 1), cells := 0, slots := 0, locals := 91 + 29 * (nn + 1) } : Room) s m args below meth c (MQ below (qAi dC dI a k A q) args s 0 0 A) dC dI a k A 10 142 σ [(0, .ref (a 86)), (4, .int x4), (5, .int x5), (6, .int x6), (7, .int x7), (8, .long x8)] [.int y0, .int y1, .ref (a 62)] := by
  have hC0 := hC
  obtain ⟨hx, hb, hr, hml, hown, hts, hlocks, hA, hN, hK⟩ := hC0
  intro H locs ls hP hD hS hl
  have hD0 : ∀ σ1 : ST, va_D A (wA a k σ1) := fun σ1 => wA_D hD
  unfold f_X8_parseValue_142 at h
  refine lv_lload hx hb dX8_parseValue_142 (lv_at hl 5 rfl) ?_
  obtain ⟨q1, hc, h⟩ := ib h
  have hF := va_frees hD hS hA
  refine va_callv (va_runV (As := [.int y1, .int y0, .long x8]) (rest := []) ⟨hx, hb, hml, hown, hts⟩ (s_X7_setWorth_62 hc) (cwV 3 hts (gV mw_19_21 mw_13_3 mw_13_4 mw_0_11 mw_51_27) rfl rfl rfl (by decide +kernel) ⟨by show 1 + 1 ≤ 4 + (nn + 1); omega, by show 8 + (5 + 11) + 21 ≤ 91 + 29 * (nn + 1); omega⟩) (vV (ci := 7) (q0 := 62) hK hP hD hN rfl gA_62) rfl rfl hl.1 rfl (lv_room (Nat.le_of_ble_eq_true rfl)) dX8_parseValue_144 ⟨(Nat.le_of_ble_eq_true rfl), (Nat.le_of_ble_eq_true rfl)⟩) hS (fun q _ h => hF q h) hF (fun u t H locs ht hvm hw hB _ _ hS => ?_)
  replace hP : va_P (dC, dI) vwCl (wA a k q1) H := by rw [← ht]; exact hB.1
  replace hD := hD0 (q1)
  clear hB hF
  refine lv_aload_n hx hb dX8_parseValue_147 rfl (lv_at hl 0 rfl) ?_
  refine va_get (D := (dC, dI)) (ci := 8) (C := RX8) (T := TX8) (N := 3) hx hb hts inlX8 hown hK hP 86 gA_86 rfl 0 (by decide) (hts (.fieldLink RX8 9 "ShapeReader$ValueText" "tokens" "LShapeReader$Tokens;") mw_19_5) (fun _ h9 => h9) rfl dX8_parseValue_148 ?_
  obtain ⟨q3, hc, h⟩ := ib h
  have hF := va_frees hD hS hA
  refine va_callv (va_runV (As := []) (rest := []) ⟨hx, hb, hml, hown, hts⟩ (s_X6_advance hc) (cwV 0 hts (gV mw_19_22 mw_8_6 mw_8_7 mw_0_10 mw_51_8) rfl rfl rfl (by decide +kernel) ⟨by show 2 + 1 ≤ 4 + (nn + 1); omega, by show 8 + (2 + 11) + 47 ≤ 91 + 29 * (nn + 1); omega⟩) (vV (ci := 6) (q0 := 2) hK hP hD hN rfl gA_2) rfl rfl hl.1 rfl (lv_room (Nat.le_of_ble_eq_true rfl)) dX8_parseValue_151 ⟨(Nat.le_of_ble_eq_true rfl), (Nat.le_of_ble_eq_true rfl)⟩) hS (fun q _ h => hF q h) hF (fun u t H locs ht hvm hw hB _ _ hS => ?_)
  replace hP : va_P (dC, dI) vwCl (wA a k q3) H := by rw [← ht]; exact hB.1
  replace hD := hD0 (q3)
  clear hB hF
  refine lv_iload hx hb dX8_parseValue_154 (lv_at hl 3 rfl) ?_
  refine lv_bipush (v := 6) hx hb dX8_parseValue_156 (by decide) ?_
  refine lv_icmp_ne (tgt := 179) hx hb dX8_parseValue_158 (by decide) (fun hc => ?_) (fun hc => ?_)
  · replace h := iq hc h
    refine lv_iload hx hb dX8_parseValue_179 (lv_at hl 3 rfl) ?_
    refine lv_bipush (v := 7) hx hb dX8_parseValue_181 (by decide) ?_
    refine lv_icmp_ne (tgt := 204) hx hb dX8_parseValue_183 (by decide) (fun hc => ?_) (fun hc => ?_)
    · replace h := iq hc h
      refine lv_iconst (v := 1) hx hb dX8_parseValue_204 (by decide) ?_
      obtain rfl := Option.some.inj h
      exact W.zret hx hb hr rfl (fun t ht hW => ⟨⟨_, (), rfl, rfl, ⟨by rw [ht]; exact hP, va_K.moved hW.alike hK, hD⟩⟩, hS.F ht⟩) hS.2.2 dX8_parseValue_205
    · replace h := ip hc h
      refine lv_aload_n hx hb dX8_parseValue_186 rfl (lv_at hl 0 rfl) ?_
      refine lv_aload_n hx hb dX8_parseValue_187 rfl (lv_at hl 0 rfl) ?_
      refine va_get (D := (dC, dI)) (ci := 8) (C := RX8) (T := TX8) (N := 3) hx hb hts inlX8 hown hK hP 86 gA_86 rfl 1 (by decide) (hts (.fieldLink RX8 15 "ShapeReader$ValueText" "shapes" "LShapeReader$Shapes;") mw_19_6) (fun _ h9 => h9) rfl dX8_parseValue_188 ?_
      refine lv_iload hx hb dX8_parseValue_191 (lv_at hl 2 rfl) ?_
      obtain ⟨q5, hc, h⟩ := ib h
      have hF := va_frees hD hS hA
      refine va_calli (va_runV (As := [.int x5]) (rest := [.ref (a 86)]) ⟨hx, hb, hml, hown, hts⟩ (s_X5_innerOf_4 hc) (cwV 1 hts (gV mw_19_23 mw_2_16 mw_2_17 mw_0_9 mw_50_7) rfl rfl rfl (by decide +kernel) ⟨by show 1 + 1 ≤ 4 + (nn + 1); omega, by show 8 + (2 + 11) + 21 ≤ 91 + 29 * (nn + 1); omega⟩) (vV (ci := 5) (q0 := 4) hK hP hD hN rfl gA_4) rfl rfl hl.1 rfl (lv_room (Nat.le_of_ble_eq_true rfl)) dX8_parseValue_193 ⟨(Nat.le_of_ble_eq_true rfl), (Nat.le_of_ble_eq_true rfl)⟩) hS (fun q _ h => hF q h) hF (fun r6 u t H locs ht hvm hw hB _ _ hS => ?_)
      obtain rfl : r6 = q5.1 := hw
      replace hP : va_P (dC, dI) vwCl (wA a k q5.2) H := by rw [← ht]; exact hB.1
      replace hD := hD0 (q5.2)
      clear hB hF
      refine lv_iload hx hb dX8_parseValue_196 (lv_at hl 4 rfl) ?_
      refine lv_iload hx hb dX8_parseValue_198 (lv_at hl 1 rfl) ?_
      obtain ⟨q7, hc, h⟩ := ib h
      have hF := va_frees hD hS hA
      refine va_calli (va_runV (As := [.int q5.1, .int x7, .int x4]) (rest := []) ⟨hx, hb, hml, hown, hts⟩ (hr_X8_parseFields hc) (cwV 3 hts (gV mw_19_27 mw_19_28 mw_19_29 mw_0_12 mw_52_17) rfl rfl rfl (by decide +kernel) ⟨by show (4 + nn) + 1 ≤ 4 + (nn + 1); omega, by show 8 + (8 + 11) + (91 + 29 * nn) ≤ 91 + 29 * (nn + 1); omega⟩) (vV (ci := 8) (q0 := 86) hK hP hD hN rfl gA_86) rfl rfl hl.1 rfl (lv_room (Nat.le_of_ble_eq_true rfl)) dX8_parseValue_200 ⟨(Nat.le_of_ble_eq_true rfl), (Nat.le_of_ble_eq_true rfl)⟩) hS (fun q _ h => hF q h) hF (fun r8 u t H locs ht hvm hw hB _ _ hS => ?_)
      obtain rfl : r8 = q7.1 := hw
      replace hP : va_P (dC, dI) vwCl (wA a k q7.2) H := by rw [← ht]; exact hB.1
      replace hD := hD0 (q7.2)
      clear hB hF
      obtain ⟨hg, h⟩ := ig h
      obtain rfl := Option.some.inj h
      exact W.zret hx hb hr (zn hg) (fun t ht hW => ⟨⟨_, (), rfl, rfl, ⟨by rw [ht]; exact hP, va_K.moved hW.alike hK, hD⟩⟩, hS.F ht⟩) hS.2.2 dX8_parseValue_203
  · replace h := ip hc h
    refine lv_aload_n hx hb dX8_parseValue_161 rfl (lv_at hl 0 rfl) ?_
    refine lv_aload_n hx hb dX8_parseValue_162 rfl (lv_at hl 0 rfl) ?_
    refine va_get (D := (dC, dI)) (ci := 8) (C := RX8) (T := TX8) (N := 3) hx hb hts inlX8 hown hK hP 86 gA_86 rfl 1 (by decide) (hts (.fieldLink RX8 15 "ShapeReader$ValueText" "shapes" "LShapeReader$Shapes;") mw_19_6) (fun _ h9 => h9) rfl dX8_parseValue_163 ?_
    refine lv_iload hx hb dX8_parseValue_166 (lv_at hl 2 rfl) ?_
    obtain ⟨q9, hc, h⟩ := ib h
    have hF := va_frees hD hS hA
    refine va_calli (va_runV (As := [.int x5]) (rest := [.ref (a 86)]) ⟨hx, hb, hml, hown, hts⟩ (s_X5_innerOf_4 hc) (cwV 1 hts (gV mw_19_23 mw_2_16 mw_2_17 mw_0_9 mw_50_7) rfl rfl rfl (by decide +kernel) ⟨by show 1 + 1 ≤ 4 + (nn + 1); omega, by show 8 + (2 + 11) + 21 ≤ 91 + 29 * (nn + 1); omega⟩) (vV (ci := 5) (q0 := 4) hK hP hD hN rfl gA_4) rfl rfl hl.1 rfl (lv_room (Nat.le_of_ble_eq_true rfl)) dX8_parseValue_168 ⟨(Nat.le_of_ble_eq_true rfl), (Nat.le_of_ble_eq_true rfl)⟩) hS (fun q _ h => hF q h) hF (fun r10 u t H locs ht hvm hw hB _ _ hS => ?_)
    obtain rfl : r10 = q9.1 := hw
    replace hP : va_P (dC, dI) vwCl (wA a k q9.2) H := by rw [← ht]; exact hB.1
    replace hD := hD0 (q9.2)
    clear hB hF
    refine lv_iload hx hb dX8_parseValue_171 (lv_at hl 4 rfl) ?_
    refine lv_iload hx hb dX8_parseValue_173 (lv_at hl 1 rfl) ?_
    obtain ⟨q11, hc, h⟩ := ib h
    have hF := va_frees hD hS hA
    refine va_calli (va_runV (As := [.int q9.1, .int x7, .int x4]) (rest := []) ⟨hx, hb, hml, hown, hts⟩ (hr_X8_parseItems hc) (cwV 3 hts (gV mw_19_24 mw_19_25 mw_19_26 mw_0_12 mw_52_16) rfl rfl rfl (by decide +kernel) ⟨by show (4 + nn) + 1 ≤ 4 + (nn + 1); omega, by show 8 + (5 + 11) + (91 + 29 * nn) ≤ 91 + 29 * (nn + 1); omega⟩) (vV (ci := 8) (q0 := 86) hK hP hD hN rfl gA_86) rfl rfl hl.1 rfl (lv_room (Nat.le_of_ble_eq_true rfl)) dX8_parseValue_175 ⟨(Nat.le_of_ble_eq_true rfl), (Nat.le_of_ble_eq_true rfl)⟩) hS (fun q _ h => hF q h) hF (fun r12 u t H locs ht hvm hw hB _ _ hS => ?_)
    obtain rfl : r12 = q11.1 := hw
    replace hP : va_P (dC, dI) vwCl (wA a k q11.2) H := by rw [← ht]; exact hB.1
    replace hD := hD0 (q11.2)
    clear hB hF
    obtain ⟨hg, h⟩ := ig h
    obtain rfl := Option.some.inj h
    exact W.zret hx hb hr (zn hg) (fun t ht hW => ⟨⟨_, (), rfl, rfl, ⟨by rw [ht]; exact hP, va_K.moved hW.alike hK, hD⟩⟩, hS.F ht⟩) hS.2.2 dX8_parseValue_178

set_option maxRecDepth 100000 in
set_option maxHeartbeats 4000000 in
theorem b_X8_parseValue_93 {p : Program} {l : Launch} {e : Env} {s : State} {m : MethodId} {args : Array Value} {below : List Frame} {meth : Method} {c : Code} {dC : Nat → ClassId} {dI : Nat → Nat → Nat} {a : Nat → Nat} {k : Nat → ClassId} {A : Nat → Prop} {q : Int32 × ST} (hC : CxA p s m args meth c dC dI k A cX8_parseValue RX8 (some .boolean) 10) {nn : Nat} {r_X8_parseFields : Int32 → Int32 → Int32 → ST → Option (Int32 × ST)} (hr_X8_parseFields : ∀ {sz : Nat} {p0 : Int32} {p1 : Int32} {p2 : Int32} {σ : ST} {q : Int32 × ST}, r_X8_parseFields  p0 p1 p2 σ = some q → Met l yX8_parseFields (.code yX8_parseFields cX8_parseFields 8 (some .boolean) :: pw) ({ frames := 4 + nn, cells := 0, slots := 0, locals := 91 + 29 * nn } : Room) (va_Pc [.ref (a 86), .int p0, .int p1, .int p2] (vPre dC dI (wA a k σ) (tA k) sz)) (qAi dC dI a k (va_A (wA a k σ) sz) q) 0 0 (va_A (wA a k σ) sz)) {r_X8_parseItems : Int32 → Int32 → Int32 → ST → Option (Int32 × ST)} (hr_X8_parseItems : ∀ {sz : Nat} {p0 : Int32} {p1 : Int32} {p2 : Int32} {σ : ST} {q : Int32 × ST}, r_X8_parseItems  p0 p1 p2 σ = some q → Met l yX8_parseItems (.code yX8_parseItems cX8_parseItems 5 (some .boolean) :: pw) ({ frames := 4 + nn, cells := 0, slots := 0, locals := 91 + 29 * nn } : Room) (va_Pc [.ref (a 86), .int p0, .int p1, .int p2] (vPre dC dI (wA a k σ) (tA k) sz)) (qAi dC dI a k (va_A (wA a k σ) sz) q) 0 0 (va_A (wA a k σ) sz)) {r_X8_parseValue : Int32 → Int32 → Int32 → Int32 → ST → Option (Int32 × ST)} (hr_X8_parseValue : ∀ {sz : Nat} {p0 : Int32} {p1 : Int32} {p2 : Int32} {p3 : Int32} {σ : ST} {q : Int32 × ST}, r_X8_parseValue  p0 p1 p2 p3 σ = some q → Met l yX8_parseValue (.code yX8_parseValue cX8_parseValue 10 (some .boolean) :: pw) ({ frames := 4 + nn, cells := 0, slots := 0, locals := 91 + 29 * nn } : Room) (va_Pc [.ref (a 86), .int p0, .int p1, .int p2, .int p3] (vPre dC dI (wA a k σ) (tA k) sz)) (qAi dC dI a k (va_A (wA a k σ) sz) q) 0 0 (va_A (wA a k σ) sz))  {x4 : Int32} {x5 : Int32} {x6 : Int32} {y0 : Int32} {σ : ST} (h : f_X8_parseValue_93 r_X8_parseFields r_X8_parseItems r_X8_parseValue x4 x5 x6 y0 σ = some q) : GoA p l e ({ frames := 4 + (nn + 1), cells := 0, slots := 0, locals := 91 + 29 * (nn + 1) } : Room) s m args below meth c (MQ below (qAi dC dI a k A q) args s 0 0 A) dC dI a k A 10 93 σ [(0, .ref (a 86)), (4, .int x4), (5, .int x5), (6, .int x6)] [.int y0] := by
  have hC0 := hC
  obtain ⟨hx, hb, hr, hml, hown, hts, hlocks, hA, hN, hK⟩ := hC0
  intro H locs ls hP hD hS hl
  have hD0 : ∀ σ1 : ST, va_D A (wA a k σ1) := fun σ1 => wA_D hD
  unfold f_X8_parseValue_93 at h
  refine lv_istore (lv' := [(7, .int y0), (0, .ref (a 86)), (4, .int x4), (5, .int x5), (6, .int x6)]) hx hb dX8_parseValue_93 hl (by decide) rfl (fun ls hl => ?_)
  refine lv_iload hx hb dX8_parseValue_95 (lv_at hl 0 rfl) ?_
  refine lv_iconst (v := (-1)) hx hb dX8_parseValue_97 (by decide) ?_
  refine lv_icmp_ne (tgt := 110) hx hb dX8_parseValue_98 (by decide) (fun hc => ?_) (fun hc => ?_)
  · replace h := iq hc h
    refine lv_aload_n hx hb dX8_parseValue_110 rfl (lv_at hl 1 rfl) ?_
    refine va_get (D := (dC, dI)) (ci := 8) (C := RX8) (T := TX8) (N := 3) hx hb hts inlX8 hown hK hP 86 gA_86 rfl 0 (by decide) (hts (.fieldLink RX8 9 "ShapeReader$ValueText" "tokens" "LShapeReader$Tokens;") mw_19_5) (fun _ h9 => h9) rfl dX8_parseValue_111 ?_
    refine lv_iload hx hb dX8_parseValue_114 (lv_at hl 4 rfl) ?_
    obtain ⟨q1, hc, h⟩ := ib h
    have hF := va_frees hD hS hA
    refine va_calll (va_runV (As := [.int x6]) (rest := []) ⟨hx, hb, hml, hown, hts⟩ (s_X6_worth hc) (cwV 1 hts (gV mw_19_20 mw_10_14 mw_10_15 mw_0_10 mw_51_20) rfl rfl rfl (by decide +kernel) ⟨by show 2 + 1 ≤ 4 + (nn + 1); omega, by show 8 + (2 + 11) + 47 ≤ 91 + 29 * (nn + 1); omega⟩) (vV (ci := 6) (q0 := 2) hK hP hD hN rfl gA_2) rfl rfl hl.1 rfl (lv_room (Nat.le_of_ble_eq_true rfl)) dX8_parseValue_116 ⟨(Nat.le_of_ble_eq_true rfl), (Nat.le_of_ble_eq_true rfl)⟩) hS (fun q _ h => hF q h) hF (fun r2 u t H locs ht hvm hw hB _ _ hS => ?_)
    obtain rfl : r2 = q1.1 := hw
    replace hP : va_P (dC, dI) vwCl (wA a k q1.2) H := by rw [← ht]; exact hB.1
    replace hD := hD0 (q1.2)
    clear hB hF
    refine lv_lstore (lv' := [(8, .long q1.1), (7, .int y0), (0, .ref (a 86)), (4, .int x4), (5, .int x5), (6, .int x6)]) hx hb dX8_parseValue_119 hl (by decide) rfl (fun ls hl => ?_)
    refine lv_aload_n hx hb dX8_parseValue_121 rfl (lv_at hl 2 rfl) ?_
    refine va_get (D := (dC, dI)) (ci := 8) (C := RX8) (T := TX8) (N := 3) hx hb hts inlX8 hown hK hP 86 gA_86 rfl 2 (by decide) (hts (.fieldLink RX8 19 "ShapeReader$ValueText" "tree" "LShapeReader$Tree;") mw_19_7) (fun _ h9 => h9) rfl dX8_parseValue_122 ?_
    refine lv_iload hx hb dX8_parseValue_125 (lv_at hl 1 rfl) ?_
    refine lv_iload hx hb dX8_parseValue_127 (lv_at hl 5 rfl) ?_
    refine lv_iconst (v := 5) hx hb dX8_parseValue_129 (by decide) ?_
    refine lv_icmp_ne (tgt := 141) hx hb dX8_parseValue_130 (by decide) (fun hc => ?_) (fun hc => ?_)
    · replace h := iq hc h
      refine lv_iconst (v := 0) hx hb dX8_parseValue_141 (by decide) ?_
      exact b_X8_parseValue_142 hC hr_X8_parseFields hr_X8_parseItems hr_X8_parseValue h _ _ _ hP hD hS (lv_sub hl [2, 3, 4, 5, 1, 0] rfl)
    · replace h := ip hc h
      refine lv_lload hx hb dX8_parseValue_133 (lv_at hl 0 rfl) ?_
      obtain ⟨q3, hc, h⟩ := ib h
      have hF := va_frees hD hS hA
      refine va_calli (va_runSN (As := [.long q1.1]) (rest := [.int y0, .ref (a 62)]) ⟨hx, hb, hml, hown, hts⟩ (s_X10_lettersIn hc) ⟨va_cnB 1 hts (gI mw_53_21) rfl rfl rfl (hN _ (List.mem_of_getElem? (i := 4) rfl)) (hts (.initialized RX10) mw_0_14) (by decide +kernel) ⟨by show 1 + 1 ≤ 4 + (nn + 1); omega, by show 8 + (3 + 11) + 22 ≤ 91 + 29 * (nn + 1); omega⟩, (hts (.static yX10_lettersIn) mw_6_26), trivial⟩ (vS hK hP hD hN) rfl rfl hl.1 rfl (lv_room (Nat.le_of_ble_eq_true rfl)) dX8_parseValue_135 ⟨(Nat.le_of_ble_eq_true rfl), (Nat.le_of_ble_eq_true rfl)⟩) hS (fun q _ h => hF q h) hF (fun r4 u t H locs ht hvm hw hB _ _ hS => ?_)
      obtain rfl : r4 = q3.1 := hw
      replace hP : va_P (dC, dI) vwCl (wA a k q3.2) H := by rw [← ht]; exact hB.1
      replace hD := hD0 (q3.2)
      clear hB hF
      refine lv_goto (tgt := 142) hx hb dX8_parseValue_138 (by decide) ?_
      exact b_X8_parseValue_142 hC hr_X8_parseFields hr_X8_parseItems hr_X8_parseValue h _ _ _ hP hD hS (lv_sub hl [2, 3, 4, 5, 1, 0] rfl)
  · replace h := ip hc h
    refine lv_aload_n hx hb dX8_parseValue_101 rfl (lv_at hl 1 rfl) ?_
    refine va_get (D := (dC, dI)) (ci := 8) (C := RX8) (T := TX8) (N := 3) hx hb hts inlX8 hown hK hP 86 gA_86 rfl 0 (by decide) (hts (.fieldLink RX8 9 "ShapeReader$ValueText" "tokens" "LShapeReader$Tokens;") mw_19_5) (fun _ h9 => h9) rfl dX8_parseValue_102 ?_
    refine lv_iconst (v := 4) hx hb dX8_parseValue_105 (by decide) ?_
    obtain ⟨q5, hc, h⟩ := ib h
    have hF := va_frees hD hS hA
    refine va_calli (va_runV (As := [.int 4]) (rest := []) ⟨hx, hb, hml, hown, hts⟩ (s_X6_refuse hc) (cwV 1 hts (gV mw_19_13 mw_7_15 mw_7_16 mw_0_10 mw_51_4) rfl rfl rfl (by decide +kernel) ⟨by show 1 + 1 ≤ 4 + (nn + 1); omega, by show 8 + (2 + 11) + 22 ≤ 91 + 29 * (nn + 1); omega⟩) (vV (ci := 6) (q0 := 2) hK hP hD hN rfl gA_2) rfl rfl hl.1 rfl (lv_room (Nat.le_of_ble_eq_true rfl)) dX8_parseValue_106 ⟨(Nat.le_of_ble_eq_true rfl), (Nat.le_of_ble_eq_true rfl)⟩) hS (fun q _ h => hF q h) hF (fun r6 u t H locs ht hvm hw hB _ _ hS => ?_)
    obtain rfl : r6 = q5.1 := hw
    replace hP : va_P (dC, dI) vwCl (wA a k q5.2) H := by rw [← ht]; exact hB.1
    replace hD := hD0 (q5.2)
    clear hB hF
    obtain ⟨hg, h⟩ := ig h
    obtain rfl := Option.some.inj h
    exact W.zret hx hb hr (zn hg) (fun t ht hW => ⟨⟨_, (), rfl, rfl, ⟨by rw [ht]; exact hP, va_K.moved hW.alike hK, hD⟩⟩, hS.F ht⟩) hS.2.2 dX8_parseValue_109

set_option maxRecDepth 100000 in
set_option maxHeartbeats 4000000 in
theorem b_X8_parseValue_78 {p : Program} {l : Launch} {e : Env} {s : State} {m : MethodId} {args : Array Value} {below : List Frame} {meth : Method} {c : Code} {dC : Nat → ClassId} {dI : Nat → Nat → Nat} {a : Nat → Nat} {k : Nat → ClassId} {A : Nat → Prop} {q : Int32 × ST} (hC : CxA p s m args meth c dC dI k A cX8_parseValue RX8 (some .boolean) 10) {nn : Nat} {r_X8_parseFields : Int32 → Int32 → Int32 → ST → Option (Int32 × ST)} (hr_X8_parseFields : ∀ {sz : Nat} {p0 : Int32} {p1 : Int32} {p2 : Int32} {σ : ST} {q : Int32 × ST}, r_X8_parseFields  p0 p1 p2 σ = some q → Met l yX8_parseFields (.code yX8_parseFields cX8_parseFields 8 (some .boolean) :: pw) ({ frames := 4 + nn, cells := 0, slots := 0, locals := 91 + 29 * nn } : Room) (va_Pc [.ref (a 86), .int p0, .int p1, .int p2] (vPre dC dI (wA a k σ) (tA k) sz)) (qAi dC dI a k (va_A (wA a k σ) sz) q) 0 0 (va_A (wA a k σ) sz)) {r_X8_parseItems : Int32 → Int32 → Int32 → ST → Option (Int32 × ST)} (hr_X8_parseItems : ∀ {sz : Nat} {p0 : Int32} {p1 : Int32} {p2 : Int32} {σ : ST} {q : Int32 × ST}, r_X8_parseItems  p0 p1 p2 σ = some q → Met l yX8_parseItems (.code yX8_parseItems cX8_parseItems 5 (some .boolean) :: pw) ({ frames := 4 + nn, cells := 0, slots := 0, locals := 91 + 29 * nn } : Room) (va_Pc [.ref (a 86), .int p0, .int p1, .int p2] (vPre dC dI (wA a k σ) (tA k) sz)) (qAi dC dI a k (va_A (wA a k σ) sz) q) 0 0 (va_A (wA a k σ) sz)) {r_X8_parseValue : Int32 → Int32 → Int32 → Int32 → ST → Option (Int32 × ST)} (hr_X8_parseValue : ∀ {sz : Nat} {p0 : Int32} {p1 : Int32} {p2 : Int32} {p3 : Int32} {σ : ST} {q : Int32 × ST}, r_X8_parseValue  p0 p1 p2 p3 σ = some q → Met l yX8_parseValue (.code yX8_parseValue cX8_parseValue 10 (some .boolean) :: pw) ({ frames := 4 + nn, cells := 0, slots := 0, locals := 91 + 29 * nn } : Room) (va_Pc [.ref (a 86), .int p0, .int p1, .int p2, .int p3] (vPre dC dI (wA a k σ) (tA k) sz)) (qAi dC dI a k (va_A (wA a k σ) sz) q) 0 0 (va_A (wA a k σ) sz))  {x4 : Int32} {x5 : Int32} {x6 : Int32} {σ : ST} (h : f_X8_parseValue_78 r_X8_parseFields r_X8_parseItems r_X8_parseValue x4 x5 x6 σ = some q) : GoA p l e ({ frames := 4 + (nn + 1), cells := 0, slots := 0, locals := 91 + 29 * (nn + 1) } : Room) s m args below meth c (MQ below (qAi dC dI a k A q) args s 0 0 A) dC dI a k A 10 78 σ [(0, .ref (a 86)), (4, .int x4), (5, .int x5), (6, .int x6)] [] := by
  have hC0 := hC
  obtain ⟨hx, hb, hr, hml, hown, hts, hlocks, hA, hN, hK⟩ := hC0
  intro H locs ls hP hD hS hl
  have hD0 : ∀ σ1 : ST, va_D A (wA a k σ1) := fun σ1 => wA_D hD
  unfold f_X8_parseValue_78 at h
  refine lv_iconst (v := (-1)) hx hb dX8_parseValue_78 (by decide) ?_
  refine lv_goto (tgt := 93) hx hb dX8_parseValue_79 (by decide) ?_
  exact b_X8_parseValue_93 hC hr_X8_parseFields hr_X8_parseItems hr_X8_parseValue h _ _ _ hP hD hS (lv_sub hl [0, 1, 2, 3] rfl)

set_option maxRecDepth 100000 in
set_option maxHeartbeats 4000000 in
theorem b_X8_parseValue_31 {p : Program} {l : Launch} {e : Env} {s : State} {m : MethodId} {args : Array Value} {below : List Frame} {meth : Method} {c : Code} {dC : Nat → ClassId} {dI : Nat → Nat → Nat} {a : Nat → Nat} {k : Nat → ClassId} {A : Nat → Prop} {q : Int32 × ST} (hC : CxA p s m args meth c dC dI k A cX8_parseValue RX8 (some .boolean) 10) {nn : Nat} {r_X8_parseFields : Int32 → Int32 → Int32 → ST → Option (Int32 × ST)} (hr_X8_parseFields : ∀ {sz : Nat} {p0 : Int32} {p1 : Int32} {p2 : Int32} {σ : ST} {q : Int32 × ST}, r_X8_parseFields  p0 p1 p2 σ = some q → Met l yX8_parseFields (.code yX8_parseFields cX8_parseFields 8 (some .boolean) :: pw) ({ frames := 4 + nn, cells := 0, slots := 0, locals := 91 + 29 * nn } : Room) (va_Pc [.ref (a 86), .int p0, .int p1, .int p2] (vPre dC dI (wA a k σ) (tA k) sz)) (qAi dC dI a k (va_A (wA a k σ) sz) q) 0 0 (va_A (wA a k σ) sz)) {r_X8_parseItems : Int32 → Int32 → Int32 → ST → Option (Int32 × ST)} (hr_X8_parseItems : ∀ {sz : Nat} {p0 : Int32} {p1 : Int32} {p2 : Int32} {σ : ST} {q : Int32 × ST}, r_X8_parseItems  p0 p1 p2 σ = some q → Met l yX8_parseItems (.code yX8_parseItems cX8_parseItems 5 (some .boolean) :: pw) ({ frames := 4 + nn, cells := 0, slots := 0, locals := 91 + 29 * nn } : Room) (va_Pc [.ref (a 86), .int p0, .int p1, .int p2] (vPre dC dI (wA a k σ) (tA k) sz)) (qAi dC dI a k (va_A (wA a k σ) sz) q) 0 0 (va_A (wA a k σ) sz)) {r_X8_parseValue : Int32 → Int32 → Int32 → Int32 → ST → Option (Int32 × ST)} (hr_X8_parseValue : ∀ {sz : Nat} {p0 : Int32} {p1 : Int32} {p2 : Int32} {p3 : Int32} {σ : ST} {q : Int32 × ST}, r_X8_parseValue  p0 p1 p2 p3 σ = some q → Met l yX8_parseValue (.code yX8_parseValue cX8_parseValue 10 (some .boolean) :: pw) ({ frames := 4 + nn, cells := 0, slots := 0, locals := 91 + 29 * nn } : Room) (va_Pc [.ref (a 86), .int p0, .int p1, .int p2, .int p3] (vPre dC dI (wA a k σ) (tA k) sz)) (qAi dC dI a k (va_A (wA a k σ) sz) q) 0 0 (va_A (wA a k σ) sz))  {x1 : Int32} {x2 : Int32} {x3 : Int32} {x4 : Int32} {σ : ST} (h : f_X8_parseValue_31 r_X8_parseFields r_X8_parseItems r_X8_parseValue x1 x2 x3 x4 σ = some q) : GoA p l e ({ frames := 4 + (nn + 1), cells := 0, slots := 0, locals := 91 + 29 * (nn + 1) } : Room) s m args below meth c (MQ below (qAi dC dI a k A q) args s 0 0 A) dC dI a k A 10 31 σ [(0, .ref (a 86)), (1, .int x1), (2, .int x2), (3, .int x3), (4, .int x4)] [] := by
  have hC0 := hC
  obtain ⟨hx, hb, hr, hml, hown, hts, hlocks, hA, hN, hK⟩ := hC0
  intro H locs ls hP hD hS hl
  have hD0 : ∀ σ1 : ST, va_D A (wA a k σ1) := fun σ1 => wA_D hD
  unfold f_X8_parseValue_31 at h
  refine lv_aload_n hx hb dX8_parseValue_31 rfl (lv_at hl 0 rfl) ?_
  refine lv_iload_n hx hb dX8_parseValue_32 rfl (lv_at hl 1 rfl) ?_
  obtain ⟨q1, hc, h⟩ := ib h
  have hF := va_frees hD hS hA
  refine va_calli (va_runV (As := [.int x1]) (rest := []) ⟨hx, hb, hml, hown, hts⟩ (s_X8_fittingType hc) (cwV 1 hts (gV mw_19_15 mw_19_16 mw_19_17 mw_0_12 mw_52_15) rfl rfl rfl (by decide +kernel) ⟨by show 2 + 1 ≤ 4 + (nn + 1); omega, by show 8 + (4 + 11) + 42 ≤ 91 + 29 * (nn + 1); omega⟩) (vV (ci := 8) (q0 := 86) hK hP hD hN rfl gA_86) rfl rfl hl.1 rfl (lv_room (Nat.le_of_ble_eq_true rfl)) dX8_parseValue_33 ⟨(Nat.le_of_ble_eq_true rfl), (Nat.le_of_ble_eq_true rfl)⟩) hS (fun q _ h => hF q h) hF (fun r2 u t H locs ht hvm hw hB _ _ hS => ?_)
  obtain rfl : r2 = q1.1 := hw
  replace hP : va_P (dC, dI) vwCl (wA a k q1.2) H := by rw [← ht]; exact hB.1
  replace hD := hD0 (q1.2)
  clear hB hF
  refine lv_istore (lv' := [(5, .int q1.1), (0, .ref (a 86)), (1, .int x1), (2, .int x2), (3, .int x3), (4, .int x4)]) hx hb dX8_parseValue_36 hl (by decide) rfl (fun ls hl => ?_)
  refine lv_iload hx hb dX8_parseValue_38 (lv_at hl 0 rfl) ?_
  refine lv_iconst (v := (-1)) hx hb dX8_parseValue_40 (by decide) ?_
  refine lv_icmp_ne (tgt := 53) hx hb dX8_parseValue_41 (by decide) (fun hc => ?_) (fun hc => ?_)
  · replace h := iq hc h
    refine lv_aload_n hx hb dX8_parseValue_53 rfl (lv_at hl 1 rfl) ?_
    refine va_get (D := (dC, dI)) (ci := 8) (C := RX8) (T := TX8) (N := 3) hx hb hts inlX8 hown hK hP 86 gA_86 rfl 1 (by decide) (hts (.fieldLink RX8 15 "ShapeReader$ValueText" "shapes" "LShapeReader$Shapes;") mw_19_6) (fun _ h9 => h9) rfl dX8_parseValue_54 ?_
    refine lv_iload hx hb dX8_parseValue_57 (lv_at hl 0 rfl) ?_
    obtain ⟨q3, hc, h⟩ := ib h
    have hF := va_frees hD hS hA
    refine va_calli (va_runV (As := [.int q1.1]) (rest := []) ⟨hx, hb, hml, hown, hts⟩ (s_X5_sortOf_4 hc) (cwV 1 hts (gV mw_19_18 mw_2_13 mw_2_14 mw_0_9 mw_50_6) rfl rfl rfl (by decide +kernel) ⟨by show 1 + 1 ≤ 4 + (nn + 1); omega, by show 8 + (2 + 11) + 21 ≤ 91 + 29 * (nn + 1); omega⟩) (vV (ci := 5) (q0 := 4) hK hP hD hN rfl gA_4) rfl rfl hl.1 rfl (lv_room (Nat.le_of_ble_eq_true rfl)) dX8_parseValue_59 ⟨(Nat.le_of_ble_eq_true rfl), (Nat.le_of_ble_eq_true rfl)⟩) hS (fun q _ h => hF q h) hF (fun r4 u t H locs ht hvm hw hB _ _ hS => ?_)
    obtain rfl : r4 = q3.1 := hw
    replace hP : va_P (dC, dI) vwCl (wA a k q3.2) H := by rw [← ht]; exact hB.1
    replace hD := hD0 (q3.2)
    clear hB hF
    refine lv_istore (lv' := [(6, .int q3.1), (5, .int q1.1), (0, .ref (a 86)), (1, .int x1), (2, .int x2), (3, .int x3), (4, .int x4)]) hx hb dX8_parseValue_62 hl (by decide) rfl (fun ls hl => ?_)
    refine lv_iload hx hb dX8_parseValue_64 (lv_at hl 6 rfl) ?_
    refine lv_bipush (v := 31) hx hb dX8_parseValue_66 (by decide) ?_
    refine lv_icmp_ge (tgt := 78) hx hb dX8_parseValue_68 (by decide) (fun hc => ?_) (fun hc => ?_)
    · replace h := ip hc h
      exact b_X8_parseValue_78 hC hr_X8_parseFields hr_X8_parseItems hr_X8_parseValue h _ _ _ hP hD hS (lv_sub hl [2, 6, 1, 0] rfl)
    · replace h := iq hc h
      refine lv_iload_n hx hb dX8_parseValue_71 rfl (lv_at hl 5 rfl) ?_
      refine lv_sipush (v := 200) hx hb dX8_parseValue_72 (by decide) ?_
      refine lv_icmp_lt (tgt := 82) hx hb dX8_parseValue_75 (by decide) (fun hc => ?_) (fun hc => ?_)
      · replace h := ip hc h
        refine lv_aload_n hx hb dX8_parseValue_82 rfl (lv_at hl 2 rfl) ?_
        refine va_get (D := (dC, dI)) (ci := 8) (C := RX8) (T := TX8) (N := 3) hx hb hts inlX8 hown hK hP 86 gA_86 rfl 2 (by decide) (hts (.fieldLink RX8 19 "ShapeReader$ValueText" "tree" "LShapeReader$Tree;") mw_19_7) (fun _ h9 => h9) rfl dX8_parseValue_83 ?_
        refine lv_iload hx hb dX8_parseValue_86 (lv_at hl 0 rfl) ?_
        refine lv_iload_n hx hb dX8_parseValue_88 rfl (lv_at hl 4 rfl) ?_
        refine lv_iload_n hx hb dX8_parseValue_89 rfl (lv_at hl 5 rfl) ?_
        obtain ⟨q5, hc, h⟩ := ib h
        have hF := va_frees hD hS hA
        refine va_calli (va_runV (As := [.int q3.1, .int x2, .int x3]) (rest := []) ⟨hx, hb, hml, hown, hts⟩ (s_X7_grow_62 hc) (cwV 3 hts (gV mw_19_19 mw_13_0 mw_13_1 mw_0_11 mw_51_25) rfl rfl rfl (by decide +kernel) ⟨by show 2 + 1 ≤ 4 + (nn + 1); omega, by show 8 + (5 + 11) + 47 ≤ 91 + 29 * (nn + 1); omega⟩) (vV (ci := 7) (q0 := 62) hK hP hD hN rfl gA_62) rfl rfl hl.1 rfl (lv_room (Nat.le_of_ble_eq_true rfl)) dX8_parseValue_90 ⟨(Nat.le_of_ble_eq_true rfl), (Nat.le_of_ble_eq_true rfl)⟩) hS (fun q _ h => hF q h) hF (fun r6 u t H locs ht hvm hw hB _ _ hS => ?_)
        obtain rfl : r6 = q5.1 := hw
        replace hP : va_P (dC, dI) vwCl (wA a k q5.2) H := by rw [← ht]; exact hB.1
        replace hD := hD0 (q5.2)
        clear hB hF
        exact b_X8_parseValue_93 hC hr_X8_parseFields hr_X8_parseItems hr_X8_parseValue h _ _ _ hP hD hS (lv_sub hl [2, 6, 1, 0] rfl)
      · replace h := iq hc h
        exact b_X8_parseValue_78 hC hr_X8_parseFields hr_X8_parseItems hr_X8_parseValue h _ _ _ hP hD hS (lv_sub hl [2, 6, 1, 0] rfl)
  · replace h := ip hc h
    refine lv_aload_n hx hb dX8_parseValue_44 rfl (lv_at hl 1 rfl) ?_
    refine va_get (D := (dC, dI)) (ci := 8) (C := RX8) (T := TX8) (N := 3) hx hb hts inlX8 hown hK hP 86 gA_86 rfl 0 (by decide) (hts (.fieldLink RX8 9 "ShapeReader$ValueText" "tokens" "LShapeReader$Tokens;") mw_19_5) (fun _ h9 => h9) rfl dX8_parseValue_45 ?_
    refine lv_iconst (v := 2) hx hb dX8_parseValue_48 (by decide) ?_
    obtain ⟨q7, hc, h⟩ := ib h
    have hF := va_frees hD hS hA
    refine va_calli (va_runV (As := [.int 2]) (rest := []) ⟨hx, hb, hml, hown, hts⟩ (s_X6_refuse hc) (cwV 1 hts (gV mw_19_13 mw_7_15 mw_7_16 mw_0_10 mw_51_4) rfl rfl rfl (by decide +kernel) ⟨by show 1 + 1 ≤ 4 + (nn + 1); omega, by show 8 + (2 + 11) + 22 ≤ 91 + 29 * (nn + 1); omega⟩) (vV (ci := 6) (q0 := 2) hK hP hD hN rfl gA_2) rfl rfl hl.1 rfl (lv_room (Nat.le_of_ble_eq_true rfl)) dX8_parseValue_49 ⟨(Nat.le_of_ble_eq_true rfl), (Nat.le_of_ble_eq_true rfl)⟩) hS (fun q _ h => hF q h) hF (fun r8 u t H locs ht hvm hw hB _ _ hS => ?_)
    obtain rfl : r8 = q7.1 := hw
    replace hP : va_P (dC, dI) vwCl (wA a k q7.2) H := by rw [← ht]; exact hB.1
    replace hD := hD0 (q7.2)
    clear hB hF
    obtain ⟨hg, h⟩ := ig h
    obtain rfl := Option.some.inj h
    exact W.zret hx hb hr (zn hg) (fun t ht hW => ⟨⟨_, (), rfl, rfl, ⟨by rw [ht]; exact hP, va_K.moved hW.alike hK, hD⟩⟩, hS.F ht⟩) hS.2.2 dX8_parseValue_52

set_option maxRecDepth 100000 in
set_option maxHeartbeats 4000000 in
theorem b_X8_parseValue_e {p : Program} {l : Launch} {e : Env} {s : State} {m : MethodId} {args : Array Value} {below : List Frame} {meth : Method} {c : Code} {dC : Nat → ClassId} {dI : Nat → Nat → Nat} {a : Nat → Nat} {k : Nat → ClassId} {A : Nat → Prop} {q : Int32 × ST} (hC : CxA p s m args meth c dC dI k A cX8_parseValue RX8 (some .boolean) 10) {nn : Nat} {r_X8_parseFields : Int32 → Int32 → Int32 → ST → Option (Int32 × ST)} (hr_X8_parseFields : ∀ {sz : Nat} {p0 : Int32} {p1 : Int32} {p2 : Int32} {σ : ST} {q : Int32 × ST}, r_X8_parseFields  p0 p1 p2 σ = some q → Met l yX8_parseFields (.code yX8_parseFields cX8_parseFields 8 (some .boolean) :: pw) ({ frames := 4 + nn, cells := 0, slots := 0, locals := 91 + 29 * nn } : Room) (va_Pc [.ref (a 86), .int p0, .int p1, .int p2] (vPre dC dI (wA a k σ) (tA k) sz)) (qAi dC dI a k (va_A (wA a k σ) sz) q) 0 0 (va_A (wA a k σ) sz)) {r_X8_parseItems : Int32 → Int32 → Int32 → ST → Option (Int32 × ST)} (hr_X8_parseItems : ∀ {sz : Nat} {p0 : Int32} {p1 : Int32} {p2 : Int32} {σ : ST} {q : Int32 × ST}, r_X8_parseItems  p0 p1 p2 σ = some q → Met l yX8_parseItems (.code yX8_parseItems cX8_parseItems 5 (some .boolean) :: pw) ({ frames := 4 + nn, cells := 0, slots := 0, locals := 91 + 29 * nn } : Room) (va_Pc [.ref (a 86), .int p0, .int p1, .int p2] (vPre dC dI (wA a k σ) (tA k) sz)) (qAi dC dI a k (va_A (wA a k σ) sz) q) 0 0 (va_A (wA a k σ) sz)) {r_X8_parseValue : Int32 → Int32 → Int32 → Int32 → ST → Option (Int32 × ST)} (hr_X8_parseValue : ∀ {sz : Nat} {p0 : Int32} {p1 : Int32} {p2 : Int32} {p3 : Int32} {σ : ST} {q : Int32 × ST}, r_X8_parseValue  p0 p1 p2 p3 σ = some q → Met l yX8_parseValue (.code yX8_parseValue cX8_parseValue 10 (some .boolean) :: pw) ({ frames := 4 + nn, cells := 0, slots := 0, locals := 91 + 29 * nn } : Room) (va_Pc [.ref (a 86), .int p0, .int p1, .int p2, .int p3] (vPre dC dI (wA a k σ) (tA k) sz)) (qAi dC dI a k (va_A (wA a k σ) sz) q) 0 0 (va_A (wA a k σ) sz))  {p0 : Int32} {p1 : Int32} {p2 : Int32} {p3 : Int32} {σ : ST} (h : f_X8_parseValue r_X8_parseFields r_X8_parseItems r_X8_parseValue p0 p1 p2 p3 σ = some q) : GoA p l e ({ frames := 4 + (nn + 1), cells := 0, slots := 0, locals := 91 + 29 * (nn + 1) } : Room) s m args below meth c (MQ below (qAi dC dI a k A q) args s 0 0 A) dC dI a k A 10 0 σ (lv_args 0 [.ref (a 86), .int p0, .int p1, .int p2, .int p3]) [] := by
  have hC0 := hC
  obtain ⟨hx, hb, hr, hml, hown, hts, hlocks, hA, hN, hK⟩ := hC0
  intro H locs ls hP hD hS hl
  have hD0 : ∀ σ1 : ST, va_D A (wA a k σ1) := fun σ1 => wA_D hD
  replace hl : lv_has ls 10 [(0, .ref (a 86)), (1, .int p0), (2, .int p1), (3, .int p2), (4, .int p3)] := hl
  unfold f_X8_parseValue at h
  refine lv_aload_n hx hb dX8_parseValue_0 rfl (lv_at hl 0 rfl) ?_
  refine va_get (D := (dC, dI)) (ci := 8) (C := RX8) (T := TX8) (N := 3) hx hb hts inlX8 hown hK hP 86 gA_86 rfl 0 (by decide) (hts (.fieldLink RX8 9 "ShapeReader$ValueText" "tokens" "LShapeReader$Tokens;") mw_19_5) (fun _ h9 => h9) rfl dX8_parseValue_1 ?_
  obtain ⟨q1, hc, h⟩ := ib h
  have hF := va_frees hD hS hA
  refine va_calli (va_runV (As := []) (rest := []) ⟨hx, hb, hml, hown, hts⟩ (s_X6_beginsLiteral hc) (cwV 0 hts (gV mw_19_14 mw_10_6 mw_10_7 mw_0_10 mw_51_16) rfl rfl rfl (by decide +kernel) ⟨by show 1 + 1 ≤ 4 + (nn + 1); omega, by show 8 + (1 + 11) + 21 ≤ 91 + 29 * (nn + 1); omega⟩) (vV (ci := 6) (q0 := 2) hK hP hD hN rfl gA_2) rfl rfl hl.1 rfl (lv_room (Nat.le_of_ble_eq_true rfl)) dX8_parseValue_4 ⟨(Nat.le_of_ble_eq_true rfl), (Nat.le_of_ble_eq_true rfl)⟩) hS (fun q _ h => hF q h) hF (fun r2 u t H locs ht hvm hw hB _ _ hS => ?_)
  obtain rfl : r2 = q1.1 := hw
  replace hP : va_P (dC, dI) vwCl (wA a k q1.2) H := by rw [← ht]; exact hB.1
  replace hD := hD0 (q1.2)
  clear hB hF
  refine lv_if_ne (tgt := 31) hx hb dX8_parseValue_7 (by decide) (fun hc => ?_) (fun hc => ?_)
  · replace h := iq hc h
    exact b_X8_parseValue_31 hC hr_X8_parseFields hr_X8_parseItems hr_X8_parseValue h _ _ _ hP hD hS (lv_sub hl [0, 1, 2, 3, 4] rfl)
  · replace h := ip hc h
    refine lv_aload_n hx hb dX8_parseValue_10 rfl (lv_at hl 0 rfl) ?_
    refine va_get (D := (dC, dI)) (ci := 8) (C := RX8) (T := TX8) (N := 3) hx hb hts inlX8 hown hK hP 86 gA_86 rfl 0 (by decide) (hts (.fieldLink RX8 9 "ShapeReader$ValueText" "tokens" "LShapeReader$Tokens;") mw_19_5) (fun _ h9 => h9) rfl dX8_parseValue_11 ?_
    refine va_get (D := (dC, dI)) (ci := 6) (C := RX6) (T := TX6) (N := 14) hx hb hts inlX6 hown hK hP 2 gA_2 rfl 4 (by decide) (hts (.fieldLink RX8 32 "ShapeReader$Tokens" "kind" "I") mw_19_12) (fun _ h9 => h9) rfl dX8_parseValue_14 ?_
    refine lv_bipush (v := 123) hx hb dX8_parseValue_17 (by decide) ?_
    refine lv_icmp_eq (tgt := 31) hx hb dX8_parseValue_19 (by decide) (fun hc => ?_) (fun hc => ?_)
    · replace h := ip hc h
      exact b_X8_parseValue_31 hC hr_X8_parseFields hr_X8_parseItems hr_X8_parseValue h _ _ _ hP hD hS (lv_sub hl [0, 1, 2, 3, 4] rfl)
    · replace h := iq hc h
      refine lv_aload_n hx hb dX8_parseValue_22 rfl (lv_at hl 0 rfl) ?_
      refine va_get (D := (dC, dI)) (ci := 8) (C := RX8) (T := TX8) (N := 3) hx hb hts inlX8 hown hK hP 86 gA_86 rfl 0 (by decide) (hts (.fieldLink RX8 9 "ShapeReader$ValueText" "tokens" "LShapeReader$Tokens;") mw_19_5) (fun _ h9 => h9) rfl dX8_parseValue_23 ?_
      refine lv_iconst (v := 1) hx hb dX8_parseValue_26 (by decide) ?_
      obtain ⟨q3, hc, h⟩ := ib h
      have hF := va_frees hD hS hA
      refine va_calli (va_runV (As := [.int 1]) (rest := []) ⟨hx, hb, hml, hown, hts⟩ (s_X6_refuse hc) (cwV 1 hts (gV mw_19_13 mw_7_15 mw_7_16 mw_0_10 mw_51_4) rfl rfl rfl (by decide +kernel) ⟨by show 1 + 1 ≤ 4 + (nn + 1); omega, by show 8 + (2 + 11) + 22 ≤ 91 + 29 * (nn + 1); omega⟩) (vV (ci := 6) (q0 := 2) hK hP hD hN rfl gA_2) rfl rfl hl.1 rfl (lv_room (Nat.le_of_ble_eq_true rfl)) dX8_parseValue_27 ⟨(Nat.le_of_ble_eq_true rfl), (Nat.le_of_ble_eq_true rfl)⟩) hS (fun q _ h => hF q h) hF (fun r4 u t H locs ht hvm hw hB _ _ hS => ?_)
      obtain rfl : r4 = q3.1 := hw
      replace hP : va_P (dC, dI) vwCl (wA a k q3.2) H := by rw [← ht]; exact hB.1
      replace hD := hD0 (q3.2)
      clear hB hF
      obtain ⟨hg, h⟩ := ig h
      obtain rfl := Option.some.inj h
      exact W.zret hx hb hr (zn hg) (fun t ht hW => ⟨⟨_, (), rfl, rfl, ⟨by rw [ht]; exact hP, va_K.moved hW.alike hK, hD⟩⟩, hS.F ht⟩) hS.2.2 dX8_parseValue_30


set_option maxRecDepth 100000 in
set_option maxHeartbeats 4000000 in
theorem s_R_X8_parseFields {l : Launch} {dC : Nat → ClassId} {dI : Nat → Nat → Nat} {a : Nat → Nat} {k : Nat → ClassId} : ∀ n : Nat, (∀ {sz : Nat} {p0 : Int32} {p1 : Int32} {p2 : Int32} {σ : ST} {q : Int32 × ST}, (R_X8_parseFields n).1 p0 p1 p2 σ = some q → Met l yX8_parseFields (.code yX8_parseFields cX8_parseFields 8 (some .boolean) :: pw) ({ frames := 4 + n, cells := 0, slots := 0, locals := 91 + 29 * n } : Room) (va_Pc [.ref (a 86), .int p0, .int p1, .int p2] (vPre dC dI (wA a k σ) (tA k) sz)) (qAi dC dI a k (va_A (wA a k σ) sz) q) 0 0 (va_A (wA a k σ) sz)) ∧ (∀ {sz : Nat} {p0 : Int32} {p1 : Int32} {p2 : Int32} {σ : ST} {q : Int32 × ST}, (R_X8_parseFields n).2.1 p0 p1 p2 σ = some q → Met l yX8_parseItems (.code yX8_parseItems cX8_parseItems 5 (some .boolean) :: pw) ({ frames := 4 + n, cells := 0, slots := 0, locals := 91 + 29 * n } : Room) (va_Pc [.ref (a 86), .int p0, .int p1, .int p2] (vPre dC dI (wA a k σ) (tA k) sz)) (qAi dC dI a k (va_A (wA a k σ) sz) q) 0 0 (va_A (wA a k σ) sz)) ∧ (∀ {sz : Nat} {p0 : Int32} {p1 : Int32} {p2 : Int32} {p3 : Int32} {σ : ST} {q : Int32 × ST}, (R_X8_parseFields n).2.2 p0 p1 p2 p3 σ = some q → Met l yX8_parseValue (.code yX8_parseValue cX8_parseValue 10 (some .boolean) :: pw) ({ frames := 4 + n, cells := 0, slots := 0, locals := 91 + 29 * n } : Room) (va_Pc [.ref (a 86), .int p0, .int p1, .int p2, .int p3] (vPre dC dI (wA a k σ) (tA k) sz)) (qAi dC dI a k (va_A (wA a k σ) sz) q) 0 0 (va_A (wA a k σ) sz)) := by
  intro n
  induction n with
  | zero => exact ⟨(fun h => nomatch h), (fun h => nomatch h), (fun h => nomatch h)⟩
  | succ n ih => exact ⟨(fun h => metA (fun A => qAi dC dI a k A _) (plainFor_of_name (by decide)) (Nat.le_of_ble_eq_true rfl) (fun _ _ _ _ _ _ _ _ hC => b_X8_parseFields_e hC ih.1 ih.2.1 ih.2.2 h)), (fun h => metA (fun A => qAi dC dI a k A _) (plainFor_of_name (by decide)) (Nat.le_of_ble_eq_true rfl) (fun _ _ _ _ _ _ _ _ hC => b_X8_parseItems_e hC ih.1 ih.2.1 ih.2.2 h)), (fun h => metA (fun A => qAi dC dI a k A _) (plainFor_of_name (by decide)) (Nat.le_of_ble_eq_true rfl) (fun _ _ _ _ _ _ _ _ hC => b_X8_parseValue_e hC ih.1 ih.2.1 ih.2.2 h))⟩
theorem s_X8_parseFields {l : Launch} {dC : Nat → ClassId} {dI : Nat → Nat → Nat} {a : Nat → Nat} {k : Nat → ClassId} {sz : Nat} {p0 : Int32} {p1 : Int32} {p2 : Int32} {σ : ST} {q : Int32 × ST} (h : f_T_X8_parseFields p0 p1 p2 σ = some q) : Met l yX8_parseFields (.code yX8_parseFields cX8_parseFields 8 (some .boolean) :: pw) ({ frames := 164, cells := 0, slots := 0, locals := 4731 } : Room) (va_Pc [.ref (a 86), .int p0, .int p1, .int p2] (vPre dC dI (wA a k σ) (tA k) sz)) (qAi dC dI a k (va_A (wA a k σ) sz) q) 0 0 (va_A (wA a k σ) sz) := (s_R_X8_parseFields FR).1 h
theorem s_X8_parseItems {l : Launch} {dC : Nat → ClassId} {dI : Nat → Nat → Nat} {a : Nat → Nat} {k : Nat → ClassId} {sz : Nat} {p0 : Int32} {p1 : Int32} {p2 : Int32} {σ : ST} {q : Int32 × ST} (h : f_T_X8_parseItems p0 p1 p2 σ = some q) : Met l yX8_parseItems (.code yX8_parseItems cX8_parseItems 5 (some .boolean) :: pw) ({ frames := 164, cells := 0, slots := 0, locals := 4731 } : Room) (va_Pc [.ref (a 86), .int p0, .int p1, .int p2] (vPre dC dI (wA a k σ) (tA k) sz)) (qAi dC dI a k (va_A (wA a k σ) sz) q) 0 0 (va_A (wA a k σ) sz) := (s_R_X8_parseFields FR).2.1 h
theorem s_X8_parseValue {l : Launch} {dC : Nat → ClassId} {dI : Nat → Nat → Nat} {a : Nat → Nat} {k : Nat → ClassId} {sz : Nat} {p0 : Int32} {p1 : Int32} {p2 : Int32} {p3 : Int32} {σ : ST} {q : Int32 × ST} (h : f_T_X8_parseValue p0 p1 p2 p3 σ = some q) : Met l yX8_parseValue (.code yX8_parseValue cX8_parseValue 10 (some .boolean) :: pw) ({ frames := 164, cells := 0, slots := 0, locals := 4731 } : Room) (va_Pc [.ref (a 86), .int p0, .int p1, .int p2, .int p3] (vPre dC dI (wA a k σ) (tA k) sz)) (qAi dC dI a k (va_A (wA a k σ) sz) q) 0 0 (va_A (wA a k σ) sz) := (s_R_X8_parseFields FR).2.2 h

def f_X8_parse_41 (σ : ST) : Option (Int32 × ST) := some (1, σ)
def f_X8_parse (p0 : Int32) (σ : ST) : Option (Int32 × ST) := (f_X7_clear 62  σ).bind fun q1 => (f_T_X8_parseValue  p0 (-1) 0 0 q1).bind fun q3 => if q3.1 = 0 then (some (0, q3.2)) else (if (q3.2.1 2 4) = 0 then (f_X8_parse_41   q3.2) else ((f_X6_refuse  1 q3.2).bind fun q5 => if q5.1 = 0 then (some (0, q5.2)) else (f_X8_parse_41   q5.2)))

set_option maxRecDepth 100000 in
set_option maxHeartbeats 4000000 in
theorem b_X8_parse_41 {p : Program} {l : Launch} {e : Env} {s : State} {m : MethodId} {args : Array Value} {below : List Frame} {meth : Method} {c : Code} {dC : Nat → ClassId} {dI : Nat → Nat → Nat} {a : Nat → Nat} {k : Nat → ClassId} {A : Nat → Prop} {q : Int32 × ST} (hC : CxA p s m args meth c dC dI k A cX8_parse RX8 (some .boolean) 2)    {σ : ST} (h : f_X8_parse_41   σ = some q) : GoA p l e ({ frames := 165, cells := 0, slots := 0, locals := 4760 } : Room) s m args below meth c (MQ below (qAi dC dI a k A q) args s 0 0 A) dC dI a k A 2 41 σ [] [] := by
  have hC0 := hC
  obtain ⟨hx, hb, hr, hml, hown, hts, hlocks, hA, hN, hK⟩ := hC0
  intro H locs ls hP hD hS hl
  have hD0 : ∀ σ1 : ST, va_D A (wA a k σ1) := fun σ1 => wA_D hD
  unfold f_X8_parse_41 at h
  refine lv_iconst (v := 1) hx hb dX8_parse_41 (by decide) ?_
  refine lv_goto (tgt := 46) hx hb dX8_parse_42 (by decide) ?_
  obtain rfl := Option.some.inj h
  exact W.zret hx hb hr rfl (fun t ht hW => ⟨⟨_, (), rfl, rfl, ⟨by rw [ht]; exact hP, va_K.moved hW.alike hK, hD⟩⟩, hS.F ht⟩) hS.2.2 dX8_parse_46

set_option maxRecDepth 100000 in
set_option maxHeartbeats 4000000 in
theorem b_X8_parse_e {p : Program} {l : Launch} {e : Env} {s : State} {m : MethodId} {args : Array Value} {below : List Frame} {meth : Method} {c : Code} {dC : Nat → ClassId} {dI : Nat → Nat → Nat} {a : Nat → Nat} {k : Nat → ClassId} {A : Nat → Prop} {q : Int32 × ST} (hC : CxA p s m args meth c dC dI k A cX8_parse RX8 (some .boolean) 2)   {p0 : Int32} {σ : ST} (h : f_X8_parse  p0 σ = some q) : GoA p l e ({ frames := 165, cells := 0, slots := 0, locals := 4760 } : Room) s m args below meth c (MQ below (qAi dC dI a k A q) args s 0 0 A) dC dI a k A 2 0 σ (lv_args 0 [.ref (a 86), .int p0]) [] := by
  have hC0 := hC
  obtain ⟨hx, hb, hr, hml, hown, hts, hlocks, hA, hN, hK⟩ := hC0
  intro H locs ls hP hD hS hl
  have hD0 : ∀ σ1 : ST, va_D A (wA a k σ1) := fun σ1 => wA_D hD
  replace hl : lv_has ls 2 [(0, .ref (a 86)), (1, .int p0)] := hl
  unfold f_X8_parse at h
  refine lv_aload_n hx hb dX8_parse_0 rfl (lv_at hl 0 rfl) ?_
  refine va_get (D := (dC, dI)) (ci := 8) (C := RX8) (T := TX8) (N := 3) hx hb hts inlX8 hown hK hP 86 gA_86 rfl 2 (by decide) (hts (.fieldLink RX8 19 "ShapeReader$ValueText" "tree" "LShapeReader$Tree;") mw_19_7) (fun _ h9 => h9) rfl dX8_parse_1 ?_
  obtain ⟨q1, hc, h⟩ := ib h
  have hF := va_frees hD hS hA
  refine va_callv (va_runV (As := []) (rest := []) ⟨hx, hb, hml, hown, hts⟩ (s_X7_clear_62 hc) (cwV 0 hts (gV mw_19_8 mw_11_6 mw_11_7 mw_0_11 mw_51_23) rfl rfl rfl (by decide +kernel) ⟨(Nat.le_of_ble_eq_true rfl), (Nat.le_of_ble_eq_true rfl)⟩) (vV (ci := 7) (q0 := 62) hK hP hD hN rfl gA_62) rfl rfl hl.1 rfl (lv_room (Nat.le_of_ble_eq_true rfl)) dX8_parse_4 ⟨(Nat.le_of_ble_eq_true rfl), (Nat.le_of_ble_eq_true rfl)⟩) hS (fun q _ h => hF q h) hF (fun u t H locs ht hvm hw hB _ _ hS => ?_)
  replace hP : va_P (dC, dI) vwCl (wA a k q1) H := by rw [← ht]; exact hB.1
  replace hD := hD0 (q1)
  clear hB hF
  refine lv_aload_n hx hb dX8_parse_7 rfl (lv_at hl 0 rfl) ?_
  refine lv_iload_n hx hb dX8_parse_8 rfl (lv_at hl 1 rfl) ?_
  refine lv_iconst (v := (-1)) hx hb dX8_parse_9 (by decide) ?_
  refine lv_iconst (v := 0) hx hb dX8_parse_10 (by decide) ?_
  refine lv_iconst (v := 0) hx hb dX8_parse_11 (by decide) ?_
  obtain ⟨q3, hc, h⟩ := ib h
  have hF := va_frees hD hS hA
  refine va_calli (va_runV (As := [.int p0, .int (-1), .int 0, .int 0]) (rest := []) ⟨hx, hb, hml, hown, hts⟩ (s_X8_parseValue hc) (cwV 4 hts (gV mw_19_9 mw_19_10 mw_19_11 mw_0_12 mw_52_14) rfl rfl rfl (by decide +kernel) ⟨(Nat.le_of_ble_eq_true rfl), (Nat.le_of_ble_eq_true rfl)⟩) (vV (ci := 8) (q0 := 86) hK hP hD hN rfl gA_86) rfl rfl hl.1 rfl (lv_room (Nat.le_of_ble_eq_true rfl)) dX8_parse_12 ⟨(Nat.le_of_ble_eq_true rfl), (Nat.le_of_ble_eq_true rfl)⟩) hS (fun q _ h => hF q h) hF (fun r4 u t H locs ht hvm hw hB _ _ hS => ?_)
  obtain rfl : r4 = q3.1 := hw
  replace hP : va_P (dC, dI) vwCl (wA a k q3.2) H := by rw [← ht]; exact hB.1
  replace hD := hD0 (q3.2)
  clear hB hF
  refine lv_if_ne (tgt := 20) hx hb dX8_parse_15 (by decide) (fun hc => ?_) (fun hc => ?_)
  · replace h := iq hc h
    refine lv_aload_n hx hb dX8_parse_20 rfl (lv_at hl 0 rfl) ?_
    refine va_get (D := (dC, dI)) (ci := 8) (C := RX8) (T := TX8) (N := 3) hx hb hts inlX8 hown hK hP 86 gA_86 rfl 0 (by decide) (hts (.fieldLink RX8 9 "ShapeReader$ValueText" "tokens" "LShapeReader$Tokens;") mw_19_5) (fun _ h9 => h9) rfl dX8_parse_21 ?_
    refine va_get (D := (dC, dI)) (ci := 6) (C := RX6) (T := TX6) (N := 14) hx hb hts inlX6 hown hK hP 2 gA_2 rfl 4 (by decide) (hts (.fieldLink RX8 32 "ShapeReader$Tokens" "kind" "I") mw_19_12) (fun _ h9 => h9) rfl dX8_parse_24 ?_
    refine lv_if_eq (tgt := 41) hx hb dX8_parse_27 (by decide) (fun hc => ?_) (fun hc => ?_)
    · replace h := ip hc h
      exact b_X8_parse_41 hC h _ _ _ hP hD hS (lv_sub hl [] rfl)
    · replace h := iq hc h
      refine lv_aload_n hx hb dX8_parse_30 rfl (lv_at hl 0 rfl) ?_
      refine va_get (D := (dC, dI)) (ci := 8) (C := RX8) (T := TX8) (N := 3) hx hb hts inlX8 hown hK hP 86 gA_86 rfl 0 (by decide) (hts (.fieldLink RX8 9 "ShapeReader$ValueText" "tokens" "LShapeReader$Tokens;") mw_19_5) (fun _ h9 => h9) rfl dX8_parse_31 ?_
      refine lv_iconst (v := 1) hx hb dX8_parse_34 (by decide) ?_
      obtain ⟨q5, hc, h⟩ := ib h
      have hF := va_frees hD hS hA
      refine va_calli (va_runV (As := [.int 1]) (rest := []) ⟨hx, hb, hml, hown, hts⟩ (s_X6_refuse hc) (cwV 1 hts (gV mw_19_13 mw_7_15 mw_7_16 mw_0_10 mw_51_4) rfl rfl rfl (by decide +kernel) ⟨(Nat.le_of_ble_eq_true rfl), (Nat.le_of_ble_eq_true rfl)⟩) (vV (ci := 6) (q0 := 2) hK hP hD hN rfl gA_2) rfl rfl hl.1 rfl (lv_room (Nat.le_of_ble_eq_true rfl)) dX8_parse_35 ⟨(Nat.le_of_ble_eq_true rfl), (Nat.le_of_ble_eq_true rfl)⟩) hS (fun q _ h => hF q h) hF (fun r6 u t H locs ht hvm hw hB _ _ hS => ?_)
      obtain rfl : r6 = q5.1 := hw
      replace hP : va_P (dC, dI) vwCl (wA a k q5.2) H := by rw [← ht]; exact hB.1
      replace hD := hD0 (q5.2)
      clear hB hF
      refine lv_if_eq (tgt := 45) hx hb dX8_parse_38 (by decide) (fun hc => ?_) (fun hc => ?_)
      · replace h := ip hc h
        refine lv_iconst (v := 0) hx hb dX8_parse_45 (by decide) ?_
        obtain rfl := Option.some.inj h
        exact W.zret hx hb hr rfl (fun t ht hW => ⟨⟨_, (), rfl, rfl, ⟨by rw [ht]; exact hP, va_K.moved hW.alike hK, hD⟩⟩, hS.F ht⟩) hS.2.2 dX8_parse_46
      · replace h := iq hc h
        exact b_X8_parse_41 hC h _ _ _ hP hD hS (lv_sub hl [] rfl)
  · replace h := ip hc h
    refine lv_iconst (v := 0) hx hb dX8_parse_18 (by decide) ?_
    obtain rfl := Option.some.inj h
    exact W.zret hx hb hr rfl (fun t ht hW => ⟨⟨_, (), rfl, rfl, ⟨by rw [ht]; exact hP, va_K.moved hW.alike hK, hD⟩⟩, hS.F ht⟩) hS.2.2 dX8_parse_19

theorem s_X8_parse {l : Launch} {dC : Nat → ClassId} {dI : Nat → Nat → Nat} {a : Nat → Nat} {k : Nat → ClassId} {sz : Nat} {p0 : Int32} {σ : ST} {q : Int32 × ST} (h : f_X8_parse  p0 σ = some q) : Met l yX8_parse (.code yX8_parse cX8_parse 2 (some .boolean) :: pw) ({ frames := 165, cells := 0, slots := 0, locals := 4760 } : Room) (va_Pc [.ref (a 86), .int p0] (vPre dC dI (wA a k σ) (tA k) sz)) (qAi dC dI a k (va_A (wA a k σ) sz) q) 0 0 (va_A (wA a k σ) sz) := metA (fun A => qAi dC dI a k A q) (plainFor_of_name (by decide)) (Nat.le_of_ble_eq_true rfl) (fun _ _ _ _ _ _ _ _ hC => b_X8_parse_e hC h)
