theorem dX11_readsAll_0 : decode cX11_readsAll 0 = .ok (.aload_n 0, 1) := by decide +kernel
theorem dX11_readsAll_1 : decode cX11_readsAll 1 = .ok (.aload_n 0, 1) := by decide +kernel
theorem dX11_readsAll_2 : decode cX11_readsAll 2 = .ok (.getfield 106, 3) := by decide +kernel
theorem dX11_readsAll_5 : decode cX11_readsAll 5 = .ok (.iload_n 1, 1) := by decide +kernel
theorem dX11_readsAll_6 : decode cX11_readsAll 6 = .ok (.iaload, 1) := by decide +kernel
theorem dX11_readsAll_7 : decode cX11_readsAll 7 = .ok (.iload_n 2, 1) := by decide +kernel
theorem dX11_readsAll_8 : decode cX11_readsAll 8 = .ok (.invokevirtual 530, 3) := by decide +kernel
theorem dX11_readsAll_11 : decode cX11_readsAll 11 = .ok (.aload_n 0, 1) := by decide +kernel
theorem dX11_readsAll_12 : decode cX11_readsAll 12 = .ok (.iconst 0, 1) := by decide +kernel
theorem dX11_readsAll_13 : decode cX11_readsAll 13 = .ok (.putfield 539, 3) := by decide +kernel
theorem dX11_readsAll_16 : decode cX11_readsAll 16 = .ok (.aload_n 0, 1) := by decide +kernel
theorem dX11_readsAll_17 : decode cX11_readsAll 17 = .ok (.getfield 115, 3) := by decide +kernel
theorem dX11_readsAll_20 : decode cX11_readsAll 20 = .ok (.iconst 0, 1) := by decide +kernel
theorem dX11_readsAll_21 : decode cX11_readsAll 21 = .ok (.baload, 1) := by decide +kernel
theorem dX11_readsAll_22 : decode cX11_readsAll 22 = .ok (.ifCond .ne 6, 3) := by decide +kernel
theorem dX11_readsAll_25 : decode cX11_readsAll 25 = .ok (.bipush (-2), 2) := by decide +kernel
theorem dX11_readsAll_27 : decode cX11_readsAll 27 = .ok (.ireturn, 1) := by decide +kernel
theorem dX11_readsAll_28 : decode cX11_readsAll 28 = .ok (.aload_n 0, 1) := by decide +kernel
theorem dX11_readsAll_29 : decode cX11_readsAll 29 = .ok (.sipush 400, 3) := by decide +kernel
theorem dX11_readsAll_32 : decode cX11_readsAll 32 = .ok (.iload_n 1, 1) := by decide +kernel
theorem dX11_readsAll_33 : decode cX11_readsAll 33 = .ok (.imul, 1) := by decide +kernel
theorem dX11_readsAll_34 : decode cX11_readsAll 34 = .ok (.putfield 557, 3) := by decide +kernel
theorem dX11_readsAll_37 : decode cX11_readsAll 37 = .ok (.aload_n 0, 1) := by decide +kernel
theorem dX11_readsAll_38 : decode cX11_readsAll 38 = .ok (.iconst 0, 1) := by decide +kernel
theorem dX11_readsAll_39 : decode cX11_readsAll 39 = .ok (.putfield 548, 3) := by decide +kernel
theorem dX11_readsAll_42 : decode cX11_readsAll 42 = .ok (.aload_n 0, 1) := by decide +kernel
theorem dX11_readsAll_43 : decode cX11_readsAll 43 = .ok (.aload_n 0, 1) := by decide +kernel
theorem dX11_readsAll_44 : decode cX11_readsAll 44 = .ok (.getfield 109, 3) := by decide +kernel
theorem dX11_readsAll_47 : decode cX11_readsAll 47 = .ok (.iload_n 1, 1) := by decide +kernel
theorem dX11_readsAll_48 : decode cX11_readsAll 48 = .ok (.iaload, 1) := by decide +kernel
theorem dX11_readsAll_49 : decode cX11_readsAll 49 = .ok (.putfield 551, 3) := by decide +kernel
theorem dX11_readsAll_52 : decode cX11_readsAll 52 = .ok (.aload_n 0, 1) := by decide +kernel
theorem dX11_readsAll_53 : decode cX11_readsAll 53 = .ok (.iconst 0, 1) := by decide +kernel
theorem dX11_readsAll_54 : decode cX11_readsAll 54 = .ok (.putfield 516, 3) := by decide +kernel
theorem dX11_readsAll_57 : decode cX11_readsAll 57 = .ok (.aload_n 0, 1) := by decide +kernel
theorem dX11_readsAll_58 : decode cX11_readsAll 58 = .ok (.iconst 0, 1) := by decide +kernel
theorem dX11_readsAll_59 : decode cX11_readsAll 59 = .ok (.putfield 413, 3) := by decide +kernel
theorem dX11_readsAll_62 : decode cX11_readsAll 62 = .ok (.aload_n 0, 1) := by decide +kernel
theorem dX11_readsAll_63 : decode cX11_readsAll 63 = .ok (.invokevirtual 477, 3) := by decide +kernel
theorem dX11_readsAll_66 : decode cX11_readsAll 66 = .ok (.istore_n 3, 1) := by decide +kernel
theorem dX11_readsAll_67 : decode cX11_readsAll 67 = .ok (.aload_n 0, 1) := by decide +kernel
theorem dX11_readsAll_68 : decode cX11_readsAll 68 = .ok (.iload_n 3, 1) := by decide +kernel
theorem dX11_readsAll_69 : decode cX11_readsAll 69 = .ok (.iload_n 3, 1) := by decide +kernel
theorem dX11_readsAll_70 : decode cX11_readsAll 70 = .ok (.iconst 0, 1) := by decide +kernel
theorem dX11_readsAll_71 : decode cX11_readsAll 71 = .ok (.iconst (-1), 1) := by decide +kernel
theorem dX11_readsAll_72 : decode cX11_readsAll 72 = .ok (.iconst 0, 1) := by decide +kernel
theorem dX11_readsAll_73 : decode cX11_readsAll 73 = .ok (.invokevirtual 581, 3) := by decide +kernel
theorem dX11_readsAll_76 : decode cX11_readsAll 76 = .ok (.istore 4, 2) := by decide +kernel
theorem dX11_readsAll_78 : decode cX11_readsAll 78 = .ok (.iload 4, 2) := by decide +kernel
theorem dX11_readsAll_80 : decode cX11_readsAll 80 = .ok (.ifCond .eq 26, 3) := by decide +kernel
theorem dX11_readsAll_83 : decode cX11_readsAll 83 = .ok (.aload_n 0, 1) := by decide +kernel
theorem dX11_readsAll_84 : decode cX11_readsAll 84 = .ok (.getfield 548, 3) := by decide +kernel
theorem dX11_readsAll_87 : decode cX11_readsAll 87 = .ok (.aload_n 0, 1) := by decide +kernel
theorem dX11_readsAll_88 : decode cX11_readsAll 88 = .ok (.getfield 551, 3) := by decide +kernel
theorem dX11_readsAll_91 : decode cX11_readsAll 91 = .ok (.if_icmp .ge 15, 3) := by decide +kernel
theorem dX11_readsAll_94 : decode cX11_readsAll 94 = .ok (.aload_n 0, 1) := by decide +kernel
theorem dX11_readsAll_95 : decode cX11_readsAll 95 = .ok (.bipush 14, 2) := by decide +kernel
theorem dX11_readsAll_97 : decode cX11_readsAll 97 = .ok (.aload_n 0, 1) := by decide +kernel
theorem dX11_readsAll_98 : decode cX11_readsAll 98 = .ok (.getfield 548, 3) := by decide +kernel
theorem dX11_readsAll_101 : decode cX11_readsAll 101 = .ok (.invokevirtual 554, 3) := by decide +kernel
theorem dX11_readsAll_104 : decode cX11_readsAll 104 = .ok (.istore 4, 2) := by decide +kernel
theorem dX11_readsAll_106 : decode cX11_readsAll 106 = .ok (.iload 4, 2) := by decide +kernel
theorem dX11_readsAll_108 : decode cX11_readsAll 108 = .ok (.ifCond .eq 7, 3) := by decide +kernel
theorem dX11_readsAll_111 : decode cX11_readsAll 111 = .ok (.iconst 0, 1) := by decide +kernel
theorem dX11_readsAll_112 : decode cX11_readsAll 112 = .ok (.goto 5, 3) := by decide +kernel
theorem dX11_readsAll_115 : decode cX11_readsAll 115 = .ok (.bipush (-3), 2) := by decide +kernel
theorem dX11_readsAll_117 : decode cX11_readsAll 117 = .ok (.ireturn, 1) := by decide +kernel
def f_X11_reads_96 (r_X11_reads : Int32 → Int32 → Int32 → Int32 → Int32 → ST → Option (Int32 × ST)) (r_X11_readsItems : Int32 → Int32 → Int32 → Int32 → ST → Option (Int32 × ST)) (r_X11_readsRecord : Int32 → Int32 → Int32 → Int32 → ST → Option (Int32 × ST)) (x2 : Int32) (x3 : Int32) (x4 : Int32) (x5 : Int32) (x7 : Int32) (x8 : Int32) (σ : ST) : Option (Int32 × ST) := (f_X11_enters  (200 + x7) σ).bind fun q1 => (r_X11_reads  x8 x2 x3 x4 x5 q1).bind fun q3 => if q3.1 = 0 ∨ q3.1 = 1 then some (q3.1, (stI q3.2 0 57 ((q3.2.1 0 57) - 1))) else none
def f_X11_reads_227 (r_X11_reads : Int32 → Int32 → Int32 → Int32 → Int32 → ST → Option (Int32 × ST)) (r_X11_readsItems : Int32 → Int32 → Int32 → Int32 → ST → Option (Int32 × ST)) (r_X11_readsRecord : Int32 → Int32 → Int32 → Int32 → ST → Option (Int32 × ST)) (x1 : Int32) (x3 : Int32) (x8 : Int32) (x9 : Int32) (σ : ST) : Option (Int32 × ST) := if 0 ≤ x1.toInt ∧ x1.toInt < 800 then (if (σ.1 2 x1.toNatClampNeg) = 6 then ((r_X11_readsItems  x1 x8 x3 x9 σ).bind fun q4 => if q4.1 = 0 ∨ q4.1 = 1 then some (q4.1, q4.2) else none) else (if (σ.1 2 x1.toNatClampNeg) = 7 then ((r_X11_readsRecord  x1 x8 x3 x9 σ).bind fun q6 => if q6.1 = 0 ∨ q6.1 = 1 then some (q6.1, q6.2) else none) else ((f_X11_readsLeaf  x1 x8 x9 σ).bind fun q8 => if q8.1 = 0 ∨ q8.1 = 1 then some (q8.1, q8.2) else none))) else none
def f_X11_reads_180 (r_X11_reads : Int32 → Int32 → Int32 → Int32 → Int32 → ST → Option (Int32 × ST)) (r_X11_readsItems : Int32 → Int32 → Int32 → Int32 → ST → Option (Int32 × ST)) (r_X11_readsRecord : Int32 → Int32 → Int32 → Int32 → ST → Option (Int32 × ST)) (x1 : Int32) (x3 : Int32) (x4 : Int32) (x5 : Int32) (x7 : Int32) (y0 : Int32) (σ : ST) : Option (Int32 × ST) := if y0 < 0 then (f_X11_reads_227 r_X11_reads r_X11_readsItems r_X11_readsRecord x1 x3 y0 (-1) σ) else (if (σ.1 0 46) = 400 then ((f_X11_fails  15 (-1) σ).bind fun q4 => if q4.1 = 0 ∨ q4.1 = 1 then some (q4.1, q4.2) else none) else (if 0 ≤ y0.toInt ∧ y0.toInt < 800 then ((f_X11_laysNode  (σ.1 2 y0.toNatClampNeg) x4 x5 x7 σ).bind fun q2 => f_X11_reads_227 r_X11_reads r_X11_readsItems r_X11_readsRecord x1 x3 y0 q2.1 q2.2) else none))
def f_X11_reads_158 (r_X11_reads : Int32 → Int32 → Int32 → Int32 → Int32 → ST → Option (Int32 × ST)) (r_X11_readsItems : Int32 → Int32 → Int32 → Int32 → ST → Option (Int32 × ST)) (r_X11_readsRecord : Int32 → Int32 → Int32 → Int32 → ST → Option (Int32 × ST)) (x1 : Int32) (x2 : Int32) (x3 : Int32) (x4 : Int32) (x5 : Int32) (y0 : Int32) (σ : ST) : Option (Int32 × ST) := if 0 ≤ y0 then (if 0 ≤ ((4 * x2) + y0).toInt ∧ ((4 * x2) + y0).toInt < 3200 then (f_X11_reads_180 r_X11_reads r_X11_readsItems r_X11_readsRecord x1 x3 x4 x5 y0 (σ.1 5 ((4 * x2) + y0).toNatClampNeg) σ) else none) else (f_X11_reads_180 r_X11_reads r_X11_readsItems r_X11_readsRecord x1 x3 x4 x5 y0 x2 σ)
def f_X11_reads_157 (r_X11_reads : Int32 → Int32 → Int32 → Int32 → Int32 → ST → Option (Int32 × ST)) (r_X11_readsItems : Int32 → Int32 → Int32 → Int32 → ST → Option (Int32 × ST)) (r_X11_readsRecord : Int32 → Int32 → Int32 → Int32 → ST → Option (Int32 × ST)) (x1 : Int32) (x2 : Int32) (x3 : Int32) (x4 : Int32) (x5 : Int32) (σ : ST) : Option (Int32 × ST) := f_X11_reads_158 r_X11_reads r_X11_readsItems r_X11_readsRecord x1 x2 x3 x4 x5 (-1) σ
def f_X11_reads (r_X11_reads : Int32 → Int32 → Int32 → Int32 → Int32 → ST → Option (Int32 × ST)) (r_X11_readsItems : Int32 → Int32 → Int32 → Int32 → ST → Option (Int32 × ST)) (r_X11_readsRecord : Int32 → Int32 → Int32 → Int32 → ST → Option (Int32 × ST)) (p0 : Int32) (p1 : Int32) (p2 : Int32) (p3 : Int32) (p4 : Int32) (σ : ST) : Option (Int32 × ST) := if p2 < 31 then (if 0 ≤ p0.toInt ∧ p0.toInt < 800 then (if (σ.1 2 p0.toNatClampNeg) = 8 then ((f_X11_readsInt  (σ.1 0 64) 0 (((σ.1 4 p0.toNatClampNeg).toInt64) - 1) σ).bind fun q5 => if q5.1 = 0 then (some (0, q5.2)) else (if 0 ≤ ((4 * p0) + ((q5.2.2.1 0 70).toInt32)).toInt ∧ ((4 * p0) + ((q5.2.2.1 0 70).toInt32)).toInt < 3200 then (if p1 < 0 then (f_X11_reads_96 r_X11_reads r_X11_readsItems r_X11_readsRecord p1 p2 p3 p4 ((q5.2.2.1 0 70).toInt32) (q5.2.1 5 ((4 * p0) + ((q5.2.2.1 0 70).toInt32)).toNatClampNeg) q5.2) else ((f_T_X11_match  (q5.2.1 5 ((4 * p0) + ((q5.2.2.1 0 70).toInt32)).toNatClampNeg) p1 q5.2).bind fun q8 => if q8.1 = 0 then ((f_X11_fails  13 (σ.1 0 64) q8.2).bind fun q10 => if q10.1 = 0 ∨ q10.1 = 1 then some (q10.1, q10.2) else none) else (f_X11_reads_96 r_X11_reads r_X11_readsItems r_X11_readsRecord p1 p2 p3 p4 ((q5.2.2.1 0 70).toInt32) (q5.2.1 5 ((4 * p0) + ((q5.2.2.1 0 70).toInt32)).toNatClampNeg) q8.2))) else none)) else (if p1 < 0 then (f_X11_reads_157 r_X11_reads r_X11_readsItems r_X11_readsRecord p0 p1 p2 p3 p4 σ) else (if 0 ≤ p1.toInt ∧ p1.toInt < 800 then (if (σ.1 2 p1.toNatClampNeg) = 8 then ((f_T_X11_chosen  p0 p1 σ).bind fun q3 => f_X11_reads_158 r_X11_reads r_X11_readsItems r_X11_readsRecord p0 p1 p2 p3 p4 q3.1 q3.2) else (f_X11_reads_157 r_X11_reads r_X11_readsItems r_X11_readsRecord p0 p1 p2 p3 p4 σ)) else none))) else none) else ((f_X11_fails  16 (σ.1 0 64) σ).bind fun q12 => if q12.1 = 0 ∨ q12.1 = 1 then some (q12.1, q12.2) else none)

def f_X11_readsItems_64 (r_X11_reads : Int32 → Int32 → Int32 → Int32 → Int32 → ST → Option (Int32 × ST)) (r_X11_readsItems : Int32 → Int32 → Int32 → Int32 → ST → Option (Int32 × ST)) (r_X11_readsRecord : Int32 → Int32 → Int32 → Int32 → ST → Option (Int32 × ST)) (k27 : Int32 → Int32 → Int32 → Int32 → Int32 → Int32 → ST → Option (Int32 × ST)) (x1 : Int32) (x2 : Int32) (x3 : Int32) (x4 : Int32) (x5 : Int32) (x6 : Int32) (y0 : Int32) (y1 : Int32) (σ : ST) : Option (Int32 × ST) := (r_X11_reads  y1 y0 (x3 + 1) x4 x6 σ).bind fun q1 => if q1.1 = 0 then (some (0, q1.2)) else (k27 x1 x2 x3 x4 x5 (x6 + 1) (stI q1.2 0 57 ((q1.2.1 0 57) - 1)))
def f_X11_readsItems_27 (r_X11_reads : Int32 → Int32 → Int32 → Int32 → Int32 → ST → Option (Int32 × ST)) (r_X11_readsItems : Int32 → Int32 → Int32 → Int32 → ST → Option (Int32 × ST)) (r_X11_readsRecord : Int32 → Int32 → Int32 → Int32 → ST → Option (Int32 × ST)) : Nat → Int32 → Int32 → Int32 → Int32 → Int32 → Int32 → ST → Option (Int32 × ST)
  | 0, _, _, _, _, _, _, _ => none
  | n + 1, x1, x2, x3, x4, x5, x6, σ => if x5 ≤ x6 then (some (1, σ)) else ((f_X11_enters  (100 + x6) σ).bind fun q1 => if 0 ≤ x1.toInt ∧ x1.toInt < 800 then (if 0 ≤ x2 then (if 0 ≤ x2.toInt ∧ x2.toInt < 800 then (f_X11_readsItems_64 r_X11_reads r_X11_readsItems r_X11_readsRecord (f_X11_readsItems_27 r_X11_reads r_X11_readsItems r_X11_readsRecord n) x1 x2 x3 x4 x5 x6 (q1.1 3 x2.toNatClampNeg) (q1.1 3 x1.toNatClampNeg) q1) else none) else (f_X11_readsItems_64 r_X11_reads r_X11_readsItems r_X11_readsRecord (f_X11_readsItems_27 r_X11_reads r_X11_readsItems r_X11_readsRecord n) x1 x2 x3 x4 x5 x6 (-1) (q1.1 3 x1.toNatClampNeg) q1)) else none)
def f_X11_readsItems (r_X11_reads : Int32 → Int32 → Int32 → Int32 → Int32 → ST → Option (Int32 × ST)) (r_X11_readsItems : Int32 → Int32 → Int32 → Int32 → ST → Option (Int32 × ST)) (r_X11_readsRecord : Int32 → Int32 → Int32 → Int32 → ST → Option (Int32 × ST)) (p0 : Int32) (p1 : Int32) (p2 : Int32) (p3 : Int32) (σ : ST) : Option (Int32 × ST) := (f_X11_readsInt  (σ.1 0 64) 0 200 σ).bind fun q1 => if q1.1 = 0 then (some (0, q1.2)) else (f_X11_readsItems_27 r_X11_reads r_X11_readsItems r_X11_readsRecord FU p0 p1 p2 p3 ((q1.2.2.1 0 70).toInt32) 0 q1.2)

def f_X11_readsRecord_165 (r_X11_reads : Int32 → Int32 → Int32 → Int32 → Int32 → ST → Option (Int32 × ST)) (r_X11_readsItems : Int32 → Int32 → Int32 → Int32 → ST → Option (Int32 × ST)) (r_X11_readsRecord : Int32 → Int32 → Int32 → Int32 → ST → Option (Int32 × ST)) (k43 : Int32 → Int32 → Int32 → Int32 → Int32 → Int32 → Int32 → ST → Option (Int32 × ST)) (k83 : Int32 → Int32 → Int32 → Int32 → Int32 → Int32 → Int32 → Int32 → Int32 → Int32 → Int32 → ST → Option (Int32 × ST)) (x1 : Int32) (x2 : Int32) (x3 : Int32) (x4 : Int32) (x5 : Int32) (x6 : Int32) (x7 : Int32) (x8 : Int32) (x9 : Int32) (x10 : Int32) (x11 : Int32) (σ : ST) : Option (Int32 × ST) := k83 x1 x2 x3 x4 x5 x6 x7 x8 x9 x10 (x11 + 1) σ
def f_X11_readsRecord_198 (r_X11_reads : Int32 → Int32 → Int32 → Int32 → Int32 → ST → Option (Int32 × ST)) (r_X11_readsItems : Int32 → Int32 → Int32 → Int32 → ST → Option (Int32 × ST)) (r_X11_readsRecord : Int32 → Int32 → Int32 → Int32 → ST → Option (Int32 × ST)) (k43 : Int32 → Int32 → Int32 → Int32 → Int32 → Int32 → Int32 → ST → Option (Int32 × ST)) (x1 : Int32) (x2 : Int32) (x3 : Int32) (x4 : Int32) (x5 : Int32) (x6 : Int32) (x7 : Int32) (σ : ST) : Option (Int32 × ST) := k43 x1 x2 x3 x4 x5 x6 (x7 + 1) (stI σ 0 57 ((σ.1 0 57) - 1))
def f_X11_readsRecord_171 (r_X11_reads : Int32 → Int32 → Int32 → Int32 → Int32 → ST → Option (Int32 × ST)) (r_X11_readsItems : Int32 → Int32 → Int32 → Int32 → ST → Option (Int32 × ST)) (r_X11_readsRecord : Int32 → Int32 → Int32 → Int32 → ST → Option (Int32 × ST)) (k43 : Int32 → Int32 → Int32 → Int32 → Int32 → Int32 → Int32 → ST → Option (Int32 × ST)) (x1 : Int32) (x2 : Int32) (x3 : Int32) (x4 : Int32) (x5 : Int32) (x6 : Int32) (x7 : Int32) (x8 : Int32) (x10 : Int32) (σ : ST) : Option (Int32 × ST) := if x10 = 0 then (if 0 ≤ x8.toInt ∧ x8.toInt < 576 then ((r_X11_reads  (σ.1 15 x8.toNatClampNeg) (-1) (x3 + 1) (-1) 0 σ).bind fun q2 => if q2.1 = 0 then (some (0, q2.2)) else (f_X11_readsRecord_198 r_X11_reads r_X11_readsItems r_X11_readsRecord k43 x1 x2 x3 x4 x5 x6 x7 q2.2)) else none) else (f_X11_readsRecord_198 r_X11_reads r_X11_readsItems r_X11_readsRecord k43 x1 x2 x3 x4 x5 x6 x7 σ)
def f_X11_readsRecord_83 (r_X11_reads : Int32 → Int32 → Int32 → Int32 → Int32 → ST → Option (Int32 × ST)) (r_X11_readsItems : Int32 → Int32 → Int32 → Int32 → ST → Option (Int32 × ST)) (r_X11_readsRecord : Int32 → Int32 → Int32 → Int32 → ST → Option (Int32 × ST)) (k43 : Int32 → Int32 → Int32 → Int32 → Int32 → Int32 → Int32 → ST → Option (Int32 × ST)) : Nat → Int32 → Int32 → Int32 → Int32 → Int32 → Int32 → Int32 → Int32 → Int32 → Int32 → Int32 → ST → Option (Int32 × ST)
  | 0, _, _, _, _, _, _, _, _, _, _, _, _ => none
  | n + 1, x1, x2, x3, x4, x5, x6, x7, x8, x9, x10, x11, σ => if x2 < 0 then (f_X11_readsRecord_171 r_X11_reads r_X11_readsItems r_X11_readsRecord k43 x1 x2 x3 x4 x5 x6 x7 x8 x10 σ) else (if 0 ≤ x6.toInt ∧ x6.toInt < 72 then (if (σ.1 11 x6.toNatClampNeg) ≤ x11 then (f_X11_readsRecord_171 r_X11_reads r_X11_readsItems r_X11_readsRecord k43 x1 x2 x3 x4 x5 x6 x7 x8 x10 σ) else (if 0 ≤ x1.toInt ∧ x1.toInt < 800 then ((f_X11_fieldFor  (σ.1 3 x1.toNatClampNeg) ((8 * x6) + x11) σ).bind fun q3 => if q3.1 = x8 then (if 0 ≤ x8.toInt ∧ x8.toInt < 576 then (if 0 ≤ ((8 * x6) + x11).toInt ∧ ((8 * x6) + x11).toInt < 576 then ((r_X11_reads  ((stI q3.2 0 64 x9).1 15 x8.toNatClampNeg) ((stI q3.2 0 64 x9).1 15 ((8 * x6) + x11).toNatClampNeg) (x3 + 1) x4 x11 (stI q3.2 0 64 x9)).bind fun q7 => if q7.1 = 0 then (some (0, q7.2)) else (f_X11_readsRecord_165 r_X11_reads r_X11_readsItems r_X11_readsRecord k43 (f_X11_readsRecord_83 r_X11_reads r_X11_readsItems r_X11_readsRecord k43 n) x1 x2 x3 x4 x5 x6 x7 x8 x9 (x10 + 1) x11 q7.2)) else none) else none) else (f_X11_readsRecord_165 r_X11_reads r_X11_readsItems r_X11_readsRecord k43 (f_X11_readsRecord_83 r_X11_reads r_X11_readsItems r_X11_readsRecord k43 n) x1 x2 x3 x4 x5 x6 x7 x8 x9 x10 x11 q3.2)) else none)) else none)
def f_X11_readsRecord_286 (r_X11_reads : Int32 → Int32 → Int32 → Int32 → Int32 → ST → Option (Int32 × ST)) (r_X11_readsItems : Int32 → Int32 → Int32 → Int32 → ST → Option (Int32 × ST)) (r_X11_readsRecord : Int32 → Int32 → Int32 → Int32 → ST → Option (Int32 × ST)) (k217 : Int32 → Int32 → Int32 → Int32 → Int32 → ST → Option (Int32 × ST)) (x1 : Int32) (x2 : Int32) (x4 : Int32) (x6 : Int32) (x7 : Int32) (σ : ST) : Option (Int32 × ST) := k217 x1 x2 x4 x6 (x7 + 1) σ
def f_X11_readsRecord_217 (r_X11_reads : Int32 → Int32 → Int32 → Int32 → Int32 → ST → Option (Int32 × ST)) (r_X11_readsItems : Int32 → Int32 → Int32 → Int32 → ST → Option (Int32 × ST)) (r_X11_readsRecord : Int32 → Int32 → Int32 → Int32 → ST → Option (Int32 × ST)) : Nat → Int32 → Int32 → Int32 → Int32 → Int32 → ST → Option (Int32 × ST)
  | 0, _, _, _, _, _, _ => none
  | n + 1, x1, x2, x4, x6, x7, σ => if x2 < 0 then (some (1, σ)) else (if 0 ≤ x6.toInt ∧ x6.toInt < 72 then (if (σ.1 11 x6.toNatClampNeg) ≤ x7 then (some (1, σ)) else (if 0 ≤ x1.toInt ∧ x1.toInt < 800 then ((f_X11_fieldFor  (σ.1 3 x1.toNatClampNeg) ((8 * x6) + x7) σ).bind fun q3 => if 0 ≤ q3.1 then (f_X11_readsRecord_286 r_X11_reads r_X11_readsItems r_X11_readsRecord (f_X11_readsRecord_217 r_X11_reads r_X11_readsItems r_X11_readsRecord n) x1 x2 x4 x6 x7 q3.2) else (if (q3.2.1 0 46) = 400 then ((f_X11_fails  15 (-1) q3.2).bind fun q7 => if q7.1 = 0 ∨ q7.1 = 1 then some (q7.1, q7.2) else none) else ((f_X11_fills  ((8 * x6) + x7) x4 x7 q3.2).bind fun q5 => f_X11_readsRecord_286 r_X11_reads r_X11_readsItems r_X11_readsRecord (f_X11_readsRecord_217 r_X11_reads r_X11_readsItems r_X11_readsRecord n) x1 x2 x4 x6 x7 q5))) else none)) else none)
def f_X11_readsRecord_43 (r_X11_reads : Int32 → Int32 → Int32 → Int32 → Int32 → ST → Option (Int32 × ST)) (r_X11_readsItems : Int32 → Int32 → Int32 → Int32 → ST → Option (Int32 × ST)) (r_X11_readsRecord : Int32 → Int32 → Int32 → Int32 → ST → Option (Int32 × ST)) : Nat → Int32 → Int32 → Int32 → Int32 → Int32 → Int32 → Int32 → ST → Option (Int32 × ST)
  | 0, _, _, _, _, _, _, _, _ => none
  | n + 1, x1, x2, x3, x4, x5, x6, x7, σ => if 0 ≤ x5.toInt ∧ x5.toInt < 72 then (if (σ.1 11 x5.toNatClampNeg) ≤ x7 then (f_X11_readsRecord_217 r_X11_reads r_X11_readsItems r_X11_readsRecord FU x1 x2 x4 x6 0 σ) else ((f_X11_enters  x7 σ).bind fun q2 => f_X11_readsRecord_83 r_X11_reads r_X11_readsItems r_X11_readsRecord (f_X11_readsRecord_43 r_X11_reads r_X11_readsItems r_X11_readsRecord n) FU x1 x2 x3 x4 x5 x6 x7 ((8 * x5) + x7) (σ.1 0 64) 0 0 q2)) else none
def f_X11_readsRecord_38 (r_X11_reads : Int32 → Int32 → Int32 → Int32 → Int32 → ST → Option (Int32 × ST)) (r_X11_readsItems : Int32 → Int32 → Int32 → Int32 → ST → Option (Int32 × ST)) (r_X11_readsRecord : Int32 → Int32 → Int32 → Int32 → ST → Option (Int32 × ST)) (x1 : Int32) (x2 : Int32) (x3 : Int32) (x4 : Int32) (x5 : Int32) (y0 : Int32) (σ : ST) : Option (Int32 × ST) := f_X11_readsRecord_43 r_X11_reads r_X11_readsItems r_X11_readsRecord FU x1 x2 x3 x4 x5 y0 0 σ
def f_X11_readsRecord (r_X11_reads : Int32 → Int32 → Int32 → Int32 → Int32 → ST → Option (Int32 × ST)) (r_X11_readsItems : Int32 → Int32 → Int32 → Int32 → ST → Option (Int32 × ST)) (r_X11_readsRecord : Int32 → Int32 → Int32 → Int32 → ST → Option (Int32 × ST)) (p0 : Int32) (p1 : Int32) (p2 : Int32) (p3 : Int32) (σ : ST) : Option (Int32 × ST) := if 0 ≤ p0.toInt ∧ p0.toInt < 800 then (if 0 ≤ p1 then (if 0 ≤ p1.toInt ∧ p1.toInt < 800 then (f_X11_readsRecord_38 r_X11_reads r_X11_readsItems r_X11_readsRecord p0 p1 p2 p3 ((6 * (σ.1 0 53)) + (σ.1 3 p0.toNatClampNeg)) ((6 * (σ.1 0 54)) + (σ.1 3 p1.toNatClampNeg)) σ) else none) else (f_X11_readsRecord_38 r_X11_reads r_X11_readsItems r_X11_readsRecord p0 p1 p2 p3 ((6 * (σ.1 0 53)) + (σ.1 3 p0.toNatClampNeg)) 0 σ)) else none

def R_X11_reads : Nat → (Int32 → Int32 → Int32 → Int32 → Int32 → ST → Option (Int32 × ST)) × (Int32 → Int32 → Int32 → Int32 → ST → Option (Int32 × ST)) × (Int32 → Int32 → Int32 → Int32 → ST → Option (Int32 × ST))
  | 0 => ((fun _ _ _ _ _ _ => none), (fun _ _ _ _ _ => none), (fun _ _ _ _ _ => none))
  | n + 1 => (f_X11_reads ((R_X11_reads n).1) ((R_X11_reads n).2.1) ((R_X11_reads n).2.2), f_X11_readsItems ((R_X11_reads n).1) ((R_X11_reads n).2.1) ((R_X11_reads n).2.2), f_X11_readsRecord ((R_X11_reads n).1) ((R_X11_reads n).2.1) ((R_X11_reads n).2.2))
def f_T_X11_reads (p0 : Int32) (p1 : Int32) (p2 : Int32) (p3 : Int32) (p4 : Int32) (σ : ST) : Option (Int32 × ST) := (R_X11_reads FRB).1 p0 p1 p2 p3 p4 σ
def f_T_X11_readsItems (p0 : Int32) (p1 : Int32) (p2 : Int32) (p3 : Int32) (σ : ST) : Option (Int32 × ST) := (R_X11_reads FRB).2.1 p0 p1 p2 p3 σ
def f_T_X11_readsRecord (p0 : Int32) (p1 : Int32) (p2 : Int32) (p3 : Int32) (σ : ST) : Option (Int32 × ST) := (R_X11_reads FRB).2.2 p0 p1 p2 p3 σ

set_option maxRecDepth 100000 in
set_option maxHeartbeats 4000000 in
theorem b_X11_reads_96 {p : Program} {l : Launch} {e : Env} {s : State} {m : MethodId} {args : Array Value} {below : List Frame} {meth : Method} {c : Code} {dC : Nat → ClassId} {dI : Nat → Nat → Nat} {a : Nat → Nat} {k : Nat → ClassId} {A : Nat → Prop} {q : Int32 × ST} (hC : CxB p s m args meth c dC dI k A cX11_reads RX11 (some .boolean) 10) {nn : Nat} {r_X11_reads : Int32 → Int32 → Int32 → Int32 → Int32 → ST → Option (Int32 × ST)} (hr_X11_reads : ∀ {sz : Nat} {p0 : Int32} {p1 : Int32} {p2 : Int32} {p3 : Int32} {p4 : Int32} {σ : ST} {q : Int32 × ST}, r_X11_reads  p0 p1 p2 p3 p4 σ = some q → MetD csD l yX11_reads (.code yX11_reads cX11_reads 10 (some .boolean) :: pw) ({ frames := 343 + nn, cells := 0, slots := 0, locals := 8525 + 32 * nn } : Room) (va_Pc [.ref (a 0), .int p0, .int p1, .int p2, .int p3, .int p4] (vPre dC dI (wB a k σ) (tB k) sz)) (qBi dC dI a k (va_A (wB a k σ) sz) q) 0 0 (va_A (wB a k σ) sz)) {r_X11_readsItems : Int32 → Int32 → Int32 → Int32 → ST → Option (Int32 × ST)} (hr_X11_readsItems : ∀ {sz : Nat} {p0 : Int32} {p1 : Int32} {p2 : Int32} {p3 : Int32} {σ : ST} {q : Int32 × ST}, r_X11_readsItems  p0 p1 p2 p3 σ = some q → MetD csD l yX11_readsItems (.code yX11_readsItems cX11_readsItems 7 (some .boolean) :: pw) ({ frames := 343 + nn, cells := 0, slots := 0, locals := 8525 + 32 * nn } : Room) (va_Pc [.ref (a 0), .int p0, .int p1, .int p2, .int p3] (vPre dC dI (wB a k σ) (tB k) sz)) (qBi dC dI a k (va_A (wB a k σ) sz) q) 0 0 (va_A (wB a k σ) sz)) {r_X11_readsRecord : Int32 → Int32 → Int32 → Int32 → ST → Option (Int32 × ST)} (hr_X11_readsRecord : ∀ {sz : Nat} {p0 : Int32} {p1 : Int32} {p2 : Int32} {p3 : Int32} {σ : ST} {q : Int32 × ST}, r_X11_readsRecord  p0 p1 p2 p3 σ = some q → MetD csD l yX11_readsRecord (.code yX11_readsRecord cX11_readsRecord 13 (some .boolean) :: pw) ({ frames := 343 + nn, cells := 0, slots := 0, locals := 8525 + 32 * nn } : Room) (va_Pc [.ref (a 0), .int p0, .int p1, .int p2, .int p3] (vPre dC dI (wB a k σ) (tB k) sz)) (qBi dC dI a k (va_A (wB a k σ) sz) q) 0 0 (va_A (wB a k σ) sz))  {x2 : Int32} {x3 : Int32} {x4 : Int32} {x5 : Int32} {x7 : Int32} {x8 : Int32} {σ : ST} (h : f_X11_reads_96 r_X11_reads r_X11_readsItems r_X11_readsRecord x2 x3 x4 x5 x7 x8 σ = some q) : GdB p l e ({ frames := 343 + (nn + 1), cells := 0, slots := 0, locals := 8525 + 32 * (nn + 1) } : Room) s m args below meth c (MQD csD below (qBi dC dI a k A q) args s 0 0 A) dC dI a k A 10 96 σ [(0, .ref (a 0)), (2, .int x2), (3, .int x3), (4, .int x4), (5, .int x5), (7, .int x7), (8, .int x8)] [] := by
  have hC0 := hC
  obtain ⟨hx, hb, hr, hml, hown, hts, hlocks, hA, hN, hK⟩ := hC0
  have hts0 := hts
  have hN0 := hN
  have hK0 := hK
  intro d0 hd0
  replace hts := dr_words hts0 d0
  replace hN : nN (s.setDrawn d0) := nN.same (u := s) (U := s.setDrawn d0) rfl hN0
  replace hK : va_K (dC, dI) vwCl (tB k) (s.setDrawn d0) := hK0
  intro H locs ls hP hD hS hl
  have hD0 : ∀ σ1 : ST, va_D A (wB a k σ1) := fun σ1 => wB_D hD
  unfold f_X11_reads_96 at h
  refine lv_aload_n hx hb dX11_reads_96 rfl (lv_at hl 0 rfl) ?_
  refine lv_sipush (v := 200) hx hb dX11_reads_97 (by decide) ?_
  refine lv_iload hx hb dX11_reads_100 (lv_at hl 5 rfl) ?_
  refine lv_iadd hx hb dX11_reads_102 ?_
  obtain ⟨q1, hc, h⟩ := ib h
  have hF := va_frees hD hS hA
  refine va_callv (va_runV (As := [.int (200 + x7)]) (rest := []) ⟨hx, hb, hml, hown, hts⟩ (s_X11_enters hc) (cwV 1 hts (gV mw_36_19 mw_36_20 mw_36_21 mw_0_15 mw_56_13) rfl rfl rfl (by decide +kernel) ⟨by show 0 + 1 ≤ 343 + (nn + 1); omega, by show 8 + (2 + 11) + 0 ≤ 8525 + 32 * (nn + 1); omega⟩) (vV (ci := 11) (q0 := 0) hK hP hD hN rfl gB_0) rfl rfl hl.1 rfl (lv_room (Nat.le_of_ble_eq_true rfl)) dX11_reads_103 ⟨(Nat.le_of_ble_eq_true rfl), (Nat.le_of_ble_eq_true rfl)⟩) hS (fun q _ h => hF q h) hF (fun u t H locs ht hvm hw hB _ _ hS => ?_)
  replace hP : va_P (dC, dI) vwCl (wB a k q1) H := by rw [← ht]; exact hB.1
  replace hD := hD0 (q1)
  clear hB hF
  refine lv_aload_n hx hb dX11_reads_106 rfl (lv_at hl 0 rfl) ?_
  refine lv_iload hx hb dX11_reads_107 (lv_at hl 6 rfl) ?_
  refine lv_iload_n hx hb dX11_reads_109 rfl (lv_at hl 1 rfl) ?_
  refine lv_iload_n hx hb dX11_reads_110 rfl (lv_at hl 2 rfl) ?_
  refine lv_iload hx hb dX11_reads_111 (lv_at hl 3 rfl) ?_
  refine lv_iload hx hb dX11_reads_113 (lv_at hl 4 rfl) ?_
  obtain ⟨q3, hc, h⟩ := ib h
  have hF := va_frees hD hS hA
  refine va_calliD hd0 (va_runV_D (As := [.int x8, .int x2, .int x3, .int x4, .int x5]) (rest := []) ⟨hx, hb, hml, hown, hts⟩ (hr_X11_reads hc) (cwV 5 hts (gV mw_38_2 mw_38_3 mw_38_4 mw_0_15 mw_56_29) rfl rfl rfl (by decide +kernel) ⟨by show (343 + nn) + 1 ≤ 343 + (nn + 1); omega, by show 8 + (10 + 11) + (8525 + 32 * nn) ≤ 8525 + 32 * (nn + 1); omega⟩) (vV (ci := 11) (q0 := 0) hK hP hD hN rfl gB_0) rfl rfl hl.1 rfl (lv_room (Nat.le_of_ble_eq_true rfl)) dX11_reads_115 ⟨(Nat.le_of_ble_eq_true rfl), (Nat.le_of_ble_eq_true rfl)⟩) hS (fun q _ h => hF q h) hF (fun r4 u t H locs ht hvm hw hB _ _ hS d0 hd0 => ?_)
  replace hts := dr_words hts0 d0
  replace hN : nN (s.setDrawn d0) := nN.same (u := s) (U := s.setDrawn d0) rfl hN0
  replace hK : va_K (dC, dI) vwCl (tB k) (s.setDrawn d0) := hK0
  obtain rfl : r4 = q3.1 := hw
  replace hP : va_P (dC, dI) vwCl (wB a k q3.2) H := by rw [← ht]; exact hB.1
  replace hD := hD0 (q3.2)
  clear hB hF
  refine lv_istore (lv' := [(9, .int q3.1), (0, .ref (a 0)), (2, .int x2), (3, .int x3), (4, .int x4), (5, .int x5), (7, .int x7), (8, .int x8)]) hx hb dX11_reads_118 hl (by decide) rfl (fun ls hl => ?_)
  refine lv_aload_n hx hb dX11_reads_120 rfl (lv_at hl 1 rfl) ?_
  refine lv_dup hx hb dX11_reads_121 rfl ?_
  refine va_get (D := (dC, dI)) (ci := 11) (C := RX11) (T := TX11) (N := 95) hx hb hts inlX11 hown hK hP 0 gB_0 rfl 57 (by decide) (hts (.fieldLink RX11 516 "ShapeReaderModel" "steps" "I") mw_36_18) (fun _ h9 => h9) rfl dX11_reads_122 ?_
  refine lv_iconst (v := 1) hx hb dX11_reads_125 (by decide) ?_
  refine lv_isub hx hb dX11_reads_126 ?_
  refine va_put (D := (dC, dI)) (ci := 11) (ty := .int) (C := RX11) (T := TX11) (N := 95) hx hb hts inlX11 tyX11 tyX11_ok nmX11 hown hK hP hD hS 0 gB_0 rfl 57 (by decide) (hts (.fieldLink RX11 516 "ShapeReaderModel" "steps" "I") mw_36_18) (fun _ h9 => h9) rfl (by decide +kernel) rfl rfl (Nat.le_of_ble_eq_true rfl) dX11_reads_127 (fun H locs hP hD hS => ?_)
  replace hP := uB_0_57 hP
  replace hD := hD0 ((stI q3.2 0 57 ((q3.2.1 0 57) - 1)))
  refine lv_iload hx hb dX11_reads_130 (lv_at hl 0 rfl) ?_
  refine W.endD hd0 ?_
  obtain ⟨hg, h⟩ := ig h
  obtain rfl := Option.some.inj h
  exact W.zret hx hb hr (zn hg) (fun t ht hW => ⟨⟨_, (), rfl, rfl, ⟨by rw [ht]; exact hP, va_K.moved hW.alike hK, hD⟩⟩, hS.F ht⟩) hS.2.2 dX11_reads_132

set_option maxRecDepth 100000 in
set_option maxHeartbeats 4000000 in
theorem b_X11_reads_227 {p : Program} {l : Launch} {e : Env} {s : State} {m : MethodId} {args : Array Value} {below : List Frame} {meth : Method} {c : Code} {dC : Nat → ClassId} {dI : Nat → Nat → Nat} {a : Nat → Nat} {k : Nat → ClassId} {A : Nat → Prop} {q : Int32 × ST} (hC : CxB p s m args meth c dC dI k A cX11_reads RX11 (some .boolean) 10) {nn : Nat} {r_X11_reads : Int32 → Int32 → Int32 → Int32 → Int32 → ST → Option (Int32 × ST)} (hr_X11_reads : ∀ {sz : Nat} {p0 : Int32} {p1 : Int32} {p2 : Int32} {p3 : Int32} {p4 : Int32} {σ : ST} {q : Int32 × ST}, r_X11_reads  p0 p1 p2 p3 p4 σ = some q → MetD csD l yX11_reads (.code yX11_reads cX11_reads 10 (some .boolean) :: pw) ({ frames := 343 + nn, cells := 0, slots := 0, locals := 8525 + 32 * nn } : Room) (va_Pc [.ref (a 0), .int p0, .int p1, .int p2, .int p3, .int p4] (vPre dC dI (wB a k σ) (tB k) sz)) (qBi dC dI a k (va_A (wB a k σ) sz) q) 0 0 (va_A (wB a k σ) sz)) {r_X11_readsItems : Int32 → Int32 → Int32 → Int32 → ST → Option (Int32 × ST)} (hr_X11_readsItems : ∀ {sz : Nat} {p0 : Int32} {p1 : Int32} {p2 : Int32} {p3 : Int32} {σ : ST} {q : Int32 × ST}, r_X11_readsItems  p0 p1 p2 p3 σ = some q → MetD csD l yX11_readsItems (.code yX11_readsItems cX11_readsItems 7 (some .boolean) :: pw) ({ frames := 343 + nn, cells := 0, slots := 0, locals := 8525 + 32 * nn } : Room) (va_Pc [.ref (a 0), .int p0, .int p1, .int p2, .int p3] (vPre dC dI (wB a k σ) (tB k) sz)) (qBi dC dI a k (va_A (wB a k σ) sz) q) 0 0 (va_A (wB a k σ) sz)) {r_X11_readsRecord : Int32 → Int32 → Int32 → Int32 → ST → Option (Int32 × ST)} (hr_X11_readsRecord : ∀ {sz : Nat} {p0 : Int32} {p1 : Int32} {p2 : Int32} {p3 : Int32} {σ : ST} {q : Int32 × ST}, r_X11_readsRecord  p0 p1 p2 p3 σ = some q → MetD csD l yX11_readsRecord (.code yX11_readsRecord cX11_readsRecord 13 (some .boolean) :: pw) ({ frames := 343 + nn, cells := 0, slots := 0, locals := 8525 + 32 * nn } : Room) (va_Pc [.ref (a 0), .int p0, .int p1, .int p2, .int p3] (vPre dC dI (wB a k σ) (tB k) sz)) (qBi dC dI a k (va_A (wB a k σ) sz) q) 0 0 (va_A (wB a k σ) sz))  {x1 : Int32} {x3 : Int32} {x8 : Int32} {x9 : Int32} {σ : ST} (h : f_X11_reads_227 r_X11_reads r_X11_readsItems r_X11_readsRecord x1 x3 x8 x9 σ = some q) : GdB p l e ({ frames := 343 + (nn + 1), cells := 0, slots := 0, locals := 8525 + 32 * (nn + 1) } : Room) s m args below meth c (MQD csD below (qBi dC dI a k A q) args s 0 0 A) dC dI a k A 10 227 σ [(0, .ref (a 0)), (1, .int x1), (3, .int x3), (8, .int x8), (9, .int x9)] [] := by
  have hC0 := hC
  obtain ⟨hx, hb, hr, hml, hown, hts, hlocks, hA, hN, hK⟩ := hC0
  have hts0 := hts
  have hN0 := hN
  have hK0 := hK
  intro d0 hd0
  replace hts := dr_words hts0 d0
  replace hN : nN (s.setDrawn d0) := nN.same (u := s) (U := s.setDrawn d0) rfl hN0
  replace hK : va_K (dC, dI) vwCl (tB k) (s.setDrawn d0) := hK0
  intro H locs ls hP hD hS hl
  have hD0 : ∀ σ1 : ST, va_D A (wB a k σ1) := fun σ1 => wB_D hD
  unfold f_X11_reads_227 at h
  refine lv_aload_n hx hb dX11_reads_227 rfl (lv_at hl 0 rfl) ?_
  refine va_get (D := (dC, dI)) (ci := 11) (C := RX11) (T := TX11) (N := 95) hx hb hts inlX11 hown hK hP 0 gB_0 rfl 14 (by decide) (hts (.fieldLink RX11 13 "ShapeReaderModel" "typeSort" "[I") mw_26_28) (fun _ h9 => h9) rfl dX11_reads_228 ?_
  refine lv_iload_n hx hb dX11_reads_231 rfl (lv_at hl 1 rfl) ?_
  obtain ⟨hg1, h⟩ := ig h
  refine va_iald hx hb hK hP 2 1 gB_2 yB_2 (vp_in_iff.mpr hg1) dX11_reads_232 ?_
  rcases (il_sw2 (σ.1 2 x1.toNatClampNeg) (6) (7)) with s2 | s3 | ⟨s2, s3⟩
  · replace h := ip s2 h
    refine lv_lookup (off := 27) (tgt := 260) hx hb dX11_reads_233 (by decide) (by rw [s2]; decide) (by decide) ?_
    refine lv_aload_n hx hb dX11_reads_260 rfl (lv_at hl 0 rfl) ?_
    refine lv_iload_n hx hb dX11_reads_261 rfl (lv_at hl 1 rfl) ?_
    refine lv_iload hx hb dX11_reads_262 (lv_at hl 3 rfl) ?_
    refine lv_iload_n hx hb dX11_reads_264 rfl (lv_at hl 2 rfl) ?_
    refine lv_iload hx hb dX11_reads_265 (lv_at hl 4 rfl) ?_
    obtain ⟨q4, hc, h⟩ := ib h
    have hF := va_frees hD hS hA
    refine va_calliD hd0 (va_runV_D (As := [.int x1, .int x8, .int x3, .int x9]) (rest := []) ⟨hx, hb, hml, hown, hts⟩ (hr_X11_readsItems hc) (cwV 4 hts (gV mw_38_5 mw_38_6 mw_38_7 mw_0_15 mw_57_1) rfl rfl rfl (by decide +kernel) ⟨by show (343 + nn) + 1 ≤ 343 + (nn + 1); omega, by show 8 + (7 + 11) + (8525 + 32 * nn) ≤ 8525 + 32 * (nn + 1); omega⟩) (vV (ci := 11) (q0 := 0) hK hP hD hN rfl gB_0) rfl rfl hl.1 rfl (lv_room (Nat.le_of_ble_eq_true rfl)) dX11_reads_267 ⟨(Nat.le_of_ble_eq_true rfl), (Nat.le_of_ble_eq_true rfl)⟩) hS (fun q _ h => hF q h) hF (fun r5 u t H locs ht hvm hw hB _ _ hS d0 hd0 => ?_)
    replace hts := dr_words hts0 d0
    replace hN : nN (s.setDrawn d0) := nN.same (u := s) (U := s.setDrawn d0) rfl hN0
    replace hK : va_K (dC, dI) vwCl (tB k) (s.setDrawn d0) := hK0
    obtain rfl : r5 = q4.1 := hw
    replace hP : va_P (dC, dI) vwCl (wB a k q4.2) H := by rw [← ht]; exact hB.1
    replace hD := hD0 (q4.2)
    clear hB hF
    refine W.endD hd0 ?_
    obtain ⟨hg, h⟩ := ig h
    obtain rfl := Option.some.inj h
    exact W.zret hx hb hr (zn hg) (fun t ht hW => ⟨⟨_, (), rfl, rfl, ⟨by rw [ht]; exact hP, va_K.moved hW.alike hK, hD⟩⟩, hS.F ht⟩) hS.2.2 dX11_reads_270
  · replace h := ip s3 (iq (by rw [s3]; decide) h)
    refine lv_lookup (off := 38) (tgt := 271) hx hb dX11_reads_233 (by decide) (by rw [s3]; decide) (by decide) ?_
    refine lv_aload_n hx hb dX11_reads_271 rfl (lv_at hl 0 rfl) ?_
    refine lv_iload_n hx hb dX11_reads_272 rfl (lv_at hl 1 rfl) ?_
    refine lv_iload hx hb dX11_reads_273 (lv_at hl 3 rfl) ?_
    refine lv_iload_n hx hb dX11_reads_275 rfl (lv_at hl 2 rfl) ?_
    refine lv_iload hx hb dX11_reads_276 (lv_at hl 4 rfl) ?_
    obtain ⟨q6, hc, h⟩ := ib h
    have hF := va_frees hD hS hA
    refine va_calliD hd0 (va_runV_D (As := [.int x1, .int x8, .int x3, .int x9]) (rest := []) ⟨hx, hb, hml, hown, hts⟩ (hr_X11_readsRecord hc) (cwV 4 hts (gV mw_38_8 mw_38_9 mw_38_10 mw_0_15 mw_57_2) rfl rfl rfl (by decide +kernel) ⟨by show (343 + nn) + 1 ≤ 343 + (nn + 1); omega, by show 8 + (13 + 11) + (8525 + 32 * nn) ≤ 8525 + 32 * (nn + 1); omega⟩) (vV (ci := 11) (q0 := 0) hK hP hD hN rfl gB_0) rfl rfl hl.1 rfl (lv_room (Nat.le_of_ble_eq_true rfl)) dX11_reads_278 ⟨(Nat.le_of_ble_eq_true rfl), (Nat.le_of_ble_eq_true rfl)⟩) hS (fun q _ h => hF q h) hF (fun r7 u t H locs ht hvm hw hB _ _ hS d0 hd0 => ?_)
    replace hts := dr_words hts0 d0
    replace hN : nN (s.setDrawn d0) := nN.same (u := s) (U := s.setDrawn d0) rfl hN0
    replace hK : va_K (dC, dI) vwCl (tB k) (s.setDrawn d0) := hK0
    obtain rfl : r7 = q6.1 := hw
    replace hP : va_P (dC, dI) vwCl (wB a k q6.2) H := by rw [← ht]; exact hB.1
    replace hD := hD0 (q6.2)
    clear hB hF
    refine W.endD hd0 ?_
    obtain ⟨hg, h⟩ := ig h
    obtain rfl := Option.some.inj h
    exact W.zret hx hb hr (zn hg) (fun t ht hW => ⟨⟨_, (), rfl, rfl, ⟨by rw [ht]; exact hP, va_K.moved hW.alike hK, hD⟩⟩, hS.F ht⟩) hS.2.2 dX11_reads_281
  · replace h := (iq s3 (iq s2 h))
    refine lv_lookup (off := 49) (tgt := 282) hx hb dX11_reads_233 (by decide) (by have a0 := il_ne s2; have e0 : (6 : Int32).toInt = 6 := (by decide); have a1 := il_ne s3; have e1 : (7 : Int32).toInt = 7 := (by decide); exact lk_dflt2 (by omega)) (by decide) ?_
    refine lv_aload_n hx hb dX11_reads_282 rfl (lv_at hl 0 rfl) ?_
    refine lv_iload_n hx hb dX11_reads_283 rfl (lv_at hl 1 rfl) ?_
    refine lv_iload hx hb dX11_reads_284 (lv_at hl 3 rfl) ?_
    refine lv_iload hx hb dX11_reads_286 (lv_at hl 4 rfl) ?_
    obtain ⟨q8, hc, h⟩ := ib h
    have hF := va_frees hD hS hA
    refine va_calliD hd0 (va_runV_D (As := [.int x1, .int x8, .int x9]) (rest := []) ⟨hx, hb, hml, hown, hts⟩ (s_X11_readsLeaf hc) (cwV 3 hts (gV mw_38_11 mw_38_12 mw_38_13 mw_0_15 mw_57_0) rfl rfl rfl (by decide +kernel) ⟨by show 5 + 1 ≤ 343 + (nn + 1); omega, by show 8 + (10 + 11) + 118 ≤ 8525 + 32 * (nn + 1); omega⟩) (vV (ci := 11) (q0 := 0) hK hP hD hN rfl gB_0) rfl rfl hl.1 rfl (lv_room (Nat.le_of_ble_eq_true rfl)) dX11_reads_288 ⟨(Nat.le_of_ble_eq_true rfl), (Nat.le_of_ble_eq_true rfl)⟩) hS (fun q _ h => hF q h) hF (fun r9 u t H locs ht hvm hw hB _ _ hS d0 hd0 => ?_)
    replace hts := dr_words hts0 d0
    replace hN : nN (s.setDrawn d0) := nN.same (u := s) (U := s.setDrawn d0) rfl hN0
    replace hK : va_K (dC, dI) vwCl (tB k) (s.setDrawn d0) := hK0
    obtain rfl : r9 = q8.1 := hw
    replace hP : va_P (dC, dI) vwCl (wB a k q8.2) H := by rw [← ht]; exact hB.1
    replace hD := hD0 (q8.2)
    clear hB hF
    refine W.endD hd0 ?_
    obtain ⟨hg, h⟩ := ig h
    obtain rfl := Option.some.inj h
    exact W.zret hx hb hr (zn hg) (fun t ht hW => ⟨⟨_, (), rfl, rfl, ⟨by rw [ht]; exact hP, va_K.moved hW.alike hK, hD⟩⟩, hS.F ht⟩) hS.2.2 dX11_reads_291

set_option maxRecDepth 100000 in
set_option maxHeartbeats 4000000 in
theorem b_X11_reads_180 {p : Program} {l : Launch} {e : Env} {s : State} {m : MethodId} {args : Array Value} {below : List Frame} {meth : Method} {c : Code} {dC : Nat → ClassId} {dI : Nat → Nat → Nat} {a : Nat → Nat} {k : Nat → ClassId} {A : Nat → Prop} {q : Int32 × ST} (hC : CxB p s m args meth c dC dI k A cX11_reads RX11 (some .boolean) 10) {nn : Nat} {r_X11_reads : Int32 → Int32 → Int32 → Int32 → Int32 → ST → Option (Int32 × ST)} (hr_X11_reads : ∀ {sz : Nat} {p0 : Int32} {p1 : Int32} {p2 : Int32} {p3 : Int32} {p4 : Int32} {σ : ST} {q : Int32 × ST}, r_X11_reads  p0 p1 p2 p3 p4 σ = some q → MetD csD l yX11_reads (.code yX11_reads cX11_reads 10 (some .boolean) :: pw) ({ frames := 343 + nn, cells := 0, slots := 0, locals := 8525 + 32 * nn } : Room) (va_Pc [.ref (a 0), .int p0, .int p1, .int p2, .int p3, .int p4] (vPre dC dI (wB a k σ) (tB k) sz)) (qBi dC dI a k (va_A (wB a k σ) sz) q) 0 0 (va_A (wB a k σ) sz)) {r_X11_readsItems : Int32 → Int32 → Int32 → Int32 → ST → Option (Int32 × ST)} (hr_X11_readsItems : ∀ {sz : Nat} {p0 : Int32} {p1 : Int32} {p2 : Int32} {p3 : Int32} {σ : ST} {q : Int32 × ST}, r_X11_readsItems  p0 p1 p2 p3 σ = some q → MetD csD l yX11_readsItems (.code yX11_readsItems cX11_readsItems 7 (some .boolean) :: pw) ({ frames := 343 + nn, cells := 0, slots := 0, locals := 8525 + 32 * nn } : Room) (va_Pc [.ref (a 0), .int p0, .int p1, .int p2, .int p3] (vPre dC dI (wB a k σ) (tB k) sz)) (qBi dC dI a k (va_A (wB a k σ) sz) q) 0 0 (va_A (wB a k σ) sz)) {r_X11_readsRecord : Int32 → Int32 → Int32 → Int32 → ST → Option (Int32 × ST)} (hr_X11_readsRecord : ∀ {sz : Nat} {p0 : Int32} {p1 : Int32} {p2 : Int32} {p3 : Int32} {σ : ST} {q : Int32 × ST}, r_X11_readsRecord  p0 p1 p2 p3 σ = some q → MetD csD l yX11_readsRecord (.code yX11_readsRecord cX11_readsRecord 13 (some .boolean) :: pw) ({ frames := 343 + nn, cells := 0, slots := 0, locals := 8525 + 32 * nn } : Room) (va_Pc [.ref (a 0), .int p0, .int p1, .int p2, .int p3] (vPre dC dI (wB a k σ) (tB k) sz)) (qBi dC dI a k (va_A (wB a k σ) sz) q) 0 0 (va_A (wB a k σ) sz))  {x1 : Int32} {x3 : Int32} {x4 : Int32} {x5 : Int32} {x7 : Int32} {y0 : Int32} {σ : ST} (h : f_X11_reads_180 r_X11_reads r_X11_readsItems r_X11_readsRecord x1 x3 x4 x5 x7 y0 σ = some q) : GdB p l e ({ frames := 343 + (nn + 1), cells := 0, slots := 0, locals := 8525 + 32 * (nn + 1) } : Room) s m args below meth c (MQD csD below (qBi dC dI a k A q) args s 0 0 A) dC dI a k A 10 180 σ [(0, .ref (a 0)), (1, .int x1), (3, .int x3), (4, .int x4), (5, .int x5), (7, .int x7)] [.int y0] := by
  have hC0 := hC
  obtain ⟨hx, hb, hr, hml, hown, hts, hlocks, hA, hN, hK⟩ := hC0
  have hts0 := hts
  have hN0 := hN
  have hK0 := hK
  intro d0 hd0
  replace hts := dr_words hts0 d0
  replace hN : nN (s.setDrawn d0) := nN.same (u := s) (U := s.setDrawn d0) rfl hN0
  replace hK : va_K (dC, dI) vwCl (tB k) (s.setDrawn d0) := hK0
  intro H locs ls hP hD hS hl
  have hD0 : ∀ σ1 : ST, va_D A (wB a k σ1) := fun σ1 => wB_D hD
  unfold f_X11_reads_180 at h
  refine lv_istore (lv' := [(8, .int y0), (0, .ref (a 0)), (1, .int x1), (3, .int x3), (4, .int x4), (5, .int x5), (7, .int x7)]) hx hb dX11_reads_180 hl (by decide) rfl (fun ls hl => ?_)
  refine lv_iconst (v := (-1)) hx hb dX11_reads_182 (by decide) ?_
  refine lv_istore (lv' := [(9, .int (-1)), (8, .int y0), (0, .ref (a 0)), (1, .int x1), (3, .int x3), (4, .int x4), (5, .int x5), (7, .int x7)]) hx hb dX11_reads_183 hl (by decide) rfl (fun ls hl => ?_)
  refine lv_iload hx hb dX11_reads_185 (lv_at hl 1 rfl) ?_
  refine lv_if_lt (tgt := 227) hx hb dX11_reads_187 (by decide) (fun hc => ?_) (fun hc => ?_)
  · replace h := ip hc h
    exact b_X11_reads_227 hC hr_X11_reads hr_X11_readsItems hr_X11_readsRecord h _ hd0 _ _ _ hP hD hS (lv_sub hl [2, 3, 4, 1, 0] rfl)
  · replace h := iq hc h
    refine lv_aload_n hx hb dX11_reads_190 rfl (lv_at hl 2 rfl) ?_
    refine va_get (D := (dC, dI)) (ci := 11) (C := RX11) (T := TX11) (N := 95) hx hb hts inlX11 hown hK hP 0 gB_0 rfl 46 (by decide) (hts (.fieldLink RX11 413 "ShapeReaderModel" "trees" "I") mw_33_28) (fun _ h9 => h9) rfl dX11_reads_191 ?_
    refine lv_sipush (v := 400) hx hb dX11_reads_194 (by decide) ?_
    refine lv_icmp_ne (tgt := 208) hx hb dX11_reads_197 (by decide) (fun hc => ?_) (fun hc => ?_)
    · replace h := iq hc h
      refine lv_aload_n hx hb dX11_reads_208 rfl (lv_at hl 2 rfl) ?_
      refine lv_aload_n hx hb dX11_reads_209 rfl (lv_at hl 2 rfl) ?_
      refine va_get (D := (dC, dI)) (ci := 11) (C := RX11) (T := TX11) (N := 95) hx hb hts inlX11 hown hK hP 0 gB_0 rfl 14 (by decide) (hts (.fieldLink RX11 13 "ShapeReaderModel" "typeSort" "[I") mw_26_28) (fun _ h9 => h9) rfl dX11_reads_210 ?_
      refine lv_iload hx hb dX11_reads_213 (lv_at hl 1 rfl) ?_
      obtain ⟨hg1, h⟩ := ig h
      refine va_iald hx hb hK hP 2 1 gB_2 yB_2 (vp_in_iff.mpr hg1) dX11_reads_215 ?_
      refine lv_iload hx hb dX11_reads_216 (lv_at hl 5 rfl) ?_
      refine lv_iload hx hb dX11_reads_218 (lv_at hl 6 rfl) ?_
      refine lv_iload hx hb dX11_reads_220 (lv_at hl 7 rfl) ?_
      obtain ⟨q2, hc, h⟩ := ib h
      have hF := va_frees hD hS hA
      refine va_calli (va_runV (As := [.int (σ.1 2 y0.toNatClampNeg), .int x4, .int x5, .int x7]) (rest := []) ⟨hx, hb, hml, hown, hts⟩ (s_X11_laysNode hc) (cwV 4 hts (gV mw_34_2 mw_34_3 mw_34_4 mw_0_15 mw_55_13) rfl rfl rfl (by decide +kernel) ⟨by show 1 + 1 ≤ 343 + (nn + 1); omega, by show 8 + (6 + 11) + 24 ≤ 8525 + 32 * (nn + 1); omega⟩) (vV (ci := 11) (q0 := 0) hK hP hD hN rfl gB_0) rfl rfl hl.1 rfl (lv_room (Nat.le_of_ble_eq_true rfl)) dX11_reads_222 ⟨(Nat.le_of_ble_eq_true rfl), (Nat.le_of_ble_eq_true rfl)⟩) hS (fun q _ h => hF q h) hF (fun r3 u t H locs ht hvm hw hB _ _ hS => ?_)
      obtain rfl : r3 = q2.1 := hw
      replace hP : va_P (dC, dI) vwCl (wB a k q2.2) H := by rw [← ht]; exact hB.1
      replace hD := hD0 (q2.2)
      clear hB hF
      refine lv_istore (lv' := [(9, .int q2.1), (8, .int y0), (0, .ref (a 0)), (1, .int x1), (3, .int x3), (4, .int x4), (5, .int x5), (7, .int x7)]) hx hb dX11_reads_225 hl (by decide) rfl (fun ls hl => ?_)
      exact b_X11_reads_227 hC hr_X11_reads hr_X11_readsItems hr_X11_readsRecord h _ hd0 _ _ _ hP hD hS (lv_sub hl [2, 3, 4, 1, 0] rfl)
    · replace h := ip hc h
      refine lv_aload_n hx hb dX11_reads_200 rfl (lv_at hl 2 rfl) ?_
      refine lv_bipush (v := 15) hx hb dX11_reads_201 (by decide) ?_
      refine lv_iconst (v := (-1)) hx hb dX11_reads_203 (by decide) ?_
      obtain ⟨q4, hc, h⟩ := ib h
      have hF := va_frees hD hS hA
      refine va_calli (va_runV (As := [.int 15, .int (-1)]) (rest := []) ⟨hx, hb, hml, hown, hts⟩ (s_X11_fails hc) (cwV 2 hts (gV mw_37_15 mw_37_16 mw_37_17 mw_0_15 mw_56_22) rfl rfl rfl (by decide +kernel) ⟨by show 0 + 1 ≤ 343 + (nn + 1); omega, by show 8 + (4 + 11) + 0 ≤ 8525 + 32 * (nn + 1); omega⟩) (vV (ci := 11) (q0 := 0) hK hP hD hN rfl gB_0) rfl rfl hl.1 rfl (lv_room (Nat.le_of_ble_eq_true rfl)) dX11_reads_204 ⟨(Nat.le_of_ble_eq_true rfl), (Nat.le_of_ble_eq_true rfl)⟩) hS (fun q _ h => hF q h) hF (fun r5 u t H locs ht hvm hw hB _ _ hS => ?_)
      obtain rfl : r5 = q4.1 := hw
      replace hP : va_P (dC, dI) vwCl (wB a k q4.2) H := by rw [← ht]; exact hB.1
      replace hD := hD0 (q4.2)
      clear hB hF
      refine W.endD hd0 ?_
      obtain ⟨hg, h⟩ := ig h
      obtain rfl := Option.some.inj h
      exact W.zret hx hb hr (zn hg) (fun t ht hW => ⟨⟨_, (), rfl, rfl, ⟨by rw [ht]; exact hP, va_K.moved hW.alike hK, hD⟩⟩, hS.F ht⟩) hS.2.2 dX11_reads_207

set_option maxRecDepth 100000 in
set_option maxHeartbeats 4000000 in
theorem b_X11_reads_158 {p : Program} {l : Launch} {e : Env} {s : State} {m : MethodId} {args : Array Value} {below : List Frame} {meth : Method} {c : Code} {dC : Nat → ClassId} {dI : Nat → Nat → Nat} {a : Nat → Nat} {k : Nat → ClassId} {A : Nat → Prop} {q : Int32 × ST} (hC : CxB p s m args meth c dC dI k A cX11_reads RX11 (some .boolean) 10) {nn : Nat} {r_X11_reads : Int32 → Int32 → Int32 → Int32 → Int32 → ST → Option (Int32 × ST)} (hr_X11_reads : ∀ {sz : Nat} {p0 : Int32} {p1 : Int32} {p2 : Int32} {p3 : Int32} {p4 : Int32} {σ : ST} {q : Int32 × ST}, r_X11_reads  p0 p1 p2 p3 p4 σ = some q → MetD csD l yX11_reads (.code yX11_reads cX11_reads 10 (some .boolean) :: pw) ({ frames := 343 + nn, cells := 0, slots := 0, locals := 8525 + 32 * nn } : Room) (va_Pc [.ref (a 0), .int p0, .int p1, .int p2, .int p3, .int p4] (vPre dC dI (wB a k σ) (tB k) sz)) (qBi dC dI a k (va_A (wB a k σ) sz) q) 0 0 (va_A (wB a k σ) sz)) {r_X11_readsItems : Int32 → Int32 → Int32 → Int32 → ST → Option (Int32 × ST)} (hr_X11_readsItems : ∀ {sz : Nat} {p0 : Int32} {p1 : Int32} {p2 : Int32} {p3 : Int32} {σ : ST} {q : Int32 × ST}, r_X11_readsItems  p0 p1 p2 p3 σ = some q → MetD csD l yX11_readsItems (.code yX11_readsItems cX11_readsItems 7 (some .boolean) :: pw) ({ frames := 343 + nn, cells := 0, slots := 0, locals := 8525 + 32 * nn } : Room) (va_Pc [.ref (a 0), .int p0, .int p1, .int p2, .int p3] (vPre dC dI (wB a k σ) (tB k) sz)) (qBi dC dI a k (va_A (wB a k σ) sz) q) 0 0 (va_A (wB a k σ) sz)) {r_X11_readsRecord : Int32 → Int32 → Int32 → Int32 → ST → Option (Int32 × ST)} (hr_X11_readsRecord : ∀ {sz : Nat} {p0 : Int32} {p1 : Int32} {p2 : Int32} {p3 : Int32} {σ : ST} {q : Int32 × ST}, r_X11_readsRecord  p0 p1 p2 p3 σ = some q → MetD csD l yX11_readsRecord (.code yX11_readsRecord cX11_readsRecord 13 (some .boolean) :: pw) ({ frames := 343 + nn, cells := 0, slots := 0, locals := 8525 + 32 * nn } : Room) (va_Pc [.ref (a 0), .int p0, .int p1, .int p2, .int p3] (vPre dC dI (wB a k σ) (tB k) sz)) (qBi dC dI a k (va_A (wB a k σ) sz) q) 0 0 (va_A (wB a k σ) sz))  {x1 : Int32} {x2 : Int32} {x3 : Int32} {x4 : Int32} {x5 : Int32} {y0 : Int32} {σ : ST} (h : f_X11_reads_158 r_X11_reads r_X11_readsItems r_X11_readsRecord x1 x2 x3 x4 x5 y0 σ = some q) : GdB p l e ({ frames := 343 + (nn + 1), cells := 0, slots := 0, locals := 8525 + 32 * (nn + 1) } : Room) s m args below meth c (MQD csD below (qBi dC dI a k A q) args s 0 0 A) dC dI a k A 10 158 σ [(0, .ref (a 0)), (1, .int x1), (2, .int x2), (3, .int x3), (4, .int x4), (5, .int x5)] [.int y0] := by
  have hC0 := hC
  obtain ⟨hx, hb, hr, hml, hown, hts, hlocks, hA, hN, hK⟩ := hC0
  have hts0 := hts
  have hN0 := hN
  have hK0 := hK
  intro d0 hd0
  replace hts := dr_words hts0 d0
  replace hN : nN (s.setDrawn d0) := nN.same (u := s) (U := s.setDrawn d0) rfl hN0
  replace hK : va_K (dC, dI) vwCl (tB k) (s.setDrawn d0) := hK0
  intro H locs ls hP hD hS hl
  have hD0 : ∀ σ1 : ST, va_D A (wB a k σ1) := fun σ1 => wB_D hD
  unfold f_X11_reads_158 at h
  refine lv_istore (lv' := [(7, .int y0), (0, .ref (a 0)), (1, .int x1), (2, .int x2), (3, .int x3), (4, .int x4), (5, .int x5)]) hx hb dX11_reads_158 hl (by decide) rfl (fun ls hl => ?_)
  refine lv_iload hx hb dX11_reads_160 (lv_at hl 0 rfl) ?_
  refine lv_if_ge (tgt := 169) hx hb dX11_reads_162 (by decide) (fun hc => ?_) (fun hc => ?_)
  · replace h := ip hc h
    refine lv_aload_n hx hb dX11_reads_169 rfl (lv_at hl 1 rfl) ?_
    refine va_get (D := (dC, dI)) (ci := 11) (C := RX11) (T := TX11) (N := 95) hx hb hts inlX11 hown hK hP 0 gB_0 rfl 17 (by decide) (hts (.fieldLink RX11 23 "ShapeReaderModel" "branch" "[I") mw_27_1) (fun _ h9 => h9) rfl dX11_reads_170 ?_
    refine lv_iconst (v := 4) hx hb dX11_reads_173 (by decide) ?_
    refine lv_iload_n hx hb dX11_reads_174 rfl (lv_at hl 3 rfl) ?_
    refine lv_imul hx hb dX11_reads_175 ?_
    refine lv_iload hx hb dX11_reads_176 (lv_at hl 0 rfl) ?_
    refine lv_iadd hx hb dX11_reads_178 ?_
    obtain ⟨hg1, h⟩ := ig h
    refine va_iald hx hb hK hP 5 4 gB_5 yB_5 (vp_in_iff.mpr hg1) dX11_reads_179 ?_
    exact b_X11_reads_180 hC hr_X11_reads hr_X11_readsItems hr_X11_readsRecord h _ hd0 _ _ _ hP hD hS (lv_sub hl [1, 2, 4, 5, 6, 0] rfl)
  · replace h := iq hc h
    refine lv_iload_n hx hb dX11_reads_165 rfl (lv_at hl 3 rfl) ?_
    refine lv_goto (tgt := 180) hx hb dX11_reads_166 (by decide) ?_
    exact b_X11_reads_180 hC hr_X11_reads hr_X11_readsItems hr_X11_readsRecord h _ hd0 _ _ _ hP hD hS (lv_sub hl [1, 2, 4, 5, 6, 0] rfl)

set_option maxRecDepth 100000 in
set_option maxHeartbeats 4000000 in
theorem b_X11_reads_157 {p : Program} {l : Launch} {e : Env} {s : State} {m : MethodId} {args : Array Value} {below : List Frame} {meth : Method} {c : Code} {dC : Nat → ClassId} {dI : Nat → Nat → Nat} {a : Nat → Nat} {k : Nat → ClassId} {A : Nat → Prop} {q : Int32 × ST} (hC : CxB p s m args meth c dC dI k A cX11_reads RX11 (some .boolean) 10) {nn : Nat} {r_X11_reads : Int32 → Int32 → Int32 → Int32 → Int32 → ST → Option (Int32 × ST)} (hr_X11_reads : ∀ {sz : Nat} {p0 : Int32} {p1 : Int32} {p2 : Int32} {p3 : Int32} {p4 : Int32} {σ : ST} {q : Int32 × ST}, r_X11_reads  p0 p1 p2 p3 p4 σ = some q → MetD csD l yX11_reads (.code yX11_reads cX11_reads 10 (some .boolean) :: pw) ({ frames := 343 + nn, cells := 0, slots := 0, locals := 8525 + 32 * nn } : Room) (va_Pc [.ref (a 0), .int p0, .int p1, .int p2, .int p3, .int p4] (vPre dC dI (wB a k σ) (tB k) sz)) (qBi dC dI a k (va_A (wB a k σ) sz) q) 0 0 (va_A (wB a k σ) sz)) {r_X11_readsItems : Int32 → Int32 → Int32 → Int32 → ST → Option (Int32 × ST)} (hr_X11_readsItems : ∀ {sz : Nat} {p0 : Int32} {p1 : Int32} {p2 : Int32} {p3 : Int32} {σ : ST} {q : Int32 × ST}, r_X11_readsItems  p0 p1 p2 p3 σ = some q → MetD csD l yX11_readsItems (.code yX11_readsItems cX11_readsItems 7 (some .boolean) :: pw) ({ frames := 343 + nn, cells := 0, slots := 0, locals := 8525 + 32 * nn } : Room) (va_Pc [.ref (a 0), .int p0, .int p1, .int p2, .int p3] (vPre dC dI (wB a k σ) (tB k) sz)) (qBi dC dI a k (va_A (wB a k σ) sz) q) 0 0 (va_A (wB a k σ) sz)) {r_X11_readsRecord : Int32 → Int32 → Int32 → Int32 → ST → Option (Int32 × ST)} (hr_X11_readsRecord : ∀ {sz : Nat} {p0 : Int32} {p1 : Int32} {p2 : Int32} {p3 : Int32} {σ : ST} {q : Int32 × ST}, r_X11_readsRecord  p0 p1 p2 p3 σ = some q → MetD csD l yX11_readsRecord (.code yX11_readsRecord cX11_readsRecord 13 (some .boolean) :: pw) ({ frames := 343 + nn, cells := 0, slots := 0, locals := 8525 + 32 * nn } : Room) (va_Pc [.ref (a 0), .int p0, .int p1, .int p2, .int p3] (vPre dC dI (wB a k σ) (tB k) sz)) (qBi dC dI a k (va_A (wB a k σ) sz) q) 0 0 (va_A (wB a k σ) sz))  {x1 : Int32} {x2 : Int32} {x3 : Int32} {x4 : Int32} {x5 : Int32} {σ : ST} (h : f_X11_reads_157 r_X11_reads r_X11_readsItems r_X11_readsRecord x1 x2 x3 x4 x5 σ = some q) : GdB p l e ({ frames := 343 + (nn + 1), cells := 0, slots := 0, locals := 8525 + 32 * (nn + 1) } : Room) s m args below meth c (MQD csD below (qBi dC dI a k A q) args s 0 0 A) dC dI a k A 10 157 σ [(0, .ref (a 0)), (1, .int x1), (2, .int x2), (3, .int x3), (4, .int x4), (5, .int x5)] [] := by
  have hC0 := hC
  obtain ⟨hx, hb, hr, hml, hown, hts, hlocks, hA, hN, hK⟩ := hC0
  have hts0 := hts
  have hN0 := hN
  have hK0 := hK
  intro d0 hd0
  replace hts := dr_words hts0 d0
  replace hN : nN (s.setDrawn d0) := nN.same (u := s) (U := s.setDrawn d0) rfl hN0
  replace hK : va_K (dC, dI) vwCl (tB k) (s.setDrawn d0) := hK0
  intro H locs ls hP hD hS hl
  have hD0 : ∀ σ1 : ST, va_D A (wB a k σ1) := fun σ1 => wB_D hD
  unfold f_X11_reads_157 at h
  refine lv_iconst (v := (-1)) hx hb dX11_reads_157 (by decide) ?_
  exact b_X11_reads_158 hC hr_X11_reads hr_X11_readsItems hr_X11_readsRecord h _ hd0 _ _ _ hP hD hS (lv_sub hl [0, 1, 2, 3, 4, 5] rfl)

set_option maxRecDepth 100000 in
set_option maxHeartbeats 4000000 in
theorem b_X11_reads_e {p : Program} {l : Launch} {e : Env} {s : State} {m : MethodId} {args : Array Value} {below : List Frame} {meth : Method} {c : Code} {dC : Nat → ClassId} {dI : Nat → Nat → Nat} {a : Nat → Nat} {k : Nat → ClassId} {A : Nat → Prop} {q : Int32 × ST} (hC : CxB p s m args meth c dC dI k A cX11_reads RX11 (some .boolean) 10) {nn : Nat} {r_X11_reads : Int32 → Int32 → Int32 → Int32 → Int32 → ST → Option (Int32 × ST)} (hr_X11_reads : ∀ {sz : Nat} {p0 : Int32} {p1 : Int32} {p2 : Int32} {p3 : Int32} {p4 : Int32} {σ : ST} {q : Int32 × ST}, r_X11_reads  p0 p1 p2 p3 p4 σ = some q → MetD csD l yX11_reads (.code yX11_reads cX11_reads 10 (some .boolean) :: pw) ({ frames := 343 + nn, cells := 0, slots := 0, locals := 8525 + 32 * nn } : Room) (va_Pc [.ref (a 0), .int p0, .int p1, .int p2, .int p3, .int p4] (vPre dC dI (wB a k σ) (tB k) sz)) (qBi dC dI a k (va_A (wB a k σ) sz) q) 0 0 (va_A (wB a k σ) sz)) {r_X11_readsItems : Int32 → Int32 → Int32 → Int32 → ST → Option (Int32 × ST)} (hr_X11_readsItems : ∀ {sz : Nat} {p0 : Int32} {p1 : Int32} {p2 : Int32} {p3 : Int32} {σ : ST} {q : Int32 × ST}, r_X11_readsItems  p0 p1 p2 p3 σ = some q → MetD csD l yX11_readsItems (.code yX11_readsItems cX11_readsItems 7 (some .boolean) :: pw) ({ frames := 343 + nn, cells := 0, slots := 0, locals := 8525 + 32 * nn } : Room) (va_Pc [.ref (a 0), .int p0, .int p1, .int p2, .int p3] (vPre dC dI (wB a k σ) (tB k) sz)) (qBi dC dI a k (va_A (wB a k σ) sz) q) 0 0 (va_A (wB a k σ) sz)) {r_X11_readsRecord : Int32 → Int32 → Int32 → Int32 → ST → Option (Int32 × ST)} (hr_X11_readsRecord : ∀ {sz : Nat} {p0 : Int32} {p1 : Int32} {p2 : Int32} {p3 : Int32} {σ : ST} {q : Int32 × ST}, r_X11_readsRecord  p0 p1 p2 p3 σ = some q → MetD csD l yX11_readsRecord (.code yX11_readsRecord cX11_readsRecord 13 (some .boolean) :: pw) ({ frames := 343 + nn, cells := 0, slots := 0, locals := 8525 + 32 * nn } : Room) (va_Pc [.ref (a 0), .int p0, .int p1, .int p2, .int p3] (vPre dC dI (wB a k σ) (tB k) sz)) (qBi dC dI a k (va_A (wB a k σ) sz) q) 0 0 (va_A (wB a k σ) sz))  {p0 : Int32} {p1 : Int32} {p2 : Int32} {p3 : Int32} {p4 : Int32} {σ : ST} (h : f_X11_reads r_X11_reads r_X11_readsItems r_X11_readsRecord p0 p1 p2 p3 p4 σ = some q) : GdB p l e ({ frames := 343 + (nn + 1), cells := 0, slots := 0, locals := 8525 + 32 * (nn + 1) } : Room) s m args below meth c (MQD csD below (qBi dC dI a k A q) args s 0 0 A) dC dI a k A 10 0 σ (lv_args 0 [.ref (a 0), .int p0, .int p1, .int p2, .int p3, .int p4]) [] := by
  have hC0 := hC
  obtain ⟨hx, hb, hr, hml, hown, hts, hlocks, hA, hN, hK⟩ := hC0
  have hts0 := hts
  have hN0 := hN
  have hK0 := hK
  intro d0 hd0
  replace hts := dr_words hts0 d0
  replace hN : nN (s.setDrawn d0) := nN.same (u := s) (U := s.setDrawn d0) rfl hN0
  replace hK : va_K (dC, dI) vwCl (tB k) (s.setDrawn d0) := hK0
  intro H locs ls hP hD hS hl
  have hD0 : ∀ σ1 : ST, va_D A (wB a k σ1) := fun σ1 => wB_D hD
  replace hl : lv_has ls 10 [(0, .ref (a 0)), (1, .int p0), (2, .int p1), (3, .int p2), (4, .int p3), (5, .int p4)] := hl
  unfold f_X11_reads at h
  refine lv_aload_n hx hb dX11_reads_0 rfl (lv_at hl 0 rfl) ?_
  refine va_get (D := (dC, dI)) (ci := 11) (C := RX11) (T := TX11) (N := 95) hx hb hts inlX11 hown hK hP 0 gB_0 rfl 64 (by decide) (hts (.fieldLink RX11 548 "ShapeReaderModel" "pos" "I") mw_37_13) (fun _ h9 => h9) rfl dX11_reads_1 ?_
  refine lv_istore (lv' := [(6, .int (σ.1 0 64)), (0, .ref (a 0)), (1, .int p0), (2, .int p1), (3, .int p2), (4, .int p3), (5, .int p4)]) hx hb dX11_reads_4 hl (by decide) rfl (fun ls hl => ?_)
  refine lv_iload_n hx hb dX11_reads_6 rfl (lv_at hl 4 rfl) ?_
  refine lv_bipush (v := 31) hx hb dX11_reads_7 (by decide) ?_
  refine lv_icmp_lt (tgt := 21) hx hb dX11_reads_9 (by decide) (fun hc => ?_) (fun hc => ?_)
  · replace h := ip hc h
    refine lv_aload_n hx hb dX11_reads_21 rfl (lv_at hl 1 rfl) ?_
    refine va_get (D := (dC, dI)) (ci := 11) (C := RX11) (T := TX11) (N := 95) hx hb hts inlX11 hown hK hP 0 gB_0 rfl 14 (by decide) (hts (.fieldLink RX11 13 "ShapeReaderModel" "typeSort" "[I") mw_26_28) (fun _ h9 => h9) rfl dX11_reads_22 ?_
    refine lv_iload_n hx hb dX11_reads_25 rfl (lv_at hl 2 rfl) ?_
    obtain ⟨hg1, h⟩ := ig h
    refine va_iald hx hb hK hP 2 1 gB_2 yB_2 (vp_in_iff.mpr hg1) dX11_reads_26 ?_
    refine lv_bipush (v := 8) hx hb dX11_reads_27 (by decide) ?_
    refine lv_icmp_ne (tgt := 133) hx hb dX11_reads_29 (by decide) (fun hc => ?_) (fun hc => ?_)
    · replace h := iq hc h
      refine lv_iload_n hx hb dX11_reads_133 rfl (lv_at hl 3 rfl) ?_
      refine lv_if_lt (tgt := 157) hx hb dX11_reads_134 (by decide) (fun hc => ?_) (fun hc => ?_)
      · replace h := ip hc h
        exact b_X11_reads_157 hC hr_X11_reads hr_X11_readsItems hr_X11_readsRecord h _ hd0 _ _ _ hP hD hS (lv_sub hl [1, 2, 3, 4, 5, 6] rfl)
      · replace h := iq hc h
        refine lv_aload_n hx hb dX11_reads_137 rfl (lv_at hl 1 rfl) ?_
        refine va_get (D := (dC, dI)) (ci := 11) (C := RX11) (T := TX11) (N := 95) hx hb hts inlX11 hown hK hP 0 gB_0 rfl 14 (by decide) (hts (.fieldLink RX11 13 "ShapeReaderModel" "typeSort" "[I") mw_26_28) (fun _ h9 => h9) rfl dX11_reads_138 ?_
        refine lv_iload_n hx hb dX11_reads_141 rfl (lv_at hl 3 rfl) ?_
        obtain ⟨hg2, h⟩ := ig h
        refine va_iald hx hb hK hP 2 1 gB_2 yB_2 (vp_in_iff.mpr hg2) dX11_reads_142 ?_
        refine lv_bipush (v := 8) hx hb dX11_reads_143 (by decide) ?_
        refine lv_icmp_ne (tgt := 157) hx hb dX11_reads_145 (by decide) (fun hc => ?_) (fun hc => ?_)
        · replace h := iq hc h
          exact b_X11_reads_157 hC hr_X11_reads hr_X11_readsItems hr_X11_readsRecord h _ hd0 _ _ _ hP hD hS (lv_sub hl [1, 2, 3, 4, 5, 6] rfl)
        · replace h := ip hc h
          refine lv_aload_n hx hb dX11_reads_148 rfl (lv_at hl 1 rfl) ?_
          refine lv_iload_n hx hb dX11_reads_149 rfl (lv_at hl 2 rfl) ?_
          refine lv_iload_n hx hb dX11_reads_150 rfl (lv_at hl 3 rfl) ?_
          obtain ⟨q3, hc, h⟩ := ib h
          have hF := va_frees hD hS hA
          refine va_calli (va_runV (As := [.int p0, .int p1]) (rest := []) ⟨hx, hb, hml, hown, hts⟩ (s_X11_chosen hc) (cwV 2 hts (gV mw_36_5 mw_36_6 mw_36_7 mw_0_15 mw_56_9) rfl rfl rfl (by decide +kernel) ⟨by show 342 + 1 ≤ 343 + (nn + 1); omega, by show 8 + (6 + 11) + 8500 ≤ 8525 + 32 * (nn + 1); omega⟩) (vV (ci := 11) (q0 := 0) hK hP hD hN rfl gB_0) rfl rfl hl.1 rfl (lv_room (Nat.le_of_ble_eq_true rfl)) dX11_reads_151 ⟨(Nat.le_of_ble_eq_true rfl), (Nat.le_of_ble_eq_true rfl)⟩) hS (fun q _ h => hF q h) hF (fun r4 u t H locs ht hvm hw hB _ _ hS => ?_)
          obtain rfl : r4 = q3.1 := hw
          replace hP : va_P (dC, dI) vwCl (wB a k q3.2) H := by rw [← ht]; exact hB.1
          replace hD := hD0 (q3.2)
          clear hB hF
          refine lv_goto (tgt := 158) hx hb dX11_reads_154 (by decide) ?_
          exact b_X11_reads_158 hC hr_X11_reads hr_X11_readsItems hr_X11_readsRecord h _ hd0 _ _ _ hP hD hS (lv_sub hl [1, 2, 3, 4, 5, 6] rfl)
    · replace h := ip hc h
      refine lv_aload_n hx hb dX11_reads_32 rfl (lv_at hl 1 rfl) ?_
      refine lv_iload hx hb dX11_reads_33 (lv_at hl 0 rfl) ?_
      refine lv_lconst (v := 0) hx hb dX11_reads_35 (by decide) ?_
      refine lv_aload_n hx hb dX11_reads_36 rfl (lv_at hl 1 rfl) ?_
      refine va_get (D := (dC, dI)) (ci := 11) (C := RX11) (T := TX11) (N := 95) hx hb hts inlX11 hown hK hP 0 gB_0 rfl 16 (by decide) (hts (.fieldLink RX11 20 "ShapeReaderModel" "typeMany" "[I") mw_27_0) (fun _ h9 => h9) rfl dX11_reads_37 ?_
      refine lv_iload_n hx hb dX11_reads_40 rfl (lv_at hl 2 rfl) ?_
      refine va_iald hx hb hK hP 4 3 gB_4 yB_4 (vp_in_iff.mpr hg1) dX11_reads_41 ?_
      refine lv_i2l (v := (σ.1 4 p0.toNatClampNeg).toInt64) hx hb dX11_reads_42 rfl ?_
      refine lv_lconst (v := 1) hx hb dX11_reads_43 (by decide) ?_
      refine lv_lsub hx hb dX11_reads_44 ?_
      obtain ⟨q5, hc, h⟩ := ib h
      have hF := va_frees hD hS hA
      refine va_calli (va_runV (As := [.int (σ.1 0 64), .long 0, .long (((σ.1 4 p0.toNatClampNeg).toInt64) - 1)]) (rest := []) ⟨hx, hb, hml, hown, hts⟩ (s_X11_readsInt hc) (cwV 3 hts (gV mw_37_27 mw_37_28 mw_37_29 mw_0_15 mw_56_25) rfl rfl rfl (by decide +kernel) ⟨by show 3 + 1 ≤ 343 + (nn + 1); omega, by show 8 + (6 + 11) + 69 ≤ 8525 + 32 * (nn + 1); omega⟩) (vV (ci := 11) (q0 := 0) hK hP hD hN rfl gB_0) rfl rfl hl.1 rfl (lv_room (Nat.le_of_ble_eq_true rfl)) dX11_reads_45 ⟨(Nat.le_of_ble_eq_true rfl), (Nat.le_of_ble_eq_true rfl)⟩) hS (fun q _ h => hF q h) hF (fun r6 u t H locs ht hvm hw hB _ _ hS => ?_)
      obtain rfl : r6 = q5.1 := hw
      replace hP : va_P (dC, dI) vwCl (wB a k q5.2) H := by rw [← ht]; exact hB.1
      replace hD := hD0 (q5.2)
      clear hB hF
      refine lv_if_ne (tgt := 53) hx hb dX11_reads_48 (by decide) (fun hc => ?_) (fun hc => ?_)
      · replace h := iq hc h
        refine lv_aload_n hx hb dX11_reads_53 rfl (lv_at hl 1 rfl) ?_
        refine va_get (D := (dC, dI)) (ci := 11) (C := RX11) (T := TX11) (N := 95) hx hb hts inlX11 hown hK hP 0 gB_0 rfl 70 (by decide) (hts (.fieldLink RX11 563 "ShapeReaderModel" "numberRead" "J") mw_37_22) (fun _ h9 => h9) rfl dX11_reads_54 ?_
        refine lv_l2i (v := (q5.2.2.1 0 70).toInt32) hx hb dX11_reads_57 rfl ?_
        refine lv_istore (lv' := [(7, .int ((q5.2.2.1 0 70).toInt32)), (6, .int (σ.1 0 64)), (0, .ref (a 0)), (1, .int p0), (2, .int p1), (3, .int p2), (4, .int p3), (5, .int p4)]) hx hb dX11_reads_58 hl (by decide) rfl (fun ls hl => ?_)
        refine lv_aload_n hx hb dX11_reads_60 rfl (lv_at hl 2 rfl) ?_
        refine va_get (D := (dC, dI)) (ci := 11) (C := RX11) (T := TX11) (N := 95) hx hb hts inlX11 hown hK hP 0 gB_0 rfl 17 (by decide) (hts (.fieldLink RX11 23 "ShapeReaderModel" "branch" "[I") mw_27_1) (fun _ h9 => h9) rfl dX11_reads_61 ?_
        refine lv_iconst (v := 4) hx hb dX11_reads_64 (by decide) ?_
        refine lv_iload_n hx hb dX11_reads_65 rfl (lv_at hl 3 rfl) ?_
        refine lv_imul hx hb dX11_reads_66 ?_
        refine lv_iload hx hb dX11_reads_67 (lv_at hl 0 rfl) ?_
        refine lv_iadd hx hb dX11_reads_69 ?_
        obtain ⟨hg7, h⟩ := ig h
        refine va_iald hx hb hK hP 5 4 gB_5 yB_5 (vp_in_iff.mpr hg7) dX11_reads_70 ?_
        refine lv_istore (lv' := [(8, .int (q5.2.1 5 ((4 * p0) + ((q5.2.2.1 0 70).toInt32)).toNatClampNeg)), (7, .int ((q5.2.2.1 0 70).toInt32)), (6, .int (σ.1 0 64)), (0, .ref (a 0)), (1, .int p0), (2, .int p1), (3, .int p2), (4, .int p3), (5, .int p4)]) hx hb dX11_reads_71 hl (by decide) rfl (fun ls hl => ?_)
        refine lv_iload_n hx hb dX11_reads_73 rfl (lv_at hl 5 rfl) ?_
        refine lv_if_lt (tgt := 96) hx hb dX11_reads_74 (by decide) (fun hc => ?_) (fun hc => ?_)
        · replace h := ip hc h
          exact b_X11_reads_96 hC hr_X11_reads hr_X11_readsItems hr_X11_readsRecord h _ hd0 _ _ _ hP hD hS (lv_sub hl [3, 5, 6, 7, 8, 1, 0] rfl)
        · replace h := iq hc h
          refine lv_aload_n hx hb dX11_reads_77 rfl (lv_at hl 3 rfl) ?_
          refine lv_iload hx hb dX11_reads_78 (lv_at hl 0 rfl) ?_
          refine lv_iload_n hx hb dX11_reads_80 rfl (lv_at hl 5 rfl) ?_
          obtain ⟨q8, hc, h⟩ := ib h
          have hF := va_frees hD hS hA
          refine va_calli (va_runV (As := [.int (q5.2.1 5 ((4 * p0) + ((q5.2.2.1 0 70).toInt32)).toNatClampNeg), .int p1]) (rest := []) ⟨hx, hb, hml, hown, hts⟩ (s_X11_match hc) (cwV 2 hts (gV mw_36_2 mw_36_3 mw_36_4 mw_0_15 mw_56_8) rfl rfl rfl (by decide +kernel) ⟨by show 342 + 1 ≤ 343 + (nn + 1); omega, by show 8 + (5 + 11) + 8500 ≤ 8525 + 32 * (nn + 1); omega⟩) (vV (ci := 11) (q0 := 0) hK hP hD hN rfl gB_0) rfl rfl hl.1 rfl (lv_room (Nat.le_of_ble_eq_true rfl)) dX11_reads_81 ⟨(Nat.le_of_ble_eq_true rfl), (Nat.le_of_ble_eq_true rfl)⟩) hS (fun q _ h => hF q h) hF (fun r9 u t H locs ht hvm hw hB _ _ hS => ?_)
          obtain rfl : r9 = q8.1 := hw
          replace hP : va_P (dC, dI) vwCl (wB a k q8.2) H := by rw [← ht]; exact hB.1
          replace hD := hD0 (q8.2)
          clear hB hF
          refine lv_if_ne (tgt := 96) hx hb dX11_reads_84 (by decide) (fun hc => ?_) (fun hc => ?_)
          · replace h := iq hc h
            exact b_X11_reads_96 hC hr_X11_reads hr_X11_readsItems hr_X11_readsRecord h _ hd0 _ _ _ hP hD hS (lv_sub hl [3, 5, 6, 7, 8, 1, 0] rfl)
          · replace h := ip hc h
            refine lv_aload_n hx hb dX11_reads_87 rfl (lv_at hl 3 rfl) ?_
            refine lv_bipush (v := 13) hx hb dX11_reads_88 (by decide) ?_
            refine lv_iload hx hb dX11_reads_90 (lv_at hl 2 rfl) ?_
            obtain ⟨q10, hc, h⟩ := ib h
            have hF := va_frees hD hS hA
            refine va_calli (va_runV (As := [.int 13, .int (σ.1 0 64)]) (rest := []) ⟨hx, hb, hml, hown, hts⟩ (s_X11_fails hc) (cwV 2 hts (gV mw_37_15 mw_37_16 mw_37_17 mw_0_15 mw_56_22) rfl rfl rfl (by decide +kernel) ⟨by show 0 + 1 ≤ 343 + (nn + 1); omega, by show 8 + (4 + 11) + 0 ≤ 8525 + 32 * (nn + 1); omega⟩) (vV (ci := 11) (q0 := 0) hK hP hD hN rfl gB_0) rfl rfl hl.1 rfl (lv_room (Nat.le_of_ble_eq_true rfl)) dX11_reads_92 ⟨(Nat.le_of_ble_eq_true rfl), (Nat.le_of_ble_eq_true rfl)⟩) hS (fun q _ h => hF q h) hF (fun r11 u t H locs ht hvm hw hB _ _ hS => ?_)
            obtain rfl : r11 = q10.1 := hw
            replace hP : va_P (dC, dI) vwCl (wB a k q10.2) H := by rw [← ht]; exact hB.1
            replace hD := hD0 (q10.2)
            clear hB hF
            refine W.endD hd0 ?_
            obtain ⟨hg, h⟩ := ig h
            obtain rfl := Option.some.inj h
            exact W.zret hx hb hr (zn hg) (fun t ht hW => ⟨⟨_, (), rfl, rfl, ⟨by rw [ht]; exact hP, va_K.moved hW.alike hK, hD⟩⟩, hS.F ht⟩) hS.2.2 dX11_reads_95
      · replace h := ip hc h
        refine lv_iconst (v := 0) hx hb dX11_reads_51 (by decide) ?_
        refine W.endD hd0 ?_
        obtain rfl := Option.some.inj h
        exact W.zret hx hb hr rfl (fun t ht hW => ⟨⟨_, (), rfl, rfl, ⟨by rw [ht]; exact hP, va_K.moved hW.alike hK, hD⟩⟩, hS.F ht⟩) hS.2.2 dX11_reads_52
  · replace h := iq hc h
    refine lv_aload_n hx hb dX11_reads_12 rfl (lv_at hl 1 rfl) ?_
    refine lv_bipush (v := 16) hx hb dX11_reads_13 (by decide) ?_
    refine lv_iload hx hb dX11_reads_15 (lv_at hl 0 rfl) ?_
    obtain ⟨q12, hc, h⟩ := ib h
    have hF := va_frees hD hS hA
    refine va_calli (va_runV (As := [.int 16, .int (σ.1 0 64)]) (rest := []) ⟨hx, hb, hml, hown, hts⟩ (s_X11_fails hc) (cwV 2 hts (gV mw_37_15 mw_37_16 mw_37_17 mw_0_15 mw_56_22) rfl rfl rfl (by decide +kernel) ⟨by show 0 + 1 ≤ 343 + (nn + 1); omega, by show 8 + (4 + 11) + 0 ≤ 8525 + 32 * (nn + 1); omega⟩) (vV (ci := 11) (q0 := 0) hK hP hD hN rfl gB_0) rfl rfl hl.1 rfl (lv_room (Nat.le_of_ble_eq_true rfl)) dX11_reads_17 ⟨(Nat.le_of_ble_eq_true rfl), (Nat.le_of_ble_eq_true rfl)⟩) hS (fun q _ h => hF q h) hF (fun r13 u t H locs ht hvm hw hB _ _ hS => ?_)
    obtain rfl : r13 = q12.1 := hw
    replace hP : va_P (dC, dI) vwCl (wB a k q12.2) H := by rw [← ht]; exact hB.1
    replace hD := hD0 (q12.2)
    clear hB hF
    refine W.endD hd0 ?_
    obtain ⟨hg, h⟩ := ig h
    obtain rfl := Option.some.inj h
    exact W.zret hx hb hr (zn hg) (fun t ht hW => ⟨⟨_, (), rfl, rfl, ⟨by rw [ht]; exact hP, va_K.moved hW.alike hK, hD⟩⟩, hS.F ht⟩) hS.2.2 dX11_reads_20


set_option maxRecDepth 100000 in
set_option maxHeartbeats 4000000 in
theorem b_X11_readsItems_64 {p : Program} {l : Launch} {e : Env} {s : State} {m : MethodId} {args : Array Value} {below : List Frame} {meth : Method} {c : Code} {dC : Nat → ClassId} {dI : Nat → Nat → Nat} {a : Nat → Nat} {k : Nat → ClassId} {A : Nat → Prop} {q : Int32 × ST} (hC : CxB p s m args meth c dC dI k A cX11_readsItems RX11 (some .boolean) 7) {nn : Nat} {r_X11_reads : Int32 → Int32 → Int32 → Int32 → Int32 → ST → Option (Int32 × ST)} (hr_X11_reads : ∀ {sz : Nat} {p0 : Int32} {p1 : Int32} {p2 : Int32} {p3 : Int32} {p4 : Int32} {σ : ST} {q : Int32 × ST}, r_X11_reads  p0 p1 p2 p3 p4 σ = some q → MetD csD l yX11_reads (.code yX11_reads cX11_reads 10 (some .boolean) :: pw) ({ frames := 343 + nn, cells := 0, slots := 0, locals := 8525 + 32 * nn } : Room) (va_Pc [.ref (a 0), .int p0, .int p1, .int p2, .int p3, .int p4] (vPre dC dI (wB a k σ) (tB k) sz)) (qBi dC dI a k (va_A (wB a k σ) sz) q) 0 0 (va_A (wB a k σ) sz)) {r_X11_readsItems : Int32 → Int32 → Int32 → Int32 → ST → Option (Int32 × ST)} (hr_X11_readsItems : ∀ {sz : Nat} {p0 : Int32} {p1 : Int32} {p2 : Int32} {p3 : Int32} {σ : ST} {q : Int32 × ST}, r_X11_readsItems  p0 p1 p2 p3 σ = some q → MetD csD l yX11_readsItems (.code yX11_readsItems cX11_readsItems 7 (some .boolean) :: pw) ({ frames := 343 + nn, cells := 0, slots := 0, locals := 8525 + 32 * nn } : Room) (va_Pc [.ref (a 0), .int p0, .int p1, .int p2, .int p3] (vPre dC dI (wB a k σ) (tB k) sz)) (qBi dC dI a k (va_A (wB a k σ) sz) q) 0 0 (va_A (wB a k σ) sz)) {r_X11_readsRecord : Int32 → Int32 → Int32 → Int32 → ST → Option (Int32 × ST)} (hr_X11_readsRecord : ∀ {sz : Nat} {p0 : Int32} {p1 : Int32} {p2 : Int32} {p3 : Int32} {σ : ST} {q : Int32 × ST}, r_X11_readsRecord  p0 p1 p2 p3 σ = some q → MetD csD l yX11_readsRecord (.code yX11_readsRecord cX11_readsRecord 13 (some .boolean) :: pw) ({ frames := 343 + nn, cells := 0, slots := 0, locals := 8525 + 32 * nn } : Room) (va_Pc [.ref (a 0), .int p0, .int p1, .int p2, .int p3] (vPre dC dI (wB a k σ) (tB k) sz)) (qBi dC dI a k (va_A (wB a k σ) sz) q) 0 0 (va_A (wB a k σ) sz)) {k27 : Int32 → Int32 → Int32 → Int32 → Int32 → Int32 → ST → Option (Int32 × ST)} (hk27 : ∀ (x1 : Int32) (x2 : Int32) (x3 : Int32) (x4 : Int32) (x5 : Int32) (x6 : Int32) (σ : ST), k27 x1 x2 x3 x4 x5 x6 σ = some q → GdB p l e ({ frames := 343 + (nn + 1), cells := 0, slots := 0, locals := 8525 + 32 * (nn + 1) } : Room) s m args below meth c (MQD csD below (qBi dC dI a k A q) args s 0 0 A) dC dI a k A 7 27 σ [(0, .ref (a 0)), (1, .int x1), (2, .int x2), (3, .int x3), (4, .int x4), (5, .int x5), (6, .int x6)] []) {x1 : Int32} {x2 : Int32} {x3 : Int32} {x4 : Int32} {x5 : Int32} {x6 : Int32} {y0 : Int32} {y1 : Int32} {σ : ST} (h : f_X11_readsItems_64 r_X11_reads r_X11_readsItems r_X11_readsRecord k27 x1 x2 x3 x4 x5 x6 y0 y1 σ = some q) : GdB p l e ({ frames := 343 + (nn + 1), cells := 0, slots := 0, locals := 8525 + 32 * (nn + 1) } : Room) s m args below meth c (MQD csD below (qBi dC dI a k A q) args s 0 0 A) dC dI a k A 7 64 σ [(0, .ref (a 0)), (1, .int x1), (2, .int x2), (3, .int x3), (4, .int x4), (5, .int x5), (6, .int x6)] [.int y0, .int y1, .ref (a 0)] := by
  have hC0 := hC
  obtain ⟨hx, hb, hr, hml, hown, hts, hlocks, hA, hN, hK⟩ := hC0
  have hts0 := hts
  have hN0 := hN
  have hK0 := hK
  intro d0 hd0
  replace hts := dr_words hts0 d0
  replace hN : nN (s.setDrawn d0) := nN.same (u := s) (U := s.setDrawn d0) rfl hN0
  replace hK : va_K (dC, dI) vwCl (tB k) (s.setDrawn d0) := hK0
  intro H locs ls hP hD hS hl
  have hD0 : ∀ σ1 : ST, va_D A (wB a k σ1) := fun σ1 => wB_D hD
  unfold f_X11_readsItems_64 at h
  refine lv_iload_n hx hb dX11_readsItems_64 rfl (lv_at hl 3 rfl) ?_
  refine lv_iconst (v := 1) hx hb dX11_readsItems_65 (by decide) ?_
  refine lv_iadd hx hb dX11_readsItems_66 ?_
  refine lv_iload hx hb dX11_readsItems_67 (lv_at hl 4 rfl) ?_
  refine lv_iload hx hb dX11_readsItems_69 (lv_at hl 6 rfl) ?_
  obtain ⟨q1, hc, h⟩ := ib h
  have hF := va_frees hD hS hA
  refine va_calliD hd0 (va_runV_D (As := [.int y1, .int y0, .int (x3 + 1), .int x4, .int x6]) (rest := []) ⟨hx, hb, hml, hown, hts⟩ (hr_X11_reads hc) (cwV 5 hts (gV mw_38_2 mw_38_3 mw_38_4 mw_0_15 mw_56_29) rfl rfl rfl (by decide +kernel) ⟨by show (343 + nn) + 1 ≤ 343 + (nn + 1); omega, by show 8 + (10 + 11) + (8525 + 32 * nn) ≤ 8525 + 32 * (nn + 1); omega⟩) (vV (ci := 11) (q0 := 0) hK hP hD hN rfl gB_0) rfl rfl hl.1 rfl (lv_room (Nat.le_of_ble_eq_true rfl)) dX11_readsItems_71 ⟨(Nat.le_of_ble_eq_true rfl), (Nat.le_of_ble_eq_true rfl)⟩) hS (fun q _ h => hF q h) hF (fun r2 u t H locs ht hvm hw hB _ _ hS d0 hd0 => ?_)
  replace hts := dr_words hts0 d0
  replace hN : nN (s.setDrawn d0) := nN.same (u := s) (U := s.setDrawn d0) rfl hN0
  replace hK : va_K (dC, dI) vwCl (tB k) (s.setDrawn d0) := hK0
  obtain rfl : r2 = q1.1 := hw
  replace hP : va_P (dC, dI) vwCl (wB a k q1.2) H := by rw [← ht]; exact hB.1
  replace hD := hD0 (q1.2)
  clear hB hF
  refine lv_if_ne (tgt := 79) hx hb dX11_readsItems_74 (by decide) (fun hc => ?_) (fun hc => ?_)
  · replace h := iq hc h
    refine lv_aload_n hx hb dX11_readsItems_79 rfl (lv_at hl 0 rfl) ?_
    refine lv_dup hx hb dX11_readsItems_80 rfl ?_
    refine va_get (D := (dC, dI)) (ci := 11) (C := RX11) (T := TX11) (N := 95) hx hb hts inlX11 hown hK hP 0 gB_0 rfl 57 (by decide) (hts (.fieldLink RX11 516 "ShapeReaderModel" "steps" "I") mw_36_18) (fun _ h9 => h9) rfl dX11_readsItems_81 ?_
    refine lv_iconst (v := 1) hx hb dX11_readsItems_84 (by decide) ?_
    refine lv_isub hx hb dX11_readsItems_85 ?_
    refine va_put (D := (dC, dI)) (ci := 11) (ty := .int) (C := RX11) (T := TX11) (N := 95) hx hb hts inlX11 tyX11 tyX11_ok nmX11 hown hK hP hD hS 0 gB_0 rfl 57 (by decide) (hts (.fieldLink RX11 516 "ShapeReaderModel" "steps" "I") mw_36_18) (fun _ h9 => h9) rfl (by decide +kernel) rfl rfl (Nat.le_of_ble_eq_true rfl) dX11_readsItems_86 (fun H locs hP hD hS => ?_)
    replace hP := uB_0_57 hP
    replace hD := hD0 ((stI q1.2 0 57 ((q1.2.1 0 57) - 1)))
    refine lv_iinc (v := (x6 + 1)) (lv' := [(6, .int (x6 + 1)), (0, .ref (a 0)), (1, .int x1), (2, .int x2), (3, .int x3), (4, .int x4), (5, .int x5)]) hx hb dX11_readsItems_89 hl (k := 6) rfl rfl (by decide) rfl (fun ls hl => ?_)
    refine lv_goto (tgt := 27) hx hb dX11_readsItems_92 (by decide) ?_
    exact hk27 _ _ _ _ _ _ _ h _ hd0 _ _ _ hP hD hS (lv_sub hl [1, 2, 3, 4, 5, 6, 0] rfl)
  · replace h := ip hc h
    refine lv_iconst (v := 0) hx hb dX11_readsItems_77 (by decide) ?_
    refine W.endD hd0 ?_
    obtain rfl := Option.some.inj h
    exact W.zret hx hb hr rfl (fun t ht hW => ⟨⟨_, (), rfl, rfl, ⟨by rw [ht]; exact hP, va_K.moved hW.alike hK, hD⟩⟩, hS.F ht⟩) hS.2.2 dX11_readsItems_78

set_option maxRecDepth 100000 in
set_option maxHeartbeats 4000000 in
theorem b_X11_readsItems_27 {p : Program} {l : Launch} {e : Env} {s : State} {m : MethodId} {args : Array Value} {below : List Frame} {meth : Method} {c : Code} {dC : Nat → ClassId} {dI : Nat → Nat → Nat} {a : Nat → Nat} {k : Nat → ClassId} {A : Nat → Prop} {q : Int32 × ST} (hC : CxB p s m args meth c dC dI k A cX11_readsItems RX11 (some .boolean) 7) {nn : Nat} {r_X11_reads : Int32 → Int32 → Int32 → Int32 → Int32 → ST → Option (Int32 × ST)} (hr_X11_reads : ∀ {sz : Nat} {p0 : Int32} {p1 : Int32} {p2 : Int32} {p3 : Int32} {p4 : Int32} {σ : ST} {q : Int32 × ST}, r_X11_reads  p0 p1 p2 p3 p4 σ = some q → MetD csD l yX11_reads (.code yX11_reads cX11_reads 10 (some .boolean) :: pw) ({ frames := 343 + nn, cells := 0, slots := 0, locals := 8525 + 32 * nn } : Room) (va_Pc [.ref (a 0), .int p0, .int p1, .int p2, .int p3, .int p4] (vPre dC dI (wB a k σ) (tB k) sz)) (qBi dC dI a k (va_A (wB a k σ) sz) q) 0 0 (va_A (wB a k σ) sz)) {r_X11_readsItems : Int32 → Int32 → Int32 → Int32 → ST → Option (Int32 × ST)} (hr_X11_readsItems : ∀ {sz : Nat} {p0 : Int32} {p1 : Int32} {p2 : Int32} {p3 : Int32} {σ : ST} {q : Int32 × ST}, r_X11_readsItems  p0 p1 p2 p3 σ = some q → MetD csD l yX11_readsItems (.code yX11_readsItems cX11_readsItems 7 (some .boolean) :: pw) ({ frames := 343 + nn, cells := 0, slots := 0, locals := 8525 + 32 * nn } : Room) (va_Pc [.ref (a 0), .int p0, .int p1, .int p2, .int p3] (vPre dC dI (wB a k σ) (tB k) sz)) (qBi dC dI a k (va_A (wB a k σ) sz) q) 0 0 (va_A (wB a k σ) sz)) {r_X11_readsRecord : Int32 → Int32 → Int32 → Int32 → ST → Option (Int32 × ST)} (hr_X11_readsRecord : ∀ {sz : Nat} {p0 : Int32} {p1 : Int32} {p2 : Int32} {p3 : Int32} {σ : ST} {q : Int32 × ST}, r_X11_readsRecord  p0 p1 p2 p3 σ = some q → MetD csD l yX11_readsRecord (.code yX11_readsRecord cX11_readsRecord 13 (some .boolean) :: pw) ({ frames := 343 + nn, cells := 0, slots := 0, locals := 8525 + 32 * nn } : Room) (va_Pc [.ref (a 0), .int p0, .int p1, .int p2, .int p3] (vPre dC dI (wB a k σ) (tB k) sz)) (qBi dC dI a k (va_A (wB a k σ) sz) q) 0 0 (va_A (wB a k σ) sz))  : ∀ (n : Nat) (x1 : Int32) (x2 : Int32) (x3 : Int32) (x4 : Int32) (x5 : Int32) (x6 : Int32) (σ : ST), f_X11_readsItems_27 r_X11_reads r_X11_readsItems r_X11_readsRecord n x1 x2 x3 x4 x5 x6 σ = some q → GdB p l e ({ frames := 343 + (nn + 1), cells := 0, slots := 0, locals := 8525 + 32 * (nn + 1) } : Room) s m args below meth c (MQD csD below (qBi dC dI a k A q) args s 0 0 A) dC dI a k A 7 27 σ [(0, .ref (a 0)), (1, .int x1), (2, .int x2), (3, .int x3), (4, .int x4), (5, .int x5), (6, .int x6)] [] := by
  intro n
  induction n with
  | zero =>
    intro x1 x2 x3 x4 x5 x6 σ h
    rw [f_X11_readsItems_27] at h
    cases h
  | succ n ih =>
    intro x1 x2 x3 x4 x5 x6 σ h
    have hC0 := hC
    obtain ⟨hx, hb, hr, hml, hown, hts, hlocks, hA, hN, hK⟩ := hC0
    have hts0 := hts
    have hN0 := hN
    have hK0 := hK
    intro d0 hd0
    replace hts := dr_words hts0 d0
    replace hN : nN (s.setDrawn d0) := nN.same (u := s) (U := s.setDrawn d0) rfl hN0
    replace hK : va_K (dC, dI) vwCl (tB k) (s.setDrawn d0) := hK0
    intro H locs ls hP hD hS hl
    have hD0 : ∀ σ1 : ST, va_D A (wB a k σ1) := fun σ1 => wB_D hD
    rw [f_X11_readsItems_27] at h
    refine lv_iload hx hb dX11_readsItems_27 (lv_at hl 6 rfl) ?_
    refine lv_iload hx hb dX11_readsItems_29 (lv_at hl 5 rfl) ?_
    refine lv_icmp_ge (tgt := 95) hx hb dX11_readsItems_31 (by decide) (fun hc => ?_) (fun hc => ?_)
    · replace h := ip hc h
      refine lv_iconst (v := 1) hx hb dX11_readsItems_95 (by decide) ?_
      refine W.endD hd0 ?_
      obtain rfl := Option.some.inj h
      exact W.zret hx hb hr rfl (fun t ht hW => ⟨⟨_, (), rfl, rfl, ⟨by rw [ht]; exact hP, va_K.moved hW.alike hK, hD⟩⟩, hS.F ht⟩) hS.2.2 dX11_readsItems_96
    · replace h := iq hc h
      refine lv_aload_n hx hb dX11_readsItems_34 rfl (lv_at hl 0 rfl) ?_
      refine lv_bipush (v := 100) hx hb dX11_readsItems_35 (by decide) ?_
      refine lv_iload hx hb dX11_readsItems_37 (lv_at hl 6 rfl) ?_
      refine lv_iadd hx hb dX11_readsItems_39 ?_
      obtain ⟨q1, hc, h⟩ := ib h
      have hF := va_frees hD hS hA
      refine va_callv (va_runV (As := [.int (100 + x6)]) (rest := []) ⟨hx, hb, hml, hown, hts⟩ (s_X11_enters hc) (cwV 1 hts (gV mw_36_19 mw_36_20 mw_36_21 mw_0_15 mw_56_13) rfl rfl rfl (by decide +kernel) ⟨by show 0 + 1 ≤ 343 + (nn + 1); omega, by show 8 + (2 + 11) + 0 ≤ 8525 + 32 * (nn + 1); omega⟩) (vV (ci := 11) (q0 := 0) hK hP hD hN rfl gB_0) rfl rfl hl.1 rfl (lv_room (Nat.le_of_ble_eq_true rfl)) dX11_readsItems_40 ⟨(Nat.le_of_ble_eq_true rfl), (Nat.le_of_ble_eq_true rfl)⟩) hS (fun q _ h => hF q h) hF (fun u t H locs ht hvm hw hB _ _ hS => ?_)
      replace hP : va_P (dC, dI) vwCl (wB a k q1) H := by rw [← ht]; exact hB.1
      replace hD := hD0 (q1)
      clear hB hF
      refine lv_aload_n hx hb dX11_readsItems_43 rfl (lv_at hl 0 rfl) ?_
      refine lv_aload_n hx hb dX11_readsItems_44 rfl (lv_at hl 0 rfl) ?_
      refine va_get (D := (dC, dI)) (ci := 11) (C := RX11) (T := TX11) (N := 95) hx hb hts inlX11 hown hK hP 0 gB_0 rfl 15 (by decide) (hts (.fieldLink RX11 17 "ShapeReaderModel" "typeArg" "[I") mw_26_29) (fun _ h9 => h9) rfl dX11_readsItems_45 ?_
      refine lv_iload_n hx hb dX11_readsItems_48 rfl (lv_at hl 1 rfl) ?_
      obtain ⟨hg3, h⟩ := ig h
      refine va_iald hx hb hK hP 3 2 gB_3 yB_3 (vp_in_iff.mpr hg3) dX11_readsItems_49 ?_
      refine lv_iload_n hx hb dX11_readsItems_50 rfl (lv_at hl 2 rfl) ?_
      refine lv_if_ge (tgt := 58) hx hb dX11_readsItems_51 (by decide) (fun hc => ?_) (fun hc => ?_)
      · replace h := ip hc h
        refine lv_aload_n hx hb dX11_readsItems_58 rfl (lv_at hl 0 rfl) ?_
        refine va_get (D := (dC, dI)) (ci := 11) (C := RX11) (T := TX11) (N := 95) hx hb hts inlX11 hown hK hP 0 gB_0 rfl 15 (by decide) (hts (.fieldLink RX11 17 "ShapeReaderModel" "typeArg" "[I") mw_26_29) (fun _ h9 => h9) rfl dX11_readsItems_59 ?_
        refine lv_iload_n hx hb dX11_readsItems_62 rfl (lv_at hl 2 rfl) ?_
        obtain ⟨hg4, h⟩ := ig h
        refine va_iald hx hb hK hP 3 2 gB_3 yB_3 (vp_in_iff.mpr hg4) dX11_readsItems_63 ?_
        exact b_X11_readsItems_64 hC hr_X11_reads hr_X11_readsItems hr_X11_readsRecord ih h _ hd0 _ _ _ hP hD hS (lv_sub hl [0, 1, 2, 3, 4, 5, 6] rfl)
      · replace h := iq hc h
        refine lv_iconst (v := (-1)) hx hb dX11_readsItems_54 (by decide) ?_
        refine lv_goto (tgt := 64) hx hb dX11_readsItems_55 (by decide) ?_
        exact b_X11_readsItems_64 hC hr_X11_reads hr_X11_readsItems hr_X11_readsRecord ih h _ hd0 _ _ _ hP hD hS (lv_sub hl [0, 1, 2, 3, 4, 5, 6] rfl)

set_option maxRecDepth 100000 in
set_option maxHeartbeats 4000000 in
theorem b_X11_readsItems_e {p : Program} {l : Launch} {e : Env} {s : State} {m : MethodId} {args : Array Value} {below : List Frame} {meth : Method} {c : Code} {dC : Nat → ClassId} {dI : Nat → Nat → Nat} {a : Nat → Nat} {k : Nat → ClassId} {A : Nat → Prop} {q : Int32 × ST} (hC : CxB p s m args meth c dC dI k A cX11_readsItems RX11 (some .boolean) 7) {nn : Nat} {r_X11_reads : Int32 → Int32 → Int32 → Int32 → Int32 → ST → Option (Int32 × ST)} (hr_X11_reads : ∀ {sz : Nat} {p0 : Int32} {p1 : Int32} {p2 : Int32} {p3 : Int32} {p4 : Int32} {σ : ST} {q : Int32 × ST}, r_X11_reads  p0 p1 p2 p3 p4 σ = some q → MetD csD l yX11_reads (.code yX11_reads cX11_reads 10 (some .boolean) :: pw) ({ frames := 343 + nn, cells := 0, slots := 0, locals := 8525 + 32 * nn } : Room) (va_Pc [.ref (a 0), .int p0, .int p1, .int p2, .int p3, .int p4] (vPre dC dI (wB a k σ) (tB k) sz)) (qBi dC dI a k (va_A (wB a k σ) sz) q) 0 0 (va_A (wB a k σ) sz)) {r_X11_readsItems : Int32 → Int32 → Int32 → Int32 → ST → Option (Int32 × ST)} (hr_X11_readsItems : ∀ {sz : Nat} {p0 : Int32} {p1 : Int32} {p2 : Int32} {p3 : Int32} {σ : ST} {q : Int32 × ST}, r_X11_readsItems  p0 p1 p2 p3 σ = some q → MetD csD l yX11_readsItems (.code yX11_readsItems cX11_readsItems 7 (some .boolean) :: pw) ({ frames := 343 + nn, cells := 0, slots := 0, locals := 8525 + 32 * nn } : Room) (va_Pc [.ref (a 0), .int p0, .int p1, .int p2, .int p3] (vPre dC dI (wB a k σ) (tB k) sz)) (qBi dC dI a k (va_A (wB a k σ) sz) q) 0 0 (va_A (wB a k σ) sz)) {r_X11_readsRecord : Int32 → Int32 → Int32 → Int32 → ST → Option (Int32 × ST)} (hr_X11_readsRecord : ∀ {sz : Nat} {p0 : Int32} {p1 : Int32} {p2 : Int32} {p3 : Int32} {σ : ST} {q : Int32 × ST}, r_X11_readsRecord  p0 p1 p2 p3 σ = some q → MetD csD l yX11_readsRecord (.code yX11_readsRecord cX11_readsRecord 13 (some .boolean) :: pw) ({ frames := 343 + nn, cells := 0, slots := 0, locals := 8525 + 32 * nn } : Room) (va_Pc [.ref (a 0), .int p0, .int p1, .int p2, .int p3] (vPre dC dI (wB a k σ) (tB k) sz)) (qBi dC dI a k (va_A (wB a k σ) sz) q) 0 0 (va_A (wB a k σ) sz))  {p0 : Int32} {p1 : Int32} {p2 : Int32} {p3 : Int32} {σ : ST} (h : f_X11_readsItems r_X11_reads r_X11_readsItems r_X11_readsRecord p0 p1 p2 p3 σ = some q) : GdB p l e ({ frames := 343 + (nn + 1), cells := 0, slots := 0, locals := 8525 + 32 * (nn + 1) } : Room) s m args below meth c (MQD csD below (qBi dC dI a k A q) args s 0 0 A) dC dI a k A 7 0 σ (lv_args 0 [.ref (a 0), .int p0, .int p1, .int p2, .int p3]) [] := by
  have hC0 := hC
  obtain ⟨hx, hb, hr, hml, hown, hts, hlocks, hA, hN, hK⟩ := hC0
  have hts0 := hts
  have hN0 := hN
  have hK0 := hK
  intro d0 hd0
  replace hts := dr_words hts0 d0
  replace hN : nN (s.setDrawn d0) := nN.same (u := s) (U := s.setDrawn d0) rfl hN0
  replace hK : va_K (dC, dI) vwCl (tB k) (s.setDrawn d0) := hK0
  intro H locs ls hP hD hS hl
  have hD0 : ∀ σ1 : ST, va_D A (wB a k σ1) := fun σ1 => wB_D hD
  replace hl : lv_has ls 7 [(0, .ref (a 0)), (1, .int p0), (2, .int p1), (3, .int p2), (4, .int p3)] := hl
  unfold f_X11_readsItems at h
  refine lv_aload_n hx hb dX11_readsItems_0 rfl (lv_at hl 0 rfl) ?_
  refine lv_aload_n hx hb dX11_readsItems_1 rfl (lv_at hl 0 rfl) ?_
  refine va_get (D := (dC, dI)) (ci := 11) (C := RX11) (T := TX11) (N := 95) hx hb hts inlX11 hown hK hP 0 gB_0 rfl 64 (by decide) (hts (.fieldLink RX11 548 "ShapeReaderModel" "pos" "I") mw_37_13) (fun _ h9 => h9) rfl dX11_readsItems_2 ?_
  refine lv_lconst (v := 0) hx hb dX11_readsItems_5 (by decide) ?_
  refine lv_ldc2 (v := 200) hx hb hown (hts (.constantLong RX11 607 (200)) mw_38_26) dX11_readsItems_6 ?_
  obtain ⟨q1, hc, h⟩ := ib h
  have hF := va_frees hD hS hA
  refine va_calli (va_runV (As := [.int (σ.1 0 64), .long 0, .long 200]) (rest := []) ⟨hx, hb, hml, hown, hts⟩ (s_X11_readsInt hc) (cwV 3 hts (gV mw_37_27 mw_37_28 mw_37_29 mw_0_15 mw_56_25) rfl rfl rfl (by decide +kernel) ⟨by show 3 + 1 ≤ 343 + (nn + 1); omega, by show 8 + (6 + 11) + 69 ≤ 8525 + 32 * (nn + 1); omega⟩) (vV (ci := 11) (q0 := 0) hK hP hD hN rfl gB_0) rfl rfl hl.1 rfl (lv_room (Nat.le_of_ble_eq_true rfl)) dX11_readsItems_9 ⟨(Nat.le_of_ble_eq_true rfl), (Nat.le_of_ble_eq_true rfl)⟩) hS (fun q _ h => hF q h) hF (fun r2 u t H locs ht hvm hw hB _ _ hS => ?_)
  obtain rfl : r2 = q1.1 := hw
  replace hP : va_P (dC, dI) vwCl (wB a k q1.2) H := by rw [← ht]; exact hB.1
  replace hD := hD0 (q1.2)
  clear hB hF
  refine lv_if_ne (tgt := 17) hx hb dX11_readsItems_12 (by decide) (fun hc => ?_) (fun hc => ?_)
  · replace h := iq hc h
    refine lv_aload_n hx hb dX11_readsItems_17 rfl (lv_at hl 0 rfl) ?_
    refine va_get (D := (dC, dI)) (ci := 11) (C := RX11) (T := TX11) (N := 95) hx hb hts inlX11 hown hK hP 0 gB_0 rfl 70 (by decide) (hts (.fieldLink RX11 563 "ShapeReaderModel" "numberRead" "J") mw_37_22) (fun _ h9 => h9) rfl dX11_readsItems_18 ?_
    refine lv_l2i (v := (q1.2.2.1 0 70).toInt32) hx hb dX11_readsItems_21 rfl ?_
    refine lv_istore (lv' := [(5, .int ((q1.2.2.1 0 70).toInt32)), (0, .ref (a 0)), (1, .int p0), (2, .int p1), (3, .int p2), (4, .int p3)]) hx hb dX11_readsItems_22 hl (by decide) rfl (fun ls hl => ?_)
    refine lv_iconst (v := 0) hx hb dX11_readsItems_24 (by decide) ?_
    refine lv_istore (lv' := [(6, .int 0), (5, .int ((q1.2.2.1 0 70).toInt32)), (0, .ref (a 0)), (1, .int p0), (2, .int p1), (3, .int p2), (4, .int p3)]) hx hb dX11_readsItems_25 hl (by decide) rfl (fun ls hl => ?_)
    exact b_X11_readsItems_27 hC hr_X11_reads hr_X11_readsItems hr_X11_readsRecord FU _ _ _ _ _ _ _ h _ hd0 _ _ _ hP hD hS (lv_sub hl [2, 3, 4, 5, 6, 1, 0] rfl)
  · replace h := ip hc h
    refine lv_iconst (v := 0) hx hb dX11_readsItems_15 (by decide) ?_
    refine W.endD hd0 ?_
    obtain rfl := Option.some.inj h
    exact W.zret hx hb hr rfl (fun t ht hW => ⟨⟨_, (), rfl, rfl, ⟨by rw [ht]; exact hP, va_K.moved hW.alike hK, hD⟩⟩, hS.F ht⟩) hS.2.2 dX11_readsItems_16


set_option maxRecDepth 100000 in
set_option maxHeartbeats 4000000 in
theorem b_X11_readsRecord_165 {p : Program} {l : Launch} {e : Env} {s : State} {m : MethodId} {args : Array Value} {below : List Frame} {meth : Method} {c : Code} {dC : Nat → ClassId} {dI : Nat → Nat → Nat} {a : Nat → Nat} {k : Nat → ClassId} {A : Nat → Prop} {q : Int32 × ST} (hC : CxB p s m args meth c dC dI k A cX11_readsRecord RX11 (some .boolean) 13) {nn : Nat} {r_X11_reads : Int32 → Int32 → Int32 → Int32 → Int32 → ST → Option (Int32 × ST)} (hr_X11_reads : ∀ {sz : Nat} {p0 : Int32} {p1 : Int32} {p2 : Int32} {p3 : Int32} {p4 : Int32} {σ : ST} {q : Int32 × ST}, r_X11_reads  p0 p1 p2 p3 p4 σ = some q → MetD csD l yX11_reads (.code yX11_reads cX11_reads 10 (some .boolean) :: pw) ({ frames := 343 + nn, cells := 0, slots := 0, locals := 8525 + 32 * nn } : Room) (va_Pc [.ref (a 0), .int p0, .int p1, .int p2, .int p3, .int p4] (vPre dC dI (wB a k σ) (tB k) sz)) (qBi dC dI a k (va_A (wB a k σ) sz) q) 0 0 (va_A (wB a k σ) sz)) {r_X11_readsItems : Int32 → Int32 → Int32 → Int32 → ST → Option (Int32 × ST)} (hr_X11_readsItems : ∀ {sz : Nat} {p0 : Int32} {p1 : Int32} {p2 : Int32} {p3 : Int32} {σ : ST} {q : Int32 × ST}, r_X11_readsItems  p0 p1 p2 p3 σ = some q → MetD csD l yX11_readsItems (.code yX11_readsItems cX11_readsItems 7 (some .boolean) :: pw) ({ frames := 343 + nn, cells := 0, slots := 0, locals := 8525 + 32 * nn } : Room) (va_Pc [.ref (a 0), .int p0, .int p1, .int p2, .int p3] (vPre dC dI (wB a k σ) (tB k) sz)) (qBi dC dI a k (va_A (wB a k σ) sz) q) 0 0 (va_A (wB a k σ) sz)) {r_X11_readsRecord : Int32 → Int32 → Int32 → Int32 → ST → Option (Int32 × ST)} (hr_X11_readsRecord : ∀ {sz : Nat} {p0 : Int32} {p1 : Int32} {p2 : Int32} {p3 : Int32} {σ : ST} {q : Int32 × ST}, r_X11_readsRecord  p0 p1 p2 p3 σ = some q → MetD csD l yX11_readsRecord (.code yX11_readsRecord cX11_readsRecord 13 (some .boolean) :: pw) ({ frames := 343 + nn, cells := 0, slots := 0, locals := 8525 + 32 * nn } : Room) (va_Pc [.ref (a 0), .int p0, .int p1, .int p2, .int p3] (vPre dC dI (wB a k σ) (tB k) sz)) (qBi dC dI a k (va_A (wB a k σ) sz) q) 0 0 (va_A (wB a k σ) sz)) {k43 : Int32 → Int32 → Int32 → Int32 → Int32 → Int32 → Int32 → ST → Option (Int32 × ST)} (hk43 : ∀ (x1 : Int32) (x2 : Int32) (x3 : Int32) (x4 : Int32) (x5 : Int32) (x6 : Int32) (x7 : Int32) (σ : ST), k43 x1 x2 x3 x4 x5 x6 x7 σ = some q → GdB p l e ({ frames := 343 + (nn + 1), cells := 0, slots := 0, locals := 8525 + 32 * (nn + 1) } : Room) s m args below meth c (MQD csD below (qBi dC dI a k A q) args s 0 0 A) dC dI a k A 13 43 σ [(0, .ref (a 0)), (1, .int x1), (2, .int x2), (3, .int x3), (4, .int x4), (5, .int x5), (6, .int x6), (7, .int x7)] []) {k83 : Int32 → Int32 → Int32 → Int32 → Int32 → Int32 → Int32 → Int32 → Int32 → Int32 → Int32 → ST → Option (Int32 × ST)} (hk83 : ∀ (x1 : Int32) (x2 : Int32) (x3 : Int32) (x4 : Int32) (x5 : Int32) (x6 : Int32) (x7 : Int32) (x8 : Int32) (x9 : Int32) (x10 : Int32) (x11 : Int32) (σ : ST), k83 x1 x2 x3 x4 x5 x6 x7 x8 x9 x10 x11 σ = some q → GdB p l e ({ frames := 343 + (nn + 1), cells := 0, slots := 0, locals := 8525 + 32 * (nn + 1) } : Room) s m args below meth c (MQD csD below (qBi dC dI a k A q) args s 0 0 A) dC dI a k A 13 83 σ [(0, .ref (a 0)), (1, .int x1), (2, .int x2), (3, .int x3), (4, .int x4), (5, .int x5), (6, .int x6), (7, .int x7), (8, .int x8), (9, .int x9), (10, .int x10), (11, .int x11)] []) {x1 : Int32} {x2 : Int32} {x3 : Int32} {x4 : Int32} {x5 : Int32} {x6 : Int32} {x7 : Int32} {x8 : Int32} {x9 : Int32} {x10 : Int32} {x11 : Int32} {σ : ST} (h : f_X11_readsRecord_165 r_X11_reads r_X11_readsItems r_X11_readsRecord k43 k83 x1 x2 x3 x4 x5 x6 x7 x8 x9 x10 x11 σ = some q) : GdB p l e ({ frames := 343 + (nn + 1), cells := 0, slots := 0, locals := 8525 + 32 * (nn + 1) } : Room) s m args below meth c (MQD csD below (qBi dC dI a k A q) args s 0 0 A) dC dI a k A 13 165 σ [(0, .ref (a 0)), (1, .int x1), (2, .int x2), (3, .int x3), (4, .int x4), (5, .int x5), (6, .int x6), (7, .int x7), (8, .int x8), (9, .int x9), (10, .int x10), (11, .int x11)] [] := by
  have hC0 := hC
  obtain ⟨hx, hb, hr, hml, hown, hts, hlocks, hA, hN, hK⟩ := hC0
  have hts0 := hts
  have hN0 := hN
  have hK0 := hK
  intro d0 hd0
  replace hts := dr_words hts0 d0
  replace hN : nN (s.setDrawn d0) := nN.same (u := s) (U := s.setDrawn d0) rfl hN0
  replace hK : va_K (dC, dI) vwCl (tB k) (s.setDrawn d0) := hK0
  intro H locs ls hP hD hS hl
  have hD0 : ∀ σ1 : ST, va_D A (wB a k σ1) := fun σ1 => wB_D hD
  unfold f_X11_readsRecord_165 at h
  refine lv_iinc (v := (x11 + 1)) (lv' := [(11, .int (x11 + 1)), (0, .ref (a 0)), (1, .int x1), (2, .int x2), (3, .int x3), (4, .int x4), (5, .int x5), (6, .int x6), (7, .int x7), (8, .int x8), (9, .int x9), (10, .int x10)]) hx hb dX11_readsRecord_165 hl (k := 11) rfl rfl (by decide) rfl (fun ls hl => ?_)
  refine lv_goto (tgt := 83) hx hb dX11_readsRecord_168 (by decide) ?_
  exact hk83 _ _ _ _ _ _ _ _ _ _ _ _ h _ hd0 _ _ _ hP hD hS (lv_sub hl [1, 2, 3, 4, 5, 6, 7, 8, 9, 10, 11, 0] rfl)

set_option maxRecDepth 100000 in
set_option maxHeartbeats 4000000 in
theorem b_X11_readsRecord_198 {p : Program} {l : Launch} {e : Env} {s : State} {m : MethodId} {args : Array Value} {below : List Frame} {meth : Method} {c : Code} {dC : Nat → ClassId} {dI : Nat → Nat → Nat} {a : Nat → Nat} {k : Nat → ClassId} {A : Nat → Prop} {q : Int32 × ST} (hC : CxB p s m args meth c dC dI k A cX11_readsRecord RX11 (some .boolean) 13) {nn : Nat} {r_X11_reads : Int32 → Int32 → Int32 → Int32 → Int32 → ST → Option (Int32 × ST)} (hr_X11_reads : ∀ {sz : Nat} {p0 : Int32} {p1 : Int32} {p2 : Int32} {p3 : Int32} {p4 : Int32} {σ : ST} {q : Int32 × ST}, r_X11_reads  p0 p1 p2 p3 p4 σ = some q → MetD csD l yX11_reads (.code yX11_reads cX11_reads 10 (some .boolean) :: pw) ({ frames := 343 + nn, cells := 0, slots := 0, locals := 8525 + 32 * nn } : Room) (va_Pc [.ref (a 0), .int p0, .int p1, .int p2, .int p3, .int p4] (vPre dC dI (wB a k σ) (tB k) sz)) (qBi dC dI a k (va_A (wB a k σ) sz) q) 0 0 (va_A (wB a k σ) sz)) {r_X11_readsItems : Int32 → Int32 → Int32 → Int32 → ST → Option (Int32 × ST)} (hr_X11_readsItems : ∀ {sz : Nat} {p0 : Int32} {p1 : Int32} {p2 : Int32} {p3 : Int32} {σ : ST} {q : Int32 × ST}, r_X11_readsItems  p0 p1 p2 p3 σ = some q → MetD csD l yX11_readsItems (.code yX11_readsItems cX11_readsItems 7 (some .boolean) :: pw) ({ frames := 343 + nn, cells := 0, slots := 0, locals := 8525 + 32 * nn } : Room) (va_Pc [.ref (a 0), .int p0, .int p1, .int p2, .int p3] (vPre dC dI (wB a k σ) (tB k) sz)) (qBi dC dI a k (va_A (wB a k σ) sz) q) 0 0 (va_A (wB a k σ) sz)) {r_X11_readsRecord : Int32 → Int32 → Int32 → Int32 → ST → Option (Int32 × ST)} (hr_X11_readsRecord : ∀ {sz : Nat} {p0 : Int32} {p1 : Int32} {p2 : Int32} {p3 : Int32} {σ : ST} {q : Int32 × ST}, r_X11_readsRecord  p0 p1 p2 p3 σ = some q → MetD csD l yX11_readsRecord (.code yX11_readsRecord cX11_readsRecord 13 (some .boolean) :: pw) ({ frames := 343 + nn, cells := 0, slots := 0, locals := 8525 + 32 * nn } : Room) (va_Pc [.ref (a 0), .int p0, .int p1, .int p2, .int p3] (vPre dC dI (wB a k σ) (tB k) sz)) (qBi dC dI a k (va_A (wB a k σ) sz) q) 0 0 (va_A (wB a k σ) sz)) {k43 : Int32 → Int32 → Int32 → Int32 → Int32 → Int32 → Int32 → ST → Option (Int32 × ST)} (hk43 : ∀ (x1 : Int32) (x2 : Int32) (x3 : Int32) (x4 : Int32) (x5 : Int32) (x6 : Int32) (x7 : Int32) (σ : ST), k43 x1 x2 x3 x4 x5 x6 x7 σ = some q → GdB p l e ({ frames := 343 + (nn + 1), cells := 0, slots := 0, locals := 8525 + 32 * (nn + 1) } : Room) s m args below meth c (MQD csD below (qBi dC dI a k A q) args s 0 0 A) dC dI a k A 13 43 σ [(0, .ref (a 0)), (1, .int x1), (2, .int x2), (3, .int x3), (4, .int x4), (5, .int x5), (6, .int x6), (7, .int x7)] []) {x1 : Int32} {x2 : Int32} {x3 : Int32} {x4 : Int32} {x5 : Int32} {x6 : Int32} {x7 : Int32} {σ : ST} (h : f_X11_readsRecord_198 r_X11_reads r_X11_readsItems r_X11_readsRecord k43 x1 x2 x3 x4 x5 x6 x7 σ = some q) : GdB p l e ({ frames := 343 + (nn + 1), cells := 0, slots := 0, locals := 8525 + 32 * (nn + 1) } : Room) s m args below meth c (MQD csD below (qBi dC dI a k A q) args s 0 0 A) dC dI a k A 13 198 σ [(0, .ref (a 0)), (1, .int x1), (2, .int x2), (3, .int x3), (4, .int x4), (5, .int x5), (6, .int x6), (7, .int x7)] [] := by
  have hC0 := hC
  obtain ⟨hx, hb, hr, hml, hown, hts, hlocks, hA, hN, hK⟩ := hC0
  have hts0 := hts
  have hN0 := hN
  have hK0 := hK
  intro d0 hd0
  replace hts := dr_words hts0 d0
  replace hN : nN (s.setDrawn d0) := nN.same (u := s) (U := s.setDrawn d0) rfl hN0
  replace hK : va_K (dC, dI) vwCl (tB k) (s.setDrawn d0) := hK0
  intro H locs ls hP hD hS hl
  have hD0 : ∀ σ1 : ST, va_D A (wB a k σ1) := fun σ1 => wB_D hD
  unfold f_X11_readsRecord_198 at h
  refine lv_aload_n hx hb dX11_readsRecord_198 rfl (lv_at hl 0 rfl) ?_
  refine lv_dup hx hb dX11_readsRecord_199 rfl ?_
  refine va_get (D := (dC, dI)) (ci := 11) (C := RX11) (T := TX11) (N := 95) hx hb hts inlX11 hown hK hP 0 gB_0 rfl 57 (by decide) (hts (.fieldLink RX11 516 "ShapeReaderModel" "steps" "I") mw_36_18) (fun _ h9 => h9) rfl dX11_readsRecord_200 ?_
  refine lv_iconst (v := 1) hx hb dX11_readsRecord_203 (by decide) ?_
  refine lv_isub hx hb dX11_readsRecord_204 ?_
  refine va_put (D := (dC, dI)) (ci := 11) (ty := .int) (C := RX11) (T := TX11) (N := 95) hx hb hts inlX11 tyX11 tyX11_ok nmX11 hown hK hP hD hS 0 gB_0 rfl 57 (by decide) (hts (.fieldLink RX11 516 "ShapeReaderModel" "steps" "I") mw_36_18) (fun _ h9 => h9) rfl (by decide +kernel) rfl rfl (Nat.le_of_ble_eq_true rfl) dX11_readsRecord_205 (fun H locs hP hD hS => ?_)
  replace hP := uB_0_57 hP
  replace hD := hD0 ((stI σ 0 57 ((σ.1 0 57) - 1)))
  refine lv_iinc (v := (x7 + 1)) (lv' := [(7, .int (x7 + 1)), (0, .ref (a 0)), (1, .int x1), (2, .int x2), (3, .int x3), (4, .int x4), (5, .int x5), (6, .int x6)]) hx hb dX11_readsRecord_208 hl (k := 7) rfl rfl (by decide) rfl (fun ls hl => ?_)
  refine lv_goto (tgt := 43) hx hb dX11_readsRecord_211 (by decide) ?_
  exact hk43 _ _ _ _ _ _ _ _ h _ hd0 _ _ _ hP hD hS (lv_sub hl [1, 2, 3, 4, 5, 6, 7, 0] rfl)

set_option maxRecDepth 100000 in
set_option maxHeartbeats 4000000 in
theorem b_X11_readsRecord_171 {p : Program} {l : Launch} {e : Env} {s : State} {m : MethodId} {args : Array Value} {below : List Frame} {meth : Method} {c : Code} {dC : Nat → ClassId} {dI : Nat → Nat → Nat} {a : Nat → Nat} {k : Nat → ClassId} {A : Nat → Prop} {q : Int32 × ST} (hC : CxB p s m args meth c dC dI k A cX11_readsRecord RX11 (some .boolean) 13) {nn : Nat} {r_X11_reads : Int32 → Int32 → Int32 → Int32 → Int32 → ST → Option (Int32 × ST)} (hr_X11_reads : ∀ {sz : Nat} {p0 : Int32} {p1 : Int32} {p2 : Int32} {p3 : Int32} {p4 : Int32} {σ : ST} {q : Int32 × ST}, r_X11_reads  p0 p1 p2 p3 p4 σ = some q → MetD csD l yX11_reads (.code yX11_reads cX11_reads 10 (some .boolean) :: pw) ({ frames := 343 + nn, cells := 0, slots := 0, locals := 8525 + 32 * nn } : Room) (va_Pc [.ref (a 0), .int p0, .int p1, .int p2, .int p3, .int p4] (vPre dC dI (wB a k σ) (tB k) sz)) (qBi dC dI a k (va_A (wB a k σ) sz) q) 0 0 (va_A (wB a k σ) sz)) {r_X11_readsItems : Int32 → Int32 → Int32 → Int32 → ST → Option (Int32 × ST)} (hr_X11_readsItems : ∀ {sz : Nat} {p0 : Int32} {p1 : Int32} {p2 : Int32} {p3 : Int32} {σ : ST} {q : Int32 × ST}, r_X11_readsItems  p0 p1 p2 p3 σ = some q → MetD csD l yX11_readsItems (.code yX11_readsItems cX11_readsItems 7 (some .boolean) :: pw) ({ frames := 343 + nn, cells := 0, slots := 0, locals := 8525 + 32 * nn } : Room) (va_Pc [.ref (a 0), .int p0, .int p1, .int p2, .int p3] (vPre dC dI (wB a k σ) (tB k) sz)) (qBi dC dI a k (va_A (wB a k σ) sz) q) 0 0 (va_A (wB a k σ) sz)) {r_X11_readsRecord : Int32 → Int32 → Int32 → Int32 → ST → Option (Int32 × ST)} (hr_X11_readsRecord : ∀ {sz : Nat} {p0 : Int32} {p1 : Int32} {p2 : Int32} {p3 : Int32} {σ : ST} {q : Int32 × ST}, r_X11_readsRecord  p0 p1 p2 p3 σ = some q → MetD csD l yX11_readsRecord (.code yX11_readsRecord cX11_readsRecord 13 (some .boolean) :: pw) ({ frames := 343 + nn, cells := 0, slots := 0, locals := 8525 + 32 * nn } : Room) (va_Pc [.ref (a 0), .int p0, .int p1, .int p2, .int p3] (vPre dC dI (wB a k σ) (tB k) sz)) (qBi dC dI a k (va_A (wB a k σ) sz) q) 0 0 (va_A (wB a k σ) sz)) {k43 : Int32 → Int32 → Int32 → Int32 → Int32 → Int32 → Int32 → ST → Option (Int32 × ST)} (hk43 : ∀ (x1 : Int32) (x2 : Int32) (x3 : Int32) (x4 : Int32) (x5 : Int32) (x6 : Int32) (x7 : Int32) (σ : ST), k43 x1 x2 x3 x4 x5 x6 x7 σ = some q → GdB p l e ({ frames := 343 + (nn + 1), cells := 0, slots := 0, locals := 8525 + 32 * (nn + 1) } : Room) s m args below meth c (MQD csD below (qBi dC dI a k A q) args s 0 0 A) dC dI a k A 13 43 σ [(0, .ref (a 0)), (1, .int x1), (2, .int x2), (3, .int x3), (4, .int x4), (5, .int x5), (6, .int x6), (7, .int x7)] []) {x1 : Int32} {x2 : Int32} {x3 : Int32} {x4 : Int32} {x5 : Int32} {x6 : Int32} {x7 : Int32} {x8 : Int32} {x10 : Int32} {σ : ST} (h : f_X11_readsRecord_171 r_X11_reads r_X11_readsItems r_X11_readsRecord k43 x1 x2 x3 x4 x5 x6 x7 x8 x10 σ = some q) : GdB p l e ({ frames := 343 + (nn + 1), cells := 0, slots := 0, locals := 8525 + 32 * (nn + 1) } : Room) s m args below meth c (MQD csD below (qBi dC dI a k A q) args s 0 0 A) dC dI a k A 13 171 σ [(0, .ref (a 0)), (1, .int x1), (2, .int x2), (3, .int x3), (4, .int x4), (5, .int x5), (6, .int x6), (7, .int x7), (8, .int x8), (10, .int x10)] [] := by
  have hC0 := hC
  obtain ⟨hx, hb, hr, hml, hown, hts, hlocks, hA, hN, hK⟩ := hC0
  have hts0 := hts
  have hN0 := hN
  have hK0 := hK
  intro d0 hd0
  replace hts := dr_words hts0 d0
  replace hN : nN (s.setDrawn d0) := nN.same (u := s) (U := s.setDrawn d0) rfl hN0
  replace hK : va_K (dC, dI) vwCl (tB k) (s.setDrawn d0) := hK0
  intro H locs ls hP hD hS hl
  have hD0 : ∀ σ1 : ST, va_D A (wB a k σ1) := fun σ1 => wB_D hD
  unfold f_X11_readsRecord_171 at h
  refine lv_iload hx hb dX11_readsRecord_171 (lv_at hl 9 rfl) ?_
  refine lv_if_ne (tgt := 198) hx hb dX11_readsRecord_173 (by decide) (fun hc => ?_) (fun hc => ?_)
  · replace h := iq hc h
    exact b_X11_readsRecord_198 hC hr_X11_reads hr_X11_readsItems hr_X11_readsRecord hk43 h _ hd0 _ _ _ hP hD hS (lv_sub hl [0, 1, 2, 3, 4, 5, 6, 7] rfl)
  · replace h := ip hc h
    refine lv_aload_n hx hb dX11_readsRecord_176 rfl (lv_at hl 0 rfl) ?_
    refine lv_aload_n hx hb dX11_readsRecord_177 rfl (lv_at hl 0 rfl) ?_
    refine va_get (D := (dC, dI)) (ci := 11) (C := RX11) (T := TX11) (N := 95) hx hb hts inlX11 hown hK hP 0 gB_0 rfl 27 (by decide) (hts (.fieldLink RX11 54 "ShapeReaderModel" "fieldType" "[I") mw_27_11) (fun _ h9 => h9) rfl dX11_readsRecord_178 ?_
    refine lv_iload hx hb dX11_readsRecord_181 (lv_at hl 8 rfl) ?_
    obtain ⟨hg1, h⟩ := ig h
    refine va_iald hx hb hK hP 15 14 gB_15 yB_15 (vp_in_iff.mpr hg1) dX11_readsRecord_183 ?_
    refine lv_iconst (v := (-1)) hx hb dX11_readsRecord_184 (by decide) ?_
    refine lv_iload_n hx hb dX11_readsRecord_185 rfl (lv_at hl 3 rfl) ?_
    refine lv_iconst (v := 1) hx hb dX11_readsRecord_186 (by decide) ?_
    refine lv_iadd hx hb dX11_readsRecord_187 ?_
    refine lv_iconst (v := (-1)) hx hb dX11_readsRecord_188 (by decide) ?_
    refine lv_iconst (v := 0) hx hb dX11_readsRecord_189 (by decide) ?_
    obtain ⟨q2, hc, h⟩ := ib h
    have hF := va_frees hD hS hA
    refine va_calliD hd0 (va_runV_D (As := [.int (σ.1 15 x8.toNatClampNeg), .int (-1), .int (x3 + 1), .int (-1), .int 0]) (rest := []) ⟨hx, hb, hml, hown, hts⟩ (hr_X11_reads hc) (cwV 5 hts (gV mw_38_2 mw_38_3 mw_38_4 mw_0_15 mw_56_29) rfl rfl rfl (by decide +kernel) ⟨by show (343 + nn) + 1 ≤ 343 + (nn + 1); omega, by show 8 + (10 + 11) + (8525 + 32 * nn) ≤ 8525 + 32 * (nn + 1); omega⟩) (vV (ci := 11) (q0 := 0) hK hP hD hN rfl gB_0) rfl rfl hl.1 rfl (lv_room (Nat.le_of_ble_eq_true rfl)) dX11_readsRecord_190 ⟨(Nat.le_of_ble_eq_true rfl), (Nat.le_of_ble_eq_true rfl)⟩) hS (fun q _ h => hF q h) hF (fun r3 u t H locs ht hvm hw hB _ _ hS d0 hd0 => ?_)
    replace hts := dr_words hts0 d0
    replace hN : nN (s.setDrawn d0) := nN.same (u := s) (U := s.setDrawn d0) rfl hN0
    replace hK : va_K (dC, dI) vwCl (tB k) (s.setDrawn d0) := hK0
    obtain rfl : r3 = q2.1 := hw
    replace hP : va_P (dC, dI) vwCl (wB a k q2.2) H := by rw [← ht]; exact hB.1
    replace hD := hD0 (q2.2)
    clear hB hF
    refine lv_if_ne (tgt := 198) hx hb dX11_readsRecord_193 (by decide) (fun hc => ?_) (fun hc => ?_)
    · replace h := iq hc h
      exact b_X11_readsRecord_198 hC hr_X11_reads hr_X11_readsItems hr_X11_readsRecord hk43 h _ hd0 _ _ _ hP hD hS (lv_sub hl [0, 1, 2, 3, 4, 5, 6, 7] rfl)
    · replace h := ip hc h
      refine lv_iconst (v := 0) hx hb dX11_readsRecord_196 (by decide) ?_
      refine W.endD hd0 ?_
      obtain rfl := Option.some.inj h
      exact W.zret hx hb hr rfl (fun t ht hW => ⟨⟨_, (), rfl, rfl, ⟨by rw [ht]; exact hP, va_K.moved hW.alike hK, hD⟩⟩, hS.F ht⟩) hS.2.2 dX11_readsRecord_197

set_option maxRecDepth 100000 in
set_option maxHeartbeats 4000000 in
theorem b_X11_readsRecord_83 {p : Program} {l : Launch} {e : Env} {s : State} {m : MethodId} {args : Array Value} {below : List Frame} {meth : Method} {c : Code} {dC : Nat → ClassId} {dI : Nat → Nat → Nat} {a : Nat → Nat} {k : Nat → ClassId} {A : Nat → Prop} {q : Int32 × ST} (hC : CxB p s m args meth c dC dI k A cX11_readsRecord RX11 (some .boolean) 13) {nn : Nat} {r_X11_reads : Int32 → Int32 → Int32 → Int32 → Int32 → ST → Option (Int32 × ST)} (hr_X11_reads : ∀ {sz : Nat} {p0 : Int32} {p1 : Int32} {p2 : Int32} {p3 : Int32} {p4 : Int32} {σ : ST} {q : Int32 × ST}, r_X11_reads  p0 p1 p2 p3 p4 σ = some q → MetD csD l yX11_reads (.code yX11_reads cX11_reads 10 (some .boolean) :: pw) ({ frames := 343 + nn, cells := 0, slots := 0, locals := 8525 + 32 * nn } : Room) (va_Pc [.ref (a 0), .int p0, .int p1, .int p2, .int p3, .int p4] (vPre dC dI (wB a k σ) (tB k) sz)) (qBi dC dI a k (va_A (wB a k σ) sz) q) 0 0 (va_A (wB a k σ) sz)) {r_X11_readsItems : Int32 → Int32 → Int32 → Int32 → ST → Option (Int32 × ST)} (hr_X11_readsItems : ∀ {sz : Nat} {p0 : Int32} {p1 : Int32} {p2 : Int32} {p3 : Int32} {σ : ST} {q : Int32 × ST}, r_X11_readsItems  p0 p1 p2 p3 σ = some q → MetD csD l yX11_readsItems (.code yX11_readsItems cX11_readsItems 7 (some .boolean) :: pw) ({ frames := 343 + nn, cells := 0, slots := 0, locals := 8525 + 32 * nn } : Room) (va_Pc [.ref (a 0), .int p0, .int p1, .int p2, .int p3] (vPre dC dI (wB a k σ) (tB k) sz)) (qBi dC dI a k (va_A (wB a k σ) sz) q) 0 0 (va_A (wB a k σ) sz)) {r_X11_readsRecord : Int32 → Int32 → Int32 → Int32 → ST → Option (Int32 × ST)} (hr_X11_readsRecord : ∀ {sz : Nat} {p0 : Int32} {p1 : Int32} {p2 : Int32} {p3 : Int32} {σ : ST} {q : Int32 × ST}, r_X11_readsRecord  p0 p1 p2 p3 σ = some q → MetD csD l yX11_readsRecord (.code yX11_readsRecord cX11_readsRecord 13 (some .boolean) :: pw) ({ frames := 343 + nn, cells := 0, slots := 0, locals := 8525 + 32 * nn } : Room) (va_Pc [.ref (a 0), .int p0, .int p1, .int p2, .int p3] (vPre dC dI (wB a k σ) (tB k) sz)) (qBi dC dI a k (va_A (wB a k σ) sz) q) 0 0 (va_A (wB a k σ) sz)) {k43 : Int32 → Int32 → Int32 → Int32 → Int32 → Int32 → Int32 → ST → Option (Int32 × ST)} (hk43 : ∀ (x1 : Int32) (x2 : Int32) (x3 : Int32) (x4 : Int32) (x5 : Int32) (x6 : Int32) (x7 : Int32) (σ : ST), k43 x1 x2 x3 x4 x5 x6 x7 σ = some q → GdB p l e ({ frames := 343 + (nn + 1), cells := 0, slots := 0, locals := 8525 + 32 * (nn + 1) } : Room) s m args below meth c (MQD csD below (qBi dC dI a k A q) args s 0 0 A) dC dI a k A 13 43 σ [(0, .ref (a 0)), (1, .int x1), (2, .int x2), (3, .int x3), (4, .int x4), (5, .int x5), (6, .int x6), (7, .int x7)] []) : ∀ (n : Nat) (x1 : Int32) (x2 : Int32) (x3 : Int32) (x4 : Int32) (x5 : Int32) (x6 : Int32) (x7 : Int32) (x8 : Int32) (x9 : Int32) (x10 : Int32) (x11 : Int32) (σ : ST), f_X11_readsRecord_83 r_X11_reads r_X11_readsItems r_X11_readsRecord k43 n x1 x2 x3 x4 x5 x6 x7 x8 x9 x10 x11 σ = some q → GdB p l e ({ frames := 343 + (nn + 1), cells := 0, slots := 0, locals := 8525 + 32 * (nn + 1) } : Room) s m args below meth c (MQD csD below (qBi dC dI a k A q) args s 0 0 A) dC dI a k A 13 83 σ [(0, .ref (a 0)), (1, .int x1), (2, .int x2), (3, .int x3), (4, .int x4), (5, .int x5), (6, .int x6), (7, .int x7), (8, .int x8), (9, .int x9), (10, .int x10), (11, .int x11)] [] := by
  intro n
  induction n with
  | zero =>
    intro x1 x2 x3 x4 x5 x6 x7 x8 x9 x10 x11 σ h
    rw [f_X11_readsRecord_83] at h
    cases h
  | succ n ih =>
    intro x1 x2 x3 x4 x5 x6 x7 x8 x9 x10 x11 σ h
    have hC0 := hC
    obtain ⟨hx, hb, hr, hml, hown, hts, hlocks, hA, hN, hK⟩ := hC0
    have hts0 := hts
    have hN0 := hN
    have hK0 := hK
    intro d0 hd0
    replace hts := dr_words hts0 d0
    replace hN : nN (s.setDrawn d0) := nN.same (u := s) (U := s.setDrawn d0) rfl hN0
    replace hK : va_K (dC, dI) vwCl (tB k) (s.setDrawn d0) := hK0
    intro H locs ls hP hD hS hl
    have hD0 : ∀ σ1 : ST, va_D A (wB a k σ1) := fun σ1 => wB_D hD
    rw [f_X11_readsRecord_83] at h
    refine lv_iload_n hx hb dX11_readsRecord_83 rfl (lv_at hl 2 rfl) ?_
    refine lv_if_lt (tgt := 171) hx hb dX11_readsRecord_84 (by decide) (fun hc => ?_) (fun hc => ?_)
    · replace h := ip hc h
      exact b_X11_readsRecord_171 hC hr_X11_reads hr_X11_readsItems hr_X11_readsRecord hk43 h _ hd0 _ _ _ hP hD hS (lv_sub hl [0, 1, 2, 3, 4, 5, 6, 7, 8, 10] rfl)
    · replace h := iq hc h
      refine lv_iload hx hb dX11_readsRecord_87 (lv_at hl 11 rfl) ?_
      refine lv_aload_n hx hb dX11_readsRecord_89 rfl (lv_at hl 0 rfl) ?_
      refine va_get (D := (dC, dI)) (ci := 11) (C := RX11) (T := TX11) (N := 95) hx hb hts inlX11 hown hK hP 0 gB_0 rfl 23 (by decide) (hts (.fieldLink RX11 42 "ShapeReaderModel" "fieldMany" "[I") mw_27_7) (fun _ h9 => h9) rfl dX11_readsRecord_90 ?_
      refine lv_iload hx hb dX11_readsRecord_93 (lv_at hl 6 rfl) ?_
      obtain ⟨hg1, h⟩ := ig h
      refine va_iald hx hb hK hP 11 10 gB_11 yB_11 (vp_in_iff.mpr hg1) dX11_readsRecord_95 ?_
      refine lv_icmp_ge (tgt := 171) hx hb dX11_readsRecord_96 (by decide) (fun hc => ?_) (fun hc => ?_)
      · replace h := ip hc h
        exact b_X11_readsRecord_171 hC hr_X11_reads hr_X11_readsItems hr_X11_readsRecord hk43 h _ hd0 _ _ _ hP hD hS (lv_sub hl [0, 1, 2, 3, 4, 5, 6, 7, 8, 10] rfl)
      · replace h := iq hc h
        refine lv_bipush (v := 8) hx hb dX11_readsRecord_99 (by decide) ?_
        refine lv_iload hx hb dX11_readsRecord_101 (lv_at hl 6 rfl) ?_
        refine lv_imul hx hb dX11_readsRecord_103 ?_
        refine lv_iload hx hb dX11_readsRecord_104 (lv_at hl 11 rfl) ?_
        refine lv_iadd hx hb dX11_readsRecord_106 ?_
        refine lv_istore (lv' := [(12, .int ((8 * x6) + x11)), (0, .ref (a 0)), (1, .int x1), (2, .int x2), (3, .int x3), (4, .int x4), (5, .int x5), (6, .int x6), (7, .int x7), (8, .int x8), (9, .int x9), (10, .int x10), (11, .int x11)]) hx hb dX11_readsRecord_107 hl (by decide) rfl (fun ls hl => ?_)
        refine lv_aload_n hx hb dX11_readsRecord_109 rfl (lv_at hl 1 rfl) ?_
        refine lv_aload_n hx hb dX11_readsRecord_110 rfl (lv_at hl 1 rfl) ?_
        refine va_get (D := (dC, dI)) (ci := 11) (C := RX11) (T := TX11) (N := 95) hx hb hts inlX11 hown hK hP 0 gB_0 rfl 15 (by decide) (hts (.fieldLink RX11 17 "ShapeReaderModel" "typeArg" "[I") mw_26_29) (fun _ h9 => h9) rfl dX11_readsRecord_111 ?_
        refine lv_iload_n hx hb dX11_readsRecord_114 rfl (lv_at hl 2 rfl) ?_
        obtain ⟨hg2, h⟩ := ig h
        refine va_iald hx hb hK hP 3 2 gB_3 yB_3 (vp_in_iff.mpr hg2) dX11_readsRecord_115 ?_
        refine lv_iload hx hb dX11_readsRecord_116 (lv_at hl 0 rfl) ?_
        obtain ⟨q3, hc, h⟩ := ib h
        have hF := va_frees hD hS hA
        refine va_calli (va_runV (As := [.int (σ.1 3 x1.toNatClampNeg), .int ((8 * x6) + x11)]) (rest := []) ⟨hx, hb, hml, hown, hts⟩ (s_X11_fieldFor hc) (cwV 2 hts (gV mw_36_11 mw_36_12 mw_36_13 mw_0_15 mw_56_7) rfl rfl rfl (by decide +kernel) ⟨by show 1 + 1 ≤ 343 + (nn + 1); omega, by show 8 + (4 + 11) + 24 ≤ 8525 + 32 * (nn + 1); omega⟩) (vV (ci := 11) (q0 := 0) hK hP hD hN rfl gB_0) rfl rfl hl.1 rfl (lv_room (Nat.le_of_ble_eq_true rfl)) dX11_readsRecord_118 ⟨(Nat.le_of_ble_eq_true rfl), (Nat.le_of_ble_eq_true rfl)⟩) hS (fun q _ h => hF q h) hF (fun r4 u t H locs ht hvm hw hB _ _ hS => ?_)
        obtain rfl : r4 = q3.1 := hw
        replace hP : va_P (dC, dI) vwCl (wB a k q3.2) H := by rw [← ht]; exact hB.1
        replace hD := hD0 (q3.2)
        clear hB hF
        refine lv_iload hx hb dX11_readsRecord_121 (lv_at hl 9 rfl) ?_
        refine lv_icmp_ne (tgt := 165) hx hb dX11_readsRecord_123 (by decide) (fun hc => ?_) (fun hc => ?_)
        · replace h := iq hc h
          exact b_X11_readsRecord_165 hC hr_X11_reads hr_X11_readsItems hr_X11_readsRecord hk43 ih h _ hd0 _ _ _ hP hD hS (lv_sub hl [1, 2, 3, 4, 5, 6, 7, 8, 9, 10, 11, 12] rfl)
        · replace h := ip hc h
          refine lv_aload_n hx hb dX11_readsRecord_126 rfl (lv_at hl 1 rfl) ?_
          refine lv_iload hx hb dX11_readsRecord_127 (lv_at hl 10 rfl) ?_
          refine va_put (D := (dC, dI)) (ci := 11) (ty := .int) (C := RX11) (T := TX11) (N := 95) hx hb hts inlX11 tyX11 tyX11_ok nmX11 hown hK hP hD hS 0 gB_0 rfl 64 (by decide) (hts (.fieldLink RX11 548 "ShapeReaderModel" "pos" "I") mw_37_13) (fun _ h9 => h9) rfl (by decide +kernel) rfl rfl (Nat.le_of_ble_eq_true rfl) dX11_readsRecord_129 (fun H locs hP hD hS => ?_)
          replace hP := uB_0_64 hP
          replace hD := hD0 ((stI q3.2 0 64 x9))
          refine lv_iinc (v := (x10 + 1)) (lv' := [(10, .int (x10 + 1)), (12, .int ((8 * x6) + x11)), (0, .ref (a 0)), (1, .int x1), (2, .int x2), (3, .int x3), (4, .int x4), (5, .int x5), (6, .int x6), (7, .int x7), (8, .int x8), (9, .int x9), (11, .int x11)]) hx hb dX11_readsRecord_132 hl (k := 11) rfl rfl (by decide) rfl (fun ls hl => ?_)
          refine lv_aload_n hx hb dX11_readsRecord_135 rfl (lv_at hl 2 rfl) ?_
          refine lv_aload_n hx hb dX11_readsRecord_136 rfl (lv_at hl 2 rfl) ?_
          refine va_get (D := (dC, dI)) (ci := 11) (C := RX11) (T := TX11) (N := 95) hx hb hts inlX11 hown hK hP 0 gB_0 rfl 27 (by decide) (hts (.fieldLink RX11 54 "ShapeReaderModel" "fieldType" "[I") mw_27_11) (fun _ h9 => h9) rfl dX11_readsRecord_137 ?_
          refine lv_iload hx hb dX11_readsRecord_140 (lv_at hl 10 rfl) ?_
          obtain ⟨hg5, h⟩ := ig h
          refine va_iald hx hb hK hP 15 14 gB_15 yB_15 (vp_in_iff.mpr hg5) dX11_readsRecord_142 ?_
          refine lv_aload_n hx hb dX11_readsRecord_143 rfl (lv_at hl 2 rfl) ?_
          refine va_get (D := (dC, dI)) (ci := 11) (C := RX11) (T := TX11) (N := 95) hx hb hts inlX11 hown hK hP 0 gB_0 rfl 27 (by decide) (hts (.fieldLink RX11 54 "ShapeReaderModel" "fieldType" "[I") mw_27_11) (fun _ h9 => h9) rfl dX11_readsRecord_144 ?_
          refine lv_iload hx hb dX11_readsRecord_147 (lv_at hl 1 rfl) ?_
          obtain ⟨hg6, h⟩ := ig h
          refine va_iald hx hb hK hP 15 14 gB_15 yB_15 (vp_in_iff.mpr hg6) dX11_readsRecord_149 ?_
          refine lv_iload_n hx hb dX11_readsRecord_150 rfl (lv_at hl 5 rfl) ?_
          refine lv_iconst (v := 1) hx hb dX11_readsRecord_151 (by decide) ?_
          refine lv_iadd hx hb dX11_readsRecord_152 ?_
          refine lv_iload hx hb dX11_readsRecord_153 (lv_at hl 6 rfl) ?_
          refine lv_iload hx hb dX11_readsRecord_155 (lv_at hl 12 rfl) ?_
          obtain ⟨q7, hc, h⟩ := ib h
          have hF := va_frees hD hS hA
          refine va_calliD hd0 (va_runV_D (As := [.int ((stI q3.2 0 64 x9).1 15 x8.toNatClampNeg), .int ((stI q3.2 0 64 x9).1 15 ((8 * x6) + x11).toNatClampNeg), .int (x3 + 1), .int x4, .int x11]) (rest := []) ⟨hx, hb, hml, hown, hts⟩ (hr_X11_reads hc) (cwV 5 hts (gV mw_38_2 mw_38_3 mw_38_4 mw_0_15 mw_56_29) rfl rfl rfl (by decide +kernel) ⟨by show (343 + nn) + 1 ≤ 343 + (nn + 1); omega, by show 8 + (10 + 11) + (8525 + 32 * nn) ≤ 8525 + 32 * (nn + 1); omega⟩) (vV (ci := 11) (q0 := 0) hK hP hD hN rfl gB_0) rfl rfl hl.1 rfl (lv_room (Nat.le_of_ble_eq_true rfl)) dX11_readsRecord_157 ⟨(Nat.le_of_ble_eq_true rfl), (Nat.le_of_ble_eq_true rfl)⟩) hS (fun q _ h => hF q h) hF (fun r8 u t H locs ht hvm hw hB _ _ hS d0 hd0 => ?_)
          replace hts := dr_words hts0 d0
          replace hN : nN (s.setDrawn d0) := nN.same (u := s) (U := s.setDrawn d0) rfl hN0
          replace hK : va_K (dC, dI) vwCl (tB k) (s.setDrawn d0) := hK0
          obtain rfl : r8 = q7.1 := hw
          replace hP : va_P (dC, dI) vwCl (wB a k q7.2) H := by rw [← ht]; exact hB.1
          replace hD := hD0 (q7.2)
          clear hB hF
          refine lv_if_ne (tgt := 165) hx hb dX11_readsRecord_160 (by decide) (fun hc => ?_) (fun hc => ?_)
          · replace h := iq hc h
            exact b_X11_readsRecord_165 hC hr_X11_reads hr_X11_readsItems hr_X11_readsRecord hk43 ih h _ hd0 _ _ _ hP hD hS (lv_sub hl [2, 3, 4, 5, 6, 7, 8, 9, 10, 11, 0, 12] rfl)
          · replace h := ip hc h
            refine lv_iconst (v := 0) hx hb dX11_readsRecord_163 (by decide) ?_
            refine W.endD hd0 ?_
            obtain rfl := Option.some.inj h
            exact W.zret hx hb hr rfl (fun t ht hW => ⟨⟨_, (), rfl, rfl, ⟨by rw [ht]; exact hP, va_K.moved hW.alike hK, hD⟩⟩, hS.F ht⟩) hS.2.2 dX11_readsRecord_164

set_option maxRecDepth 100000 in
set_option maxHeartbeats 4000000 in
theorem b_X11_readsRecord_286 {p : Program} {l : Launch} {e : Env} {s : State} {m : MethodId} {args : Array Value} {below : List Frame} {meth : Method} {c : Code} {dC : Nat → ClassId} {dI : Nat → Nat → Nat} {a : Nat → Nat} {k : Nat → ClassId} {A : Nat → Prop} {q : Int32 × ST} (hC : CxB p s m args meth c dC dI k A cX11_readsRecord RX11 (some .boolean) 13) {nn : Nat} {r_X11_reads : Int32 → Int32 → Int32 → Int32 → Int32 → ST → Option (Int32 × ST)} (hr_X11_reads : ∀ {sz : Nat} {p0 : Int32} {p1 : Int32} {p2 : Int32} {p3 : Int32} {p4 : Int32} {σ : ST} {q : Int32 × ST}, r_X11_reads  p0 p1 p2 p3 p4 σ = some q → MetD csD l yX11_reads (.code yX11_reads cX11_reads 10 (some .boolean) :: pw) ({ frames := 343 + nn, cells := 0, slots := 0, locals := 8525 + 32 * nn } : Room) (va_Pc [.ref (a 0), .int p0, .int p1, .int p2, .int p3, .int p4] (vPre dC dI (wB a k σ) (tB k) sz)) (qBi dC dI a k (va_A (wB a k σ) sz) q) 0 0 (va_A (wB a k σ) sz)) {r_X11_readsItems : Int32 → Int32 → Int32 → Int32 → ST → Option (Int32 × ST)} (hr_X11_readsItems : ∀ {sz : Nat} {p0 : Int32} {p1 : Int32} {p2 : Int32} {p3 : Int32} {σ : ST} {q : Int32 × ST}, r_X11_readsItems  p0 p1 p2 p3 σ = some q → MetD csD l yX11_readsItems (.code yX11_readsItems cX11_readsItems 7 (some .boolean) :: pw) ({ frames := 343 + nn, cells := 0, slots := 0, locals := 8525 + 32 * nn } : Room) (va_Pc [.ref (a 0), .int p0, .int p1, .int p2, .int p3] (vPre dC dI (wB a k σ) (tB k) sz)) (qBi dC dI a k (va_A (wB a k σ) sz) q) 0 0 (va_A (wB a k σ) sz)) {r_X11_readsRecord : Int32 → Int32 → Int32 → Int32 → ST → Option (Int32 × ST)} (hr_X11_readsRecord : ∀ {sz : Nat} {p0 : Int32} {p1 : Int32} {p2 : Int32} {p3 : Int32} {σ : ST} {q : Int32 × ST}, r_X11_readsRecord  p0 p1 p2 p3 σ = some q → MetD csD l yX11_readsRecord (.code yX11_readsRecord cX11_readsRecord 13 (some .boolean) :: pw) ({ frames := 343 + nn, cells := 0, slots := 0, locals := 8525 + 32 * nn } : Room) (va_Pc [.ref (a 0), .int p0, .int p1, .int p2, .int p3] (vPre dC dI (wB a k σ) (tB k) sz)) (qBi dC dI a k (va_A (wB a k σ) sz) q) 0 0 (va_A (wB a k σ) sz)) {k217 : Int32 → Int32 → Int32 → Int32 → Int32 → ST → Option (Int32 × ST)} (hk217 : ∀ (x1 : Int32) (x2 : Int32) (x4 : Int32) (x6 : Int32) (x7 : Int32) (σ : ST), k217 x1 x2 x4 x6 x7 σ = some q → GdB p l e ({ frames := 343 + (nn + 1), cells := 0, slots := 0, locals := 8525 + 32 * (nn + 1) } : Room) s m args below meth c (MQD csD below (qBi dC dI a k A q) args s 0 0 A) dC dI a k A 13 217 σ [(0, .ref (a 0)), (1, .int x1), (2, .int x2), (4, .int x4), (6, .int x6), (7, .int x7)] []) {x1 : Int32} {x2 : Int32} {x4 : Int32} {x6 : Int32} {x7 : Int32} {σ : ST} (h : f_X11_readsRecord_286 r_X11_reads r_X11_readsItems r_X11_readsRecord k217 x1 x2 x4 x6 x7 σ = some q) : GdB p l e ({ frames := 343 + (nn + 1), cells := 0, slots := 0, locals := 8525 + 32 * (nn + 1) } : Room) s m args below meth c (MQD csD below (qBi dC dI a k A q) args s 0 0 A) dC dI a k A 13 286 σ [(0, .ref (a 0)), (1, .int x1), (2, .int x2), (4, .int x4), (6, .int x6), (7, .int x7)] [] := by
  have hC0 := hC
  obtain ⟨hx, hb, hr, hml, hown, hts, hlocks, hA, hN, hK⟩ := hC0
  have hts0 := hts
  have hN0 := hN
  have hK0 := hK
  intro d0 hd0
  replace hts := dr_words hts0 d0
  replace hN : nN (s.setDrawn d0) := nN.same (u := s) (U := s.setDrawn d0) rfl hN0
  replace hK : va_K (dC, dI) vwCl (tB k) (s.setDrawn d0) := hK0
  intro H locs ls hP hD hS hl
  have hD0 : ∀ σ1 : ST, va_D A (wB a k σ1) := fun σ1 => wB_D hD
  unfold f_X11_readsRecord_286 at h
  refine lv_iinc (v := (x7 + 1)) (lv' := [(7, .int (x7 + 1)), (0, .ref (a 0)), (1, .int x1), (2, .int x2), (4, .int x4), (6, .int x6)]) hx hb dX11_readsRecord_286 hl (k := 5) rfl rfl (by decide) rfl (fun ls hl => ?_)
  refine lv_goto (tgt := 217) hx hb dX11_readsRecord_289 (by decide) ?_
  exact hk217 _ _ _ _ _ _ h _ hd0 _ _ _ hP hD hS (lv_sub hl [1, 2, 3, 4, 5, 0] rfl)

set_option maxRecDepth 100000 in
set_option maxHeartbeats 4000000 in
theorem b_X11_readsRecord_217 {p : Program} {l : Launch} {e : Env} {s : State} {m : MethodId} {args : Array Value} {below : List Frame} {meth : Method} {c : Code} {dC : Nat → ClassId} {dI : Nat → Nat → Nat} {a : Nat → Nat} {k : Nat → ClassId} {A : Nat → Prop} {q : Int32 × ST} (hC : CxB p s m args meth c dC dI k A cX11_readsRecord RX11 (some .boolean) 13) {nn : Nat} {r_X11_reads : Int32 → Int32 → Int32 → Int32 → Int32 → ST → Option (Int32 × ST)} (hr_X11_reads : ∀ {sz : Nat} {p0 : Int32} {p1 : Int32} {p2 : Int32} {p3 : Int32} {p4 : Int32} {σ : ST} {q : Int32 × ST}, r_X11_reads  p0 p1 p2 p3 p4 σ = some q → MetD csD l yX11_reads (.code yX11_reads cX11_reads 10 (some .boolean) :: pw) ({ frames := 343 + nn, cells := 0, slots := 0, locals := 8525 + 32 * nn } : Room) (va_Pc [.ref (a 0), .int p0, .int p1, .int p2, .int p3, .int p4] (vPre dC dI (wB a k σ) (tB k) sz)) (qBi dC dI a k (va_A (wB a k σ) sz) q) 0 0 (va_A (wB a k σ) sz)) {r_X11_readsItems : Int32 → Int32 → Int32 → Int32 → ST → Option (Int32 × ST)} (hr_X11_readsItems : ∀ {sz : Nat} {p0 : Int32} {p1 : Int32} {p2 : Int32} {p3 : Int32} {σ : ST} {q : Int32 × ST}, r_X11_readsItems  p0 p1 p2 p3 σ = some q → MetD csD l yX11_readsItems (.code yX11_readsItems cX11_readsItems 7 (some .boolean) :: pw) ({ frames := 343 + nn, cells := 0, slots := 0, locals := 8525 + 32 * nn } : Room) (va_Pc [.ref (a 0), .int p0, .int p1, .int p2, .int p3] (vPre dC dI (wB a k σ) (tB k) sz)) (qBi dC dI a k (va_A (wB a k σ) sz) q) 0 0 (va_A (wB a k σ) sz)) {r_X11_readsRecord : Int32 → Int32 → Int32 → Int32 → ST → Option (Int32 × ST)} (hr_X11_readsRecord : ∀ {sz : Nat} {p0 : Int32} {p1 : Int32} {p2 : Int32} {p3 : Int32} {σ : ST} {q : Int32 × ST}, r_X11_readsRecord  p0 p1 p2 p3 σ = some q → MetD csD l yX11_readsRecord (.code yX11_readsRecord cX11_readsRecord 13 (some .boolean) :: pw) ({ frames := 343 + nn, cells := 0, slots := 0, locals := 8525 + 32 * nn } : Room) (va_Pc [.ref (a 0), .int p0, .int p1, .int p2, .int p3] (vPre dC dI (wB a k σ) (tB k) sz)) (qBi dC dI a k (va_A (wB a k σ) sz) q) 0 0 (va_A (wB a k σ) sz))  : ∀ (n : Nat) (x1 : Int32) (x2 : Int32) (x4 : Int32) (x6 : Int32) (x7 : Int32) (σ : ST), f_X11_readsRecord_217 r_X11_reads r_X11_readsItems r_X11_readsRecord n x1 x2 x4 x6 x7 σ = some q → GdB p l e ({ frames := 343 + (nn + 1), cells := 0, slots := 0, locals := 8525 + 32 * (nn + 1) } : Room) s m args below meth c (MQD csD below (qBi dC dI a k A q) args s 0 0 A) dC dI a k A 13 217 σ [(0, .ref (a 0)), (1, .int x1), (2, .int x2), (4, .int x4), (6, .int x6), (7, .int x7)] [] := by
  intro n
  induction n with
  | zero =>
    intro x1 x2 x4 x6 x7 σ h
    rw [f_X11_readsRecord_217] at h
    cases h
  | succ n ih =>
    intro x1 x2 x4 x6 x7 σ h
    have hC0 := hC
    obtain ⟨hx, hb, hr, hml, hown, hts, hlocks, hA, hN, hK⟩ := hC0
    have hts0 := hts
    have hN0 := hN
    have hK0 := hK
    intro d0 hd0
    replace hts := dr_words hts0 d0
    replace hN : nN (s.setDrawn d0) := nN.same (u := s) (U := s.setDrawn d0) rfl hN0
    replace hK : va_K (dC, dI) vwCl (tB k) (s.setDrawn d0) := hK0
    intro H locs ls hP hD hS hl
    have hD0 : ∀ σ1 : ST, va_D A (wB a k σ1) := fun σ1 => wB_D hD
    rw [f_X11_readsRecord_217] at h
    refine lv_iload_n hx hb dX11_readsRecord_217 rfl (lv_at hl 2 rfl) ?_
    refine lv_if_lt (tgt := 292) hx hb dX11_readsRecord_218 (by decide) (fun hc => ?_) (fun hc => ?_)
    · replace h := ip hc h
      refine lv_iconst (v := 1) hx hb dX11_readsRecord_292 (by decide) ?_
      refine W.endD hd0 ?_
      obtain rfl := Option.some.inj h
      exact W.zret hx hb hr rfl (fun t ht hW => ⟨⟨_, (), rfl, rfl, ⟨by rw [ht]; exact hP, va_K.moved hW.alike hK, hD⟩⟩, hS.F ht⟩) hS.2.2 dX11_readsRecord_293
    · replace h := iq hc h
      refine lv_iload hx hb dX11_readsRecord_221 (lv_at hl 5 rfl) ?_
      refine lv_aload_n hx hb dX11_readsRecord_223 rfl (lv_at hl 0 rfl) ?_
      refine va_get (D := (dC, dI)) (ci := 11) (C := RX11) (T := TX11) (N := 95) hx hb hts inlX11 hown hK hP 0 gB_0 rfl 23 (by decide) (hts (.fieldLink RX11 42 "ShapeReaderModel" "fieldMany" "[I") mw_27_7) (fun _ h9 => h9) rfl dX11_readsRecord_224 ?_
      refine lv_iload hx hb dX11_readsRecord_227 (lv_at hl 4 rfl) ?_
      obtain ⟨hg1, h⟩ := ig h
      refine va_iald hx hb hK hP 11 10 gB_11 yB_11 (vp_in_iff.mpr hg1) dX11_readsRecord_229 ?_
      refine lv_icmp_ge (tgt := 292) hx hb dX11_readsRecord_230 (by decide) (fun hc => ?_) (fun hc => ?_)
      · replace h := ip hc h
        refine lv_iconst (v := 1) hx hb dX11_readsRecord_292 (by decide) ?_
        refine W.endD hd0 ?_
        obtain rfl := Option.some.inj h
        exact W.zret hx hb hr rfl (fun t ht hW => ⟨⟨_, (), rfl, rfl, ⟨by rw [ht]; exact hP, va_K.moved hW.alike hK, hD⟩⟩, hS.F ht⟩) hS.2.2 dX11_readsRecord_293
      · replace h := iq hc h
        refine lv_bipush (v := 8) hx hb dX11_readsRecord_233 (by decide) ?_
        refine lv_iload hx hb dX11_readsRecord_235 (lv_at hl 4 rfl) ?_
        refine lv_imul hx hb dX11_readsRecord_237 ?_
        refine lv_iload hx hb dX11_readsRecord_238 (lv_at hl 5 rfl) ?_
        refine lv_iadd hx hb dX11_readsRecord_240 ?_
        refine lv_istore (lv' := [(8, .int ((8 * x6) + x7)), (0, .ref (a 0)), (1, .int x1), (2, .int x2), (4, .int x4), (6, .int x6), (7, .int x7)]) hx hb dX11_readsRecord_241 hl (by decide) rfl (fun ls hl => ?_)
        refine lv_aload_n hx hb dX11_readsRecord_243 rfl (lv_at hl 1 rfl) ?_
        refine lv_aload_n hx hb dX11_readsRecord_244 rfl (lv_at hl 1 rfl) ?_
        refine va_get (D := (dC, dI)) (ci := 11) (C := RX11) (T := TX11) (N := 95) hx hb hts inlX11 hown hK hP 0 gB_0 rfl 15 (by decide) (hts (.fieldLink RX11 17 "ShapeReaderModel" "typeArg" "[I") mw_26_29) (fun _ h9 => h9) rfl dX11_readsRecord_245 ?_
        refine lv_iload_n hx hb dX11_readsRecord_248 rfl (lv_at hl 2 rfl) ?_
        obtain ⟨hg2, h⟩ := ig h
        refine va_iald hx hb hK hP 3 2 gB_3 yB_3 (vp_in_iff.mpr hg2) dX11_readsRecord_249 ?_
        refine lv_iload hx hb dX11_readsRecord_250 (lv_at hl 0 rfl) ?_
        obtain ⟨q3, hc, h⟩ := ib h
        have hF := va_frees hD hS hA
        refine va_calli (va_runV (As := [.int (σ.1 3 x1.toNatClampNeg), .int ((8 * x6) + x7)]) (rest := []) ⟨hx, hb, hml, hown, hts⟩ (s_X11_fieldFor hc) (cwV 2 hts (gV mw_36_11 mw_36_12 mw_36_13 mw_0_15 mw_56_7) rfl rfl rfl (by decide +kernel) ⟨by show 1 + 1 ≤ 343 + (nn + 1); omega, by show 8 + (4 + 11) + 24 ≤ 8525 + 32 * (nn + 1); omega⟩) (vV (ci := 11) (q0 := 0) hK hP hD hN rfl gB_0) rfl rfl hl.1 rfl (lv_room (Nat.le_of_ble_eq_true rfl)) dX11_readsRecord_252 ⟨(Nat.le_of_ble_eq_true rfl), (Nat.le_of_ble_eq_true rfl)⟩) hS (fun q _ h => hF q h) hF (fun r4 u t H locs ht hvm hw hB _ _ hS => ?_)
        obtain rfl : r4 = q3.1 := hw
        replace hP : va_P (dC, dI) vwCl (wB a k q3.2) H := by rw [← ht]; exact hB.1
        replace hD := hD0 (q3.2)
        clear hB hF
        refine lv_if_ge (tgt := 286) hx hb dX11_readsRecord_255 (by decide) (fun hc => ?_) (fun hc => ?_)
        · replace h := ip hc h
          exact b_X11_readsRecord_286 hC hr_X11_reads hr_X11_readsItems hr_X11_readsRecord ih h _ hd0 _ _ _ hP hD hS (lv_sub hl [1, 2, 3, 4, 5, 6] rfl)
        · replace h := iq hc h
          refine lv_aload_n hx hb dX11_readsRecord_258 rfl (lv_at hl 1 rfl) ?_
          refine va_get (D := (dC, dI)) (ci := 11) (C := RX11) (T := TX11) (N := 95) hx hb hts inlX11 hown hK hP 0 gB_0 rfl 46 (by decide) (hts (.fieldLink RX11 413 "ShapeReaderModel" "trees" "I") mw_33_28) (fun _ h9 => h9) rfl dX11_readsRecord_259 ?_
          refine lv_sipush (v := 400) hx hb dX11_readsRecord_262 (by decide) ?_
          refine lv_icmp_ne (tgt := 276) hx hb dX11_readsRecord_265 (by decide) (fun hc => ?_) (fun hc => ?_)
          · replace h := iq hc h
            refine lv_aload_n hx hb dX11_readsRecord_276 rfl (lv_at hl 1 rfl) ?_
            refine lv_iload hx hb dX11_readsRecord_277 (lv_at hl 0 rfl) ?_
            refine lv_iload hx hb dX11_readsRecord_279 (lv_at hl 4 rfl) ?_
            refine lv_iload hx hb dX11_readsRecord_281 (lv_at hl 6 rfl) ?_
            obtain ⟨q5, hc, h⟩ := ib h
            have hF := va_frees hD hS hA
            refine va_callv (va_runV (As := [.int ((8 * x6) + x7), .int x4, .int x7]) (rest := []) ⟨hx, hb, hml, hown, hts⟩ (s_X11_fills hc) (cwV 3 hts (gV mw_34_23 mw_34_24 mw_34_25 mw_0_15 mw_55_15) rfl rfl rfl (by decide +kernel) ⟨by show 2 + 1 ≤ 343 + (nn + 1); omega, by show 8 + (7 + 11) + 49 ≤ 8525 + 32 * (nn + 1); omega⟩) (vV (ci := 11) (q0 := 0) hK hP hD hN rfl gB_0) rfl rfl hl.1 rfl (lv_room (Nat.le_of_ble_eq_true rfl)) dX11_readsRecord_283 ⟨(Nat.le_of_ble_eq_true rfl), (Nat.le_of_ble_eq_true rfl)⟩) hS (fun q _ h => hF q h) hF (fun u t H locs ht hvm hw hB _ _ hS => ?_)
            replace hP : va_P (dC, dI) vwCl (wB a k q5) H := by rw [← ht]; exact hB.1
            replace hD := hD0 (q5)
            clear hB hF
            exact b_X11_readsRecord_286 hC hr_X11_reads hr_X11_readsItems hr_X11_readsRecord ih h _ hd0 _ _ _ hP hD hS (lv_sub hl [1, 2, 3, 4, 5, 6] rfl)
          · replace h := ip hc h
            refine lv_aload_n hx hb dX11_readsRecord_268 rfl (lv_at hl 1 rfl) ?_
            refine lv_bipush (v := 15) hx hb dX11_readsRecord_269 (by decide) ?_
            refine lv_iconst (v := (-1)) hx hb dX11_readsRecord_271 (by decide) ?_
            obtain ⟨q7, hc, h⟩ := ib h
            have hF := va_frees hD hS hA
            refine va_calli (va_runV (As := [.int 15, .int (-1)]) (rest := []) ⟨hx, hb, hml, hown, hts⟩ (s_X11_fails hc) (cwV 2 hts (gV mw_37_15 mw_37_16 mw_37_17 mw_0_15 mw_56_22) rfl rfl rfl (by decide +kernel) ⟨by show 0 + 1 ≤ 343 + (nn + 1); omega, by show 8 + (4 + 11) + 0 ≤ 8525 + 32 * (nn + 1); omega⟩) (vV (ci := 11) (q0 := 0) hK hP hD hN rfl gB_0) rfl rfl hl.1 rfl (lv_room (Nat.le_of_ble_eq_true rfl)) dX11_readsRecord_272 ⟨(Nat.le_of_ble_eq_true rfl), (Nat.le_of_ble_eq_true rfl)⟩) hS (fun q _ h => hF q h) hF (fun r8 u t H locs ht hvm hw hB _ _ hS => ?_)
            obtain rfl : r8 = q7.1 := hw
            replace hP : va_P (dC, dI) vwCl (wB a k q7.2) H := by rw [← ht]; exact hB.1
            replace hD := hD0 (q7.2)
            clear hB hF
            refine W.endD hd0 ?_
            obtain ⟨hg, h⟩ := ig h
            obtain rfl := Option.some.inj h
            exact W.zret hx hb hr (zn hg) (fun t ht hW => ⟨⟨_, (), rfl, rfl, ⟨by rw [ht]; exact hP, va_K.moved hW.alike hK, hD⟩⟩, hS.F ht⟩) hS.2.2 dX11_readsRecord_275

set_option maxRecDepth 100000 in
set_option maxHeartbeats 4000000 in
theorem b_X11_readsRecord_43 {p : Program} {l : Launch} {e : Env} {s : State} {m : MethodId} {args : Array Value} {below : List Frame} {meth : Method} {c : Code} {dC : Nat → ClassId} {dI : Nat → Nat → Nat} {a : Nat → Nat} {k : Nat → ClassId} {A : Nat → Prop} {q : Int32 × ST} (hC : CxB p s m args meth c dC dI k A cX11_readsRecord RX11 (some .boolean) 13) {nn : Nat} {r_X11_reads : Int32 → Int32 → Int32 → Int32 → Int32 → ST → Option (Int32 × ST)} (hr_X11_reads : ∀ {sz : Nat} {p0 : Int32} {p1 : Int32} {p2 : Int32} {p3 : Int32} {p4 : Int32} {σ : ST} {q : Int32 × ST}, r_X11_reads  p0 p1 p2 p3 p4 σ = some q → MetD csD l yX11_reads (.code yX11_reads cX11_reads 10 (some .boolean) :: pw) ({ frames := 343 + nn, cells := 0, slots := 0, locals := 8525 + 32 * nn } : Room) (va_Pc [.ref (a 0), .int p0, .int p1, .int p2, .int p3, .int p4] (vPre dC dI (wB a k σ) (tB k) sz)) (qBi dC dI a k (va_A (wB a k σ) sz) q) 0 0 (va_A (wB a k σ) sz)) {r_X11_readsItems : Int32 → Int32 → Int32 → Int32 → ST → Option (Int32 × ST)} (hr_X11_readsItems : ∀ {sz : Nat} {p0 : Int32} {p1 : Int32} {p2 : Int32} {p3 : Int32} {σ : ST} {q : Int32 × ST}, r_X11_readsItems  p0 p1 p2 p3 σ = some q → MetD csD l yX11_readsItems (.code yX11_readsItems cX11_readsItems 7 (some .boolean) :: pw) ({ frames := 343 + nn, cells := 0, slots := 0, locals := 8525 + 32 * nn } : Room) (va_Pc [.ref (a 0), .int p0, .int p1, .int p2, .int p3] (vPre dC dI (wB a k σ) (tB k) sz)) (qBi dC dI a k (va_A (wB a k σ) sz) q) 0 0 (va_A (wB a k σ) sz)) {r_X11_readsRecord : Int32 → Int32 → Int32 → Int32 → ST → Option (Int32 × ST)} (hr_X11_readsRecord : ∀ {sz : Nat} {p0 : Int32} {p1 : Int32} {p2 : Int32} {p3 : Int32} {σ : ST} {q : Int32 × ST}, r_X11_readsRecord  p0 p1 p2 p3 σ = some q → MetD csD l yX11_readsRecord (.code yX11_readsRecord cX11_readsRecord 13 (some .boolean) :: pw) ({ frames := 343 + nn, cells := 0, slots := 0, locals := 8525 + 32 * nn } : Room) (va_Pc [.ref (a 0), .int p0, .int p1, .int p2, .int p3] (vPre dC dI (wB a k σ) (tB k) sz)) (qBi dC dI a k (va_A (wB a k σ) sz) q) 0 0 (va_A (wB a k σ) sz))  : ∀ (n : Nat) (x1 : Int32) (x2 : Int32) (x3 : Int32) (x4 : Int32) (x5 : Int32) (x6 : Int32) (x7 : Int32) (σ : ST), f_X11_readsRecord_43 r_X11_reads r_X11_readsItems r_X11_readsRecord n x1 x2 x3 x4 x5 x6 x7 σ = some q → GdB p l e ({ frames := 343 + (nn + 1), cells := 0, slots := 0, locals := 8525 + 32 * (nn + 1) } : Room) s m args below meth c (MQD csD below (qBi dC dI a k A q) args s 0 0 A) dC dI a k A 13 43 σ [(0, .ref (a 0)), (1, .int x1), (2, .int x2), (3, .int x3), (4, .int x4), (5, .int x5), (6, .int x6), (7, .int x7)] [] := by
  intro n
  induction n with
  | zero =>
    intro x1 x2 x3 x4 x5 x6 x7 σ h
    rw [f_X11_readsRecord_43] at h
    cases h
  | succ n ih =>
    intro x1 x2 x3 x4 x5 x6 x7 σ h
    have hC0 := hC
    obtain ⟨hx, hb, hr, hml, hown, hts, hlocks, hA, hN, hK⟩ := hC0
    have hts0 := hts
    have hN0 := hN
    have hK0 := hK
    intro d0 hd0
    replace hts := dr_words hts0 d0
    replace hN : nN (s.setDrawn d0) := nN.same (u := s) (U := s.setDrawn d0) rfl hN0
    replace hK : va_K (dC, dI) vwCl (tB k) (s.setDrawn d0) := hK0
    intro H locs ls hP hD hS hl
    have hD0 : ∀ σ1 : ST, va_D A (wB a k σ1) := fun σ1 => wB_D hD
    rw [f_X11_readsRecord_43] at h
    refine lv_iload hx hb dX11_readsRecord_43 (lv_at hl 7 rfl) ?_
    refine lv_aload_n hx hb dX11_readsRecord_45 rfl (lv_at hl 0 rfl) ?_
    refine va_get (D := (dC, dI)) (ci := 11) (C := RX11) (T := TX11) (N := 95) hx hb hts inlX11 hown hK hP 0 gB_0 rfl 23 (by decide) (hts (.fieldLink RX11 42 "ShapeReaderModel" "fieldMany" "[I") mw_27_7) (fun _ h9 => h9) rfl dX11_readsRecord_46 ?_
    refine lv_iload hx hb dX11_readsRecord_49 (lv_at hl 5 rfl) ?_
    obtain ⟨hg1, h⟩ := ig h
    refine va_iald hx hb hK hP 11 10 gB_11 yB_11 (vp_in_iff.mpr hg1) dX11_readsRecord_51 ?_
    refine lv_icmp_ge (tgt := 214) hx hb dX11_readsRecord_52 (by decide) (fun hc => ?_) (fun hc => ?_)
    · replace h := ip hc h
      refine lv_iconst (v := 0) hx hb dX11_readsRecord_214 (by decide) ?_
      refine lv_istore (lv' := [(7, .int 0), (0, .ref (a 0)), (1, .int x1), (2, .int x2), (3, .int x3), (4, .int x4), (5, .int x5), (6, .int x6)]) hx hb dX11_readsRecord_215 hl (by decide) rfl (fun ls hl => ?_)
      exact b_X11_readsRecord_217 hC hr_X11_reads hr_X11_readsItems hr_X11_readsRecord FU _ _ _ _ _ _ h _ hd0 _ _ _ hP hD hS (lv_sub hl [1, 2, 3, 5, 7, 0] rfl)
    · replace h := iq hc h
      refine lv_bipush (v := 8) hx hb dX11_readsRecord_55 (by decide) ?_
      refine lv_iload hx hb dX11_readsRecord_57 (lv_at hl 5 rfl) ?_
      refine lv_imul hx hb dX11_readsRecord_59 ?_
      refine lv_iload hx hb dX11_readsRecord_60 (lv_at hl 7 rfl) ?_
      refine lv_iadd hx hb dX11_readsRecord_62 ?_
      refine lv_istore (lv' := [(8, .int ((8 * x5) + x7)), (0, .ref (a 0)), (1, .int x1), (2, .int x2), (3, .int x3), (4, .int x4), (5, .int x5), (6, .int x6), (7, .int x7)]) hx hb dX11_readsRecord_63 hl (by decide) rfl (fun ls hl => ?_)
      refine lv_aload_n hx hb dX11_readsRecord_65 rfl (lv_at hl 1 rfl) ?_
      refine va_get (D := (dC, dI)) (ci := 11) (C := RX11) (T := TX11) (N := 95) hx hb hts inlX11 hown hK hP 0 gB_0 rfl 64 (by decide) (hts (.fieldLink RX11 548 "ShapeReaderModel" "pos" "I") mw_37_13) (fun _ h9 => h9) rfl dX11_readsRecord_66 ?_
      refine lv_istore (lv' := [(9, .int (σ.1 0 64)), (8, .int ((8 * x5) + x7)), (0, .ref (a 0)), (1, .int x1), (2, .int x2), (3, .int x3), (4, .int x4), (5, .int x5), (6, .int x6), (7, .int x7)]) hx hb dX11_readsRecord_69 hl (by decide) rfl (fun ls hl => ?_)
      refine lv_iconst (v := 0) hx hb dX11_readsRecord_71 (by decide) ?_
      refine lv_istore (lv' := [(10, .int 0), (9, .int (σ.1 0 64)), (8, .int ((8 * x5) + x7)), (0, .ref (a 0)), (1, .int x1), (2, .int x2), (3, .int x3), (4, .int x4), (5, .int x5), (6, .int x6), (7, .int x7)]) hx hb dX11_readsRecord_72 hl (by decide) rfl (fun ls hl => ?_)
      refine lv_aload_n hx hb dX11_readsRecord_74 rfl (lv_at hl 3 rfl) ?_
      refine lv_iload hx hb dX11_readsRecord_75 (lv_at hl 10 rfl) ?_
      obtain ⟨q2, hc, h⟩ := ib h
      have hF := va_frees hD hS hA
      refine va_callv (va_runV (As := [.int x7]) (rest := []) ⟨hx, hb, hml, hown, hts⟩ (s_X11_enters hc) (cwV 1 hts (gV mw_36_19 mw_36_20 mw_36_21 mw_0_15 mw_56_13) rfl rfl rfl (by decide +kernel) ⟨by show 0 + 1 ≤ 343 + (nn + 1); omega, by show 8 + (2 + 11) + 0 ≤ 8525 + 32 * (nn + 1); omega⟩) (vV (ci := 11) (q0 := 0) hK hP hD hN rfl gB_0) rfl rfl hl.1 rfl (lv_room (Nat.le_of_ble_eq_true rfl)) dX11_readsRecord_77 ⟨(Nat.le_of_ble_eq_true rfl), (Nat.le_of_ble_eq_true rfl)⟩) hS (fun q _ h => hF q h) hF (fun u t H locs ht hvm hw hB _ _ hS => ?_)
      replace hP : va_P (dC, dI) vwCl (wB a k q2) H := by rw [← ht]; exact hB.1
      replace hD := hD0 (q2)
      clear hB hF
      refine lv_iconst (v := 0) hx hb dX11_readsRecord_80 (by decide) ?_
      refine lv_istore (lv' := [(11, .int 0), (10, .int 0), (9, .int (σ.1 0 64)), (8, .int ((8 * x5) + x7)), (0, .ref (a 0)), (1, .int x1), (2, .int x2), (3, .int x3), (4, .int x4), (5, .int x5), (6, .int x6), (7, .int x7)]) hx hb dX11_readsRecord_81 hl (by decide) rfl (fun ls hl => ?_)
      exact b_X11_readsRecord_83 hC hr_X11_reads hr_X11_readsItems hr_X11_readsRecord ih FU _ _ _ _ _ _ _ _ _ _ _ _ h _ hd0 _ _ _ hP hD hS (lv_sub hl [4, 5, 6, 7, 8, 9, 10, 11, 3, 2, 1, 0] rfl)

set_option maxRecDepth 100000 in
set_option maxHeartbeats 4000000 in
theorem b_X11_readsRecord_38 {p : Program} {l : Launch} {e : Env} {s : State} {m : MethodId} {args : Array Value} {below : List Frame} {meth : Method} {c : Code} {dC : Nat → ClassId} {dI : Nat → Nat → Nat} {a : Nat → Nat} {k : Nat → ClassId} {A : Nat → Prop} {q : Int32 × ST} (hC : CxB p s m args meth c dC dI k A cX11_readsRecord RX11 (some .boolean) 13) {nn : Nat} {r_X11_reads : Int32 → Int32 → Int32 → Int32 → Int32 → ST → Option (Int32 × ST)} (hr_X11_reads : ∀ {sz : Nat} {p0 : Int32} {p1 : Int32} {p2 : Int32} {p3 : Int32} {p4 : Int32} {σ : ST} {q : Int32 × ST}, r_X11_reads  p0 p1 p2 p3 p4 σ = some q → MetD csD l yX11_reads (.code yX11_reads cX11_reads 10 (some .boolean) :: pw) ({ frames := 343 + nn, cells := 0, slots := 0, locals := 8525 + 32 * nn } : Room) (va_Pc [.ref (a 0), .int p0, .int p1, .int p2, .int p3, .int p4] (vPre dC dI (wB a k σ) (tB k) sz)) (qBi dC dI a k (va_A (wB a k σ) sz) q) 0 0 (va_A (wB a k σ) sz)) {r_X11_readsItems : Int32 → Int32 → Int32 → Int32 → ST → Option (Int32 × ST)} (hr_X11_readsItems : ∀ {sz : Nat} {p0 : Int32} {p1 : Int32} {p2 : Int32} {p3 : Int32} {σ : ST} {q : Int32 × ST}, r_X11_readsItems  p0 p1 p2 p3 σ = some q → MetD csD l yX11_readsItems (.code yX11_readsItems cX11_readsItems 7 (some .boolean) :: pw) ({ frames := 343 + nn, cells := 0, slots := 0, locals := 8525 + 32 * nn } : Room) (va_Pc [.ref (a 0), .int p0, .int p1, .int p2, .int p3] (vPre dC dI (wB a k σ) (tB k) sz)) (qBi dC dI a k (va_A (wB a k σ) sz) q) 0 0 (va_A (wB a k σ) sz)) {r_X11_readsRecord : Int32 → Int32 → Int32 → Int32 → ST → Option (Int32 × ST)} (hr_X11_readsRecord : ∀ {sz : Nat} {p0 : Int32} {p1 : Int32} {p2 : Int32} {p3 : Int32} {σ : ST} {q : Int32 × ST}, r_X11_readsRecord  p0 p1 p2 p3 σ = some q → MetD csD l yX11_readsRecord (.code yX11_readsRecord cX11_readsRecord 13 (some .boolean) :: pw) ({ frames := 343 + nn, cells := 0, slots := 0, locals := 8525 + 32 * nn } : Room) (va_Pc [.ref (a 0), .int p0, .int p1, .int p2, .int p3] (vPre dC dI (wB a k σ) (tB k) sz)) (qBi dC dI a k (va_A (wB a k σ) sz) q) 0 0 (va_A (wB a k σ) sz))  {x1 : Int32} {x2 : Int32} {x3 : Int32} {x4 : Int32} {x5 : Int32} {y0 : Int32} {σ : ST} (h : f_X11_readsRecord_38 r_X11_reads r_X11_readsItems r_X11_readsRecord x1 x2 x3 x4 x5 y0 σ = some q) : GdB p l e ({ frames := 343 + (nn + 1), cells := 0, slots := 0, locals := 8525 + 32 * (nn + 1) } : Room) s m args below meth c (MQD csD below (qBi dC dI a k A q) args s 0 0 A) dC dI a k A 13 38 σ [(0, .ref (a 0)), (1, .int x1), (2, .int x2), (3, .int x3), (4, .int x4), (5, .int x5)] [.int y0] := by
  have hC0 := hC
  obtain ⟨hx, hb, hr, hml, hown, hts, hlocks, hA, hN, hK⟩ := hC0
  have hts0 := hts
  have hN0 := hN
  have hK0 := hK
  intro d0 hd0
  replace hts := dr_words hts0 d0
  replace hN : nN (s.setDrawn d0) := nN.same (u := s) (U := s.setDrawn d0) rfl hN0
  replace hK : va_K (dC, dI) vwCl (tB k) (s.setDrawn d0) := hK0
  intro H locs ls hP hD hS hl
  have hD0 : ∀ σ1 : ST, va_D A (wB a k σ1) := fun σ1 => wB_D hD
  unfold f_X11_readsRecord_38 at h
  refine lv_istore (lv' := [(6, .int y0), (0, .ref (a 0)), (1, .int x1), (2, .int x2), (3, .int x3), (4, .int x4), (5, .int x5)]) hx hb dX11_readsRecord_38 hl (by decide) rfl (fun ls hl => ?_)
  refine lv_iconst (v := 0) hx hb dX11_readsRecord_40 (by decide) ?_
  refine lv_istore (lv' := [(7, .int 0), (6, .int y0), (0, .ref (a 0)), (1, .int x1), (2, .int x2), (3, .int x3), (4, .int x4), (5, .int x5)]) hx hb dX11_readsRecord_41 hl (by decide) rfl (fun ls hl => ?_)
  exact b_X11_readsRecord_43 hC hr_X11_reads hr_X11_readsItems hr_X11_readsRecord FU _ _ _ _ _ _ _ _ h _ hd0 _ _ _ hP hD hS (lv_sub hl [2, 3, 4, 5, 6, 7, 1, 0] rfl)

set_option maxRecDepth 100000 in
set_option maxHeartbeats 4000000 in
theorem b_X11_readsRecord_e {p : Program} {l : Launch} {e : Env} {s : State} {m : MethodId} {args : Array Value} {below : List Frame} {meth : Method} {c : Code} {dC : Nat → ClassId} {dI : Nat → Nat → Nat} {a : Nat → Nat} {k : Nat → ClassId} {A : Nat → Prop} {q : Int32 × ST} (hC : CxB p s m args meth c dC dI k A cX11_readsRecord RX11 (some .boolean) 13) {nn : Nat} {r_X11_reads : Int32 → Int32 → Int32 → Int32 → Int32 → ST → Option (Int32 × ST)} (hr_X11_reads : ∀ {sz : Nat} {p0 : Int32} {p1 : Int32} {p2 : Int32} {p3 : Int32} {p4 : Int32} {σ : ST} {q : Int32 × ST}, r_X11_reads  p0 p1 p2 p3 p4 σ = some q → MetD csD l yX11_reads (.code yX11_reads cX11_reads 10 (some .boolean) :: pw) ({ frames := 343 + nn, cells := 0, slots := 0, locals := 8525 + 32 * nn } : Room) (va_Pc [.ref (a 0), .int p0, .int p1, .int p2, .int p3, .int p4] (vPre dC dI (wB a k σ) (tB k) sz)) (qBi dC dI a k (va_A (wB a k σ) sz) q) 0 0 (va_A (wB a k σ) sz)) {r_X11_readsItems : Int32 → Int32 → Int32 → Int32 → ST → Option (Int32 × ST)} (hr_X11_readsItems : ∀ {sz : Nat} {p0 : Int32} {p1 : Int32} {p2 : Int32} {p3 : Int32} {σ : ST} {q : Int32 × ST}, r_X11_readsItems  p0 p1 p2 p3 σ = some q → MetD csD l yX11_readsItems (.code yX11_readsItems cX11_readsItems 7 (some .boolean) :: pw) ({ frames := 343 + nn, cells := 0, slots := 0, locals := 8525 + 32 * nn } : Room) (va_Pc [.ref (a 0), .int p0, .int p1, .int p2, .int p3] (vPre dC dI (wB a k σ) (tB k) sz)) (qBi dC dI a k (va_A (wB a k σ) sz) q) 0 0 (va_A (wB a k σ) sz)) {r_X11_readsRecord : Int32 → Int32 → Int32 → Int32 → ST → Option (Int32 × ST)} (hr_X11_readsRecord : ∀ {sz : Nat} {p0 : Int32} {p1 : Int32} {p2 : Int32} {p3 : Int32} {σ : ST} {q : Int32 × ST}, r_X11_readsRecord  p0 p1 p2 p3 σ = some q → MetD csD l yX11_readsRecord (.code yX11_readsRecord cX11_readsRecord 13 (some .boolean) :: pw) ({ frames := 343 + nn, cells := 0, slots := 0, locals := 8525 + 32 * nn } : Room) (va_Pc [.ref (a 0), .int p0, .int p1, .int p2, .int p3] (vPre dC dI (wB a k σ) (tB k) sz)) (qBi dC dI a k (va_A (wB a k σ) sz) q) 0 0 (va_A (wB a k σ) sz))  {p0 : Int32} {p1 : Int32} {p2 : Int32} {p3 : Int32} {σ : ST} (h : f_X11_readsRecord r_X11_reads r_X11_readsItems r_X11_readsRecord p0 p1 p2 p3 σ = some q) : GdB p l e ({ frames := 343 + (nn + 1), cells := 0, slots := 0, locals := 8525 + 32 * (nn + 1) } : Room) s m args below meth c (MQD csD below (qBi dC dI a k A q) args s 0 0 A) dC dI a k A 13 0 σ (lv_args 0 [.ref (a 0), .int p0, .int p1, .int p2, .int p3]) [] := by
  have hC0 := hC
  obtain ⟨hx, hb, hr, hml, hown, hts, hlocks, hA, hN, hK⟩ := hC0
  have hts0 := hts
  have hN0 := hN
  have hK0 := hK
  intro d0 hd0
  replace hts := dr_words hts0 d0
  replace hN : nN (s.setDrawn d0) := nN.same (u := s) (U := s.setDrawn d0) rfl hN0
  replace hK : va_K (dC, dI) vwCl (tB k) (s.setDrawn d0) := hK0
  intro H locs ls hP hD hS hl
  have hD0 : ∀ σ1 : ST, va_D A (wB a k σ1) := fun σ1 => wB_D hD
  replace hl : lv_has ls 13 [(0, .ref (a 0)), (1, .int p0), (2, .int p1), (3, .int p2), (4, .int p3)] := hl
  unfold f_X11_readsRecord at h
  refine lv_bipush (v := 6) hx hb dX11_readsRecord_0 (by decide) ?_
  refine lv_aload_n hx hb dX11_readsRecord_2 rfl (lv_at hl 0 rfl) ?_
  refine va_get (D := (dC, dI)) (ci := 11) (C := RX11) (T := TX11) (N := 95) hx hb hts inlX11 hown hK hP 0 gB_0 rfl 53 (by decide) (hts (.fieldLink RX11 492 "ShapeReaderModel" "writer" "I") mw_36_0) (fun _ h9 => h9) rfl dX11_readsRecord_3 ?_
  refine lv_imul hx hb dX11_readsRecord_6 ?_
  refine lv_aload_n hx hb dX11_readsRecord_7 rfl (lv_at hl 0 rfl) ?_
  refine va_get (D := (dC, dI)) (ci := 11) (C := RX11) (T := TX11) (N := 95) hx hb hts inlX11 hown hK hP 0 gB_0 rfl 15 (by decide) (hts (.fieldLink RX11 17 "ShapeReaderModel" "typeArg" "[I") mw_26_29) (fun _ h9 => h9) rfl dX11_readsRecord_8 ?_
  refine lv_iload_n hx hb dX11_readsRecord_11 rfl (lv_at hl 1 rfl) ?_
  obtain ⟨hg1, h⟩ := ig h
  refine va_iald hx hb hK hP 3 2 gB_3 yB_3 (vp_in_iff.mpr hg1) dX11_readsRecord_12 ?_
  refine lv_iadd hx hb dX11_readsRecord_13 ?_
  refine lv_istore (lv' := [(5, .int ((6 * (σ.1 0 53)) + (σ.1 3 p0.toNatClampNeg))), (0, .ref (a 0)), (1, .int p0), (2, .int p1), (3, .int p2), (4, .int p3)]) hx hb dX11_readsRecord_14 hl (by decide) rfl (fun ls hl => ?_)
  refine lv_iload_n hx hb dX11_readsRecord_16 rfl (lv_at hl 3 rfl) ?_
  refine lv_if_ge (tgt := 24) hx hb dX11_readsRecord_17 (by decide) (fun hc => ?_) (fun hc => ?_)
  · replace h := ip hc h
    refine lv_bipush (v := 6) hx hb dX11_readsRecord_24 (by decide) ?_
    refine lv_aload_n hx hb dX11_readsRecord_26 rfl (lv_at hl 1 rfl) ?_
    refine va_get (D := (dC, dI)) (ci := 11) (C := RX11) (T := TX11) (N := 95) hx hb hts inlX11 hown hK hP 0 gB_0 rfl 54 (by decide) (hts (.fieldLink RX11 495 "ShapeReaderModel" "reader" "I") mw_36_1) (fun _ h9 => h9) rfl dX11_readsRecord_27 ?_
    refine lv_imul hx hb dX11_readsRecord_30 ?_
    refine lv_aload_n hx hb dX11_readsRecord_31 rfl (lv_at hl 1 rfl) ?_
    refine va_get (D := (dC, dI)) (ci := 11) (C := RX11) (T := TX11) (N := 95) hx hb hts inlX11 hown hK hP 0 gB_0 rfl 15 (by decide) (hts (.fieldLink RX11 17 "ShapeReaderModel" "typeArg" "[I") mw_26_29) (fun _ h9 => h9) rfl dX11_readsRecord_32 ?_
    refine lv_iload_n hx hb dX11_readsRecord_35 rfl (lv_at hl 3 rfl) ?_
    obtain ⟨hg2, h⟩ := ig h
    refine va_iald hx hb hK hP 3 2 gB_3 yB_3 (vp_in_iff.mpr hg2) dX11_readsRecord_36 ?_
    refine lv_iadd hx hb dX11_readsRecord_37 ?_
    exact b_X11_readsRecord_38 hC hr_X11_reads hr_X11_readsItems hr_X11_readsRecord h _ hd0 _ _ _ hP hD hS (lv_sub hl [1, 2, 3, 4, 5, 0] rfl)
  · replace h := iq hc h
    refine lv_iconst (v := 0) hx hb dX11_readsRecord_20 (by decide) ?_
    refine lv_goto (tgt := 38) hx hb dX11_readsRecord_21 (by decide) ?_
    exact b_X11_readsRecord_38 hC hr_X11_reads hr_X11_readsItems hr_X11_readsRecord h _ hd0 _ _ _ hP hD hS (lv_sub hl [1, 2, 3, 4, 5, 0] rfl)


set_option maxRecDepth 100000 in
set_option maxHeartbeats 4000000 in
theorem s_R_X11_reads {l : Launch} {dC : Nat → ClassId} {dI : Nat → Nat → Nat} {a : Nat → Nat} {k : Nat → ClassId} : ∀ n : Nat, (∀ {sz : Nat} {p0 : Int32} {p1 : Int32} {p2 : Int32} {p3 : Int32} {p4 : Int32} {σ : ST} {q : Int32 × ST}, (R_X11_reads n).1 p0 p1 p2 p3 p4 σ = some q → MetD csD l yX11_reads (.code yX11_reads cX11_reads 10 (some .boolean) :: pw) ({ frames := 343 + n, cells := 0, slots := 0, locals := 8525 + 32 * n } : Room) (va_Pc [.ref (a 0), .int p0, .int p1, .int p2, .int p3, .int p4] (vPre dC dI (wB a k σ) (tB k) sz)) (qBi dC dI a k (va_A (wB a k σ) sz) q) 0 0 (va_A (wB a k σ) sz)) ∧ (∀ {sz : Nat} {p0 : Int32} {p1 : Int32} {p2 : Int32} {p3 : Int32} {σ : ST} {q : Int32 × ST}, (R_X11_reads n).2.1 p0 p1 p2 p3 σ = some q → MetD csD l yX11_readsItems (.code yX11_readsItems cX11_readsItems 7 (some .boolean) :: pw) ({ frames := 343 + n, cells := 0, slots := 0, locals := 8525 + 32 * n } : Room) (va_Pc [.ref (a 0), .int p0, .int p1, .int p2, .int p3] (vPre dC dI (wB a k σ) (tB k) sz)) (qBi dC dI a k (va_A (wB a k σ) sz) q) 0 0 (va_A (wB a k σ) sz)) ∧ (∀ {sz : Nat} {p0 : Int32} {p1 : Int32} {p2 : Int32} {p3 : Int32} {σ : ST} {q : Int32 × ST}, (R_X11_reads n).2.2 p0 p1 p2 p3 σ = some q → MetD csD l yX11_readsRecord (.code yX11_readsRecord cX11_readsRecord 13 (some .boolean) :: pw) ({ frames := 343 + n, cells := 0, slots := 0, locals := 8525 + 32 * n } : Room) (va_Pc [.ref (a 0), .int p0, .int p1, .int p2, .int p3] (vPre dC dI (wB a k σ) (tB k) sz)) (qBi dC dI a k (va_A (wB a k σ) sz) q) 0 0 (va_A (wB a k σ) sz)) := by
  intro n
  induction n with
  | zero => exact ⟨(fun h => nomatch h), (fun h => nomatch h), (fun h => nomatch h)⟩
  | succ n ih => exact ⟨(fun h => medB (fun A => qBi dC dI a k A _) (by decide) (Nat.le_of_ble_eq_true rfl) (fun _ _ _ _ _ _ _ _ hC => b_X11_reads_e hC ih.1 ih.2.1 ih.2.2 h)), (fun h => medB (fun A => qBi dC dI a k A _) (by decide) (Nat.le_of_ble_eq_true rfl) (fun _ _ _ _ _ _ _ _ hC => b_X11_readsItems_e hC ih.1 ih.2.1 ih.2.2 h)), (fun h => medB (fun A => qBi dC dI a k A _) (by decide) (Nat.le_of_ble_eq_true rfl) (fun _ _ _ _ _ _ _ _ hC => b_X11_readsRecord_e hC ih.1 ih.2.1 ih.2.2 h))⟩
theorem s_X11_reads {l : Launch} {dC : Nat → ClassId} {dI : Nat → Nat → Nat} {a : Nat → Nat} {k : Nat → ClassId} {sz : Nat} {p0 : Int32} {p1 : Int32} {p2 : Int32} {p3 : Int32} {p4 : Int32} {σ : ST} {q : Int32 × ST} (h : f_T_X11_reads p0 p1 p2 p3 p4 σ = some q) : MetD csD l yX11_reads (.code yX11_reads cX11_reads 10 (some .boolean) :: pw) ({ frames := 683, cells := 0, slots := 0, locals := 19405 } : Room) (va_Pc [.ref (a 0), .int p0, .int p1, .int p2, .int p3, .int p4] (vPre dC dI (wB a k σ) (tB k) sz)) (qBi dC dI a k (va_A (wB a k σ) sz) q) 0 0 (va_A (wB a k σ) sz) := (s_R_X11_reads FRB).1 h
theorem s_X11_readsItems {l : Launch} {dC : Nat → ClassId} {dI : Nat → Nat → Nat} {a : Nat → Nat} {k : Nat → ClassId} {sz : Nat} {p0 : Int32} {p1 : Int32} {p2 : Int32} {p3 : Int32} {σ : ST} {q : Int32 × ST} (h : f_T_X11_readsItems p0 p1 p2 p3 σ = some q) : MetD csD l yX11_readsItems (.code yX11_readsItems cX11_readsItems 7 (some .boolean) :: pw) ({ frames := 683, cells := 0, slots := 0, locals := 19405 } : Room) (va_Pc [.ref (a 0), .int p0, .int p1, .int p2, .int p3] (vPre dC dI (wB a k σ) (tB k) sz)) (qBi dC dI a k (va_A (wB a k σ) sz) q) 0 0 (va_A (wB a k σ) sz) := (s_R_X11_reads FRB).2.1 h
theorem s_X11_readsRecord {l : Launch} {dC : Nat → ClassId} {dI : Nat → Nat → Nat} {a : Nat → Nat} {k : Nat → ClassId} {sz : Nat} {p0 : Int32} {p1 : Int32} {p2 : Int32} {p3 : Int32} {σ : ST} {q : Int32 × ST} (h : f_T_X11_readsRecord p0 p1 p2 p3 σ = some q) : MetD csD l yX11_readsRecord (.code yX11_readsRecord cX11_readsRecord 13 (some .boolean) :: pw) ({ frames := 683, cells := 0, slots := 0, locals := 19405 } : Room) (va_Pc [.ref (a 0), .int p0, .int p1, .int p2, .int p3] (vPre dC dI (wB a k σ) (tB k) sz)) (qBi dC dI a k (va_A (wB a k σ) sz) q) 0 0 (va_A (wB a k σ) sz) := (s_R_X11_reads FRB).2.2 h
