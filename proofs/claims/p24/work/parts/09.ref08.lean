theorem dX11_kept_0 : decode cX11_kept 0 = .ok (.aload_n 0, 1) := by decide +kernel
theorem dX11_kept_1 : decode cX11_kept 1 = .ok (.iconst 0, 1) := by decide +kernel
theorem dX11_kept_2 : decode cX11_kept 2 = .ok (.putfield 178, 3) := by decide +kernel
theorem dX11_kept_5 : decode cX11_kept 5 = .ok (.iload_n 1, 1) := by decide +kernel
theorem dX11_kept_6 : decode cX11_kept 6 = .ok (.iconst (-1), 1) := by decide +kernel
theorem dX11_kept_7 : decode cX11_kept 7 = .ok (.if_icmp .ne 10, 3) := by decide +kernel
theorem dX11_kept_10 : decode cX11_kept 10 = .ok (.aload_n 0, 1) := by decide +kernel
theorem dX11_kept_11 : decode cX11_kept 11 = .ok (.getfield 398, 3) := by decide +kernel
theorem dX11_kept_14 : decode cX11_kept 14 = .ok (.goto 29, 3) := by decide +kernel
theorem dX11_kept_17 : decode cX11_kept 17 = .ok (.iload_n 1, 1) := by decide +kernel
theorem dX11_kept_18 : decode cX11_kept 18 = .ok (.i2l, 1) := by decide +kernel
theorem dX11_kept_19 : decode cX11_kept 19 = .ok (.lconst 0, 1) := by decide +kernel
theorem dX11_kept_20 : decode cX11_kept 20 = .ok (.aload_n 0, 1) := by decide +kernel
theorem dX11_kept_21 : decode cX11_kept 21 = .ok (.getfield 398, 3) := by decide +kernel
theorem dX11_kept_24 : decode cX11_kept 24 = .ok (.iconst 1, 1) := by decide +kernel
theorem dX11_kept_25 : decode cX11_kept 25 = .ok (.isub, 1) := by decide +kernel
theorem dX11_kept_26 : decode cX11_kept 26 = .ok (.i2l, 1) := by decide +kernel
theorem dX11_kept_27 : decode cX11_kept 27 = .ok (.invokestatic 196, 3) := by decide +kernel
theorem dX11_kept_30 : decode cX11_kept 30 = .ok (.ifCond .eq 12, 3) := by decide +kernel
theorem dX11_kept_33 : decode cX11_kept 33 = .ok (.aload_n 0, 1) := by decide +kernel
theorem dX11_kept_34 : decode cX11_kept 34 = .ok (.getfield 175, 3) := by decide +kernel
theorem dX11_kept_37 : decode cX11_kept 37 = .ok (.iload_n 1, 1) := by decide +kernel
theorem dX11_kept_38 : decode cX11_kept 38 = .ok (.iaload, 1) := by decide +kernel
theorem dX11_kept_39 : decode cX11_kept 39 = .ok (.goto 4, 3) := by decide +kernel
theorem dX11_kept_42 : decode cX11_kept 42 = .ok (.iconst (-1), 1) := by decide +kernel
theorem dX11_kept_43 : decode cX11_kept 43 = .ok (.ireturn, 1) := by decide +kernel
theorem dX11_misses_0 : decode cX11_misses 0 = .ok (.aload_n 0, 1) := by decide +kernel
theorem dX11_misses_1 : decode cX11_misses 1 = .ok (.getfield 513, 3) := by decide +kernel
theorem dX11_misses_4 : decode cX11_misses 4 = .ok (.bipush 20, 2) := by decide +kernel
theorem dX11_misses_6 : decode cX11_misses 6 = .ok (.if_icmp .ne 4, 3) := by decide +kernel
theorem dX11_misses_9 : decode cX11_misses 9 = .ok (.return_, 1) := by decide +kernel
theorem dX11_misses_10 : decode cX11_misses 10 = .ok (.aload_n 0, 1) := by decide +kernel
theorem dX11_misses_11 : decode cX11_misses 11 = .ok (.getfield 121, 3) := by decide +kernel
theorem dX11_misses_14 : decode cX11_misses 14 = .ok (.aload_n 0, 1) := by decide +kernel
theorem dX11_misses_15 : decode cX11_misses 15 = .ok (.getfield 513, 3) := by decide +kernel
theorem dX11_misses_18 : decode cX11_misses 18 = .ok (.iload_n 1, 1) := by decide +kernel
theorem dX11_misses_19 : decode cX11_misses 19 = .ok (.iastore, 1) := by decide +kernel
theorem dX11_misses_20 : decode cX11_misses 20 = .ok (.aload_n 0, 1) := by decide +kernel
theorem dX11_misses_21 : decode cX11_misses 21 = .ok (.getfield 124, 3) := by decide +kernel
theorem dX11_misses_24 : decode cX11_misses 24 = .ok (.aload_n 0, 1) := by decide +kernel
theorem dX11_misses_25 : decode cX11_misses 25 = .ok (.getfield 513, 3) := by decide +kernel
theorem dX11_misses_28 : decode cX11_misses 28 = .ok (.aload_n 0, 1) := by decide +kernel
theorem dX11_misses_29 : decode cX11_misses 29 = .ok (.getfield 516, 3) := by decide +kernel
theorem dX11_misses_32 : decode cX11_misses 32 = .ok (.iastore, 1) := by decide +kernel
theorem dX11_misses_33 : decode cX11_misses 33 = .ok (.iconst 0, 1) := by decide +kernel
theorem dX11_misses_34 : decode cX11_misses 34 = .ok (.istore_n 2, 1) := by decide +kernel
theorem dX11_misses_35 : decode cX11_misses 35 = .ok (.iload_n 2, 1) := by decide +kernel
theorem dX11_misses_36 : decode cX11_misses 36 = .ok (.aload_n 0, 1) := by decide +kernel
theorem dX11_misses_37 : decode cX11_misses 37 = .ok (.getfield 516, 3) := by decide +kernel
theorem dX11_misses_40 : decode cX11_misses 40 = .ok (.if_icmp .ge 30, 3) := by decide +kernel
theorem dX11_misses_43 : decode cX11_misses 43 = .ok (.aload_n 0, 1) := by decide +kernel
theorem dX11_misses_44 : decode cX11_misses 44 = .ok (.getfield 127, 3) := by decide +kernel
theorem dX11_misses_47 : decode cX11_misses 47 = .ok (.sipush 256, 3) := by decide +kernel
theorem dX11_misses_50 : decode cX11_misses 50 = .ok (.aload_n 0, 1) := by decide +kernel
theorem dX11_misses_51 : decode cX11_misses 51 = .ok (.getfield 513, 3) := by decide +kernel
theorem dX11_misses_54 : decode cX11_misses 54 = .ok (.imul, 1) := by decide +kernel
theorem dX11_misses_55 : decode cX11_misses 55 = .ok (.iload_n 2, 1) := by decide +kernel
theorem dX11_misses_56 : decode cX11_misses 56 = .ok (.iadd, 1) := by decide +kernel
theorem dX11_misses_57 : decode cX11_misses 57 = .ok (.aload_n 0, 1) := by decide +kernel
theorem dX11_misses_58 : decode cX11_misses 58 = .ok (.getfield 118, 3) := by decide +kernel
theorem dX11_misses_61 : decode cX11_misses 61 = .ok (.iload_n 2, 1) := by decide +kernel
theorem dX11_misses_62 : decode cX11_misses 62 = .ok (.iaload, 1) := by decide +kernel
theorem dX11_misses_63 : decode cX11_misses 63 = .ok (.iastore, 1) := by decide +kernel
theorem dX11_misses_64 : decode cX11_misses 64 = .ok (.iinc 2 1, 3) := by decide +kernel
theorem dX11_misses_67 : decode cX11_misses 67 = .ok (.goto (-32), 3) := by decide +kernel
theorem dX11_misses_70 : decode cX11_misses 70 = .ok (.aload_n 0, 1) := by decide +kernel
theorem dX11_misses_71 : decode cX11_misses 71 = .ok (.dup, 1) := by decide +kernel
theorem dX11_misses_72 : decode cX11_misses 72 = .ok (.getfield 513, 3) := by decide +kernel
theorem dX11_misses_75 : decode cX11_misses 75 = .ok (.iconst 1, 1) := by decide +kernel
theorem dX11_misses_76 : decode cX11_misses 76 = .ok (.iadd, 1) := by decide +kernel
theorem dX11_misses_77 : decode cX11_misses 77 = .ok (.putfield 513, 3) := by decide +kernel
theorem dX11_misses_80 : decode cX11_misses 80 = .ok (.return_, 1) := by decide +kernel
def f_X11_items_70 (r_X11_items : Int32 → Int32 → Int32 → Int32 → ST → Option ((Int32 × ST) × Nat)) (r_X11_parts : Int32 → Int32 → Int32 → Int32 → ST → Option ((Int32 × ST) × Nat)) (r_X11_value : Int32 → Int32 → Int32 → Int32 → Int32 → ST → Option ((Int32 × ST) × Nat)) (k25 : Int32 → Int32 → Int32 → Int32 → Int32 → Int32 → ST → Option ((Int32 × ST) × Nat)) (x1 : Int32) (x2 : Int32) (x3 : Int32) (x4 : Int32) (x5 : Int32) (y0 : Int32) (σ : ST) : Option ((Int32 × ST) × Nat) := if y0 = 0 then (k25 x1 x2 x3 x4 x5 y0 σ) else ((f_X11_go   σ).bind fun q1 => k25 x1 x2 x3 x4 x5 y0 q1)
def f_X11_items_25 (r_X11_items : Int32 → Int32 → Int32 → Int32 → ST → Option ((Int32 × ST) × Nat)) (r_X11_parts : Int32 → Int32 → Int32 → Int32 → ST → Option ((Int32 × ST) × Nat)) (r_X11_value : Int32 → Int32 → Int32 → Int32 → Int32 → ST → Option ((Int32 × ST) × Nat)) : Nat → Int32 → Int32 → Int32 → Int32 → Int32 → Int32 → ST → Option ((Int32 × ST) × Nat)
  | 0, _, _, _, _, _, _, _ => none
  | n + 1, x1, x2, x3, x4, x5, x6, σ => if x6 = 0 then ((f_X11_mark  93 σ).bind fun q1 => if q1.1 = 0 ∨ q1.1 = 1 then some ((q1.1, q1.2), 0) else none) else (if 0 ≤ x2.toInt ∧ x2.toInt < 800 then ((r_X11_value  x1 (σ.1 3 x2.toNatClampNeg) (x3 + 1) x4 x5 σ).bind fun q4 => ac q4.2 (if q4.1.1 = 0 then (some ((0, q4.1.2), 0)) else (if (q4.1.2.1 0 13) = 44 then (f_X11_items_70 r_X11_items r_X11_parts r_X11_value (f_X11_items_25 r_X11_items r_X11_parts r_X11_value n) x1 x2 x3 x4 (x5 + 1) 1 q4.1.2) else (f_X11_items_70 r_X11_items r_X11_parts r_X11_value (f_X11_items_25 r_X11_items r_X11_parts r_X11_value n) x1 x2 x3 x4 (x5 + 1) 0 q4.1.2)))) else none)
def f_X11_items (r_X11_items : Int32 → Int32 → Int32 → Int32 → ST → Option ((Int32 × ST) × Nat)) (r_X11_parts : Int32 → Int32 → Int32 → Int32 → ST → Option ((Int32 × ST) × Nat)) (r_X11_value : Int32 → Int32 → Int32 → Int32 → Int32 → ST → Option ((Int32 × ST) × Nat)) (p0 : Int32) (p1 : Int32) (p2 : Int32) (p3 : Int32) (σ : ST) : Option ((Int32 × ST) × Nat) := (f_X11_go   σ).bind fun q1 => if (q1.1 0 13) = 93 then ((f_X11_go   q1).bind fun q3 => some ((1, q3), 0)) else (f_X11_items_25 r_X11_items r_X11_parts r_X11_value FU p0 p1 p2 p3 0 1 q1)

def f_X11_parts_85 (r_X11_items : Int32 → Int32 → Int32 → Int32 → ST → Option ((Int32 × ST) × Nat)) (r_X11_parts : Int32 → Int32 → Int32 → Int32 → ST → Option ((Int32 × ST) × Nat)) (r_X11_value : Int32 → Int32 → Int32 → Int32 → Int32 → ST → Option ((Int32 × ST) × Nat)) (σ : ST) : Option ((Int32 × ST) × Nat) := (f_X11_wrongHere  3 σ).bind fun q1 => if q1.1 = 0 ∨ q1.1 = 1 then some ((q1.1, q1.2), 0) else none
def f_X11_parts_139 (r_X11_items : Int32 → Int32 → Int32 → Int32 → ST → Option ((Int32 × ST) × Nat)) (r_X11_parts : Int32 → Int32 → Int32 → Int32 → ST → Option ((Int32 × ST) × Nat)) (r_X11_value : Int32 → Int32 → Int32 → Int32 → Int32 → ST → Option ((Int32 × ST) × Nat)) (k33 : Int32 → Int32 → Int32 → Int32 → Int32 → ST → Option ((Int32 × ST) × Nat)) (x1 : Int32) (x3 : Int32) (x4 : Int32) (x5 : Int32) (y0 : Int32) (σ : ST) : Option ((Int32 × ST) × Nat) := if y0 = 0 then (k33 x1 x3 x4 x5 y0 σ) else ((f_X11_go   σ).bind fun q1 => k33 x1 x3 x4 x5 y0 q1)
def f_X11_parts_233 (r_X11_items : Int32 → Int32 → Int32 → Int32 → ST → Option ((Int32 × ST) × Nat)) (r_X11_parts : Int32 → Int32 → Int32 → Int32 → ST → Option ((Int32 × ST) × Nat)) (r_X11_value : Int32 → Int32 → Int32 → Int32 → Int32 → ST → Option ((Int32 × ST) × Nat)) (k171 : Int32 → Int32 → Int32 → ST → Option ((Int32 × ST) × Nat)) (x4 : Int32) (x5 : Int32) (x7 : Int32) (σ : ST) : Option ((Int32 × ST) × Nat) := k171 x4 x5 (x7 + 1) σ
def f_X11_parts_171 (r_X11_items : Int32 → Int32 → Int32 → Int32 → ST → Option ((Int32 × ST) × Nat)) (r_X11_parts : Int32 → Int32 → Int32 → Int32 → ST → Option ((Int32 × ST) × Nat)) (r_X11_value : Int32 → Int32 → Int32 → Int32 → Int32 → ST → Option ((Int32 × ST) × Nat)) : Nat → Int32 → Int32 → Int32 → ST → Option ((Int32 × ST) × Nat)
  | 0, _, _, _, _ => none
  | n + 1, x4, x5, x7, σ => if 0 ≤ x5.toInt ∧ x5.toInt < 72 then (if (σ.1 11 x5.toNatClampNeg) ≤ x7 then ((f_X11_go   σ).bind fun q2 => some ((1, q2), 0)) else ((f_X11_hasChild  x4 x7 σ).bind fun q4 => if q4.1 = 0 then (if 0 ≤ ((8 * x5) + x7).toInt ∧ ((8 * x5) + x7).toInt < 576 then (if (q4.2.1 16 ((8 * x5) + x7).toNatClampNeg) = 0 then ((f_X11_wrongHere  6 q4.2).bind fun q9 => if q9.1 = 0 ∨ q9.1 = 1 then some ((q9.1, q9.2), 0) else none) else ((f_X11_fills  ((8 * x5) + x7) x4 x7 q4.2).bind fun q7 => f_X11_parts_233 r_X11_items r_X11_parts r_X11_value (f_X11_parts_171 r_X11_items r_X11_parts r_X11_value n) x4 x5 x7 q7)) else none) else (f_X11_parts_233 r_X11_items r_X11_parts r_X11_value (f_X11_parts_171 r_X11_items r_X11_parts r_X11_value n) x4 x5 x7 q4.2))) else none
def f_X11_parts_33 (r_X11_items : Int32 → Int32 → Int32 → Int32 → ST → Option ((Int32 × ST) × Nat)) (r_X11_parts : Int32 → Int32 → Int32 → Int32 → ST → Option ((Int32 × ST) × Nat)) (r_X11_value : Int32 → Int32 → Int32 → Int32 → Int32 → ST → Option ((Int32 × ST) × Nat)) : Nat → Int32 → Int32 → Int32 → Int32 → Int32 → ST → Option ((Int32 × ST) × Nat)
  | 0, _, _, _, _, _, _ => none
  | n + 1, x1, x3, x4, x5, x6, σ => if x6 = 0 then (if (σ.1 0 13) = 125 then (f_X11_parts_171 r_X11_items r_X11_parts r_X11_value FU x4 x5 0 σ) else ((f_X11_wrongHere  1 σ).bind fun q1 => if q1.1 = 0 ∨ q1.1 = 1 then some ((q1.1, q1.2), 0) else none)) else ((f_X11_isName   σ).bind fun q3 => ac q3.2 (if q3.1.1 = 0 then ((f_X11_wrongHere  1 q3.1.2).bind fun q14 => if q14.1 = 0 ∨ q14.1 = 1 then some ((q14.1, q14.2), 0) else none) else ((f_X11_fieldOf  x5 (q3.1.2.2.1 0 7) q3.1.2).bind fun q5 => if q5.1 < 0 then (f_X11_parts_85 r_X11_items r_X11_parts r_X11_value  q5.2) else ((f_X11_hasChild  x4 (q5.1 - (8 * x5)) q5.2).bind fun q7 => if q7.1 = 0 then ((f_X11_go   q7.2).bind fun q9 => if 0 ≤ q5.1.toInt ∧ q5.1.toInt < 576 then ((r_X11_value  x1 (q9.1 15 q5.1.toNatClampNeg) (x3 + 1) x4 (q5.1 - (8 * x5)) q9).bind fun q12 => ac q12.2 (if q12.1.1 = 0 then (some ((0, q12.1.2), 0)) else (if (q12.1.2.1 0 13) = 44 then (f_X11_parts_139 r_X11_items r_X11_parts r_X11_value (f_X11_parts_33 r_X11_items r_X11_parts r_X11_value n) x1 x3 x4 x5 1 q12.1.2) else (f_X11_parts_139 r_X11_items r_X11_parts r_X11_value (f_X11_parts_33 r_X11_items r_X11_parts r_X11_value n) x1 x3 x4 x5 0 q12.1.2)))) else none) else (f_X11_parts_85 r_X11_items r_X11_parts r_X11_value  q7.2)))))
def f_X11_parts_31 (r_X11_items : Int32 → Int32 → Int32 → Int32 → ST → Option ((Int32 × ST) × Nat)) (r_X11_parts : Int32 → Int32 → Int32 → Int32 → ST → Option ((Int32 × ST) × Nat)) (r_X11_value : Int32 → Int32 → Int32 → Int32 → Int32 → ST → Option ((Int32 × ST) × Nat)) (x1 : Int32) (x3 : Int32) (x4 : Int32) (x5 : Int32) (y0 : Int32) (σ : ST) : Option ((Int32 × ST) × Nat) := f_X11_parts_33 r_X11_items r_X11_parts r_X11_value FU x1 x3 x4 x5 y0 σ
def f_X11_parts (r_X11_items : Int32 → Int32 → Int32 → Int32 → ST → Option ((Int32 × ST) × Nat)) (r_X11_parts : Int32 → Int32 → Int32 → Int32 → ST → Option ((Int32 × ST) × Nat)) (r_X11_value : Int32 → Int32 → Int32 → Int32 → Int32 → ST → Option ((Int32 × ST) × Nat)) (p0 : Int32) (p1 : Int32) (p2 : Int32) (p3 : Int32) (σ : ST) : Option ((Int32 × ST) × Nat) := if 0 ≤ p1.toInt ∧ p1.toInt < 800 then ((f_X11_go   σ).bind fun q2 => if (q2.1 0 13) = 125 then (f_X11_parts_31 r_X11_items r_X11_parts r_X11_value p0 p2 p3 ((6 * p0) + (σ.1 3 p1.toNatClampNeg)) 0 q2) else (f_X11_parts_31 r_X11_items r_X11_parts r_X11_value p0 p2 p3 ((6 * p0) + (σ.1 3 p1.toNatClampNeg)) 1 q2)) else none

def f_X11_value_247 (r_X11_items : Int32 → Int32 → Int32 → Int32 → ST → Option ((Int32 × ST) × Nat)) (r_X11_parts : Int32 → Int32 → Int32 → Int32 → ST → Option ((Int32 × ST) × Nat)) (r_X11_value : Int32 → Int32 → Int32 → Int32 → Int32 → ST → Option ((Int32 × ST) × Nat)) (y0 : Int32) (y1 : Int32) (σ : ST) : Option ((Int32 × ST) × Nat) := if 0 ≤ y1.toInt ∧ y1.toInt < 4096 then ((f_X11_go   (stI σ 23 y1.toNatClampNeg y0)).bind fun q2 => some ((1, q2), 0)) else none
def f_X11_value_221 (r_X11_items : Int32 → Int32 → Int32 → Int32 → ST → Option ((Int32 × ST) × Nat)) (r_X11_parts : Int32 → Int32 → Int32 → Int32 → ST → Option ((Int32 × ST) × Nat)) (r_X11_value : Int32 → Int32 → Int32 → Int32 → Int32 → ST → Option ((Int32 × ST) × Nat)) (x7 : Int32) (x9 : Int32) (y0 : Int64) (y1 : Int32) (σ : ST) : Option ((Int32 × ST) × Nat) := if 0 ≤ y1.toInt ∧ y1.toInt < 4096 then (if 0 ≤ x7.toInt ∧ x7.toInt < 800 then (if ((stL σ 22 y1.toNatClampNeg y0).1 2 x7.toNatClampNeg) = 5 then (f_X11_value_247 r_X11_items r_X11_parts r_X11_value ((stL σ 22 y1.toNatClampNeg y0).1 0 8) x9 (stL σ 22 y1.toNatClampNeg y0)) else (f_X11_value_247 r_X11_items r_X11_parts r_X11_value 0 x9 (stL σ 22 y1.toNatClampNeg y0))) else none) else none
def f_X11_value_104 (r_X11_items : Int32 → Int32 → Int32 → Int32 → ST → Option ((Int32 × ST) × Nat)) (r_X11_parts : Int32 → Int32 → Int32 → Int32 → ST → Option ((Int32 × ST) × Nat)) (r_X11_value : Int32 → Int32 → Int32 → Int32 → Int32 → ST → Option ((Int32 × ST) × Nat)) (x1 : Int32) (x3 : Int32) (x4 : Int32) (x5 : Int32) (x6 : Int32) (x7 : Int32) (y0 : Int32) (σ : ST) : Option ((Int32 × ST) × Nat) := if y0 ≤ 0 then (if 0 ≤ x7.toInt ∧ x7.toInt < 800 then ((f_X11_laysNode  (σ.1 2 x7.toNatClampNeg) x4 x5 x6 σ).bind fun q2 => if (q2.2.1 2 x7.toNatClampNeg) = 6 then ((r_X11_items  x1 x7 x3 q2.1 q2.2).bind fun q9 => ac q9.2 (if q9.1.1 = 0 ∨ q9.1.1 = 1 then some ((q9.1.1, q9.1.2), 0) else none)) else (if (q2.2.1 2 x7.toNatClampNeg) = 7 then ((r_X11_parts  x1 x7 x3 q2.1 q2.2).bind fun q7 => ac q7.2 (if q7.1.1 = 0 ∨ q7.1.1 = 1 then some ((q7.1.1, q7.1.2), 0) else none)) else ((f_X11_bitsOf  x7 q2.2).bind fun q4 => ac q4.2 (if 0 ≤ q2.1.toInt ∧ q2.1.toInt < 4096 then (if ((stL q4.1.2 21 q2.1.toNatClampNeg q4.1.1).1 2 x7.toNatClampNeg) = 5 then (f_X11_value_221 r_X11_items r_X11_parts r_X11_value x7 q2.1 ((stL q4.1.2 21 q2.1.toNatClampNeg q4.1.1).2.1 0 7) q2.1 (stL q4.1.2 21 q2.1.toNatClampNeg q4.1.1)) else (f_X11_value_221 r_X11_items r_X11_parts r_X11_value x7 q2.1 0 q2.1 (stL q4.1.2 21 q2.1.toNatClampNeg q4.1.1))) else none)))) else none) else ((f_X11_wrongHere  y0 σ).bind fun q11 => if q11.1 = 0 ∨ q11.1 = 1 then some ((q11.1, q11.2), 0) else none)
def f_X11_value_99 (r_X11_items : Int32 → Int32 → Int32 → Int32 → ST → Option ((Int32 × ST) × Nat)) (r_X11_parts : Int32 → Int32 → Int32 → Int32 → ST → Option ((Int32 × ST) × Nat)) (r_X11_value : Int32 → Int32 → Int32 → Int32 → Int32 → ST → Option ((Int32 × ST) × Nat)) (x1 : Int32) (x3 : Int32) (x4 : Int32) (x5 : Int32) (x6 : Int32) (x7 : Int32) (σ : ST) : Option ((Int32 × ST) × Nat) := f_X11_value_104 r_X11_items r_X11_parts r_X11_value x1 x3 x4 x5 x6 x7 4 σ
def f_X11_value_103 (r_X11_items : Int32 → Int32 → Int32 → Int32 → ST → Option ((Int32 × ST) × Nat)) (r_X11_parts : Int32 → Int32 → Int32 → Int32 → ST → Option ((Int32 × ST) × Nat)) (r_X11_value : Int32 → Int32 → Int32 → Int32 → Int32 → ST → Option ((Int32 × ST) × Nat)) (x1 : Int32) (x3 : Int32) (x4 : Int32) (x5 : Int32) (x6 : Int32) (x7 : Int32) (σ : ST) : Option ((Int32 × ST) × Nat) := f_X11_value_104 r_X11_items r_X11_parts r_X11_value x1 x3 x4 x5 x6 x7 0 σ
def f_X11_value_42 (r_X11_items : Int32 → Int32 → Int32 → Int32 → ST → Option ((Int32 × ST) × Nat)) (r_X11_parts : Int32 → Int32 → Int32 → Int32 → ST → Option ((Int32 × ST) × Nat)) (r_X11_value : Int32 → Int32 → Int32 → Int32 → Int32 → ST → Option ((Int32 × ST) × Nat)) (x1 : Int32) (x3 : Int32) (x4 : Int32) (x5 : Int32) (x6 : Int32) (y0 : Int32) (σ : ST) : Option ((Int32 × ST) × Nat) := (f_X11_isValue   σ).bind fun q1 => ac q1.2 (if q1.1.1 = 0 then (f_X11_value_104 r_X11_items r_X11_parts r_X11_value x1 x3 x4 x5 x6 y0 1 q1.1.2) else ((f_X11_fits  y0 q1.1.2).bind fun q3 => ac q3.2 (if q3.1.1 = 0 then (f_X11_value_104 r_X11_items r_X11_parts r_X11_value x1 x3 x4 x5 x6 y0 2 q3.1.2) else (if 31 ≤ x3 then (f_X11_value_99 r_X11_items r_X11_parts r_X11_value x1 x3 x4 x5 x6 y0 q3.1.2) else (if x5 < 200 then (f_X11_value_103 r_X11_items r_X11_parts r_X11_value x1 x3 x4 x5 x6 y0 q3.1.2) else (if x4 < 0 then (f_X11_value_103 r_X11_items r_X11_parts r_X11_value x1 x3 x4 x5 x6 y0 q3.1.2) else (if 0 ≤ x4.toInt ∧ x4.toInt < 4096 then (if (q3.1.2.1 20 x4.toNatClampNeg) = 6 then (f_X11_value_99 r_X11_items r_X11_parts r_X11_value x1 x3 x4 x5 x6 y0 q3.1.2) else (f_X11_value_103 r_X11_items r_X11_parts r_X11_value x1 x3 x4 x5 x6 y0 q3.1.2)) else none)))))))
def f_X11_value_20 (r_X11_items : Int32 → Int32 → Int32 → Int32 → ST → Option ((Int32 × ST) × Nat)) (r_X11_parts : Int32 → Int32 → Int32 → Int32 → ST → Option ((Int32 × ST) × Nat)) (r_X11_value : Int32 → Int32 → Int32 → Int32 → Int32 → ST → Option ((Int32 × ST) × Nat)) (x1 : Int32) (x2 : Int32) (x3 : Int32) (x4 : Int32) (x5 : Int32) (y0 : Int32) (σ : ST) : Option ((Int32 × ST) × Nat) := if 0 ≤ y0 then (if 0 ≤ ((4 * x2) + y0).toInt ∧ ((4 * x2) + y0).toInt < 3200 then (f_X11_value_42 r_X11_items r_X11_parts r_X11_value x1 x3 x4 x5 y0 (σ.1 5 ((4 * x2) + y0).toNatClampNeg) σ) else none) else (f_X11_value_42 r_X11_items r_X11_parts r_X11_value x1 x3 x4 x5 y0 x2 σ)
def f_X11_value (r_X11_items : Int32 → Int32 → Int32 → Int32 → ST → Option ((Int32 × ST) × Nat)) (r_X11_parts : Int32 → Int32 → Int32 → Int32 → ST → Option ((Int32 × ST) × Nat)) (r_X11_value : Int32 → Int32 → Int32 → Int32 → Int32 → ST → Option ((Int32 × ST) × Nat)) (p0 : Int32) (p1 : Int32) (p2 : Int32) (p3 : Int32) (p4 : Int32) (σ : ST) : Option ((Int32 × ST) × Nat) := if 0 ≤ p1.toInt ∧ p1.toInt < 800 then (if (σ.1 2 p1.toNatClampNeg) = 8 then ((f_X11_branchFor  p1 σ).bind fun q2 => ac q2.2 (f_X11_value_20 r_X11_items r_X11_parts r_X11_value p0 p1 p2 p3 p4 q2.1.1 q2.1.2)) else (f_X11_value_20 r_X11_items r_X11_parts r_X11_value p0 p1 p2 p3 p4 (-1) σ)) else none

def R_X11_items : Nat → (Int32 → Int32 → Int32 → Int32 → ST → Option ((Int32 × ST) × Nat)) × (Int32 → Int32 → Int32 → Int32 → ST → Option ((Int32 × ST) × Nat)) × (Int32 → Int32 → Int32 → Int32 → Int32 → ST → Option ((Int32 × ST) × Nat))
  | 0 => ((fun _ _ _ _ _ => none), (fun _ _ _ _ _ => none), (fun _ _ _ _ _ _ => none))
  | n + 1 => (f_X11_items ((R_X11_items n).1) ((R_X11_items n).2.1) ((R_X11_items n).2.2), f_X11_parts ((R_X11_items n).1) ((R_X11_items n).2.1) ((R_X11_items n).2.2), f_X11_value ((R_X11_items n).1) ((R_X11_items n).2.1) ((R_X11_items n).2.2))
def f_T_X11_items (p0 : Int32) (p1 : Int32) (p2 : Int32) (p3 : Int32) (σ : ST) : Option ((Int32 × ST) × Nat) := (R_X11_items FRB).1 p0 p1 p2 p3 σ
def f_T_X11_parts (p0 : Int32) (p1 : Int32) (p2 : Int32) (p3 : Int32) (σ : ST) : Option ((Int32 × ST) × Nat) := (R_X11_items FRB).2.1 p0 p1 p2 p3 σ
def f_T_X11_value (p0 : Int32) (p1 : Int32) (p2 : Int32) (p3 : Int32) (p4 : Int32) (σ : ST) : Option ((Int32 × ST) × Nat) := (R_X11_items FRB).2.2 p0 p1 p2 p3 p4 σ

set_option maxRecDepth 100000 in
set_option maxHeartbeats 4000000 in
theorem b_X11_items_70 {p : Program} {l : Launch} {e : Env} {s : State} {m : MethodId} {args : Array Value} {below : List Frame} {meth : Method} {c : Code} {dC : Nat → ClassId} {dI : Nat → Nat → Nat} {a : Nat → Nat} {k : Nat → ClassId} {A : Nat → Prop} {q : Int32 × ST} {T r κ : Nat} (hC : CxB p s m args meth c dC dI k A cX11_items RX11 (some .boolean) 7) {nn : Nat} {r_X11_items : Int32 → Int32 → Int32 → Int32 → ST → Option ((Int32 × ST) × Nat)} (hr_X11_items : ∀ {sz : Nat} {p0 : Int32} {p1 : Int32} {p2 : Int32} {p3 : Int32} {σ : ST} {q : Int32 × ST} {r : Nat}, r_X11_items  p0 p1 p2 p3 σ = some (q, r) → Met l yX11_items (.code yX11_items cX11_items 7 (some .boolean) :: pw) ({ frames := 6 + nn, cells := r, slots := 6 * r, locals := 129 + 29 * nn } : Room) (va_Pc [.ref (a 0), .int p0, .int p1, .int p2, .int p3] (vPre dC dI (wB a k σ) (tB k) sz)) (qBi dC dI a k (va_A (wB a k σ) sz) q) r (6 * r) (va_A (wB a k σ) sz)) {r_X11_parts : Int32 → Int32 → Int32 → Int32 → ST → Option ((Int32 × ST) × Nat)} (hr_X11_parts : ∀ {sz : Nat} {p0 : Int32} {p1 : Int32} {p2 : Int32} {p3 : Int32} {σ : ST} {q : Int32 × ST} {r : Nat}, r_X11_parts  p0 p1 p2 p3 σ = some (q, r) → Met l yX11_parts (.code yX11_parts cX11_parts 8 (some .boolean) :: pw) ({ frames := 6 + nn, cells := r, slots := 6 * r, locals := 129 + 29 * nn } : Room) (va_Pc [.ref (a 0), .int p0, .int p1, .int p2, .int p3] (vPre dC dI (wB a k σ) (tB k) sz)) (qBi dC dI a k (va_A (wB a k σ) sz) q) r (6 * r) (va_A (wB a k σ) sz)) {r_X11_value : Int32 → Int32 → Int32 → Int32 → Int32 → ST → Option ((Int32 × ST) × Nat)} (hr_X11_value : ∀ {sz : Nat} {p0 : Int32} {p1 : Int32} {p2 : Int32} {p3 : Int32} {p4 : Int32} {σ : ST} {q : Int32 × ST} {r : Nat}, r_X11_value  p0 p1 p2 p3 p4 σ = some (q, r) → Met l yX11_value (.code yX11_value cX11_value 10 (some .boolean) :: pw) ({ frames := 6 + nn, cells := r, slots := 6 * r, locals := 129 + 29 * nn } : Room) (va_Pc [.ref (a 0), .int p0, .int p1, .int p2, .int p3, .int p4] (vPre dC dI (wB a k σ) (tB k) sz)) (qBi dC dI a k (va_A (wB a k σ) sz) q) r (6 * r) (va_A (wB a k σ) sz)) {k25 : Int32 → Int32 → Int32 → Int32 → Int32 → Int32 → ST → Option ((Int32 × ST) × Nat)} (hk25 : ∀ (x1 : Int32) (x2 : Int32) (x3 : Int32) (x4 : Int32) (x5 : Int32) (x6 : Int32) (σ : ST) (κ r : Nat), k25 x1 x2 x3 x4 x5 x6 σ = some (q, r) → κ + r = T → GkB p l e ({ frames := 6 + (nn + 1), cells := T, slots := 6 * T, locals := 129 + 29 * (nn + 1) } : Room) s m args below meth c (MQ below (qBi dC dI a k A q) args s T (6 * T) A) dC dI a k A 7 25 κ σ [(0, .ref (a 0)), (1, .int x1), (2, .int x2), (3, .int x3), (4, .int x4), (5, .int x5), (6, .int x6)] []) {x1 : Int32} {x2 : Int32} {x3 : Int32} {x4 : Int32} {x5 : Int32} {y0 : Int32} {σ : ST} (h : f_X11_items_70 r_X11_items r_X11_parts r_X11_value k25 x1 x2 x3 x4 x5 y0 σ = some (q, r)) (hκ : κ + r = T) : GkB p l e ({ frames := 6 + (nn + 1), cells := T, slots := 6 * T, locals := 129 + 29 * (nn + 1) } : Room) s m args below meth c (MQ below (qBi dC dI a k A q) args s T (6 * T) A) dC dI a k A 7 70 κ σ [(0, .ref (a 0)), (1, .int x1), (2, .int x2), (3, .int x3), (4, .int x4), (5, .int x5)] [.int y0] := by
  have hC0 := hC
  obtain ⟨hx, hb, hr, hml, hown, hts, hlocks, hA, hN, hK⟩ := hC0
  intro H locs ls hP hD hS hl
  have hD0 : ∀ σ1 : ST, va_D A (wB a k σ1) := fun σ1 => wB_D hD
  unfold f_X11_items_70 at h
  refine lv_istore (lv' := [(6, .int y0), (0, .ref (a 0)), (1, .int x1), (2, .int x2), (3, .int x3), (4, .int x4), (5, .int x5)]) hx hb dX11_items_70 hl (by decide) rfl (fun ls hl => ?_)
  refine lv_iload hx hb dX11_items_72 (lv_at hl 0 rfl) ?_
  refine lv_if_eq (tgt := 25) hx hb dX11_items_74 (by decide) (fun hc => ?_) (fun hc => ?_)
  · replace h := ip hc h
    exact hk25 _ _ _ _ _ _ _ _ _ h hκ _ _ _ hP hD hS (lv_sub hl [1, 2, 3, 4, 5, 6, 0] rfl)
  · replace h := iq hc h
    refine lv_aload_n hx hb dX11_items_77 rfl (lv_at hl 1 rfl) ?_
    obtain ⟨q1, hc, h⟩ := ib h
    have hF := va_frees hD hS hA
    refine va_callv (va_runV (As := []) (rest := []) ⟨hx, hb, hml, hown, hts⟩ (s_X11_go hc) (cwV 0 hts (gV mw_30_12 mw_30_13 mw_30_14 mw_0_15 mw_54_6) rfl rfl rfl (by decide +kernel) ⟨by show 4 + 1 ≤ 6 + (nn + 1); omega, by show 8 + (2 + 11) + 87 ≤ 129 + 29 * (nn + 1); omega⟩) (vV (ci := 11) (q0 := 0) hK hP hD hN rfl gB_0) rfl rfl hl.1 rfl (lv_room (Nat.le_of_ble_eq_true rfl)) dX11_items_78 ⟨by show κ + 0 ≤ T; omega, by show 6 * κ + 0 ≤ 6 * T; omega⟩) hS (fun q _ h => hF q h) hF (fun u t H locs ht hvm hw hB _ _ hS => ?_)
    replace hP : va_P (dC, dI) vwCl (wB a k q1) H := by rw [← ht]; exact hB.1
    replace hD := hD0 (q1)
    clear hB hF
    refine lv_goto (tgt := 25) hx hb dX11_items_81 (by decide) ?_
    exact hk25 _ _ _ _ _ _ _ _ _ h hκ _ _ _ hP hD hS (lv_sub hl [1, 2, 3, 4, 5, 6, 0] rfl)

set_option maxRecDepth 100000 in
set_option maxHeartbeats 4000000 in
theorem b_X11_items_25 {p : Program} {l : Launch} {e : Env} {s : State} {m : MethodId} {args : Array Value} {below : List Frame} {meth : Method} {c : Code} {dC : Nat → ClassId} {dI : Nat → Nat → Nat} {a : Nat → Nat} {k : Nat → ClassId} {A : Nat → Prop} {q : Int32 × ST} {T : Nat} (hC : CxB p s m args meth c dC dI k A cX11_items RX11 (some .boolean) 7) {nn : Nat} {r_X11_items : Int32 → Int32 → Int32 → Int32 → ST → Option ((Int32 × ST) × Nat)} (hr_X11_items : ∀ {sz : Nat} {p0 : Int32} {p1 : Int32} {p2 : Int32} {p3 : Int32} {σ : ST} {q : Int32 × ST} {r : Nat}, r_X11_items  p0 p1 p2 p3 σ = some (q, r) → Met l yX11_items (.code yX11_items cX11_items 7 (some .boolean) :: pw) ({ frames := 6 + nn, cells := r, slots := 6 * r, locals := 129 + 29 * nn } : Room) (va_Pc [.ref (a 0), .int p0, .int p1, .int p2, .int p3] (vPre dC dI (wB a k σ) (tB k) sz)) (qBi dC dI a k (va_A (wB a k σ) sz) q) r (6 * r) (va_A (wB a k σ) sz)) {r_X11_parts : Int32 → Int32 → Int32 → Int32 → ST → Option ((Int32 × ST) × Nat)} (hr_X11_parts : ∀ {sz : Nat} {p0 : Int32} {p1 : Int32} {p2 : Int32} {p3 : Int32} {σ : ST} {q : Int32 × ST} {r : Nat}, r_X11_parts  p0 p1 p2 p3 σ = some (q, r) → Met l yX11_parts (.code yX11_parts cX11_parts 8 (some .boolean) :: pw) ({ frames := 6 + nn, cells := r, slots := 6 * r, locals := 129 + 29 * nn } : Room) (va_Pc [.ref (a 0), .int p0, .int p1, .int p2, .int p3] (vPre dC dI (wB a k σ) (tB k) sz)) (qBi dC dI a k (va_A (wB a k σ) sz) q) r (6 * r) (va_A (wB a k σ) sz)) {r_X11_value : Int32 → Int32 → Int32 → Int32 → Int32 → ST → Option ((Int32 × ST) × Nat)} (hr_X11_value : ∀ {sz : Nat} {p0 : Int32} {p1 : Int32} {p2 : Int32} {p3 : Int32} {p4 : Int32} {σ : ST} {q : Int32 × ST} {r : Nat}, r_X11_value  p0 p1 p2 p3 p4 σ = some (q, r) → Met l yX11_value (.code yX11_value cX11_value 10 (some .boolean) :: pw) ({ frames := 6 + nn, cells := r, slots := 6 * r, locals := 129 + 29 * nn } : Room) (va_Pc [.ref (a 0), .int p0, .int p1, .int p2, .int p3, .int p4] (vPre dC dI (wB a k σ) (tB k) sz)) (qBi dC dI a k (va_A (wB a k σ) sz) q) r (6 * r) (va_A (wB a k σ) sz))  : ∀ (n : Nat) (x1 : Int32) (x2 : Int32) (x3 : Int32) (x4 : Int32) (x5 : Int32) (x6 : Int32) (σ : ST) (κ r : Nat), f_X11_items_25 r_X11_items r_X11_parts r_X11_value n x1 x2 x3 x4 x5 x6 σ = some (q, r) → κ + r = T → GkB p l e ({ frames := 6 + (nn + 1), cells := T, slots := 6 * T, locals := 129 + 29 * (nn + 1) } : Room) s m args below meth c (MQ below (qBi dC dI a k A q) args s T (6 * T) A) dC dI a k A 7 25 κ σ [(0, .ref (a 0)), (1, .int x1), (2, .int x2), (3, .int x3), (4, .int x4), (5, .int x5), (6, .int x6)] [] := by
  intro n
  induction n with
  | zero =>
    intro x1 x2 x3 x4 x5 x6 σ κ r h
    rw [f_X11_items_25] at h
    cases h
  | succ n ih =>
    intro x1 x2 x3 x4 x5 x6 σ κ r h hκ
    have hC0 := hC
    obtain ⟨hx, hb, hr, hml, hown, hts, hlocks, hA, hN, hK⟩ := hC0
    intro H locs ls hP hD hS hl
    have hD0 : ∀ σ1 : ST, va_D A (wB a k σ1) := fun σ1 => wB_D hD
    rw [f_X11_items_25] at h
    refine lv_iload hx hb dX11_items_25 (lv_at hl 6 rfl) ?_
    refine lv_if_eq (tgt := 84) hx hb dX11_items_27 (by decide) (fun hc => ?_) (fun hc => ?_)
    · replace h := ip hc h
      refine lv_aload_n hx hb dX11_items_84 rfl (lv_at hl 0 rfl) ?_
      refine lv_bipush (v := 93) hx hb dX11_items_85 (by decide) ?_
      obtain ⟨q1, hc, h⟩ := ib h
      have hF := va_frees hD hS hA
      refine va_calli (va_runV (As := [.int 93]) (rest := []) ⟨hx, hb, hml, hown, hts⟩ (s_X11_mark hc) (cwV 1 hts (gV mw_32_13 mw_32_14 mw_32_15 mw_0_15 mw_54_11) rfl rfl rfl (by decide +kernel) ⟨by show 5 + 1 ≤ 6 + (nn + 1); omega, by show 8 + (2 + 11) + 108 ≤ 129 + 29 * (nn + 1); omega⟩) (vV (ci := 11) (q0 := 0) hK hP hD hN rfl gB_0) rfl rfl hl.1 rfl (lv_room (Nat.le_of_ble_eq_true rfl)) dX11_items_87 ⟨by show κ + 0 ≤ T; omega, by show 6 * κ + 0 ≤ 6 * T; omega⟩) hS (fun q _ h => hF q h) hF (fun r2 u t H locs ht hvm hw hB _ _ hS => ?_)
      obtain rfl : r2 = q1.1 := hw
      replace hP : va_P (dC, dI) vwCl (wB a k q1.2) H := by rw [← ht]; exact hB.1
      replace hD := hD0 (q1.2)
      clear hB hF
      obtain ⟨hg, h⟩ := ig h
      obtain ⟨rfl, rfl⟩ := Prod.mk.inj (Option.some.inj h)
      subst hκ
      exact W.zret hx hb hr (zn hg) (fun t ht hW => ⟨⟨_, (), rfl, rfl, ⟨by rw [ht]; exact hP, va_K.moved hW.alike hK, hD⟩⟩, hS.F ht⟩) hS.2.2 dX11_items_90
    · replace h := iq hc h
      refine lv_aload_n hx hb dX11_items_30 rfl (lv_at hl 0 rfl) ?_
      refine lv_iload_n hx hb dX11_items_31 rfl (lv_at hl 1 rfl) ?_
      refine lv_aload_n hx hb dX11_items_32 rfl (lv_at hl 0 rfl) ?_
      refine va_get (D := (dC, dI)) (ci := 11) (C := RX11) (T := TX11) (N := 95) hx hb hts inlX11 hown hK hP 0 gB_0 rfl 15 (by decide) (hts (.fieldLink RX11 17 "ShapeReaderModel" "typeArg" "[I") mw_26_29) (fun _ h9 => h9) rfl dX11_items_33 ?_
      refine lv_iload_n hx hb dX11_items_36 rfl (lv_at hl 2 rfl) ?_
      obtain ⟨hg3, h⟩ := ig h
      refine va_iald hx hb hK hP 3 2 gB_3 yB_3 (vp_in_iff.mpr hg3) dX11_items_37 ?_
      refine lv_iload_n hx hb dX11_items_38 rfl (lv_at hl 3 rfl) ?_
      refine lv_iconst (v := 1) hx hb dX11_items_39 (by decide) ?_
      refine lv_iadd hx hb dX11_items_40 ?_
      refine lv_iload hx hb dX11_items_41 (lv_at hl 4 rfl) ?_
      refine lv_iload hx hb dX11_items_43 (lv_at hl 5 rfl) ?_
      obtain ⟨q4, hc, h⟩ := ib h
      obtain ⟨r2, h, hz⟩ := acE h
      have hF := va_frees hD hS hA
      refine va_calli (va_runV (As := [.int x1, .int (σ.1 3 x2.toNatClampNeg), .int (x3 + 1), .int x4, .int x5]) (rest := []) ⟨hx, hb, hml, hown, hts⟩ (hr_X11_value (q := q4.1) (r := q4.2) hc) (cwV 5 hts (gV mw_34_17 mw_34_18 mw_34_19 mw_0_15 mw_55_18) rfl rfl rfl (by decide +kernel) ⟨by show (6 + nn) + 1 ≤ 6 + (nn + 1); omega, by show 8 + (10 + 11) + (129 + 29 * nn) ≤ 129 + 29 * (nn + 1); omega⟩) (vV (ci := 11) (q0 := 0) hK hP hD hN rfl gB_0) rfl rfl hl.1 rfl (lv_room (Nat.le_of_ble_eq_true rfl)) dX11_items_45 ⟨by show κ + q4.2 ≤ T; omega, by show 6 * κ + 6 * q4.2 ≤ 6 * T; omega⟩) hS (fun q _ h => hF q h) hF (fun r5 u t H locs ht hvm hw hB _ _ hS => ?_)
      obtain rfl : r5 = q4.1.1 := hw
      replace hκ : (κ + q4.2) + r2 = T := by omega
      clear hz
      refine W.widen (k := (κ + q4.2)) (n := 6 * (κ + q4.2)) (Nat.le_refl _) (by omega) ?_
      replace hP : va_P (dC, dI) vwCl (wB a k q4.1.2) H := by rw [← ht]; exact hB.1
      replace hD := hD0 (q4.1.2)
      clear hB hF
      refine lv_if_ne (tgt := 53) hx hb dX11_items_48 (by decide) (fun hc => ?_) (fun hc => ?_)
      · replace h := iq hc h
        refine lv_iinc (v := (x5 + 1)) (lv' := [(5, .int (x5 + 1)), (0, .ref (a 0)), (1, .int x1), (2, .int x2), (3, .int x3), (4, .int x4), (6, .int x6)]) hx hb dX11_items_53 hl (k := 5) rfl rfl (by decide) rfl (fun ls hl => ?_)
        refine lv_aload_n hx hb dX11_items_56 rfl (lv_at hl 1 rfl) ?_
        refine va_get (D := (dC, dI)) (ci := 11) (C := RX11) (T := TX11) (N := 95) hx hb hts inlX11 hown hK hP 0 gB_0 rfl 13 (by decide) (hts (.fieldLink RX11 253 "ShapeReaderModel" "sign" "I") mw_29_26) (fun _ h9 => h9) rfl dX11_items_57 ?_
        refine lv_bipush (v := 44) hx hb dX11_items_60 (by decide) ?_
        refine lv_icmp_ne (tgt := 69) hx hb dX11_items_62 (by decide) (fun hc => ?_) (fun hc => ?_)
        · replace h := iq hc h
          refine lv_iconst (v := 0) hx hb dX11_items_69 (by decide) ?_
          exact b_X11_items_70 hC hr_X11_items hr_X11_parts hr_X11_value ih h hκ _ _ _ hP hD hS (lv_sub hl [1, 2, 3, 4, 5, 0] rfl)
        · replace h := ip hc h
          refine lv_iconst (v := 1) hx hb dX11_items_65 (by decide) ?_
          refine lv_goto (tgt := 70) hx hb dX11_items_66 (by decide) ?_
          exact b_X11_items_70 hC hr_X11_items hr_X11_parts hr_X11_value ih h hκ _ _ _ hP hD hS (lv_sub hl [1, 2, 3, 4, 5, 0] rfl)
      · replace h := ip hc h
        refine lv_iconst (v := 0) hx hb dX11_items_51 (by decide) ?_
        obtain ⟨rfl, rfl⟩ := Prod.mk.inj (Option.some.inj h)
        subst hκ
        exact W.zret hx hb hr rfl (fun t ht hW => ⟨⟨_, (), rfl, rfl, ⟨by rw [ht]; exact hP, va_K.moved hW.alike hK, hD⟩⟩, hS.F ht⟩) hS.2.2 dX11_items_52

set_option maxRecDepth 100000 in
set_option maxHeartbeats 4000000 in
theorem b_X11_items_e {p : Program} {l : Launch} {e : Env} {s : State} {m : MethodId} {args : Array Value} {below : List Frame} {meth : Method} {c : Code} {dC : Nat → ClassId} {dI : Nat → Nat → Nat} {a : Nat → Nat} {k : Nat → ClassId} {A : Nat → Prop} {q : Int32 × ST} {T r : Nat} (hC : CxB p s m args meth c dC dI k A cX11_items RX11 (some .boolean) 7) {nn : Nat} {r_X11_items : Int32 → Int32 → Int32 → Int32 → ST → Option ((Int32 × ST) × Nat)} (hr_X11_items : ∀ {sz : Nat} {p0 : Int32} {p1 : Int32} {p2 : Int32} {p3 : Int32} {σ : ST} {q : Int32 × ST} {r : Nat}, r_X11_items  p0 p1 p2 p3 σ = some (q, r) → Met l yX11_items (.code yX11_items cX11_items 7 (some .boolean) :: pw) ({ frames := 6 + nn, cells := r, slots := 6 * r, locals := 129 + 29 * nn } : Room) (va_Pc [.ref (a 0), .int p0, .int p1, .int p2, .int p3] (vPre dC dI (wB a k σ) (tB k) sz)) (qBi dC dI a k (va_A (wB a k σ) sz) q) r (6 * r) (va_A (wB a k σ) sz)) {r_X11_parts : Int32 → Int32 → Int32 → Int32 → ST → Option ((Int32 × ST) × Nat)} (hr_X11_parts : ∀ {sz : Nat} {p0 : Int32} {p1 : Int32} {p2 : Int32} {p3 : Int32} {σ : ST} {q : Int32 × ST} {r : Nat}, r_X11_parts  p0 p1 p2 p3 σ = some (q, r) → Met l yX11_parts (.code yX11_parts cX11_parts 8 (some .boolean) :: pw) ({ frames := 6 + nn, cells := r, slots := 6 * r, locals := 129 + 29 * nn } : Room) (va_Pc [.ref (a 0), .int p0, .int p1, .int p2, .int p3] (vPre dC dI (wB a k σ) (tB k) sz)) (qBi dC dI a k (va_A (wB a k σ) sz) q) r (6 * r) (va_A (wB a k σ) sz)) {r_X11_value : Int32 → Int32 → Int32 → Int32 → Int32 → ST → Option ((Int32 × ST) × Nat)} (hr_X11_value : ∀ {sz : Nat} {p0 : Int32} {p1 : Int32} {p2 : Int32} {p3 : Int32} {p4 : Int32} {σ : ST} {q : Int32 × ST} {r : Nat}, r_X11_value  p0 p1 p2 p3 p4 σ = some (q, r) → Met l yX11_value (.code yX11_value cX11_value 10 (some .boolean) :: pw) ({ frames := 6 + nn, cells := r, slots := 6 * r, locals := 129 + 29 * nn } : Room) (va_Pc [.ref (a 0), .int p0, .int p1, .int p2, .int p3, .int p4] (vPre dC dI (wB a k σ) (tB k) sz)) (qBi dC dI a k (va_A (wB a k σ) sz) q) r (6 * r) (va_A (wB a k σ) sz))  {p0 : Int32} {p1 : Int32} {p2 : Int32} {p3 : Int32} {σ : ST} (h : f_X11_items r_X11_items r_X11_parts r_X11_value p0 p1 p2 p3 σ = some (q, r)) (hκ : 0 + r = T) : GkB p l e ({ frames := 6 + (nn + 1), cells := T, slots := 6 * T, locals := 129 + 29 * (nn + 1) } : Room) s m args below meth c (MQ below (qBi dC dI a k A q) args s T (6 * T) A) dC dI a k A 7 0 0 σ (lv_args 0 [.ref (a 0), .int p0, .int p1, .int p2, .int p3]) [] := by
  have hC0 := hC
  obtain ⟨hx, hb, hr, hml, hown, hts, hlocks, hA, hN, hK⟩ := hC0
  intro H locs ls hP hD hS hl
  have hD0 : ∀ σ1 : ST, va_D A (wB a k σ1) := fun σ1 => wB_D hD
  replace hl : lv_has ls 7 [(0, .ref (a 0)), (1, .int p0), (2, .int p1), (3, .int p2), (4, .int p3)] := hl
  unfold f_X11_items at h
  refine lv_aload_n hx hb dX11_items_0 rfl (lv_at hl 0 rfl) ?_
  obtain ⟨q1, hc, h⟩ := ib h
  have hF := va_frees hD hS hA
  refine va_callv (va_runV (As := []) (rest := []) ⟨hx, hb, hml, hown, hts⟩ (s_X11_go hc) (cwV 0 hts (gV mw_30_12 mw_30_13 mw_30_14 mw_0_15 mw_54_6) rfl rfl rfl (by decide +kernel) ⟨by show 4 + 1 ≤ 6 + (nn + 1); omega, by show 8 + (2 + 11) + 87 ≤ 129 + 29 * (nn + 1); omega⟩) (vV (ci := 11) (q0 := 0) hK hP hD hN rfl gB_0) rfl rfl hl.1 rfl (lv_room (Nat.le_of_ble_eq_true rfl)) dX11_items_1 ⟨by show 0 + 0 ≤ T; omega, by show 6 * 0 + 0 ≤ 6 * T; omega⟩) hS (fun q _ h => hF q h) hF (fun u t H locs ht hvm hw hB _ _ hS => ?_)
  replace hP : va_P (dC, dI) vwCl (wB a k q1) H := by rw [← ht]; exact hB.1
  replace hD := hD0 (q1)
  clear hB hF
  refine lv_aload_n hx hb dX11_items_4 rfl (lv_at hl 0 rfl) ?_
  refine va_get (D := (dC, dI)) (ci := 11) (C := RX11) (T := TX11) (N := 95) hx hb hts inlX11 hown hK hP 0 gB_0 rfl 13 (by decide) (hts (.fieldLink RX11 253 "ShapeReaderModel" "sign" "I") mw_29_26) (fun _ h9 => h9) rfl dX11_items_5 ?_
  refine lv_bipush (v := 93) hx hb dX11_items_8 (by decide) ?_
  refine lv_icmp_ne (tgt := 19) hx hb dX11_items_10 (by decide) (fun hc => ?_) (fun hc => ?_)
  · replace h := iq hc h
    refine lv_iconst (v := 0) hx hb dX11_items_19 (by decide) ?_
    refine lv_istore (lv' := [(5, .int 0), (0, .ref (a 0)), (1, .int p0), (2, .int p1), (3, .int p2), (4, .int p3)]) hx hb dX11_items_20 hl (by decide) rfl (fun ls hl => ?_)
    refine lv_iconst (v := 1) hx hb dX11_items_22 (by decide) ?_
    refine lv_istore (lv' := [(6, .int 1), (5, .int 0), (0, .ref (a 0)), (1, .int p0), (2, .int p1), (3, .int p2), (4, .int p3)]) hx hb dX11_items_23 hl (by decide) rfl (fun ls hl => ?_)
    exact b_X11_items_25 hC hr_X11_items hr_X11_parts hr_X11_value FU _ _ _ _ _ _ _ _ _ h hκ _ _ _ hP hD hS (lv_sub hl [2, 3, 4, 5, 6, 1, 0] rfl)
  · replace h := ip hc h
    refine lv_aload_n hx hb dX11_items_13 rfl (lv_at hl 0 rfl) ?_
    obtain ⟨q3, hc, h⟩ := ib h
    have hF := va_frees hD hS hA
    refine va_callv (va_runV (As := []) (rest := []) ⟨hx, hb, hml, hown, hts⟩ (s_X11_go hc) (cwV 0 hts (gV mw_30_12 mw_30_13 mw_30_14 mw_0_15 mw_54_6) rfl rfl rfl (by decide +kernel) ⟨by show 4 + 1 ≤ 6 + (nn + 1); omega, by show 8 + (2 + 11) + 87 ≤ 129 + 29 * (nn + 1); omega⟩) (vV (ci := 11) (q0 := 0) hK hP hD hN rfl gB_0) rfl rfl hl.1 rfl (lv_room (Nat.le_of_ble_eq_true rfl)) dX11_items_14 ⟨by show 0 + 0 ≤ T; omega, by show 6 * 0 + 0 ≤ 6 * T; omega⟩) hS (fun q _ h => hF q h) hF (fun u t H locs ht hvm hw hB _ _ hS => ?_)
    replace hP : va_P (dC, dI) vwCl (wB a k q3) H := by rw [← ht]; exact hB.1
    replace hD := hD0 (q3)
    clear hB hF
    refine lv_iconst (v := 1) hx hb dX11_items_17 (by decide) ?_
    obtain ⟨rfl, rfl⟩ := Prod.mk.inj (Option.some.inj h)
    subst hκ
    exact W.zret hx hb hr rfl (fun t ht hW => ⟨⟨_, (), rfl, rfl, ⟨by rw [ht]; exact hP, va_K.moved hW.alike hK, hD⟩⟩, hS.F ht⟩) hS.2.2 dX11_items_18


set_option maxRecDepth 100000 in
set_option maxHeartbeats 4000000 in
theorem b_X11_parts_85 {p : Program} {l : Launch} {e : Env} {s : State} {m : MethodId} {args : Array Value} {below : List Frame} {meth : Method} {c : Code} {dC : Nat → ClassId} {dI : Nat → Nat → Nat} {a : Nat → Nat} {k : Nat → ClassId} {A : Nat → Prop} {q : Int32 × ST} {T r κ : Nat} (hC : CxB p s m args meth c dC dI k A cX11_parts RX11 (some .boolean) 8) {nn : Nat} {r_X11_items : Int32 → Int32 → Int32 → Int32 → ST → Option ((Int32 × ST) × Nat)} (hr_X11_items : ∀ {sz : Nat} {p0 : Int32} {p1 : Int32} {p2 : Int32} {p3 : Int32} {σ : ST} {q : Int32 × ST} {r : Nat}, r_X11_items  p0 p1 p2 p3 σ = some (q, r) → Met l yX11_items (.code yX11_items cX11_items 7 (some .boolean) :: pw) ({ frames := 6 + nn, cells := r, slots := 6 * r, locals := 129 + 29 * nn } : Room) (va_Pc [.ref (a 0), .int p0, .int p1, .int p2, .int p3] (vPre dC dI (wB a k σ) (tB k) sz)) (qBi dC dI a k (va_A (wB a k σ) sz) q) r (6 * r) (va_A (wB a k σ) sz)) {r_X11_parts : Int32 → Int32 → Int32 → Int32 → ST → Option ((Int32 × ST) × Nat)} (hr_X11_parts : ∀ {sz : Nat} {p0 : Int32} {p1 : Int32} {p2 : Int32} {p3 : Int32} {σ : ST} {q : Int32 × ST} {r : Nat}, r_X11_parts  p0 p1 p2 p3 σ = some (q, r) → Met l yX11_parts (.code yX11_parts cX11_parts 8 (some .boolean) :: pw) ({ frames := 6 + nn, cells := r, slots := 6 * r, locals := 129 + 29 * nn } : Room) (va_Pc [.ref (a 0), .int p0, .int p1, .int p2, .int p3] (vPre dC dI (wB a k σ) (tB k) sz)) (qBi dC dI a k (va_A (wB a k σ) sz) q) r (6 * r) (va_A (wB a k σ) sz)) {r_X11_value : Int32 → Int32 → Int32 → Int32 → Int32 → ST → Option ((Int32 × ST) × Nat)} (hr_X11_value : ∀ {sz : Nat} {p0 : Int32} {p1 : Int32} {p2 : Int32} {p3 : Int32} {p4 : Int32} {σ : ST} {q : Int32 × ST} {r : Nat}, r_X11_value  p0 p1 p2 p3 p4 σ = some (q, r) → Met l yX11_value (.code yX11_value cX11_value 10 (some .boolean) :: pw) ({ frames := 6 + nn, cells := r, slots := 6 * r, locals := 129 + 29 * nn } : Room) (va_Pc [.ref (a 0), .int p0, .int p1, .int p2, .int p3, .int p4] (vPre dC dI (wB a k σ) (tB k) sz)) (qBi dC dI a k (va_A (wB a k σ) sz) q) r (6 * r) (va_A (wB a k σ) sz))   {σ : ST} (h : f_X11_parts_85 r_X11_items r_X11_parts r_X11_value  σ = some (q, r)) (hκ : κ + r = T) : GkB p l e ({ frames := 6 + (nn + 1), cells := T, slots := 6 * T, locals := 129 + 29 * (nn + 1) } : Room) s m args below meth c (MQ below (qBi dC dI a k A q) args s T (6 * T) A) dC dI a k A 8 85 κ σ [(0, .ref (a 0))] [] := by
  have hC0 := hC
  obtain ⟨hx, hb, hr, hml, hown, hts, hlocks, hA, hN, hK⟩ := hC0
  intro H locs ls hP hD hS hl
  have hD0 : ∀ σ1 : ST, va_D A (wB a k σ1) := fun σ1 => wB_D hD
  unfold f_X11_parts_85 at h
  refine lv_aload_n hx hb dX11_parts_85 rfl (lv_at hl 0 rfl) ?_
  refine lv_iconst (v := 3) hx hb dX11_parts_86 (by decide) ?_
  obtain ⟨q1, hc, h⟩ := ib h
  have hF := va_frees hD hS hA
  refine va_calli (va_runV (As := [.int 3]) (rest := []) ⟨hx, hb, hml, hown, hts⟩ (s_X11_wrongHere hc) (cwV 1 hts (gV mw_30_9 mw_30_10 mw_30_11 mw_0_15 mw_54_10) rfl rfl rfl (by decide +kernel) ⟨by show 1 + 1 ≤ 6 + (nn + 1); omega, by show 8 + (2 + 11) + 22 ≤ 129 + 29 * (nn + 1); omega⟩) (vV (ci := 11) (q0 := 0) hK hP hD hN rfl gB_0) rfl rfl hl.1 rfl (lv_room (Nat.le_of_ble_eq_true rfl)) dX11_parts_87 ⟨by show κ + 0 ≤ T; omega, by show 6 * κ + 0 ≤ 6 * T; omega⟩) hS (fun q _ h => hF q h) hF (fun r2 u t H locs ht hvm hw hB _ _ hS => ?_)
  obtain rfl : r2 = q1.1 := hw
  replace hP : va_P (dC, dI) vwCl (wB a k q1.2) H := by rw [← ht]; exact hB.1
  replace hD := hD0 (q1.2)
  clear hB hF
  obtain ⟨hg, h⟩ := ig h
  obtain ⟨rfl, rfl⟩ := Prod.mk.inj (Option.some.inj h)
  subst hκ
  exact W.zret hx hb hr (zn hg) (fun t ht hW => ⟨⟨_, (), rfl, rfl, ⟨by rw [ht]; exact hP, va_K.moved hW.alike hK, hD⟩⟩, hS.F ht⟩) hS.2.2 dX11_parts_90

set_option maxRecDepth 100000 in
set_option maxHeartbeats 4000000 in
theorem b_X11_parts_139 {p : Program} {l : Launch} {e : Env} {s : State} {m : MethodId} {args : Array Value} {below : List Frame} {meth : Method} {c : Code} {dC : Nat → ClassId} {dI : Nat → Nat → Nat} {a : Nat → Nat} {k : Nat → ClassId} {A : Nat → Prop} {q : Int32 × ST} {T r κ : Nat} (hC : CxB p s m args meth c dC dI k A cX11_parts RX11 (some .boolean) 8) {nn : Nat} {r_X11_items : Int32 → Int32 → Int32 → Int32 → ST → Option ((Int32 × ST) × Nat)} (hr_X11_items : ∀ {sz : Nat} {p0 : Int32} {p1 : Int32} {p2 : Int32} {p3 : Int32} {σ : ST} {q : Int32 × ST} {r : Nat}, r_X11_items  p0 p1 p2 p3 σ = some (q, r) → Met l yX11_items (.code yX11_items cX11_items 7 (some .boolean) :: pw) ({ frames := 6 + nn, cells := r, slots := 6 * r, locals := 129 + 29 * nn } : Room) (va_Pc [.ref (a 0), .int p0, .int p1, .int p2, .int p3] (vPre dC dI (wB a k σ) (tB k) sz)) (qBi dC dI a k (va_A (wB a k σ) sz) q) r (6 * r) (va_A (wB a k σ) sz)) {r_X11_parts : Int32 → Int32 → Int32 → Int32 → ST → Option ((Int32 × ST) × Nat)} (hr_X11_parts : ∀ {sz : Nat} {p0 : Int32} {p1 : Int32} {p2 : Int32} {p3 : Int32} {σ : ST} {q : Int32 × ST} {r : Nat}, r_X11_parts  p0 p1 p2 p3 σ = some (q, r) → Met l yX11_parts (.code yX11_parts cX11_parts 8 (some .boolean) :: pw) ({ frames := 6 + nn, cells := r, slots := 6 * r, locals := 129 + 29 * nn } : Room) (va_Pc [.ref (a 0), .int p0, .int p1, .int p2, .int p3] (vPre dC dI (wB a k σ) (tB k) sz)) (qBi dC dI a k (va_A (wB a k σ) sz) q) r (6 * r) (va_A (wB a k σ) sz)) {r_X11_value : Int32 → Int32 → Int32 → Int32 → Int32 → ST → Option ((Int32 × ST) × Nat)} (hr_X11_value : ∀ {sz : Nat} {p0 : Int32} {p1 : Int32} {p2 : Int32} {p3 : Int32} {p4 : Int32} {σ : ST} {q : Int32 × ST} {r : Nat}, r_X11_value  p0 p1 p2 p3 p4 σ = some (q, r) → Met l yX11_value (.code yX11_value cX11_value 10 (some .boolean) :: pw) ({ frames := 6 + nn, cells := r, slots := 6 * r, locals := 129 + 29 * nn } : Room) (va_Pc [.ref (a 0), .int p0, .int p1, .int p2, .int p3, .int p4] (vPre dC dI (wB a k σ) (tB k) sz)) (qBi dC dI a k (va_A (wB a k σ) sz) q) r (6 * r) (va_A (wB a k σ) sz)) {k33 : Int32 → Int32 → Int32 → Int32 → Int32 → ST → Option ((Int32 × ST) × Nat)} (hk33 : ∀ (x1 : Int32) (x3 : Int32) (x4 : Int32) (x5 : Int32) (x6 : Int32) (σ : ST) (κ r : Nat), k33 x1 x3 x4 x5 x6 σ = some (q, r) → κ + r = T → GkB p l e ({ frames := 6 + (nn + 1), cells := T, slots := 6 * T, locals := 129 + 29 * (nn + 1) } : Room) s m args below meth c (MQ below (qBi dC dI a k A q) args s T (6 * T) A) dC dI a k A 8 33 κ σ [(0, .ref (a 0)), (1, .int x1), (3, .int x3), (4, .int x4), (5, .int x5), (6, .int x6)] []) {x1 : Int32} {x3 : Int32} {x4 : Int32} {x5 : Int32} {y0 : Int32} {σ : ST} (h : f_X11_parts_139 r_X11_items r_X11_parts r_X11_value k33 x1 x3 x4 x5 y0 σ = some (q, r)) (hκ : κ + r = T) : GkB p l e ({ frames := 6 + (nn + 1), cells := T, slots := 6 * T, locals := 129 + 29 * (nn + 1) } : Room) s m args below meth c (MQ below (qBi dC dI a k A q) args s T (6 * T) A) dC dI a k A 8 139 κ σ [(0, .ref (a 0)), (1, .int x1), (3, .int x3), (4, .int x4), (5, .int x5)] [.int y0] := by
  have hC0 := hC
  obtain ⟨hx, hb, hr, hml, hown, hts, hlocks, hA, hN, hK⟩ := hC0
  intro H locs ls hP hD hS hl
  have hD0 : ∀ σ1 : ST, va_D A (wB a k σ1) := fun σ1 => wB_D hD
  unfold f_X11_parts_139 at h
  refine lv_istore (lv' := [(6, .int y0), (0, .ref (a 0)), (1, .int x1), (3, .int x3), (4, .int x4), (5, .int x5)]) hx hb dX11_parts_139 hl (by decide) rfl (fun ls hl => ?_)
  refine lv_iload hx hb dX11_parts_141 (lv_at hl 0 rfl) ?_
  refine lv_if_eq (tgt := 150) hx hb dX11_parts_143 (by decide) (fun hc => ?_) (fun hc => ?_)
  · replace h := ip hc h
    refine lv_goto (tgt := 33) hx hb dX11_parts_150 (by decide) ?_
    exact hk33 _ _ _ _ _ _ _ _ h hκ _ _ _ hP hD hS (lv_sub hl [1, 2, 3, 4, 5, 0] rfl)
  · replace h := iq hc h
    refine lv_aload_n hx hb dX11_parts_146 rfl (lv_at hl 1 rfl) ?_
    obtain ⟨q1, hc, h⟩ := ib h
    have hF := va_frees hD hS hA
    refine va_callv (va_runV (As := []) (rest := []) ⟨hx, hb, hml, hown, hts⟩ (s_X11_go hc) (cwV 0 hts (gV mw_30_12 mw_30_13 mw_30_14 mw_0_15 mw_54_6) rfl rfl rfl (by decide +kernel) ⟨by show 4 + 1 ≤ 6 + (nn + 1); omega, by show 8 + (2 + 11) + 87 ≤ 129 + 29 * (nn + 1); omega⟩) (vV (ci := 11) (q0 := 0) hK hP hD hN rfl gB_0) rfl rfl hl.1 rfl (lv_room (Nat.le_of_ble_eq_true rfl)) dX11_parts_147 ⟨by show κ + 0 ≤ T; omega, by show 6 * κ + 0 ≤ 6 * T; omega⟩) hS (fun q _ h => hF q h) hF (fun u t H locs ht hvm hw hB _ _ hS => ?_)
    replace hP : va_P (dC, dI) vwCl (wB a k q1) H := by rw [← ht]; exact hB.1
    replace hD := hD0 (q1)
    clear hB hF
    refine lv_goto (tgt := 33) hx hb dX11_parts_150 (by decide) ?_
    exact hk33 _ _ _ _ _ _ _ _ h hκ _ _ _ hP hD hS (lv_sub hl [1, 2, 3, 4, 5, 0] rfl)

set_option maxRecDepth 100000 in
set_option maxHeartbeats 4000000 in
theorem b_X11_parts_233 {p : Program} {l : Launch} {e : Env} {s : State} {m : MethodId} {args : Array Value} {below : List Frame} {meth : Method} {c : Code} {dC : Nat → ClassId} {dI : Nat → Nat → Nat} {a : Nat → Nat} {k : Nat → ClassId} {A : Nat → Prop} {q : Int32 × ST} {T r κ : Nat} (hC : CxB p s m args meth c dC dI k A cX11_parts RX11 (some .boolean) 8) {nn : Nat} {r_X11_items : Int32 → Int32 → Int32 → Int32 → ST → Option ((Int32 × ST) × Nat)} (hr_X11_items : ∀ {sz : Nat} {p0 : Int32} {p1 : Int32} {p2 : Int32} {p3 : Int32} {σ : ST} {q : Int32 × ST} {r : Nat}, r_X11_items  p0 p1 p2 p3 σ = some (q, r) → Met l yX11_items (.code yX11_items cX11_items 7 (some .boolean) :: pw) ({ frames := 6 + nn, cells := r, slots := 6 * r, locals := 129 + 29 * nn } : Room) (va_Pc [.ref (a 0), .int p0, .int p1, .int p2, .int p3] (vPre dC dI (wB a k σ) (tB k) sz)) (qBi dC dI a k (va_A (wB a k σ) sz) q) r (6 * r) (va_A (wB a k σ) sz)) {r_X11_parts : Int32 → Int32 → Int32 → Int32 → ST → Option ((Int32 × ST) × Nat)} (hr_X11_parts : ∀ {sz : Nat} {p0 : Int32} {p1 : Int32} {p2 : Int32} {p3 : Int32} {σ : ST} {q : Int32 × ST} {r : Nat}, r_X11_parts  p0 p1 p2 p3 σ = some (q, r) → Met l yX11_parts (.code yX11_parts cX11_parts 8 (some .boolean) :: pw) ({ frames := 6 + nn, cells := r, slots := 6 * r, locals := 129 + 29 * nn } : Room) (va_Pc [.ref (a 0), .int p0, .int p1, .int p2, .int p3] (vPre dC dI (wB a k σ) (tB k) sz)) (qBi dC dI a k (va_A (wB a k σ) sz) q) r (6 * r) (va_A (wB a k σ) sz)) {r_X11_value : Int32 → Int32 → Int32 → Int32 → Int32 → ST → Option ((Int32 × ST) × Nat)} (hr_X11_value : ∀ {sz : Nat} {p0 : Int32} {p1 : Int32} {p2 : Int32} {p3 : Int32} {p4 : Int32} {σ : ST} {q : Int32 × ST} {r : Nat}, r_X11_value  p0 p1 p2 p3 p4 σ = some (q, r) → Met l yX11_value (.code yX11_value cX11_value 10 (some .boolean) :: pw) ({ frames := 6 + nn, cells := r, slots := 6 * r, locals := 129 + 29 * nn } : Room) (va_Pc [.ref (a 0), .int p0, .int p1, .int p2, .int p3, .int p4] (vPre dC dI (wB a k σ) (tB k) sz)) (qBi dC dI a k (va_A (wB a k σ) sz) q) r (6 * r) (va_A (wB a k σ) sz)) {k171 : Int32 → Int32 → Int32 → ST → Option ((Int32 × ST) × Nat)} (hk171 : ∀ (x4 : Int32) (x5 : Int32) (x7 : Int32) (σ : ST) (κ r : Nat), k171 x4 x5 x7 σ = some (q, r) → κ + r = T → GkB p l e ({ frames := 6 + (nn + 1), cells := T, slots := 6 * T, locals := 129 + 29 * (nn + 1) } : Room) s m args below meth c (MQ below (qBi dC dI a k A q) args s T (6 * T) A) dC dI a k A 8 171 κ σ [(0, .ref (a 0)), (4, .int x4), (5, .int x5), (7, .int x7)] []) {x4 : Int32} {x5 : Int32} {x7 : Int32} {σ : ST} (h : f_X11_parts_233 r_X11_items r_X11_parts r_X11_value k171 x4 x5 x7 σ = some (q, r)) (hκ : κ + r = T) : GkB p l e ({ frames := 6 + (nn + 1), cells := T, slots := 6 * T, locals := 129 + 29 * (nn + 1) } : Room) s m args below meth c (MQ below (qBi dC dI a k A q) args s T (6 * T) A) dC dI a k A 8 233 κ σ [(0, .ref (a 0)), (4, .int x4), (5, .int x5), (7, .int x7)] [] := by
  have hC0 := hC
  obtain ⟨hx, hb, hr, hml, hown, hts, hlocks, hA, hN, hK⟩ := hC0
  intro H locs ls hP hD hS hl
  have hD0 : ∀ σ1 : ST, va_D A (wB a k σ1) := fun σ1 => wB_D hD
  unfold f_X11_parts_233 at h
  refine lv_iinc (v := (x7 + 1)) (lv' := [(7, .int (x7 + 1)), (0, .ref (a 0)), (4, .int x4), (5, .int x5)]) hx hb dX11_parts_233 hl (k := 3) rfl rfl (by decide) rfl (fun ls hl => ?_)
  refine lv_goto (tgt := 171) hx hb dX11_parts_236 (by decide) ?_
  exact hk171 _ _ _ _ _ _ h hκ _ _ _ hP hD hS (lv_sub hl [1, 2, 3, 0] rfl)

set_option maxRecDepth 100000 in
set_option maxHeartbeats 4000000 in
theorem b_X11_parts_171 {p : Program} {l : Launch} {e : Env} {s : State} {m : MethodId} {args : Array Value} {below : List Frame} {meth : Method} {c : Code} {dC : Nat → ClassId} {dI : Nat → Nat → Nat} {a : Nat → Nat} {k : Nat → ClassId} {A : Nat → Prop} {q : Int32 × ST} {T : Nat} (hC : CxB p s m args meth c dC dI k A cX11_parts RX11 (some .boolean) 8) {nn : Nat} {r_X11_items : Int32 → Int32 → Int32 → Int32 → ST → Option ((Int32 × ST) × Nat)} (hr_X11_items : ∀ {sz : Nat} {p0 : Int32} {p1 : Int32} {p2 : Int32} {p3 : Int32} {σ : ST} {q : Int32 × ST} {r : Nat}, r_X11_items  p0 p1 p2 p3 σ = some (q, r) → Met l yX11_items (.code yX11_items cX11_items 7 (some .boolean) :: pw) ({ frames := 6 + nn, cells := r, slots := 6 * r, locals := 129 + 29 * nn } : Room) (va_Pc [.ref (a 0), .int p0, .int p1, .int p2, .int p3] (vPre dC dI (wB a k σ) (tB k) sz)) (qBi dC dI a k (va_A (wB a k σ) sz) q) r (6 * r) (va_A (wB a k σ) sz)) {r_X11_parts : Int32 → Int32 → Int32 → Int32 → ST → Option ((Int32 × ST) × Nat)} (hr_X11_parts : ∀ {sz : Nat} {p0 : Int32} {p1 : Int32} {p2 : Int32} {p3 : Int32} {σ : ST} {q : Int32 × ST} {r : Nat}, r_X11_parts  p0 p1 p2 p3 σ = some (q, r) → Met l yX11_parts (.code yX11_parts cX11_parts 8 (some .boolean) :: pw) ({ frames := 6 + nn, cells := r, slots := 6 * r, locals := 129 + 29 * nn } : Room) (va_Pc [.ref (a 0), .int p0, .int p1, .int p2, .int p3] (vPre dC dI (wB a k σ) (tB k) sz)) (qBi dC dI a k (va_A (wB a k σ) sz) q) r (6 * r) (va_A (wB a k σ) sz)) {r_X11_value : Int32 → Int32 → Int32 → Int32 → Int32 → ST → Option ((Int32 × ST) × Nat)} (hr_X11_value : ∀ {sz : Nat} {p0 : Int32} {p1 : Int32} {p2 : Int32} {p3 : Int32} {p4 : Int32} {σ : ST} {q : Int32 × ST} {r : Nat}, r_X11_value  p0 p1 p2 p3 p4 σ = some (q, r) → Met l yX11_value (.code yX11_value cX11_value 10 (some .boolean) :: pw) ({ frames := 6 + nn, cells := r, slots := 6 * r, locals := 129 + 29 * nn } : Room) (va_Pc [.ref (a 0), .int p0, .int p1, .int p2, .int p3, .int p4] (vPre dC dI (wB a k σ) (tB k) sz)) (qBi dC dI a k (va_A (wB a k σ) sz) q) r (6 * r) (va_A (wB a k σ) sz))  : ∀ (n : Nat) (x4 : Int32) (x5 : Int32) (x7 : Int32) (σ : ST) (κ r : Nat), f_X11_parts_171 r_X11_items r_X11_parts r_X11_value n x4 x5 x7 σ = some (q, r) → κ + r = T → GkB p l e ({ frames := 6 + (nn + 1), cells := T, slots := 6 * T, locals := 129 + 29 * (nn + 1) } : Room) s m args below meth c (MQ below (qBi dC dI a k A q) args s T (6 * T) A) dC dI a k A 8 171 κ σ [(0, .ref (a 0)), (4, .int x4), (5, .int x5), (7, .int x7)] [] := by
  intro n
  induction n with
  | zero =>
    intro x4 x5 x7 σ κ r h
    rw [f_X11_parts_171] at h
    cases h
  | succ n ih =>
    intro x4 x5 x7 σ κ r h hκ
    have hC0 := hC
    obtain ⟨hx, hb, hr, hml, hown, hts, hlocks, hA, hN, hK⟩ := hC0
    intro H locs ls hP hD hS hl
    have hD0 : ∀ σ1 : ST, va_D A (wB a k σ1) := fun σ1 => wB_D hD
    rw [f_X11_parts_171] at h
    refine lv_iload hx hb dX11_parts_171 (lv_at hl 3 rfl) ?_
    refine lv_aload_n hx hb dX11_parts_173 rfl (lv_at hl 0 rfl) ?_
    refine va_get (D := (dC, dI)) (ci := 11) (C := RX11) (T := TX11) (N := 95) hx hb hts inlX11 hown hK hP 0 gB_0 rfl 23 (by decide) (hts (.fieldLink RX11 42 "ShapeReaderModel" "fieldMany" "[I") mw_27_7) (fun _ h9 => h9) rfl dX11_parts_174 ?_
    refine lv_iload hx hb dX11_parts_177 (lv_at hl 2 rfl) ?_
    obtain ⟨hg1, h⟩ := ig h
    refine va_iald hx hb hK hP 11 10 gB_11 yB_11 (vp_in_iff.mpr hg1) dX11_parts_179 ?_
    refine lv_icmp_ge (tgt := 239) hx hb dX11_parts_180 (by decide) (fun hc => ?_) (fun hc => ?_)
    · replace h := ip hc h
      refine lv_aload_n hx hb dX11_parts_239 rfl (lv_at hl 0 rfl) ?_
      obtain ⟨q2, hc, h⟩ := ib h
      have hF := va_frees hD hS hA
      refine va_callv (va_runV (As := []) (rest := []) ⟨hx, hb, hml, hown, hts⟩ (s_X11_go hc) (cwV 0 hts (gV mw_30_12 mw_30_13 mw_30_14 mw_0_15 mw_54_6) rfl rfl rfl (by decide +kernel) ⟨by show 4 + 1 ≤ 6 + (nn + 1); omega, by show 8 + (2 + 11) + 87 ≤ 129 + 29 * (nn + 1); omega⟩) (vV (ci := 11) (q0 := 0) hK hP hD hN rfl gB_0) rfl rfl hl.1 rfl (lv_room (Nat.le_of_ble_eq_true rfl)) dX11_parts_240 ⟨by show κ + 0 ≤ T; omega, by show 6 * κ + 0 ≤ 6 * T; omega⟩) hS (fun q _ h => hF q h) hF (fun u t H locs ht hvm hw hB _ _ hS => ?_)
      replace hP : va_P (dC, dI) vwCl (wB a k q2) H := by rw [← ht]; exact hB.1
      replace hD := hD0 (q2)
      clear hB hF
      refine lv_iconst (v := 1) hx hb dX11_parts_243 (by decide) ?_
      obtain ⟨rfl, rfl⟩ := Prod.mk.inj (Option.some.inj h)
      subst hκ
      exact W.zret hx hb hr rfl (fun t ht hW => ⟨⟨_, (), rfl, rfl, ⟨by rw [ht]; exact hP, va_K.moved hW.alike hK, hD⟩⟩, hS.F ht⟩) hS.2.2 dX11_parts_244
    · replace h := iq hc h
      refine lv_aload_n hx hb dX11_parts_183 rfl (lv_at hl 0 rfl) ?_
      refine lv_iload hx hb dX11_parts_184 (lv_at hl 1 rfl) ?_
      refine lv_iload hx hb dX11_parts_186 (lv_at hl 3 rfl) ?_
      obtain ⟨q4, hc, h⟩ := ib h
      have hF := va_frees hD hS hA
      refine va_calli (va_runV (As := [.int x4, .int x7]) (rest := []) ⟨hx, hb, hml, hown, hts⟩ (s_X11_hasChild hc) (cwV 2 hts (gV mw_34_20 mw_34_21 mw_34_22 mw_0_15 mw_55_20) rfl rfl rfl (by decide +kernel) ⟨by show 0 + 1 ≤ 6 + (nn + 1); omega, by show 8 + (5 + 11) + 0 ≤ 129 + 29 * (nn + 1); omega⟩) (vV (ci := 11) (q0 := 0) hK hP hD hN rfl gB_0) rfl rfl hl.1 rfl (lv_room (Nat.le_of_ble_eq_true rfl)) dX11_parts_188 ⟨by show κ + 0 ≤ T; omega, by show 6 * κ + 0 ≤ 6 * T; omega⟩) hS (fun q _ h => hF q h) hF (fun r5 u t H locs ht hvm hw hB _ _ hS => ?_)
      obtain rfl : r5 = q4.1 := hw
      replace hP : va_P (dC, dI) vwCl (wB a k q4.2) H := by rw [← ht]; exact hB.1
      replace hD := hD0 (q4.2)
      clear hB hF
      refine lv_if_ne (tgt := 233) hx hb dX11_parts_191 (by decide) (fun hc => ?_) (fun hc => ?_)
      · replace h := iq hc h
        exact b_X11_parts_233 hC hr_X11_items hr_X11_parts hr_X11_value ih h hκ _ _ _ hP hD hS (lv_sub hl [0, 1, 2, 3] rfl)
      · replace h := ip hc h
        refine lv_aload_n hx hb dX11_parts_194 rfl (lv_at hl 0 rfl) ?_
        refine va_get (D := (dC, dI)) (ci := 11) (C := RX11) (T := TX11) (N := 95) hx hb hts inlX11 hown hK hP 0 gB_0 rfl 28 (by decide) (hts (.fieldLink RX11 57 "ShapeReaderModel" "hasElse" "[Z") mw_27_12) (fun _ h9 => h9) rfl dX11_parts_195 ?_
        refine lv_bipush (v := 8) hx hb dX11_parts_198 (by decide) ?_
        refine lv_iload hx hb dX11_parts_200 (lv_at hl 2 rfl) ?_
        refine lv_imul hx hb dX11_parts_202 ?_
        refine lv_iload hx hb dX11_parts_203 (lv_at hl 3 rfl) ?_
        refine lv_iadd hx hb dX11_parts_205 ?_
        obtain ⟨hg6, h⟩ := ig h
        refine va_zald hx hb hK hP 16 15 gB_16 yB_16 (vp_in_iff.mpr hg6) dX11_parts_206 ?_
        refine lv_if_ne (tgt := 217) hx hb dX11_parts_207 (by decide) (fun hc => ?_) (fun hc => ?_)
        · replace h := iq hc h
          refine lv_aload_n hx hb dX11_parts_217 rfl (lv_at hl 0 rfl) ?_
          refine lv_bipush (v := 8) hx hb dX11_parts_218 (by decide) ?_
          refine lv_iload hx hb dX11_parts_220 (lv_at hl 2 rfl) ?_
          refine lv_imul hx hb dX11_parts_222 ?_
          refine lv_iload hx hb dX11_parts_223 (lv_at hl 3 rfl) ?_
          refine lv_iadd hx hb dX11_parts_225 ?_
          refine lv_iload hx hb dX11_parts_226 (lv_at hl 1 rfl) ?_
          refine lv_iload hx hb dX11_parts_228 (lv_at hl 3 rfl) ?_
          obtain ⟨q7, hc, h⟩ := ib h
          have hF := va_frees hD hS hA
          refine va_callv (va_runV (As := [.int ((8 * x5) + x7), .int x4, .int x7]) (rest := []) ⟨hx, hb, hml, hown, hts⟩ (s_X11_fills hc) (cwV 3 hts (gV mw_34_23 mw_34_24 mw_34_25 mw_0_15 mw_55_15) rfl rfl rfl (by decide +kernel) ⟨by show 2 + 1 ≤ 6 + (nn + 1); omega, by show 8 + (7 + 11) + 49 ≤ 129 + 29 * (nn + 1); omega⟩) (vV (ci := 11) (q0 := 0) hK hP hD hN rfl gB_0) rfl rfl hl.1 rfl (lv_room (Nat.le_of_ble_eq_true rfl)) dX11_parts_230 ⟨by show κ + 0 ≤ T; omega, by show 6 * κ + 0 ≤ 6 * T; omega⟩) hS (fun q _ h => hF q h) hF (fun u t H locs ht hvm hw hB _ _ hS => ?_)
          replace hP : va_P (dC, dI) vwCl (wB a k q7) H := by rw [← ht]; exact hB.1
          replace hD := hD0 (q7)
          clear hB hF
          exact b_X11_parts_233 hC hr_X11_items hr_X11_parts hr_X11_value ih h hκ _ _ _ hP hD hS (lv_sub hl [0, 1, 2, 3] rfl)
        · replace h := ip hc h
          refine lv_aload_n hx hb dX11_parts_210 rfl (lv_at hl 0 rfl) ?_
          refine lv_bipush (v := 6) hx hb dX11_parts_211 (by decide) ?_
          obtain ⟨q9, hc, h⟩ := ib h
          have hF := va_frees hD hS hA
          refine va_calli (va_runV (As := [.int 6]) (rest := []) ⟨hx, hb, hml, hown, hts⟩ (s_X11_wrongHere hc) (cwV 1 hts (gV mw_30_9 mw_30_10 mw_30_11 mw_0_15 mw_54_10) rfl rfl rfl (by decide +kernel) ⟨by show 1 + 1 ≤ 6 + (nn + 1); omega, by show 8 + (2 + 11) + 22 ≤ 129 + 29 * (nn + 1); omega⟩) (vV (ci := 11) (q0 := 0) hK hP hD hN rfl gB_0) rfl rfl hl.1 rfl (lv_room (Nat.le_of_ble_eq_true rfl)) dX11_parts_213 ⟨by show κ + 0 ≤ T; omega, by show 6 * κ + 0 ≤ 6 * T; omega⟩) hS (fun q _ h => hF q h) hF (fun r10 u t H locs ht hvm hw hB _ _ hS => ?_)
          obtain rfl : r10 = q9.1 := hw
          replace hP : va_P (dC, dI) vwCl (wB a k q9.2) H := by rw [← ht]; exact hB.1
          replace hD := hD0 (q9.2)
          clear hB hF
          obtain ⟨hg, h⟩ := ig h
          obtain ⟨rfl, rfl⟩ := Prod.mk.inj (Option.some.inj h)
          subst hκ
          exact W.zret hx hb hr (zn hg) (fun t ht hW => ⟨⟨_, (), rfl, rfl, ⟨by rw [ht]; exact hP, va_K.moved hW.alike hK, hD⟩⟩, hS.F ht⟩) hS.2.2 dX11_parts_216

set_option maxRecDepth 100000 in
set_option maxHeartbeats 4000000 in
theorem b_X11_parts_33 {p : Program} {l : Launch} {e : Env} {s : State} {m : MethodId} {args : Array Value} {below : List Frame} {meth : Method} {c : Code} {dC : Nat → ClassId} {dI : Nat → Nat → Nat} {a : Nat → Nat} {k : Nat → ClassId} {A : Nat → Prop} {q : Int32 × ST} {T : Nat} (hC : CxB p s m args meth c dC dI k A cX11_parts RX11 (some .boolean) 8) {nn : Nat} {r_X11_items : Int32 → Int32 → Int32 → Int32 → ST → Option ((Int32 × ST) × Nat)} (hr_X11_items : ∀ {sz : Nat} {p0 : Int32} {p1 : Int32} {p2 : Int32} {p3 : Int32} {σ : ST} {q : Int32 × ST} {r : Nat}, r_X11_items  p0 p1 p2 p3 σ = some (q, r) → Met l yX11_items (.code yX11_items cX11_items 7 (some .boolean) :: pw) ({ frames := 6 + nn, cells := r, slots := 6 * r, locals := 129 + 29 * nn } : Room) (va_Pc [.ref (a 0), .int p0, .int p1, .int p2, .int p3] (vPre dC dI (wB a k σ) (tB k) sz)) (qBi dC dI a k (va_A (wB a k σ) sz) q) r (6 * r) (va_A (wB a k σ) sz)) {r_X11_parts : Int32 → Int32 → Int32 → Int32 → ST → Option ((Int32 × ST) × Nat)} (hr_X11_parts : ∀ {sz : Nat} {p0 : Int32} {p1 : Int32} {p2 : Int32} {p3 : Int32} {σ : ST} {q : Int32 × ST} {r : Nat}, r_X11_parts  p0 p1 p2 p3 σ = some (q, r) → Met l yX11_parts (.code yX11_parts cX11_parts 8 (some .boolean) :: pw) ({ frames := 6 + nn, cells := r, slots := 6 * r, locals := 129 + 29 * nn } : Room) (va_Pc [.ref (a 0), .int p0, .int p1, .int p2, .int p3] (vPre dC dI (wB a k σ) (tB k) sz)) (qBi dC dI a k (va_A (wB a k σ) sz) q) r (6 * r) (va_A (wB a k σ) sz)) {r_X11_value : Int32 → Int32 → Int32 → Int32 → Int32 → ST → Option ((Int32 × ST) × Nat)} (hr_X11_value : ∀ {sz : Nat} {p0 : Int32} {p1 : Int32} {p2 : Int32} {p3 : Int32} {p4 : Int32} {σ : ST} {q : Int32 × ST} {r : Nat}, r_X11_value  p0 p1 p2 p3 p4 σ = some (q, r) → Met l yX11_value (.code yX11_value cX11_value 10 (some .boolean) :: pw) ({ frames := 6 + nn, cells := r, slots := 6 * r, locals := 129 + 29 * nn } : Room) (va_Pc [.ref (a 0), .int p0, .int p1, .int p2, .int p3, .int p4] (vPre dC dI (wB a k σ) (tB k) sz)) (qBi dC dI a k (va_A (wB a k σ) sz) q) r (6 * r) (va_A (wB a k σ) sz))  : ∀ (n : Nat) (x1 : Int32) (x3 : Int32) (x4 : Int32) (x5 : Int32) (x6 : Int32) (σ : ST) (κ r : Nat), f_X11_parts_33 r_X11_items r_X11_parts r_X11_value n x1 x3 x4 x5 x6 σ = some (q, r) → κ + r = T → GkB p l e ({ frames := 6 + (nn + 1), cells := T, slots := 6 * T, locals := 129 + 29 * (nn + 1) } : Room) s m args below meth c (MQ below (qBi dC dI a k A q) args s T (6 * T) A) dC dI a k A 8 33 κ σ [(0, .ref (a 0)), (1, .int x1), (3, .int x3), (4, .int x4), (5, .int x5), (6, .int x6)] [] := by
  intro n
  induction n with
  | zero =>
    intro x1 x3 x4 x5 x6 σ κ r h
    rw [f_X11_parts_33] at h
    cases h
  | succ n ih =>
    intro x1 x3 x4 x5 x6 σ κ r h hκ
    have hC0 := hC
    obtain ⟨hx, hb, hr, hml, hown, hts, hlocks, hA, hN, hK⟩ := hC0
    intro H locs ls hP hD hS hl
    have hD0 : ∀ σ1 : ST, va_D A (wB a k σ1) := fun σ1 => wB_D hD
    rw [f_X11_parts_33] at h
    refine lv_iload hx hb dX11_parts_33 (lv_at hl 5 rfl) ?_
    refine lv_if_eq (tgt := 153) hx hb dX11_parts_35 (by decide) (fun hc => ?_) (fun hc => ?_)
    · replace h := ip hc h
      refine lv_aload_n hx hb dX11_parts_153 rfl (lv_at hl 0 rfl) ?_
      refine va_get (D := (dC, dI)) (ci := 11) (C := RX11) (T := TX11) (N := 95) hx hb hts inlX11 hown hK hP 0 gB_0 rfl 13 (by decide) (hts (.fieldLink RX11 253 "ShapeReaderModel" "sign" "I") mw_29_26) (fun _ h9 => h9) rfl dX11_parts_154 ?_
      refine lv_bipush (v := 125) hx hb dX11_parts_157 (by decide) ?_
      refine lv_icmp_eq (tgt := 168) hx hb dX11_parts_159 (by decide) (fun hc => ?_) (fun hc => ?_)
      · replace h := ip hc h
        refine lv_iconst (v := 0) hx hb dX11_parts_168 (by decide) ?_
        refine lv_istore (lv' := [(7, .int 0), (0, .ref (a 0)), (1, .int x1), (3, .int x3), (4, .int x4), (5, .int x5), (6, .int x6)]) hx hb dX11_parts_169 hl (by decide) rfl (fun ls hl => ?_)
        exact b_X11_parts_171 hC hr_X11_items hr_X11_parts hr_X11_value FU _ _ _ _ _ _ h hκ _ _ _ hP hD hS (lv_sub hl [1, 4, 5, 0] rfl)
      · replace h := iq hc h
        refine lv_aload_n hx hb dX11_parts_162 rfl (lv_at hl 0 rfl) ?_
        refine lv_iconst (v := 1) hx hb dX11_parts_163 (by decide) ?_
        obtain ⟨q1, hc, h⟩ := ib h
        have hF := va_frees hD hS hA
        refine va_calli (va_runV (As := [.int 1]) (rest := []) ⟨hx, hb, hml, hown, hts⟩ (s_X11_wrongHere hc) (cwV 1 hts (gV mw_30_9 mw_30_10 mw_30_11 mw_0_15 mw_54_10) rfl rfl rfl (by decide +kernel) ⟨by show 1 + 1 ≤ 6 + (nn + 1); omega, by show 8 + (2 + 11) + 22 ≤ 129 + 29 * (nn + 1); omega⟩) (vV (ci := 11) (q0 := 0) hK hP hD hN rfl gB_0) rfl rfl hl.1 rfl (lv_room (Nat.le_of_ble_eq_true rfl)) dX11_parts_164 ⟨by show κ + 0 ≤ T; omega, by show 6 * κ + 0 ≤ 6 * T; omega⟩) hS (fun q _ h => hF q h) hF (fun r2 u t H locs ht hvm hw hB _ _ hS => ?_)
        obtain rfl : r2 = q1.1 := hw
        replace hP : va_P (dC, dI) vwCl (wB a k q1.2) H := by rw [← ht]; exact hB.1
        replace hD := hD0 (q1.2)
        clear hB hF
        obtain ⟨hg, h⟩ := ig h
        obtain ⟨rfl, rfl⟩ := Prod.mk.inj (Option.some.inj h)
        subst hκ
        exact W.zret hx hb hr (zn hg) (fun t ht hW => ⟨⟨_, (), rfl, rfl, ⟨by rw [ht]; exact hP, va_K.moved hW.alike hK, hD⟩⟩, hS.F ht⟩) hS.2.2 dX11_parts_167
    · replace h := iq hc h
      refine lv_aload_n hx hb dX11_parts_38 rfl (lv_at hl 0 rfl) ?_
      obtain ⟨q3, hc, h⟩ := ib h
      obtain ⟨r2, h, hz⟩ := acE h
      have hF := va_frees hD hS hA
      refine va_calli (va_runV (As := []) (rest := []) ⟨hx, hb, hml, hown, hts⟩ (s_X11_isName (q := q3.1) (r := q3.2) hc) (cwV 0 hts (gV mw_31_14 mw_31_15 mw_31_16 mw_0_15 mw_54_20) rfl rfl rfl (by decide +kernel) ⟨by show 2 + 1 ≤ 6 + (nn + 1); omega, by show 8 + (2 + 11) + 49 ≤ 129 + 29 * (nn + 1); omega⟩) (vV (ci := 11) (q0 := 0) hK hP hD hN rfl gB_0) rfl rfl hl.1 rfl (lv_room (Nat.le_of_ble_eq_true rfl)) dX11_parts_39 ⟨by show κ + q3.2 ≤ T; omega, by show 6 * κ + 6 * q3.2 ≤ 6 * T; omega⟩) hS (fun q _ h => hF q h) hF (fun r4 u t H locs ht hvm hw hB _ _ hS => ?_)
      obtain rfl : r4 = q3.1.1 := hw
      replace hκ : (κ + q3.2) + r2 = T := by omega
      clear hz
      refine W.widen (k := (κ + q3.2)) (n := 6 * (κ + q3.2)) (Nat.le_refl _) (by omega) ?_
      replace hP : va_P (dC, dI) vwCl (wB a k q3.1.2) H := by rw [← ht]; exact hB.1
      replace hD := hD0 (q3.1.2)
      clear hB hF
      refine lv_if_ne (tgt := 51) hx hb dX11_parts_42 (by decide) (fun hc => ?_) (fun hc => ?_)
      · replace h := iq hc h
        refine lv_aload_n hx hb dX11_parts_51 rfl (lv_at hl 0 rfl) ?_
        refine lv_iload hx hb dX11_parts_52 (lv_at hl 4 rfl) ?_
        refine lv_aload_n hx hb dX11_parts_54 rfl (lv_at hl 0 rfl) ?_
        refine va_get (D := (dC, dI)) (ci := 11) (C := RX11) (T := TX11) (N := 95) hx hb hts inlX11 hown hK hP 0 gB_0 rfl 7 (by decide) (hts (.fieldLink RX11 204 "ShapeReaderModel" "letters" "J") mw_29_4) (fun _ h9 => h9) rfl dX11_parts_55 ?_
        obtain ⟨q5, hc, h⟩ := ib h
        have hF := va_frees hD hS hA
        refine va_calli (va_runV (As := [.int x5, .long (q3.1.2.2.1 0 7)]) (rest := []) ⟨hx, hb, hml, hown, hts⟩ (s_X11_fieldOf hc) (cwV 2 hts (gV mw_32_16 mw_32_17 mw_32_18 mw_0_15 mw_54_29) rfl rfl rfl (by decide +kernel) ⟨by show 0 + 1 ≤ 6 + (nn + 1); omega, by show 8 + (5 + 11) + 0 ≤ 129 + 29 * (nn + 1); omega⟩) (vV (ci := 11) (q0 := 0) hK hP hD hN rfl gB_0) rfl rfl hl.1 rfl (lv_room (Nat.le_of_ble_eq_true rfl)) dX11_parts_58 ⟨by show (κ + q3.2) + 0 ≤ T; omega, by show 6 * (κ + q3.2) + 0 ≤ 6 * T; omega⟩) hS (fun q _ h => hF q h) hF (fun r6 u t H locs ht hvm hw hB _ _ hS => ?_)
        obtain rfl : r6 = q5.1 := hw
        replace hP : va_P (dC, dI) vwCl (wB a k q5.2) H := by rw [← ht]; exact hB.1
        replace hD := hD0 (q5.2)
        clear hB hF
        refine lv_istore (lv' := [(7, .int q5.1), (0, .ref (a 0)), (1, .int x1), (3, .int x3), (4, .int x4), (5, .int x5), (6, .int x6)]) hx hb dX11_parts_61 hl (by decide) rfl (fun ls hl => ?_)
        refine lv_iload hx hb dX11_parts_63 (lv_at hl 0 rfl) ?_
        refine lv_if_lt (tgt := 85) hx hb dX11_parts_65 (by decide) (fun hc => ?_) (fun hc => ?_)
        · replace h := ip hc h
          exact b_X11_parts_85 hC hr_X11_items hr_X11_parts hr_X11_value h hκ _ _ _ hP hD hS (lv_sub hl [1] rfl)
        · replace h := iq hc h
          refine lv_aload_n hx hb dX11_parts_68 rfl (lv_at hl 1 rfl) ?_
          refine lv_iload hx hb dX11_parts_69 (lv_at hl 4 rfl) ?_
          refine lv_iload hx hb dX11_parts_71 (lv_at hl 0 rfl) ?_
          refine lv_bipush (v := 8) hx hb dX11_parts_73 (by decide) ?_
          refine lv_iload hx hb dX11_parts_75 (lv_at hl 5 rfl) ?_
          refine lv_imul hx hb dX11_parts_77 ?_
          refine lv_isub hx hb dX11_parts_78 ?_
          obtain ⟨q7, hc, h⟩ := ib h
          have hF := va_frees hD hS hA
          refine va_calli (va_runV (As := [.int x4, .int (q5.1 - (8 * x5))]) (rest := []) ⟨hx, hb, hml, hown, hts⟩ (s_X11_hasChild hc) (cwV 2 hts (gV mw_34_20 mw_34_21 mw_34_22 mw_0_15 mw_55_20) rfl rfl rfl (by decide +kernel) ⟨by show 0 + 1 ≤ 6 + (nn + 1); omega, by show 8 + (5 + 11) + 0 ≤ 129 + 29 * (nn + 1); omega⟩) (vV (ci := 11) (q0 := 0) hK hP hD hN rfl gB_0) rfl rfl hl.1 rfl (lv_room (Nat.le_of_ble_eq_true rfl)) dX11_parts_79 ⟨by show (κ + q3.2) + 0 ≤ T; omega, by show 6 * (κ + q3.2) + 0 ≤ 6 * T; omega⟩) hS (fun q _ h => hF q h) hF (fun r8 u t H locs ht hvm hw hB _ _ hS => ?_)
          obtain rfl : r8 = q7.1 := hw
          replace hP : va_P (dC, dI) vwCl (wB a k q7.2) H := by rw [← ht]; exact hB.1
          replace hD := hD0 (q7.2)
          clear hB hF
          refine lv_if_eq (tgt := 91) hx hb dX11_parts_82 (by decide) (fun hc => ?_) (fun hc => ?_)
          · replace h := ip hc h
            refine lv_aload_n hx hb dX11_parts_91 rfl (lv_at hl 1 rfl) ?_
            obtain ⟨q9, hc, h⟩ := ib h
            have hF := va_frees hD hS hA
            refine va_callv (va_runV (As := []) (rest := []) ⟨hx, hb, hml, hown, hts⟩ (s_X11_go hc) (cwV 0 hts (gV mw_30_12 mw_30_13 mw_30_14 mw_0_15 mw_54_6) rfl rfl rfl (by decide +kernel) ⟨by show 4 + 1 ≤ 6 + (nn + 1); omega, by show 8 + (2 + 11) + 87 ≤ 129 + 29 * (nn + 1); omega⟩) (vV (ci := 11) (q0 := 0) hK hP hD hN rfl gB_0) rfl rfl hl.1 rfl (lv_room (Nat.le_of_ble_eq_true rfl)) dX11_parts_92 ⟨by show (κ + q3.2) + 0 ≤ T; omega, by show 6 * (κ + q3.2) + 0 ≤ 6 * T; omega⟩) hS (fun q _ h => hF q h) hF (fun u t H locs ht hvm hw hB _ _ hS => ?_)
            replace hP : va_P (dC, dI) vwCl (wB a k q9) H := by rw [← ht]; exact hB.1
            replace hD := hD0 (q9)
            clear hB hF
            refine lv_aload_n hx hb dX11_parts_95 rfl (lv_at hl 1 rfl) ?_
            refine lv_iload_n hx hb dX11_parts_96 rfl (lv_at hl 2 rfl) ?_
            refine lv_aload_n hx hb dX11_parts_97 rfl (lv_at hl 1 rfl) ?_
            refine va_get (D := (dC, dI)) (ci := 11) (C := RX11) (T := TX11) (N := 95) hx hb hts inlX11 hown hK hP 0 gB_0 rfl 27 (by decide) (hts (.fieldLink RX11 54 "ShapeReaderModel" "fieldType" "[I") mw_27_11) (fun _ h9 => h9) rfl dX11_parts_98 ?_
            refine lv_iload hx hb dX11_parts_101 (lv_at hl 0 rfl) ?_
            obtain ⟨hg11, h⟩ := ig h
            refine va_iald hx hb hK hP 15 14 gB_15 yB_15 (vp_in_iff.mpr hg11) dX11_parts_103 ?_
            refine lv_iload_n hx hb dX11_parts_104 rfl (lv_at hl 3 rfl) ?_
            refine lv_iconst (v := 1) hx hb dX11_parts_105 (by decide) ?_
            refine lv_iadd hx hb dX11_parts_106 ?_
            refine lv_iload hx hb dX11_parts_107 (lv_at hl 4 rfl) ?_
            refine lv_iload hx hb dX11_parts_109 (lv_at hl 0 rfl) ?_
            refine lv_bipush (v := 8) hx hb dX11_parts_111 (by decide) ?_
            refine lv_iload hx hb dX11_parts_113 (lv_at hl 5 rfl) ?_
            refine lv_imul hx hb dX11_parts_115 ?_
            refine lv_isub hx hb dX11_parts_116 ?_
            obtain ⟨q12, hc, h⟩ := ib h
            obtain ⟨r2, h, hz⟩ := acE h
            have hF := va_frees hD hS hA
            refine va_calli (va_runV (As := [.int x1, .int (q9.1 15 q5.1.toNatClampNeg), .int (x3 + 1), .int x4, .int (q5.1 - (8 * x5))]) (rest := []) ⟨hx, hb, hml, hown, hts⟩ (hr_X11_value (q := q12.1) (r := q12.2) hc) (cwV 5 hts (gV mw_34_17 mw_34_18 mw_34_19 mw_0_15 mw_55_18) rfl rfl rfl (by decide +kernel) ⟨by show (6 + nn) + 1 ≤ 6 + (nn + 1); omega, by show 8 + (10 + 11) + (129 + 29 * nn) ≤ 129 + 29 * (nn + 1); omega⟩) (vV (ci := 11) (q0 := 0) hK hP hD hN rfl gB_0) rfl rfl hl.1 rfl (lv_room (Nat.le_of_ble_eq_true rfl)) dX11_parts_117 ⟨by show (κ + q3.2) + q12.2 ≤ T; omega, by show 6 * (κ + q3.2) + 6 * q12.2 ≤ 6 * T; omega⟩) hS (fun q _ h => hF q h) hF (fun r13 u t H locs ht hvm hw hB _ _ hS => ?_)
            obtain rfl : r13 = q12.1.1 := hw
            replace hκ : ((κ + q3.2) + q12.2) + r2 = T := by omega
            clear hz
            refine W.widen (k := ((κ + q3.2) + q12.2)) (n := 6 * ((κ + q3.2) + q12.2)) (Nat.le_refl _) (by omega) ?_
            replace hP : va_P (dC, dI) vwCl (wB a k q12.1.2) H := by rw [← ht]; exact hB.1
            replace hD := hD0 (q12.1.2)
            clear hB hF
            refine lv_if_ne (tgt := 125) hx hb dX11_parts_120 (by decide) (fun hc => ?_) (fun hc => ?_)
            · replace h := iq hc h
              refine lv_aload_n hx hb dX11_parts_125 rfl (lv_at hl 1 rfl) ?_
              refine va_get (D := (dC, dI)) (ci := 11) (C := RX11) (T := TX11) (N := 95) hx hb hts inlX11 hown hK hP 0 gB_0 rfl 13 (by decide) (hts (.fieldLink RX11 253 "ShapeReaderModel" "sign" "I") mw_29_26) (fun _ h9 => h9) rfl dX11_parts_126 ?_
              refine lv_bipush (v := 44) hx hb dX11_parts_129 (by decide) ?_
              refine lv_icmp_ne (tgt := 138) hx hb dX11_parts_131 (by decide) (fun hc => ?_) (fun hc => ?_)
              · replace h := iq hc h
                refine lv_iconst (v := 0) hx hb dX11_parts_138 (by decide) ?_
                exact b_X11_parts_139 hC hr_X11_items hr_X11_parts hr_X11_value ih h hκ _ _ _ hP hD hS (lv_sub hl [1, 2, 3, 4, 5] rfl)
              · replace h := ip hc h
                refine lv_iconst (v := 1) hx hb dX11_parts_134 (by decide) ?_
                refine lv_goto (tgt := 139) hx hb dX11_parts_135 (by decide) ?_
                exact b_X11_parts_139 hC hr_X11_items hr_X11_parts hr_X11_value ih h hκ _ _ _ hP hD hS (lv_sub hl [1, 2, 3, 4, 5] rfl)
            · replace h := ip hc h
              refine lv_iconst (v := 0) hx hb dX11_parts_123 (by decide) ?_
              obtain ⟨rfl, rfl⟩ := Prod.mk.inj (Option.some.inj h)
              subst hκ
              exact W.zret hx hb hr rfl (fun t ht hW => ⟨⟨_, (), rfl, rfl, ⟨by rw [ht]; exact hP, va_K.moved hW.alike hK, hD⟩⟩, hS.F ht⟩) hS.2.2 dX11_parts_124
          · replace h := iq hc h
            exact b_X11_parts_85 hC hr_X11_items hr_X11_parts hr_X11_value h hκ _ _ _ hP hD hS (lv_sub hl [1] rfl)
      · replace h := ip hc h
        refine lv_aload_n hx hb dX11_parts_45 rfl (lv_at hl 0 rfl) ?_
        refine lv_iconst (v := 1) hx hb dX11_parts_46 (by decide) ?_
        obtain ⟨q14, hc, h⟩ := ib h
        have hF := va_frees hD hS hA
        refine va_calli (va_runV (As := [.int 1]) (rest := []) ⟨hx, hb, hml, hown, hts⟩ (s_X11_wrongHere hc) (cwV 1 hts (gV mw_30_9 mw_30_10 mw_30_11 mw_0_15 mw_54_10) rfl rfl rfl (by decide +kernel) ⟨by show 1 + 1 ≤ 6 + (nn + 1); omega, by show 8 + (2 + 11) + 22 ≤ 129 + 29 * (nn + 1); omega⟩) (vV (ci := 11) (q0 := 0) hK hP hD hN rfl gB_0) rfl rfl hl.1 rfl (lv_room (Nat.le_of_ble_eq_true rfl)) dX11_parts_47 ⟨by show (κ + q3.2) + 0 ≤ T; omega, by show 6 * (κ + q3.2) + 0 ≤ 6 * T; omega⟩) hS (fun q _ h => hF q h) hF (fun r15 u t H locs ht hvm hw hB _ _ hS => ?_)
        obtain rfl : r15 = q14.1 := hw
        replace hP : va_P (dC, dI) vwCl (wB a k q14.2) H := by rw [← ht]; exact hB.1
        replace hD := hD0 (q14.2)
        clear hB hF
        obtain ⟨hg, h⟩ := ig h
        obtain ⟨rfl, rfl⟩ := Prod.mk.inj (Option.some.inj h)
        subst hκ
        exact W.zret hx hb hr (zn hg) (fun t ht hW => ⟨⟨_, (), rfl, rfl, ⟨by rw [ht]; exact hP, va_K.moved hW.alike hK, hD⟩⟩, hS.F ht⟩) hS.2.2 dX11_parts_50

set_option maxRecDepth 100000 in
set_option maxHeartbeats 4000000 in
theorem b_X11_parts_31 {p : Program} {l : Launch} {e : Env} {s : State} {m : MethodId} {args : Array Value} {below : List Frame} {meth : Method} {c : Code} {dC : Nat → ClassId} {dI : Nat → Nat → Nat} {a : Nat → Nat} {k : Nat → ClassId} {A : Nat → Prop} {q : Int32 × ST} {T r κ : Nat} (hC : CxB p s m args meth c dC dI k A cX11_parts RX11 (some .boolean) 8) {nn : Nat} {r_X11_items : Int32 → Int32 → Int32 → Int32 → ST → Option ((Int32 × ST) × Nat)} (hr_X11_items : ∀ {sz : Nat} {p0 : Int32} {p1 : Int32} {p2 : Int32} {p3 : Int32} {σ : ST} {q : Int32 × ST} {r : Nat}, r_X11_items  p0 p1 p2 p3 σ = some (q, r) → Met l yX11_items (.code yX11_items cX11_items 7 (some .boolean) :: pw) ({ frames := 6 + nn, cells := r, slots := 6 * r, locals := 129 + 29 * nn } : Room) (va_Pc [.ref (a 0), .int p0, .int p1, .int p2, .int p3] (vPre dC dI (wB a k σ) (tB k) sz)) (qBi dC dI a k (va_A (wB a k σ) sz) q) r (6 * r) (va_A (wB a k σ) sz)) {r_X11_parts : Int32 → Int32 → Int32 → Int32 → ST → Option ((Int32 × ST) × Nat)} (hr_X11_parts : ∀ {sz : Nat} {p0 : Int32} {p1 : Int32} {p2 : Int32} {p3 : Int32} {σ : ST} {q : Int32 × ST} {r : Nat}, r_X11_parts  p0 p1 p2 p3 σ = some (q, r) → Met l yX11_parts (.code yX11_parts cX11_parts 8 (some .boolean) :: pw) ({ frames := 6 + nn, cells := r, slots := 6 * r, locals := 129 + 29 * nn } : Room) (va_Pc [.ref (a 0), .int p0, .int p1, .int p2, .int p3] (vPre dC dI (wB a k σ) (tB k) sz)) (qBi dC dI a k (va_A (wB a k σ) sz) q) r (6 * r) (va_A (wB a k σ) sz)) {r_X11_value : Int32 → Int32 → Int32 → Int32 → Int32 → ST → Option ((Int32 × ST) × Nat)} (hr_X11_value : ∀ {sz : Nat} {p0 : Int32} {p1 : Int32} {p2 : Int32} {p3 : Int32} {p4 : Int32} {σ : ST} {q : Int32 × ST} {r : Nat}, r_X11_value  p0 p1 p2 p3 p4 σ = some (q, r) → Met l yX11_value (.code yX11_value cX11_value 10 (some .boolean) :: pw) ({ frames := 6 + nn, cells := r, slots := 6 * r, locals := 129 + 29 * nn } : Room) (va_Pc [.ref (a 0), .int p0, .int p1, .int p2, .int p3, .int p4] (vPre dC dI (wB a k σ) (tB k) sz)) (qBi dC dI a k (va_A (wB a k σ) sz) q) r (6 * r) (va_A (wB a k σ) sz))  {x1 : Int32} {x3 : Int32} {x4 : Int32} {x5 : Int32} {y0 : Int32} {σ : ST} (h : f_X11_parts_31 r_X11_items r_X11_parts r_X11_value x1 x3 x4 x5 y0 σ = some (q, r)) (hκ : κ + r = T) : GkB p l e ({ frames := 6 + (nn + 1), cells := T, slots := 6 * T, locals := 129 + 29 * (nn + 1) } : Room) s m args below meth c (MQ below (qBi dC dI a k A q) args s T (6 * T) A) dC dI a k A 8 31 κ σ [(0, .ref (a 0)), (1, .int x1), (3, .int x3), (4, .int x4), (5, .int x5)] [.int y0] := by
  have hC0 := hC
  obtain ⟨hx, hb, hr, hml, hown, hts, hlocks, hA, hN, hK⟩ := hC0
  intro H locs ls hP hD hS hl
  have hD0 : ∀ σ1 : ST, va_D A (wB a k σ1) := fun σ1 => wB_D hD
  unfold f_X11_parts_31 at h
  refine lv_istore (lv' := [(6, .int y0), (0, .ref (a 0)), (1, .int x1), (3, .int x3), (4, .int x4), (5, .int x5)]) hx hb dX11_parts_31 hl (by decide) rfl (fun ls hl => ?_)
  exact b_X11_parts_33 hC hr_X11_items hr_X11_parts hr_X11_value FU _ _ _ _ _ _ _ _ h hκ _ _ _ hP hD hS (lv_sub hl [1, 2, 3, 4, 5, 0] rfl)

set_option maxRecDepth 100000 in
set_option maxHeartbeats 4000000 in
theorem b_X11_parts_e {p : Program} {l : Launch} {e : Env} {s : State} {m : MethodId} {args : Array Value} {below : List Frame} {meth : Method} {c : Code} {dC : Nat → ClassId} {dI : Nat → Nat → Nat} {a : Nat → Nat} {k : Nat → ClassId} {A : Nat → Prop} {q : Int32 × ST} {T r : Nat} (hC : CxB p s m args meth c dC dI k A cX11_parts RX11 (some .boolean) 8) {nn : Nat} {r_X11_items : Int32 → Int32 → Int32 → Int32 → ST → Option ((Int32 × ST) × Nat)} (hr_X11_items : ∀ {sz : Nat} {p0 : Int32} {p1 : Int32} {p2 : Int32} {p3 : Int32} {σ : ST} {q : Int32 × ST} {r : Nat}, r_X11_items  p0 p1 p2 p3 σ = some (q, r) → Met l yX11_items (.code yX11_items cX11_items 7 (some .boolean) :: pw) ({ frames := 6 + nn, cells := r, slots := 6 * r, locals := 129 + 29 * nn } : Room) (va_Pc [.ref (a 0), .int p0, .int p1, .int p2, .int p3] (vPre dC dI (wB a k σ) (tB k) sz)) (qBi dC dI a k (va_A (wB a k σ) sz) q) r (6 * r) (va_A (wB a k σ) sz)) {r_X11_parts : Int32 → Int32 → Int32 → Int32 → ST → Option ((Int32 × ST) × Nat)} (hr_X11_parts : ∀ {sz : Nat} {p0 : Int32} {p1 : Int32} {p2 : Int32} {p3 : Int32} {σ : ST} {q : Int32 × ST} {r : Nat}, r_X11_parts  p0 p1 p2 p3 σ = some (q, r) → Met l yX11_parts (.code yX11_parts cX11_parts 8 (some .boolean) :: pw) ({ frames := 6 + nn, cells := r, slots := 6 * r, locals := 129 + 29 * nn } : Room) (va_Pc [.ref (a 0), .int p0, .int p1, .int p2, .int p3] (vPre dC dI (wB a k σ) (tB k) sz)) (qBi dC dI a k (va_A (wB a k σ) sz) q) r (6 * r) (va_A (wB a k σ) sz)) {r_X11_value : Int32 → Int32 → Int32 → Int32 → Int32 → ST → Option ((Int32 × ST) × Nat)} (hr_X11_value : ∀ {sz : Nat} {p0 : Int32} {p1 : Int32} {p2 : Int32} {p3 : Int32} {p4 : Int32} {σ : ST} {q : Int32 × ST} {r : Nat}, r_X11_value  p0 p1 p2 p3 p4 σ = some (q, r) → Met l yX11_value (.code yX11_value cX11_value 10 (some .boolean) :: pw) ({ frames := 6 + nn, cells := r, slots := 6 * r, locals := 129 + 29 * nn } : Room) (va_Pc [.ref (a 0), .int p0, .int p1, .int p2, .int p3, .int p4] (vPre dC dI (wB a k σ) (tB k) sz)) (qBi dC dI a k (va_A (wB a k σ) sz) q) r (6 * r) (va_A (wB a k σ) sz))  {p0 : Int32} {p1 : Int32} {p2 : Int32} {p3 : Int32} {σ : ST} (h : f_X11_parts r_X11_items r_X11_parts r_X11_value p0 p1 p2 p3 σ = some (q, r)) (hκ : 0 + r = T) : GkB p l e ({ frames := 6 + (nn + 1), cells := T, slots := 6 * T, locals := 129 + 29 * (nn + 1) } : Room) s m args below meth c (MQ below (qBi dC dI a k A q) args s T (6 * T) A) dC dI a k A 8 0 0 σ (lv_args 0 [.ref (a 0), .int p0, .int p1, .int p2, .int p3]) [] := by
  have hC0 := hC
  obtain ⟨hx, hb, hr, hml, hown, hts, hlocks, hA, hN, hK⟩ := hC0
  intro H locs ls hP hD hS hl
  have hD0 : ∀ σ1 : ST, va_D A (wB a k σ1) := fun σ1 => wB_D hD
  replace hl : lv_has ls 8 [(0, .ref (a 0)), (1, .int p0), (2, .int p1), (3, .int p2), (4, .int p3)] := hl
  unfold f_X11_parts at h
  refine lv_bipush (v := 6) hx hb dX11_parts_0 (by decide) ?_
  refine lv_iload_n hx hb dX11_parts_2 rfl (lv_at hl 1 rfl) ?_
  refine lv_imul hx hb dX11_parts_3 ?_
  refine lv_aload_n hx hb dX11_parts_4 rfl (lv_at hl 0 rfl) ?_
  refine va_get (D := (dC, dI)) (ci := 11) (C := RX11) (T := TX11) (N := 95) hx hb hts inlX11 hown hK hP 0 gB_0 rfl 15 (by decide) (hts (.fieldLink RX11 17 "ShapeReaderModel" "typeArg" "[I") mw_26_29) (fun _ h9 => h9) rfl dX11_parts_5 ?_
  refine lv_iload_n hx hb dX11_parts_8 rfl (lv_at hl 2 rfl) ?_
  obtain ⟨hg1, h⟩ := ig h
  refine va_iald hx hb hK hP 3 2 gB_3 yB_3 (vp_in_iff.mpr hg1) dX11_parts_9 ?_
  refine lv_iadd hx hb dX11_parts_10 ?_
  refine lv_istore (lv' := [(5, .int ((6 * p0) + (σ.1 3 p1.toNatClampNeg))), (0, .ref (a 0)), (1, .int p0), (2, .int p1), (3, .int p2), (4, .int p3)]) hx hb dX11_parts_11 hl (by decide) rfl (fun ls hl => ?_)
  refine lv_aload_n hx hb dX11_parts_13 rfl (lv_at hl 1 rfl) ?_
  obtain ⟨q2, hc, h⟩ := ib h
  have hF := va_frees hD hS hA
  refine va_callv (va_runV (As := []) (rest := []) ⟨hx, hb, hml, hown, hts⟩ (s_X11_go hc) (cwV 0 hts (gV mw_30_12 mw_30_13 mw_30_14 mw_0_15 mw_54_6) rfl rfl rfl (by decide +kernel) ⟨by show 4 + 1 ≤ 6 + (nn + 1); omega, by show 8 + (2 + 11) + 87 ≤ 129 + 29 * (nn + 1); omega⟩) (vV (ci := 11) (q0 := 0) hK hP hD hN rfl gB_0) rfl rfl hl.1 rfl (lv_room (Nat.le_of_ble_eq_true rfl)) dX11_parts_14 ⟨by show 0 + 0 ≤ T; omega, by show 6 * 0 + 0 ≤ 6 * T; omega⟩) hS (fun q _ h => hF q h) hF (fun u t H locs ht hvm hw hB _ _ hS => ?_)
  replace hP : va_P (dC, dI) vwCl (wB a k q2) H := by rw [← ht]; exact hB.1
  replace hD := hD0 (q2)
  clear hB hF
  refine lv_aload_n hx hb dX11_parts_17 rfl (lv_at hl 1 rfl) ?_
  refine va_get (D := (dC, dI)) (ci := 11) (C := RX11) (T := TX11) (N := 95) hx hb hts inlX11 hown hK hP 0 gB_0 rfl 13 (by decide) (hts (.fieldLink RX11 253 "ShapeReaderModel" "sign" "I") mw_29_26) (fun _ h9 => h9) rfl dX11_parts_18 ?_
  refine lv_bipush (v := 125) hx hb dX11_parts_21 (by decide) ?_
  refine lv_icmp_eq (tgt := 30) hx hb dX11_parts_23 (by decide) (fun hc => ?_) (fun hc => ?_)
  · replace h := ip hc h
    refine lv_iconst (v := 0) hx hb dX11_parts_30 (by decide) ?_
    exact b_X11_parts_31 hC hr_X11_items hr_X11_parts hr_X11_value h hκ _ _ _ hP hD hS (lv_sub hl [1, 2, 4, 5, 0] rfl)
  · replace h := iq hc h
    refine lv_iconst (v := 1) hx hb dX11_parts_26 (by decide) ?_
    refine lv_goto (tgt := 31) hx hb dX11_parts_27 (by decide) ?_
    exact b_X11_parts_31 hC hr_X11_items hr_X11_parts hr_X11_value h hκ _ _ _ hP hD hS (lv_sub hl [1, 2, 4, 5, 0] rfl)


set_option maxRecDepth 100000 in
set_option maxHeartbeats 4000000 in
theorem b_X11_value_247 {p : Program} {l : Launch} {e : Env} {s : State} {m : MethodId} {args : Array Value} {below : List Frame} {meth : Method} {c : Code} {dC : Nat → ClassId} {dI : Nat → Nat → Nat} {a : Nat → Nat} {k : Nat → ClassId} {A : Nat → Prop} {q : Int32 × ST} {T r κ : Nat} (hC : CxB p s m args meth c dC dI k A cX11_value RX11 (some .boolean) 10) {nn : Nat} {r_X11_items : Int32 → Int32 → Int32 → Int32 → ST → Option ((Int32 × ST) × Nat)} (hr_X11_items : ∀ {sz : Nat} {p0 : Int32} {p1 : Int32} {p2 : Int32} {p3 : Int32} {σ : ST} {q : Int32 × ST} {r : Nat}, r_X11_items  p0 p1 p2 p3 σ = some (q, r) → Met l yX11_items (.code yX11_items cX11_items 7 (some .boolean) :: pw) ({ frames := 6 + nn, cells := r, slots := 6 * r, locals := 129 + 29 * nn } : Room) (va_Pc [.ref (a 0), .int p0, .int p1, .int p2, .int p3] (vPre dC dI (wB a k σ) (tB k) sz)) (qBi dC dI a k (va_A (wB a k σ) sz) q) r (6 * r) (va_A (wB a k σ) sz)) {r_X11_parts : Int32 → Int32 → Int32 → Int32 → ST → Option ((Int32 × ST) × Nat)} (hr_X11_parts : ∀ {sz : Nat} {p0 : Int32} {p1 : Int32} {p2 : Int32} {p3 : Int32} {σ : ST} {q : Int32 × ST} {r : Nat}, r_X11_parts  p0 p1 p2 p3 σ = some (q, r) → Met l yX11_parts (.code yX11_parts cX11_parts 8 (some .boolean) :: pw) ({ frames := 6 + nn, cells := r, slots := 6 * r, locals := 129 + 29 * nn } : Room) (va_Pc [.ref (a 0), .int p0, .int p1, .int p2, .int p3] (vPre dC dI (wB a k σ) (tB k) sz)) (qBi dC dI a k (va_A (wB a k σ) sz) q) r (6 * r) (va_A (wB a k σ) sz)) {r_X11_value : Int32 → Int32 → Int32 → Int32 → Int32 → ST → Option ((Int32 × ST) × Nat)} (hr_X11_value : ∀ {sz : Nat} {p0 : Int32} {p1 : Int32} {p2 : Int32} {p3 : Int32} {p4 : Int32} {σ : ST} {q : Int32 × ST} {r : Nat}, r_X11_value  p0 p1 p2 p3 p4 σ = some (q, r) → Met l yX11_value (.code yX11_value cX11_value 10 (some .boolean) :: pw) ({ frames := 6 + nn, cells := r, slots := 6 * r, locals := 129 + 29 * nn } : Room) (va_Pc [.ref (a 0), .int p0, .int p1, .int p2, .int p3, .int p4] (vPre dC dI (wB a k σ) (tB k) sz)) (qBi dC dI a k (va_A (wB a k σ) sz) q) r (6 * r) (va_A (wB a k σ) sz))  {y0 : Int32} {y1 : Int32} {σ : ST} (h : f_X11_value_247 r_X11_items r_X11_parts r_X11_value y0 y1 σ = some (q, r)) (hκ : κ + r = T) : GkB p l e ({ frames := 6 + (nn + 1), cells := T, slots := 6 * T, locals := 129 + 29 * (nn + 1) } : Room) s m args below meth c (MQ below (qBi dC dI a k A q) args s T (6 * T) A) dC dI a k A 10 247 κ σ [(0, .ref (a 0))] [.int y0, .int y1, .ref (a 23)] := by
  have hC0 := hC
  obtain ⟨hx, hb, hr, hml, hown, hts, hlocks, hA, hN, hK⟩ := hC0
  intro H locs ls hP hD hS hl
  have hD0 : ∀ σ1 : ST, va_D A (wB a k σ1) := fun σ1 => wB_D hD
  unfold f_X11_value_247 at h
  obtain ⟨hg1, h⟩ := ig h
  refine va_iast hx hb hK hP hD hS 23 22 gB_23 yB_23 (vp_in_iff.mpr hg1) dX11_value_247 (fun H locs hP hD hS => ?_)
  replace hP := uB_23 hP
  replace hD := hD0 ((stI σ 23 y1.toNatClampNeg y0))
  refine lv_aload_n hx hb dX11_value_248 rfl (lv_at hl 0 rfl) ?_
  obtain ⟨q2, hc, h⟩ := ib h
  have hF := va_frees hD hS hA
  refine va_callv (va_runV (As := []) (rest := []) ⟨hx, hb, hml, hown, hts⟩ (s_X11_go hc) (cwV 0 hts (gV mw_30_12 mw_30_13 mw_30_14 mw_0_15 mw_54_6) rfl rfl rfl (by decide +kernel) ⟨by show 4 + 1 ≤ 6 + (nn + 1); omega, by show 8 + (2 + 11) + 87 ≤ 129 + 29 * (nn + 1); omega⟩) (vV (ci := 11) (q0 := 0) hK hP hD hN rfl gB_0) rfl rfl hl.1 rfl (lv_room (Nat.le_of_ble_eq_true rfl)) dX11_value_249 ⟨by show κ + 0 ≤ T; omega, by show 6 * κ + 0 ≤ 6 * T; omega⟩) hS (fun q _ h => hF q h) hF (fun u t H locs ht hvm hw hB _ _ hS => ?_)
  replace hP : va_P (dC, dI) vwCl (wB a k q2) H := by rw [← ht]; exact hB.1
  replace hD := hD0 (q2)
  clear hB hF
  refine lv_iconst (v := 1) hx hb dX11_value_252 (by decide) ?_
  obtain ⟨rfl, rfl⟩ := Prod.mk.inj (Option.some.inj h)
  subst hκ
  exact W.zret hx hb hr rfl (fun t ht hW => ⟨⟨_, (), rfl, rfl, ⟨by rw [ht]; exact hP, va_K.moved hW.alike hK, hD⟩⟩, hS.F ht⟩) hS.2.2 dX11_value_253

set_option maxRecDepth 100000 in
set_option maxHeartbeats 4000000 in
theorem b_X11_value_221 {p : Program} {l : Launch} {e : Env} {s : State} {m : MethodId} {args : Array Value} {below : List Frame} {meth : Method} {c : Code} {dC : Nat → ClassId} {dI : Nat → Nat → Nat} {a : Nat → Nat} {k : Nat → ClassId} {A : Nat → Prop} {q : Int32 × ST} {T r κ : Nat} (hC : CxB p s m args meth c dC dI k A cX11_value RX11 (some .boolean) 10) {nn : Nat} {r_X11_items : Int32 → Int32 → Int32 → Int32 → ST → Option ((Int32 × ST) × Nat)} (hr_X11_items : ∀ {sz : Nat} {p0 : Int32} {p1 : Int32} {p2 : Int32} {p3 : Int32} {σ : ST} {q : Int32 × ST} {r : Nat}, r_X11_items  p0 p1 p2 p3 σ = some (q, r) → Met l yX11_items (.code yX11_items cX11_items 7 (some .boolean) :: pw) ({ frames := 6 + nn, cells := r, slots := 6 * r, locals := 129 + 29 * nn } : Room) (va_Pc [.ref (a 0), .int p0, .int p1, .int p2, .int p3] (vPre dC dI (wB a k σ) (tB k) sz)) (qBi dC dI a k (va_A (wB a k σ) sz) q) r (6 * r) (va_A (wB a k σ) sz)) {r_X11_parts : Int32 → Int32 → Int32 → Int32 → ST → Option ((Int32 × ST) × Nat)} (hr_X11_parts : ∀ {sz : Nat} {p0 : Int32} {p1 : Int32} {p2 : Int32} {p3 : Int32} {σ : ST} {q : Int32 × ST} {r : Nat}, r_X11_parts  p0 p1 p2 p3 σ = some (q, r) → Met l yX11_parts (.code yX11_parts cX11_parts 8 (some .boolean) :: pw) ({ frames := 6 + nn, cells := r, slots := 6 * r, locals := 129 + 29 * nn } : Room) (va_Pc [.ref (a 0), .int p0, .int p1, .int p2, .int p3] (vPre dC dI (wB a k σ) (tB k) sz)) (qBi dC dI a k (va_A (wB a k σ) sz) q) r (6 * r) (va_A (wB a k σ) sz)) {r_X11_value : Int32 → Int32 → Int32 → Int32 → Int32 → ST → Option ((Int32 × ST) × Nat)} (hr_X11_value : ∀ {sz : Nat} {p0 : Int32} {p1 : Int32} {p2 : Int32} {p3 : Int32} {p4 : Int32} {σ : ST} {q : Int32 × ST} {r : Nat}, r_X11_value  p0 p1 p2 p3 p4 σ = some (q, r) → Met l yX11_value (.code yX11_value cX11_value 10 (some .boolean) :: pw) ({ frames := 6 + nn, cells := r, slots := 6 * r, locals := 129 + 29 * nn } : Room) (va_Pc [.ref (a 0), .int p0, .int p1, .int p2, .int p3, .int p4] (vPre dC dI (wB a k σ) (tB k) sz)) (qBi dC dI a k (va_A (wB a k σ) sz) q) r (6 * r) (va_A (wB a k σ) sz))  {x7 : Int32} {x9 : Int32} {y0 : Int64} {y1 : Int32} {σ : ST} (h : f_X11_value_221 r_X11_items r_X11_parts r_X11_value x7 x9 y0 y1 σ = some (q, r)) (hκ : κ + r = T) : GkB p l e ({ frames := 6 + (nn + 1), cells := T, slots := 6 * T, locals := 129 + 29 * (nn + 1) } : Room) s m args below meth c (MQ below (qBi dC dI a k A q) args s T (6 * T) A) dC dI a k A 10 221 κ σ [(0, .ref (a 0)), (7, .int x7), (9, .int x9)] [.long y0, .int y1, .ref (a 22)] := by
  have hC0 := hC
  obtain ⟨hx, hb, hr, hml, hown, hts, hlocks, hA, hN, hK⟩ := hC0
  intro H locs ls hP hD hS hl
  have hD0 : ∀ σ1 : ST, va_D A (wB a k σ1) := fun σ1 => wB_D hD
  unfold f_X11_value_221 at h
  obtain ⟨hg1, h⟩ := ig h
  refine va_last hx hb hK hP hD hS 22 21 gB_22 yB_22 (vp_in_iff.mpr hg1) dX11_value_221 (fun H locs hP hD hS => ?_)
  replace hP := uB_22 hP
  replace hD := hD0 ((stL σ 22 y1.toNatClampNeg y0))
  refine lv_aload_n hx hb dX11_value_222 rfl (lv_at hl 0 rfl) ?_
  refine va_get (D := (dC, dI)) (ci := 11) (C := RX11) (T := TX11) (N := 95) hx hb hts inlX11 hown hK hP 0 gB_0 rfl 38 (by decide) (hts (.fieldLink RX11 79 "ShapeReaderModel" "nodeHas" "[I") mw_27_19) (fun _ h9 => h9) rfl dX11_value_223 ?_
  refine lv_iload hx hb dX11_value_226 (lv_at hl 2 rfl) ?_
  refine lv_aload_n hx hb dX11_value_228 rfl (lv_at hl 0 rfl) ?_
  refine va_get (D := (dC, dI)) (ci := 11) (C := RX11) (T := TX11) (N := 95) hx hb hts inlX11 hown hK hP 0 gB_0 rfl 14 (by decide) (hts (.fieldLink RX11 13 "ShapeReaderModel" "typeSort" "[I") mw_26_28) (fun _ h9 => h9) rfl dX11_value_229 ?_
  refine lv_iload hx hb dX11_value_232 (lv_at hl 1 rfl) ?_
  obtain ⟨hg2, h⟩ := ig h
  refine va_iald hx hb hK hP 2 1 gB_2 yB_2 (vp_in_iff.mpr hg2) dX11_value_234 ?_
  refine lv_iconst (v := 5) hx hb dX11_value_235 (by decide) ?_
  refine lv_icmp_ne (tgt := 246) hx hb dX11_value_236 (by decide) (fun hc => ?_) (fun hc => ?_)
  · replace h := iq hc h
    refine lv_iconst (v := 0) hx hb dX11_value_246 (by decide) ?_
    exact b_X11_value_247 hC hr_X11_items hr_X11_parts hr_X11_value h hκ _ _ _ hP hD hS (lv_sub hl [0] rfl)
  · replace h := ip hc h
    refine lv_aload_n hx hb dX11_value_239 rfl (lv_at hl 0 rfl) ?_
    refine va_get (D := (dC, dI)) (ci := 11) (C := RX11) (T := TX11) (N := 95) hx hb hts inlX11 hown hK hP 0 gB_0 rfl 8 (by decide) (hts (.fieldLink RX11 208 "ShapeReaderModel" "letterMany" "I") mw_29_5) (fun _ h9 => h9) rfl dX11_value_240 ?_
    refine lv_goto (tgt := 247) hx hb dX11_value_243 (by decide) ?_
    exact b_X11_value_247 hC hr_X11_items hr_X11_parts hr_X11_value h hκ _ _ _ hP hD hS (lv_sub hl [0] rfl)

set_option maxRecDepth 100000 in
set_option maxHeartbeats 4000000 in
theorem b_X11_value_104 {p : Program} {l : Launch} {e : Env} {s : State} {m : MethodId} {args : Array Value} {below : List Frame} {meth : Method} {c : Code} {dC : Nat → ClassId} {dI : Nat → Nat → Nat} {a : Nat → Nat} {k : Nat → ClassId} {A : Nat → Prop} {q : Int32 × ST} {T r κ : Nat} (hC : CxB p s m args meth c dC dI k A cX11_value RX11 (some .boolean) 10) {nn : Nat} {r_X11_items : Int32 → Int32 → Int32 → Int32 → ST → Option ((Int32 × ST) × Nat)} (hr_X11_items : ∀ {sz : Nat} {p0 : Int32} {p1 : Int32} {p2 : Int32} {p3 : Int32} {σ : ST} {q : Int32 × ST} {r : Nat}, r_X11_items  p0 p1 p2 p3 σ = some (q, r) → Met l yX11_items (.code yX11_items cX11_items 7 (some .boolean) :: pw) ({ frames := 6 + nn, cells := r, slots := 6 * r, locals := 129 + 29 * nn } : Room) (va_Pc [.ref (a 0), .int p0, .int p1, .int p2, .int p3] (vPre dC dI (wB a k σ) (tB k) sz)) (qBi dC dI a k (va_A (wB a k σ) sz) q) r (6 * r) (va_A (wB a k σ) sz)) {r_X11_parts : Int32 → Int32 → Int32 → Int32 → ST → Option ((Int32 × ST) × Nat)} (hr_X11_parts : ∀ {sz : Nat} {p0 : Int32} {p1 : Int32} {p2 : Int32} {p3 : Int32} {σ : ST} {q : Int32 × ST} {r : Nat}, r_X11_parts  p0 p1 p2 p3 σ = some (q, r) → Met l yX11_parts (.code yX11_parts cX11_parts 8 (some .boolean) :: pw) ({ frames := 6 + nn, cells := r, slots := 6 * r, locals := 129 + 29 * nn } : Room) (va_Pc [.ref (a 0), .int p0, .int p1, .int p2, .int p3] (vPre dC dI (wB a k σ) (tB k) sz)) (qBi dC dI a k (va_A (wB a k σ) sz) q) r (6 * r) (va_A (wB a k σ) sz)) {r_X11_value : Int32 → Int32 → Int32 → Int32 → Int32 → ST → Option ((Int32 × ST) × Nat)} (hr_X11_value : ∀ {sz : Nat} {p0 : Int32} {p1 : Int32} {p2 : Int32} {p3 : Int32} {p4 : Int32} {σ : ST} {q : Int32 × ST} {r : Nat}, r_X11_value  p0 p1 p2 p3 p4 σ = some (q, r) → Met l yX11_value (.code yX11_value cX11_value 10 (some .boolean) :: pw) ({ frames := 6 + nn, cells := r, slots := 6 * r, locals := 129 + 29 * nn } : Room) (va_Pc [.ref (a 0), .int p0, .int p1, .int p2, .int p3, .int p4] (vPre dC dI (wB a k σ) (tB k) sz)) (qBi dC dI a k (va_A (wB a k σ) sz) q) r (6 * r) (va_A (wB a k σ) sz))  {x1 : Int32} {x3 : Int32} {x4 : Int32} {x5 : Int32} {x6 : Int32} {x7 : Int32} {y0 : Int32} {σ : ST} (h : f_X11_value_104 r_X11_items r_X11_parts r_X11_value x1 x3 x4 x5 x6 x7 y0 σ = some (q, r)) (hκ : κ + r = T) : GkB p l e ({ frames := 6 + (nn + 1), cells := T, slots := 6 * T, locals := 129 + 29 * (nn + 1) } : Room) s m args below meth c (MQ below (qBi dC dI a k A q) args s T (6 * T) A) dC dI a k A 10 104 κ σ [(0, .ref (a 0)), (1, .int x1), (3, .int x3), (4, .int x4), (5, .int x5), (6, .int x6), (7, .int x7)] [.int y0] := by
  have hC0 := hC
  obtain ⟨hx, hb, hr, hml, hown, hts, hlocks, hA, hN, hK⟩ := hC0
  intro H locs ls hP hD hS hl
  have hD0 : ∀ σ1 : ST, va_D A (wB a k σ1) := fun σ1 => wB_D hD
  unfold f_X11_value_104 at h
  refine lv_istore (lv' := [(8, .int y0), (0, .ref (a 0)), (1, .int x1), (3, .int x3), (4, .int x4), (5, .int x5), (6, .int x6), (7, .int x7)]) hx hb dX11_value_104 hl (by decide) rfl (fun ls hl => ?_)
  refine lv_iload hx hb dX11_value_106 (lv_at hl 0 rfl) ?_
  refine lv_if_le (tgt := 118) hx hb dX11_value_108 (by decide) (fun hc => ?_) (fun hc => ?_)
  · replace h := ip hc h
    refine lv_aload_n hx hb dX11_value_118 rfl (lv_at hl 1 rfl) ?_
    refine lv_aload_n hx hb dX11_value_119 rfl (lv_at hl 1 rfl) ?_
    refine va_get (D := (dC, dI)) (ci := 11) (C := RX11) (T := TX11) (N := 95) hx hb hts inlX11 hown hK hP 0 gB_0 rfl 14 (by decide) (hts (.fieldLink RX11 13 "ShapeReaderModel" "typeSort" "[I") mw_26_28) (fun _ h9 => h9) rfl dX11_value_120 ?_
    refine lv_iload hx hb dX11_value_123 (lv_at hl 7 rfl) ?_
    obtain ⟨hg1, h⟩ := ig h
    refine va_iald hx hb hK hP 2 1 gB_2 yB_2 (vp_in_iff.mpr hg1) dX11_value_125 ?_
    refine lv_iload hx hb dX11_value_126 (lv_at hl 4 rfl) ?_
    refine lv_iload hx hb dX11_value_128 (lv_at hl 5 rfl) ?_
    refine lv_iload hx hb dX11_value_130 (lv_at hl 6 rfl) ?_
    obtain ⟨q2, hc, h⟩ := ib h
    have hF := va_frees hD hS hA
    refine va_calli (va_runV (As := [.int (σ.1 2 x7.toNatClampNeg), .int x4, .int x5, .int x6]) (rest := []) ⟨hx, hb, hml, hown, hts⟩ (s_X11_laysNode hc) (cwV 4 hts (gV mw_34_2 mw_34_3 mw_34_4 mw_0_15 mw_55_13) rfl rfl rfl (by decide +kernel) ⟨by show 1 + 1 ≤ 6 + (nn + 1); omega, by show 8 + (6 + 11) + 24 ≤ 129 + 29 * (nn + 1); omega⟩) (vV (ci := 11) (q0 := 0) hK hP hD hN rfl gB_0) rfl rfl hl.1 rfl (lv_room (Nat.le_of_ble_eq_true rfl)) dX11_value_132 ⟨by show κ + 0 ≤ T; omega, by show 6 * κ + 0 ≤ 6 * T; omega⟩) hS (fun q _ h => hF q h) hF (fun r3 u t H locs ht hvm hw hB _ _ hS => ?_)
    obtain rfl : r3 = q2.1 := hw
    replace hP : va_P (dC, dI) vwCl (wB a k q2.2) H := by rw [← ht]; exact hB.1
    replace hD := hD0 (q2.2)
    clear hB hF
    refine lv_istore (lv' := [(9, .int q2.1), (8, .int y0), (0, .ref (a 0)), (1, .int x1), (3, .int x3), (4, .int x4), (5, .int x5), (6, .int x6), (7, .int x7)]) hx hb dX11_value_135 hl (by decide) rfl (fun ls hl => ?_)
    refine lv_aload_n hx hb dX11_value_137 rfl (lv_at hl 2 rfl) ?_
    refine va_get (D := (dC, dI)) (ci := 11) (C := RX11) (T := TX11) (N := 95) hx hb hts inlX11 hown hK hP 0 gB_0 rfl 14 (by decide) (hts (.fieldLink RX11 13 "ShapeReaderModel" "typeSort" "[I") mw_26_28) (fun _ h9 => h9) rfl dX11_value_138 ?_
    refine lv_iload hx hb dX11_value_141 (lv_at hl 8 rfl) ?_
    refine va_iald hx hb hK hP 2 1 gB_2 yB_2 (vp_in_iff.mpr hg1) dX11_value_143 ?_
    refine lv_bipush (v := 6) hx hb dX11_value_144 (by decide) ?_
    refine lv_icmp_ne (tgt := 160) hx hb dX11_value_146 (by decide) (fun hc => ?_) (fun hc => ?_)
    · replace h := iq hc h
      refine lv_aload_n hx hb dX11_value_160 rfl (lv_at hl 2 rfl) ?_
      refine va_get (D := (dC, dI)) (ci := 11) (C := RX11) (T := TX11) (N := 95) hx hb hts inlX11 hown hK hP 0 gB_0 rfl 14 (by decide) (hts (.fieldLink RX11 13 "ShapeReaderModel" "typeSort" "[I") mw_26_28) (fun _ h9 => h9) rfl dX11_value_161 ?_
      refine lv_iload hx hb dX11_value_164 (lv_at hl 8 rfl) ?_
      refine va_iald hx hb hK hP 2 1 gB_2 yB_2 (vp_in_iff.mpr hg1) dX11_value_166 ?_
      refine lv_bipush (v := 7) hx hb dX11_value_167 (by decide) ?_
      refine lv_icmp_ne (tgt := 183) hx hb dX11_value_169 (by decide) (fun hc => ?_) (fun hc => ?_)
      · replace h := iq hc h
        refine lv_aload_n hx hb dX11_value_183 rfl (lv_at hl 2 rfl) ?_
        refine va_get (D := (dC, dI)) (ci := 11) (C := RX11) (T := TX11) (N := 95) hx hb hts inlX11 hown hK hP 0 gB_0 rfl 36 (by decide) (hts (.fieldLink RX11 73 "ShapeReaderModel" "nodeBits" "[J") mw_27_17) (fun _ h9 => h9) rfl dX11_value_184 ?_
        refine lv_iload hx hb dX11_value_187 (lv_at hl 0 rfl) ?_
        refine lv_aload_n hx hb dX11_value_189 rfl (lv_at hl 2 rfl) ?_
        refine lv_iload hx hb dX11_value_190 (lv_at hl 8 rfl) ?_
        obtain ⟨q4, hc, h⟩ := ib h
        obtain ⟨r2, h, hz⟩ := acE h
        have hF := va_frees hD hS hA
        refine va_calll (va_runV (As := [.int x7]) (rest := [.int q2.1, .ref (a 21)]) ⟨hx, hb, hml, hown, hts⟩ (s_X11_bitsOf (q := q4.1) (r := q4.2) hc) (cwV 1 hts (gV mw_32_10 mw_32_11 mw_32_12 mw_0_15 mw_54_26) rfl rfl rfl (by decide +kernel) ⟨by show 2 + 1 ≤ 6 + (nn + 1); omega, by show 8 + (3 + 11) + 51 ≤ 129 + 29 * (nn + 1); omega⟩) (vV (ci := 11) (q0 := 0) hK hP hD hN rfl gB_0) rfl rfl hl.1 rfl (lv_room (Nat.le_of_ble_eq_true rfl)) dX11_value_192 ⟨by show κ + q4.2 ≤ T; omega, by show 6 * κ + 6 * q4.2 ≤ 6 * T; omega⟩) hS (fun q _ h => hF q h) hF (fun r5 u t H locs ht hvm hw hB _ _ hS => ?_)
        obtain rfl : r5 = q4.1.1 := hw
        replace hκ : (κ + q4.2) + r2 = T := by omega
        clear hz
        refine W.widen (k := (κ + q4.2)) (n := 6 * (κ + q4.2)) (Nat.le_refl _) (by omega) ?_
        replace hP : va_P (dC, dI) vwCl (wB a k q4.1.2) H := by rw [← ht]; exact hB.1
        replace hD := hD0 (q4.1.2)
        clear hB hF
        obtain ⟨hg6, h⟩ := ig h
        refine va_last hx hb hK hP hD hS 21 20 gB_21 yB_21 (vp_in_iff.mpr hg6) dX11_value_195 (fun H locs hP hD hS => ?_)
        replace hP := uB_21 hP
        replace hD := hD0 ((stL q4.1.2 21 q2.1.toNatClampNeg q4.1.1))
        refine lv_aload_n hx hb dX11_value_196 rfl (lv_at hl 2 rfl) ?_
        refine va_get (D := (dC, dI)) (ci := 11) (C := RX11) (T := TX11) (N := 95) hx hb hts inlX11 hown hK hP 0 gB_0 rfl 37 (by decide) (hts (.fieldLink RX11 76 "ShapeReaderModel" "nodeText" "[J") mw_27_18) (fun _ h9 => h9) rfl dX11_value_197 ?_
        refine lv_iload hx hb dX11_value_200 (lv_at hl 0 rfl) ?_
        refine lv_aload_n hx hb dX11_value_202 rfl (lv_at hl 2 rfl) ?_
        refine va_get (D := (dC, dI)) (ci := 11) (C := RX11) (T := TX11) (N := 95) hx hb hts inlX11 hown hK hP 0 gB_0 rfl 14 (by decide) (hts (.fieldLink RX11 13 "ShapeReaderModel" "typeSort" "[I") mw_26_28) (fun _ h9 => h9) rfl dX11_value_203 ?_
        refine lv_iload hx hb dX11_value_206 (lv_at hl 8 rfl) ?_
        refine va_iald hx hb hK hP 2 1 gB_2 yB_2 (vp_in_iff.mpr hg1) dX11_value_208 ?_
        refine lv_iconst (v := 5) hx hb dX11_value_209 (by decide) ?_
        refine lv_icmp_ne (tgt := 220) hx hb dX11_value_210 (by decide) (fun hc => ?_) (fun hc => ?_)
        · replace h := iq hc h
          refine lv_lconst (v := 0) hx hb dX11_value_220 (by decide) ?_
          exact b_X11_value_221 hC hr_X11_items hr_X11_parts hr_X11_value h hκ _ _ _ hP hD hS (lv_sub hl [2, 8, 0] rfl)
        · replace h := ip hc h
          refine lv_aload_n hx hb dX11_value_213 rfl (lv_at hl 2 rfl) ?_
          refine va_get (D := (dC, dI)) (ci := 11) (C := RX11) (T := TX11) (N := 95) hx hb hts inlX11 hown hK hP 0 gB_0 rfl 7 (by decide) (hts (.fieldLink RX11 204 "ShapeReaderModel" "letters" "J") mw_29_4) (fun _ h9 => h9) rfl dX11_value_214 ?_
          refine lv_goto (tgt := 221) hx hb dX11_value_217 (by decide) ?_
          exact b_X11_value_221 hC hr_X11_items hr_X11_parts hr_X11_value h hκ _ _ _ hP hD hS (lv_sub hl [2, 8, 0] rfl)
      · replace h := ip hc h
        refine lv_aload_n hx hb dX11_value_172 rfl (lv_at hl 2 rfl) ?_
        refine lv_iload_n hx hb dX11_value_173 rfl (lv_at hl 3 rfl) ?_
        refine lv_iload hx hb dX11_value_174 (lv_at hl 8 rfl) ?_
        refine lv_iload_n hx hb dX11_value_176 rfl (lv_at hl 4 rfl) ?_
        refine lv_iload hx hb dX11_value_177 (lv_at hl 0 rfl) ?_
        obtain ⟨q7, hc, h⟩ := ib h
        obtain ⟨r2, h, hz⟩ := acE h
        have hF := va_frees hD hS hA
        refine va_calli (va_runV (As := [.int x1, .int x7, .int x3, .int q2.1]) (rest := []) ⟨hx, hb, hml, hown, hts⟩ (hr_X11_parts (q := q7.1) (r := q7.2) hc) (cwV 4 hts (gV mw_34_14 mw_34_15 mw_34_16 mw_0_15 mw_55_21) rfl rfl rfl (by decide +kernel) ⟨by show (6 + nn) + 1 ≤ 6 + (nn + 1); omega, by show 8 + (8 + 11) + (129 + 29 * nn) ≤ 129 + 29 * (nn + 1); omega⟩) (vV (ci := 11) (q0 := 0) hK hP hD hN rfl gB_0) rfl rfl hl.1 rfl (lv_room (Nat.le_of_ble_eq_true rfl)) dX11_value_179 ⟨by show κ + q7.2 ≤ T; omega, by show 6 * κ + 6 * q7.2 ≤ 6 * T; omega⟩) hS (fun q _ h => hF q h) hF (fun r8 u t H locs ht hvm hw hB _ _ hS => ?_)
        obtain rfl : r8 = q7.1.1 := hw
        replace hκ : (κ + q7.2) + r2 = T := by omega
        clear hz
        refine W.widen (k := (κ + q7.2)) (n := 6 * (κ + q7.2)) (Nat.le_refl _) (by omega) ?_
        replace hP : va_P (dC, dI) vwCl (wB a k q7.1.2) H := by rw [← ht]; exact hB.1
        replace hD := hD0 (q7.1.2)
        clear hB hF
        obtain ⟨hg, h⟩ := ig h
        obtain ⟨rfl, rfl⟩ := Prod.mk.inj (Option.some.inj h)
        subst hκ
        exact W.zret hx hb hr (zn hg) (fun t ht hW => ⟨⟨_, (), rfl, rfl, ⟨by rw [ht]; exact hP, va_K.moved hW.alike hK, hD⟩⟩, hS.F ht⟩) hS.2.2 dX11_value_182
    · replace h := ip hc h
      refine lv_aload_n hx hb dX11_value_149 rfl (lv_at hl 2 rfl) ?_
      refine lv_iload_n hx hb dX11_value_150 rfl (lv_at hl 3 rfl) ?_
      refine lv_iload hx hb dX11_value_151 (lv_at hl 8 rfl) ?_
      refine lv_iload_n hx hb dX11_value_153 rfl (lv_at hl 4 rfl) ?_
      refine lv_iload hx hb dX11_value_154 (lv_at hl 0 rfl) ?_
      obtain ⟨q9, hc, h⟩ := ib h
      obtain ⟨r2, h, hz⟩ := acE h
      have hF := va_frees hD hS hA
      refine va_calli (va_runV (As := [.int x1, .int x7, .int x3, .int q2.1]) (rest := []) ⟨hx, hb, hml, hown, hts⟩ (hr_X11_items (q := q9.1) (r := q9.2) hc) (cwV 4 hts (gV mw_34_11 mw_34_12 mw_34_13 mw_0_15 mw_55_19) rfl rfl rfl (by decide +kernel) ⟨by show (6 + nn) + 1 ≤ 6 + (nn + 1); omega, by show 8 + (7 + 11) + (129 + 29 * nn) ≤ 129 + 29 * (nn + 1); omega⟩) (vV (ci := 11) (q0 := 0) hK hP hD hN rfl gB_0) rfl rfl hl.1 rfl (lv_room (Nat.le_of_ble_eq_true rfl)) dX11_value_156 ⟨by show κ + q9.2 ≤ T; omega, by show 6 * κ + 6 * q9.2 ≤ 6 * T; omega⟩) hS (fun q _ h => hF q h) hF (fun r10 u t H locs ht hvm hw hB _ _ hS => ?_)
      obtain rfl : r10 = q9.1.1 := hw
      replace hκ : (κ + q9.2) + r2 = T := by omega
      clear hz
      refine W.widen (k := (κ + q9.2)) (n := 6 * (κ + q9.2)) (Nat.le_refl _) (by omega) ?_
      replace hP : va_P (dC, dI) vwCl (wB a k q9.1.2) H := by rw [← ht]; exact hB.1
      replace hD := hD0 (q9.1.2)
      clear hB hF
      obtain ⟨hg, h⟩ := ig h
      obtain ⟨rfl, rfl⟩ := Prod.mk.inj (Option.some.inj h)
      subst hκ
      exact W.zret hx hb hr (zn hg) (fun t ht hW => ⟨⟨_, (), rfl, rfl, ⟨by rw [ht]; exact hP, va_K.moved hW.alike hK, hD⟩⟩, hS.F ht⟩) hS.2.2 dX11_value_159
  · replace h := iq hc h
    refine lv_aload_n hx hb dX11_value_111 rfl (lv_at hl 1 rfl) ?_
    refine lv_iload hx hb dX11_value_112 (lv_at hl 0 rfl) ?_
    obtain ⟨q11, hc, h⟩ := ib h
    have hF := va_frees hD hS hA
    refine va_calli (va_runV (As := [.int y0]) (rest := []) ⟨hx, hb, hml, hown, hts⟩ (s_X11_wrongHere hc) (cwV 1 hts (gV mw_30_9 mw_30_10 mw_30_11 mw_0_15 mw_54_10) rfl rfl rfl (by decide +kernel) ⟨by show 1 + 1 ≤ 6 + (nn + 1); omega, by show 8 + (2 + 11) + 22 ≤ 129 + 29 * (nn + 1); omega⟩) (vV (ci := 11) (q0 := 0) hK hP hD hN rfl gB_0) rfl rfl hl.1 rfl (lv_room (Nat.le_of_ble_eq_true rfl)) dX11_value_114 ⟨by show κ + 0 ≤ T; omega, by show 6 * κ + 0 ≤ 6 * T; omega⟩) hS (fun q _ h => hF q h) hF (fun r12 u t H locs ht hvm hw hB _ _ hS => ?_)
    obtain rfl : r12 = q11.1 := hw
    replace hP : va_P (dC, dI) vwCl (wB a k q11.2) H := by rw [← ht]; exact hB.1
    replace hD := hD0 (q11.2)
    clear hB hF
    obtain ⟨hg, h⟩ := ig h
    obtain ⟨rfl, rfl⟩ := Prod.mk.inj (Option.some.inj h)
    subst hκ
    exact W.zret hx hb hr (zn hg) (fun t ht hW => ⟨⟨_, (), rfl, rfl, ⟨by rw [ht]; exact hP, va_K.moved hW.alike hK, hD⟩⟩, hS.F ht⟩) hS.2.2 dX11_value_117

set_option maxRecDepth 100000 in
set_option maxHeartbeats 4000000 in
theorem b_X11_value_99 {p : Program} {l : Launch} {e : Env} {s : State} {m : MethodId} {args : Array Value} {below : List Frame} {meth : Method} {c : Code} {dC : Nat → ClassId} {dI : Nat → Nat → Nat} {a : Nat → Nat} {k : Nat → ClassId} {A : Nat → Prop} {q : Int32 × ST} {T r κ : Nat} (hC : CxB p s m args meth c dC dI k A cX11_value RX11 (some .boolean) 10) {nn : Nat} {r_X11_items : Int32 → Int32 → Int32 → Int32 → ST → Option ((Int32 × ST) × Nat)} (hr_X11_items : ∀ {sz : Nat} {p0 : Int32} {p1 : Int32} {p2 : Int32} {p3 : Int32} {σ : ST} {q : Int32 × ST} {r : Nat}, r_X11_items  p0 p1 p2 p3 σ = some (q, r) → Met l yX11_items (.code yX11_items cX11_items 7 (some .boolean) :: pw) ({ frames := 6 + nn, cells := r, slots := 6 * r, locals := 129 + 29 * nn } : Room) (va_Pc [.ref (a 0), .int p0, .int p1, .int p2, .int p3] (vPre dC dI (wB a k σ) (tB k) sz)) (qBi dC dI a k (va_A (wB a k σ) sz) q) r (6 * r) (va_A (wB a k σ) sz)) {r_X11_parts : Int32 → Int32 → Int32 → Int32 → ST → Option ((Int32 × ST) × Nat)} (hr_X11_parts : ∀ {sz : Nat} {p0 : Int32} {p1 : Int32} {p2 : Int32} {p3 : Int32} {σ : ST} {q : Int32 × ST} {r : Nat}, r_X11_parts  p0 p1 p2 p3 σ = some (q, r) → Met l yX11_parts (.code yX11_parts cX11_parts 8 (some .boolean) :: pw) ({ frames := 6 + nn, cells := r, slots := 6 * r, locals := 129 + 29 * nn } : Room) (va_Pc [.ref (a 0), .int p0, .int p1, .int p2, .int p3] (vPre dC dI (wB a k σ) (tB k) sz)) (qBi dC dI a k (va_A (wB a k σ) sz) q) r (6 * r) (va_A (wB a k σ) sz)) {r_X11_value : Int32 → Int32 → Int32 → Int32 → Int32 → ST → Option ((Int32 × ST) × Nat)} (hr_X11_value : ∀ {sz : Nat} {p0 : Int32} {p1 : Int32} {p2 : Int32} {p3 : Int32} {p4 : Int32} {σ : ST} {q : Int32 × ST} {r : Nat}, r_X11_value  p0 p1 p2 p3 p4 σ = some (q, r) → Met l yX11_value (.code yX11_value cX11_value 10 (some .boolean) :: pw) ({ frames := 6 + nn, cells := r, slots := 6 * r, locals := 129 + 29 * nn } : Room) (va_Pc [.ref (a 0), .int p0, .int p1, .int p2, .int p3, .int p4] (vPre dC dI (wB a k σ) (tB k) sz)) (qBi dC dI a k (va_A (wB a k σ) sz) q) r (6 * r) (va_A (wB a k σ) sz))  {x1 : Int32} {x3 : Int32} {x4 : Int32} {x5 : Int32} {x6 : Int32} {x7 : Int32} {σ : ST} (h : f_X11_value_99 r_X11_items r_X11_parts r_X11_value x1 x3 x4 x5 x6 x7 σ = some (q, r)) (hκ : κ + r = T) : GkB p l e ({ frames := 6 + (nn + 1), cells := T, slots := 6 * T, locals := 129 + 29 * (nn + 1) } : Room) s m args below meth c (MQ below (qBi dC dI a k A q) args s T (6 * T) A) dC dI a k A 10 99 κ σ [(0, .ref (a 0)), (1, .int x1), (3, .int x3), (4, .int x4), (5, .int x5), (6, .int x6), (7, .int x7)] [] := by
  have hC0 := hC
  obtain ⟨hx, hb, hr, hml, hown, hts, hlocks, hA, hN, hK⟩ := hC0
  intro H locs ls hP hD hS hl
  have hD0 : ∀ σ1 : ST, va_D A (wB a k σ1) := fun σ1 => wB_D hD
  unfold f_X11_value_99 at h
  refine lv_iconst (v := 4) hx hb dX11_value_99 (by decide) ?_
  refine lv_goto (tgt := 104) hx hb dX11_value_100 (by decide) ?_
  exact b_X11_value_104 hC hr_X11_items hr_X11_parts hr_X11_value h hκ _ _ _ hP hD hS (lv_sub hl [0, 1, 2, 3, 4, 5, 6] rfl)

set_option maxRecDepth 100000 in
set_option maxHeartbeats 4000000 in
theorem b_X11_value_103 {p : Program} {l : Launch} {e : Env} {s : State} {m : MethodId} {args : Array Value} {below : List Frame} {meth : Method} {c : Code} {dC : Nat → ClassId} {dI : Nat → Nat → Nat} {a : Nat → Nat} {k : Nat → ClassId} {A : Nat → Prop} {q : Int32 × ST} {T r κ : Nat} (hC : CxB p s m args meth c dC dI k A cX11_value RX11 (some .boolean) 10) {nn : Nat} {r_X11_items : Int32 → Int32 → Int32 → Int32 → ST → Option ((Int32 × ST) × Nat)} (hr_X11_items : ∀ {sz : Nat} {p0 : Int32} {p1 : Int32} {p2 : Int32} {p3 : Int32} {σ : ST} {q : Int32 × ST} {r : Nat}, r_X11_items  p0 p1 p2 p3 σ = some (q, r) → Met l yX11_items (.code yX11_items cX11_items 7 (some .boolean) :: pw) ({ frames := 6 + nn, cells := r, slots := 6 * r, locals := 129 + 29 * nn } : Room) (va_Pc [.ref (a 0), .int p0, .int p1, .int p2, .int p3] (vPre dC dI (wB a k σ) (tB k) sz)) (qBi dC dI a k (va_A (wB a k σ) sz) q) r (6 * r) (va_A (wB a k σ) sz)) {r_X11_parts : Int32 → Int32 → Int32 → Int32 → ST → Option ((Int32 × ST) × Nat)} (hr_X11_parts : ∀ {sz : Nat} {p0 : Int32} {p1 : Int32} {p2 : Int32} {p3 : Int32} {σ : ST} {q : Int32 × ST} {r : Nat}, r_X11_parts  p0 p1 p2 p3 σ = some (q, r) → Met l yX11_parts (.code yX11_parts cX11_parts 8 (some .boolean) :: pw) ({ frames := 6 + nn, cells := r, slots := 6 * r, locals := 129 + 29 * nn } : Room) (va_Pc [.ref (a 0), .int p0, .int p1, .int p2, .int p3] (vPre dC dI (wB a k σ) (tB k) sz)) (qBi dC dI a k (va_A (wB a k σ) sz) q) r (6 * r) (va_A (wB a k σ) sz)) {r_X11_value : Int32 → Int32 → Int32 → Int32 → Int32 → ST → Option ((Int32 × ST) × Nat)} (hr_X11_value : ∀ {sz : Nat} {p0 : Int32} {p1 : Int32} {p2 : Int32} {p3 : Int32} {p4 : Int32} {σ : ST} {q : Int32 × ST} {r : Nat}, r_X11_value  p0 p1 p2 p3 p4 σ = some (q, r) → Met l yX11_value (.code yX11_value cX11_value 10 (some .boolean) :: pw) ({ frames := 6 + nn, cells := r, slots := 6 * r, locals := 129 + 29 * nn } : Room) (va_Pc [.ref (a 0), .int p0, .int p1, .int p2, .int p3, .int p4] (vPre dC dI (wB a k σ) (tB k) sz)) (qBi dC dI a k (va_A (wB a k σ) sz) q) r (6 * r) (va_A (wB a k σ) sz))  {x1 : Int32} {x3 : Int32} {x4 : Int32} {x5 : Int32} {x6 : Int32} {x7 : Int32} {σ : ST} (h : f_X11_value_103 r_X11_items r_X11_parts r_X11_value x1 x3 x4 x5 x6 x7 σ = some (q, r)) (hκ : κ + r = T) : GkB p l e ({ frames := 6 + (nn + 1), cells := T, slots := 6 * T, locals := 129 + 29 * (nn + 1) } : Room) s m args below meth c (MQ below (qBi dC dI a k A q) args s T (6 * T) A) dC dI a k A 10 103 κ σ [(0, .ref (a 0)), (1, .int x1), (3, .int x3), (4, .int x4), (5, .int x5), (6, .int x6), (7, .int x7)] [] := by
  have hC0 := hC
  obtain ⟨hx, hb, hr, hml, hown, hts, hlocks, hA, hN, hK⟩ := hC0
  intro H locs ls hP hD hS hl
  have hD0 : ∀ σ1 : ST, va_D A (wB a k σ1) := fun σ1 => wB_D hD
  unfold f_X11_value_103 at h
  refine lv_iconst (v := 0) hx hb dX11_value_103 (by decide) ?_
  exact b_X11_value_104 hC hr_X11_items hr_X11_parts hr_X11_value h hκ _ _ _ hP hD hS (lv_sub hl [0, 1, 2, 3, 4, 5, 6] rfl)

set_option maxRecDepth 100000 in
set_option maxHeartbeats 4000000 in
theorem b_X11_value_42 {p : Program} {l : Launch} {e : Env} {s : State} {m : MethodId} {args : Array Value} {below : List Frame} {meth : Method} {c : Code} {dC : Nat → ClassId} {dI : Nat → Nat → Nat} {a : Nat → Nat} {k : Nat → ClassId} {A : Nat → Prop} {q : Int32 × ST} {T r κ : Nat} (hC : CxB p s m args meth c dC dI k A cX11_value RX11 (some .boolean) 10) {nn : Nat} {r_X11_items : Int32 → Int32 → Int32 → Int32 → ST → Option ((Int32 × ST) × Nat)} (hr_X11_items : ∀ {sz : Nat} {p0 : Int32} {p1 : Int32} {p2 : Int32} {p3 : Int32} {σ : ST} {q : Int32 × ST} {r : Nat}, r_X11_items  p0 p1 p2 p3 σ = some (q, r) → Met l yX11_items (.code yX11_items cX11_items 7 (some .boolean) :: pw) ({ frames := 6 + nn, cells := r, slots := 6 * r, locals := 129 + 29 * nn } : Room) (va_Pc [.ref (a 0), .int p0, .int p1, .int p2, .int p3] (vPre dC dI (wB a k σ) (tB k) sz)) (qBi dC dI a k (va_A (wB a k σ) sz) q) r (6 * r) (va_A (wB a k σ) sz)) {r_X11_parts : Int32 → Int32 → Int32 → Int32 → ST → Option ((Int32 × ST) × Nat)} (hr_X11_parts : ∀ {sz : Nat} {p0 : Int32} {p1 : Int32} {p2 : Int32} {p3 : Int32} {σ : ST} {q : Int32 × ST} {r : Nat}, r_X11_parts  p0 p1 p2 p3 σ = some (q, r) → Met l yX11_parts (.code yX11_parts cX11_parts 8 (some .boolean) :: pw) ({ frames := 6 + nn, cells := r, slots := 6 * r, locals := 129 + 29 * nn } : Room) (va_Pc [.ref (a 0), .int p0, .int p1, .int p2, .int p3] (vPre dC dI (wB a k σ) (tB k) sz)) (qBi dC dI a k (va_A (wB a k σ) sz) q) r (6 * r) (va_A (wB a k σ) sz)) {r_X11_value : Int32 → Int32 → Int32 → Int32 → Int32 → ST → Option ((Int32 × ST) × Nat)} (hr_X11_value : ∀ {sz : Nat} {p0 : Int32} {p1 : Int32} {p2 : Int32} {p3 : Int32} {p4 : Int32} {σ : ST} {q : Int32 × ST} {r : Nat}, r_X11_value  p0 p1 p2 p3 p4 σ = some (q, r) → Met l yX11_value (.code yX11_value cX11_value 10 (some .boolean) :: pw) ({ frames := 6 + nn, cells := r, slots := 6 * r, locals := 129 + 29 * nn } : Room) (va_Pc [.ref (a 0), .int p0, .int p1, .int p2, .int p3, .int p4] (vPre dC dI (wB a k σ) (tB k) sz)) (qBi dC dI a k (va_A (wB a k σ) sz) q) r (6 * r) (va_A (wB a k σ) sz))  {x1 : Int32} {x3 : Int32} {x4 : Int32} {x5 : Int32} {x6 : Int32} {y0 : Int32} {σ : ST} (h : f_X11_value_42 r_X11_items r_X11_parts r_X11_value x1 x3 x4 x5 x6 y0 σ = some (q, r)) (hκ : κ + r = T) : GkB p l e ({ frames := 6 + (nn + 1), cells := T, slots := 6 * T, locals := 129 + 29 * (nn + 1) } : Room) s m args below meth c (MQ below (qBi dC dI a k A q) args s T (6 * T) A) dC dI a k A 10 42 κ σ [(0, .ref (a 0)), (1, .int x1), (3, .int x3), (4, .int x4), (5, .int x5), (6, .int x6)] [.int y0] := by
  have hC0 := hC
  obtain ⟨hx, hb, hr, hml, hown, hts, hlocks, hA, hN, hK⟩ := hC0
  intro H locs ls hP hD hS hl
  have hD0 : ∀ σ1 : ST, va_D A (wB a k σ1) := fun σ1 => wB_D hD
  unfold f_X11_value_42 at h
  refine lv_istore (lv' := [(7, .int y0), (0, .ref (a 0)), (1, .int x1), (3, .int x3), (4, .int x4), (5, .int x5), (6, .int x6)]) hx hb dX11_value_42 hl (by decide) rfl (fun ls hl => ?_)
  refine lv_aload_n hx hb dX11_value_44 rfl (lv_at hl 1 rfl) ?_
  obtain ⟨q1, hc, h⟩ := ib h
  obtain ⟨r2, h, hz⟩ := acE h
  have hF := va_frees hD hS hA
  refine va_calli (va_runV (As := []) (rest := []) ⟨hx, hb, hml, hown, hts⟩ (s_X11_isValue (q := q1.1) (r := q1.2) hc) (cwV 0 hts (gV mw_34_8 mw_34_9 mw_34_10 mw_0_15 mw_55_16) rfl rfl rfl (by decide +kernel) ⟨by show 3 + 1 ≤ 6 + (nn + 1); omega, by show 8 + (1 + 11) + 69 ≤ 129 + 29 * (nn + 1); omega⟩) (vV (ci := 11) (q0 := 0) hK hP hD hN rfl gB_0) rfl rfl hl.1 rfl (lv_room (Nat.le_of_ble_eq_true rfl)) dX11_value_45 ⟨by show κ + q1.2 ≤ T; omega, by show 6 * κ + 6 * q1.2 ≤ 6 * T; omega⟩) hS (fun q _ h => hF q h) hF (fun r2 u t H locs ht hvm hw hB _ _ hS => ?_)
  obtain rfl : r2 = q1.1.1 := hw
  replace hκ : (κ + q1.2) + r2 = T := by omega
  clear hz
  refine W.widen (k := (κ + q1.2)) (n := 6 * (κ + q1.2)) (Nat.le_refl _) (by omega) ?_
  replace hP : va_P (dC, dI) vwCl (wB a k q1.1.2) H := by rw [← ht]; exact hB.1
  replace hD := hD0 (q1.1.2)
  clear hB hF
  refine lv_if_ne (tgt := 55) hx hb dX11_value_48 (by decide) (fun hc => ?_) (fun hc => ?_)
  · replace h := iq hc h
    refine lv_aload_n hx hb dX11_value_55 rfl (lv_at hl 1 rfl) ?_
    refine lv_iload hx hb dX11_value_56 (lv_at hl 0 rfl) ?_
    obtain ⟨q3, hc, h⟩ := ib h
    obtain ⟨r2, h, hz⟩ := acE h
    have hF := va_frees hD hS hA
    refine va_calli (va_runV (As := [.int y0]) (rest := []) ⟨hx, hb, hml, hown, hts⟩ (s_X11_fits (q := q3.1) (r := q3.2) hc) (cwV 1 hts (gV mw_32_7 mw_32_8 mw_32_9 mw_0_15 mw_54_24) rfl rfl rfl (by decide +kernel) ⟨by show 2 + 1 ≤ 6 + (nn + 1); omega, by show 8 + (2 + 11) + 49 ≤ 129 + 29 * (nn + 1); omega⟩) (vV (ci := 11) (q0 := 0) hK hP hD hN rfl gB_0) rfl rfl hl.1 rfl (lv_room (Nat.le_of_ble_eq_true rfl)) dX11_value_58 ⟨by show (κ + q1.2) + q3.2 ≤ T; omega, by show 6 * (κ + q1.2) + 6 * q3.2 ≤ 6 * T; omega⟩) hS (fun q _ h => hF q h) hF (fun r4 u t H locs ht hvm hw hB _ _ hS => ?_)
    obtain rfl : r4 = q3.1.1 := hw
    replace hκ : ((κ + q1.2) + q3.2) + r2 = T := by omega
    clear hz
    refine W.widen (k := ((κ + q1.2) + q3.2)) (n := 6 * ((κ + q1.2) + q3.2)) (Nat.le_refl _) (by omega) ?_
    replace hP : va_P (dC, dI) vwCl (wB a k q3.1.2) H := by rw [← ht]; exact hB.1
    replace hD := hD0 (q3.1.2)
    clear hB hF
    refine lv_if_ne (tgt := 68) hx hb dX11_value_61 (by decide) (fun hc => ?_) (fun hc => ?_)
    · replace h := iq hc h
      refine lv_iload_n hx hb dX11_value_68 rfl (lv_at hl 3 rfl) ?_
      refine lv_bipush (v := 31) hx hb dX11_value_69 (by decide) ?_
      refine lv_icmp_ge (tgt := 99) hx hb dX11_value_71 (by decide) (fun hc => ?_) (fun hc => ?_)
      · replace h := ip hc h
        exact b_X11_value_99 hC hr_X11_items hr_X11_parts hr_X11_value h hκ _ _ _ hP hD hS (lv_sub hl [1, 2, 3, 4, 5, 6, 0] rfl)
      · replace h := iq hc h
        refine lv_iload hx hb dX11_value_74 (lv_at hl 5 rfl) ?_
        refine lv_sipush (v := 200) hx hb dX11_value_76 (by decide) ?_
        refine lv_icmp_lt (tgt := 103) hx hb dX11_value_79 (by decide) (fun hc => ?_) (fun hc => ?_)
        · replace h := ip hc h
          exact b_X11_value_103 hC hr_X11_items hr_X11_parts hr_X11_value h hκ _ _ _ hP hD hS (lv_sub hl [1, 2, 3, 4, 5, 6, 0] rfl)
        · replace h := iq hc h
          refine lv_iload hx hb dX11_value_82 (lv_at hl 4 rfl) ?_
          refine lv_if_lt (tgt := 103) hx hb dX11_value_84 (by decide) (fun hc => ?_) (fun hc => ?_)
          · replace h := ip hc h
            exact b_X11_value_103 hC hr_X11_items hr_X11_parts hr_X11_value h hκ _ _ _ hP hD hS (lv_sub hl [1, 2, 3, 4, 5, 6, 0] rfl)
          · replace h := iq hc h
            refine lv_aload_n hx hb dX11_value_87 rfl (lv_at hl 1 rfl) ?_
            refine va_get (D := (dC, dI)) (ci := 11) (C := RX11) (T := TX11) (N := 95) hx hb hts inlX11 hown hK hP 0 gB_0 rfl 35 (by decide) (hts (.fieldLink RX11 70 "ShapeReaderModel" "nodeSort" "[I") mw_27_16) (fun _ h9 => h9) rfl dX11_value_88 ?_
            refine lv_iload hx hb dX11_value_91 (lv_at hl 4 rfl) ?_
            obtain ⟨hg5, h⟩ := ig h
            refine va_iald hx hb hK hP 20 19 gB_20 yB_20 (vp_in_iff.mpr hg5) dX11_value_93 ?_
            refine lv_bipush (v := 6) hx hb dX11_value_94 (by decide) ?_
            refine lv_icmp_ne (tgt := 103) hx hb dX11_value_96 (by decide) (fun hc => ?_) (fun hc => ?_)
            · replace h := iq hc h
              exact b_X11_value_103 hC hr_X11_items hr_X11_parts hr_X11_value h hκ _ _ _ hP hD hS (lv_sub hl [1, 2, 3, 4, 5, 6, 0] rfl)
            · replace h := ip hc h
              exact b_X11_value_99 hC hr_X11_items hr_X11_parts hr_X11_value h hκ _ _ _ hP hD hS (lv_sub hl [1, 2, 3, 4, 5, 6, 0] rfl)
    · replace h := ip hc h
      refine lv_iconst (v := 2) hx hb dX11_value_64 (by decide) ?_
      refine lv_goto (tgt := 104) hx hb dX11_value_65 (by decide) ?_
      exact b_X11_value_104 hC hr_X11_items hr_X11_parts hr_X11_value h hκ _ _ _ hP hD hS (lv_sub hl [1, 2, 3, 4, 5, 6, 0] rfl)
  · replace h := ip hc h
    refine lv_iconst (v := 1) hx hb dX11_value_51 (by decide) ?_
    refine lv_goto (tgt := 104) hx hb dX11_value_52 (by decide) ?_
    exact b_X11_value_104 hC hr_X11_items hr_X11_parts hr_X11_value h hκ _ _ _ hP hD hS (lv_sub hl [1, 2, 3, 4, 5, 6, 0] rfl)

set_option maxRecDepth 100000 in
set_option maxHeartbeats 4000000 in
theorem b_X11_value_20 {p : Program} {l : Launch} {e : Env} {s : State} {m : MethodId} {args : Array Value} {below : List Frame} {meth : Method} {c : Code} {dC : Nat → ClassId} {dI : Nat → Nat → Nat} {a : Nat → Nat} {k : Nat → ClassId} {A : Nat → Prop} {q : Int32 × ST} {T r κ : Nat} (hC : CxB p s m args meth c dC dI k A cX11_value RX11 (some .boolean) 10) {nn : Nat} {r_X11_items : Int32 → Int32 → Int32 → Int32 → ST → Option ((Int32 × ST) × Nat)} (hr_X11_items : ∀ {sz : Nat} {p0 : Int32} {p1 : Int32} {p2 : Int32} {p3 : Int32} {σ : ST} {q : Int32 × ST} {r : Nat}, r_X11_items  p0 p1 p2 p3 σ = some (q, r) → Met l yX11_items (.code yX11_items cX11_items 7 (some .boolean) :: pw) ({ frames := 6 + nn, cells := r, slots := 6 * r, locals := 129 + 29 * nn } : Room) (va_Pc [.ref (a 0), .int p0, .int p1, .int p2, .int p3] (vPre dC dI (wB a k σ) (tB k) sz)) (qBi dC dI a k (va_A (wB a k σ) sz) q) r (6 * r) (va_A (wB a k σ) sz)) {r_X11_parts : Int32 → Int32 → Int32 → Int32 → ST → Option ((Int32 × ST) × Nat)} (hr_X11_parts : ∀ {sz : Nat} {p0 : Int32} {p1 : Int32} {p2 : Int32} {p3 : Int32} {σ : ST} {q : Int32 × ST} {r : Nat}, r_X11_parts  p0 p1 p2 p3 σ = some (q, r) → Met l yX11_parts (.code yX11_parts cX11_parts 8 (some .boolean) :: pw) ({ frames := 6 + nn, cells := r, slots := 6 * r, locals := 129 + 29 * nn } : Room) (va_Pc [.ref (a 0), .int p0, .int p1, .int p2, .int p3] (vPre dC dI (wB a k σ) (tB k) sz)) (qBi dC dI a k (va_A (wB a k σ) sz) q) r (6 * r) (va_A (wB a k σ) sz)) {r_X11_value : Int32 → Int32 → Int32 → Int32 → Int32 → ST → Option ((Int32 × ST) × Nat)} (hr_X11_value : ∀ {sz : Nat} {p0 : Int32} {p1 : Int32} {p2 : Int32} {p3 : Int32} {p4 : Int32} {σ : ST} {q : Int32 × ST} {r : Nat}, r_X11_value  p0 p1 p2 p3 p4 σ = some (q, r) → Met l yX11_value (.code yX11_value cX11_value 10 (some .boolean) :: pw) ({ frames := 6 + nn, cells := r, slots := 6 * r, locals := 129 + 29 * nn } : Room) (va_Pc [.ref (a 0), .int p0, .int p1, .int p2, .int p3, .int p4] (vPre dC dI (wB a k σ) (tB k) sz)) (qBi dC dI a k (va_A (wB a k σ) sz) q) r (6 * r) (va_A (wB a k σ) sz))  {x1 : Int32} {x2 : Int32} {x3 : Int32} {x4 : Int32} {x5 : Int32} {y0 : Int32} {σ : ST} (h : f_X11_value_20 r_X11_items r_X11_parts r_X11_value x1 x2 x3 x4 x5 y0 σ = some (q, r)) (hκ : κ + r = T) : GkB p l e ({ frames := 6 + (nn + 1), cells := T, slots := 6 * T, locals := 129 + 29 * (nn + 1) } : Room) s m args below meth c (MQ below (qBi dC dI a k A q) args s T (6 * T) A) dC dI a k A 10 20 κ σ [(0, .ref (a 0)), (1, .int x1), (2, .int x2), (3, .int x3), (4, .int x4), (5, .int x5)] [.int y0] := by
  have hC0 := hC
  obtain ⟨hx, hb, hr, hml, hown, hts, hlocks, hA, hN, hK⟩ := hC0
  intro H locs ls hP hD hS hl
  have hD0 : ∀ σ1 : ST, va_D A (wB a k σ1) := fun σ1 => wB_D hD
  unfold f_X11_value_20 at h
  refine lv_istore (lv' := [(6, .int y0), (0, .ref (a 0)), (1, .int x1), (2, .int x2), (3, .int x3), (4, .int x4), (5, .int x5)]) hx hb dX11_value_20 hl (by decide) rfl (fun ls hl => ?_)
  refine lv_iload hx hb dX11_value_22 (lv_at hl 0 rfl) ?_
  refine lv_if_ge (tgt := 31) hx hb dX11_value_24 (by decide) (fun hc => ?_) (fun hc => ?_)
  · replace h := ip hc h
    refine lv_aload_n hx hb dX11_value_31 rfl (lv_at hl 1 rfl) ?_
    refine va_get (D := (dC, dI)) (ci := 11) (C := RX11) (T := TX11) (N := 95) hx hb hts inlX11 hown hK hP 0 gB_0 rfl 17 (by decide) (hts (.fieldLink RX11 23 "ShapeReaderModel" "branch" "[I") mw_27_1) (fun _ h9 => h9) rfl dX11_value_32 ?_
    refine lv_iconst (v := 4) hx hb dX11_value_35 (by decide) ?_
    refine lv_iload_n hx hb dX11_value_36 rfl (lv_at hl 3 rfl) ?_
    refine lv_imul hx hb dX11_value_37 ?_
    refine lv_iload hx hb dX11_value_38 (lv_at hl 0 rfl) ?_
    refine lv_iadd hx hb dX11_value_40 ?_
    obtain ⟨hg1, h⟩ := ig h
    refine va_iald hx hb hK hP 5 4 gB_5 yB_5 (vp_in_iff.mpr hg1) dX11_value_41 ?_
    exact b_X11_value_42 hC hr_X11_items hr_X11_parts hr_X11_value h hκ _ _ _ hP hD hS (lv_sub hl [1, 2, 4, 5, 6, 0] rfl)
  · replace h := iq hc h
    refine lv_iload_n hx hb dX11_value_27 rfl (lv_at hl 3 rfl) ?_
    refine lv_goto (tgt := 42) hx hb dX11_value_28 (by decide) ?_
    exact b_X11_value_42 hC hr_X11_items hr_X11_parts hr_X11_value h hκ _ _ _ hP hD hS (lv_sub hl [1, 2, 4, 5, 6, 0] rfl)

set_option maxRecDepth 100000 in
set_option maxHeartbeats 4000000 in
theorem b_X11_value_e {p : Program} {l : Launch} {e : Env} {s : State} {m : MethodId} {args : Array Value} {below : List Frame} {meth : Method} {c : Code} {dC : Nat → ClassId} {dI : Nat → Nat → Nat} {a : Nat → Nat} {k : Nat → ClassId} {A : Nat → Prop} {q : Int32 × ST} {T r : Nat} (hC : CxB p s m args meth c dC dI k A cX11_value RX11 (some .boolean) 10) {nn : Nat} {r_X11_items : Int32 → Int32 → Int32 → Int32 → ST → Option ((Int32 × ST) × Nat)} (hr_X11_items : ∀ {sz : Nat} {p0 : Int32} {p1 : Int32} {p2 : Int32} {p3 : Int32} {σ : ST} {q : Int32 × ST} {r : Nat}, r_X11_items  p0 p1 p2 p3 σ = some (q, r) → Met l yX11_items (.code yX11_items cX11_items 7 (some .boolean) :: pw) ({ frames := 6 + nn, cells := r, slots := 6 * r, locals := 129 + 29 * nn } : Room) (va_Pc [.ref (a 0), .int p0, .int p1, .int p2, .int p3] (vPre dC dI (wB a k σ) (tB k) sz)) (qBi dC dI a k (va_A (wB a k σ) sz) q) r (6 * r) (va_A (wB a k σ) sz)) {r_X11_parts : Int32 → Int32 → Int32 → Int32 → ST → Option ((Int32 × ST) × Nat)} (hr_X11_parts : ∀ {sz : Nat} {p0 : Int32} {p1 : Int32} {p2 : Int32} {p3 : Int32} {σ : ST} {q : Int32 × ST} {r : Nat}, r_X11_parts  p0 p1 p2 p3 σ = some (q, r) → Met l yX11_parts (.code yX11_parts cX11_parts 8 (some .boolean) :: pw) ({ frames := 6 + nn, cells := r, slots := 6 * r, locals := 129 + 29 * nn } : Room) (va_Pc [.ref (a 0), .int p0, .int p1, .int p2, .int p3] (vPre dC dI (wB a k σ) (tB k) sz)) (qBi dC dI a k (va_A (wB a k σ) sz) q) r (6 * r) (va_A (wB a k σ) sz)) {r_X11_value : Int32 → Int32 → Int32 → Int32 → Int32 → ST → Option ((Int32 × ST) × Nat)} (hr_X11_value : ∀ {sz : Nat} {p0 : Int32} {p1 : Int32} {p2 : Int32} {p3 : Int32} {p4 : Int32} {σ : ST} {q : Int32 × ST} {r : Nat}, r_X11_value  p0 p1 p2 p3 p4 σ = some (q, r) → Met l yX11_value (.code yX11_value cX11_value 10 (some .boolean) :: pw) ({ frames := 6 + nn, cells := r, slots := 6 * r, locals := 129 + 29 * nn } : Room) (va_Pc [.ref (a 0), .int p0, .int p1, .int p2, .int p3, .int p4] (vPre dC dI (wB a k σ) (tB k) sz)) (qBi dC dI a k (va_A (wB a k σ) sz) q) r (6 * r) (va_A (wB a k σ) sz))  {p0 : Int32} {p1 : Int32} {p2 : Int32} {p3 : Int32} {p4 : Int32} {σ : ST} (h : f_X11_value r_X11_items r_X11_parts r_X11_value p0 p1 p2 p3 p4 σ = some (q, r)) (hκ : 0 + r = T) : GkB p l e ({ frames := 6 + (nn + 1), cells := T, slots := 6 * T, locals := 129 + 29 * (nn + 1) } : Room) s m args below meth c (MQ below (qBi dC dI a k A q) args s T (6 * T) A) dC dI a k A 10 0 0 σ (lv_args 0 [.ref (a 0), .int p0, .int p1, .int p2, .int p3, .int p4]) [] := by
  have hC0 := hC
  obtain ⟨hx, hb, hr, hml, hown, hts, hlocks, hA, hN, hK⟩ := hC0
  intro H locs ls hP hD hS hl
  have hD0 : ∀ σ1 : ST, va_D A (wB a k σ1) := fun σ1 => wB_D hD
  replace hl : lv_has ls 10 [(0, .ref (a 0)), (1, .int p0), (2, .int p1), (3, .int p2), (4, .int p3), (5, .int p4)] := hl
  unfold f_X11_value at h
  refine lv_aload_n hx hb dX11_value_0 rfl (lv_at hl 0 rfl) ?_
  refine va_get (D := (dC, dI)) (ci := 11) (C := RX11) (T := TX11) (N := 95) hx hb hts inlX11 hown hK hP 0 gB_0 rfl 14 (by decide) (hts (.fieldLink RX11 13 "ShapeReaderModel" "typeSort" "[I") mw_26_28) (fun _ h9 => h9) rfl dX11_value_1 ?_
  refine lv_iload_n hx hb dX11_value_4 rfl (lv_at hl 2 rfl) ?_
  obtain ⟨hg1, h⟩ := ig h
  refine va_iald hx hb hK hP 2 1 gB_2 yB_2 (vp_in_iff.mpr hg1) dX11_value_5 ?_
  refine lv_bipush (v := 8) hx hb dX11_value_6 (by decide) ?_
  refine lv_icmp_ne (tgt := 19) hx hb dX11_value_8 (by decide) (fun hc => ?_) (fun hc => ?_)
  · replace h := iq hc h
    refine lv_iconst (v := (-1)) hx hb dX11_value_19 (by decide) ?_
    exact b_X11_value_20 hC hr_X11_items hr_X11_parts hr_X11_value h hκ _ _ _ hP hD hS (lv_sub hl [0, 1, 2, 3, 4, 5] rfl)
  · replace h := ip hc h
    refine lv_aload_n hx hb dX11_value_11 rfl (lv_at hl 0 rfl) ?_
    refine lv_iload_n hx hb dX11_value_12 rfl (lv_at hl 2 rfl) ?_
    obtain ⟨q2, hc, h⟩ := ib h
    obtain ⟨r2, h, hz⟩ := acE h
    have hF := va_frees hD hS hA
    refine va_calli (va_runV (As := [.int p1]) (rest := []) ⟨hx, hb, hml, hown, hts⟩ (s_X11_branchFor (q := q2.1) (r := q2.2) hc) (cwV 1 hts (gV mw_34_5 mw_34_6 mw_34_7 mw_0_15 mw_55_17) rfl rfl rfl (by decide +kernel) ⟨by show 3 + 1 ≤ 6 + (nn + 1); omega, by show 8 + (3 + 11) + 70 ≤ 129 + 29 * (nn + 1); omega⟩) (vV (ci := 11) (q0 := 0) hK hP hD hN rfl gB_0) rfl rfl hl.1 rfl (lv_room (Nat.le_of_ble_eq_true rfl)) dX11_value_13 ⟨by show 0 + q2.2 ≤ T; omega, by show 6 * 0 + 6 * q2.2 ≤ 6 * T; omega⟩) hS (fun q _ h => hF q h) hF (fun r3 u t H locs ht hvm hw hB _ _ hS => ?_)
    obtain rfl : r3 = q2.1.1 := hw
    replace hκ : (0 + q2.2) + r2 = T := by omega
    clear hz
    refine W.widen (k := (0 + q2.2)) (n := 6 * (0 + q2.2)) (Nat.le_refl _) (by omega) ?_
    replace hP : va_P (dC, dI) vwCl (wB a k q2.1.2) H := by rw [← ht]; exact hB.1
    replace hD := hD0 (q2.1.2)
    clear hB hF
    refine lv_goto (tgt := 20) hx hb dX11_value_16 (by decide) ?_
    exact b_X11_value_20 hC hr_X11_items hr_X11_parts hr_X11_value h hκ _ _ _ hP hD hS (lv_sub hl [0, 1, 2, 3, 4, 5] rfl)


set_option maxRecDepth 100000 in
set_option maxHeartbeats 4000000 in
theorem s_R_X11_items {l : Launch} {dC : Nat → ClassId} {dI : Nat → Nat → Nat} {a : Nat → Nat} {k : Nat → ClassId} : ∀ n : Nat, (∀ {sz : Nat} {p0 : Int32} {p1 : Int32} {p2 : Int32} {p3 : Int32} {σ : ST} {q : Int32 × ST} {r : Nat}, (R_X11_items n).1 p0 p1 p2 p3 σ = some (q, r) → Met l yX11_items (.code yX11_items cX11_items 7 (some .boolean) :: pw) ({ frames := 6 + n, cells := r, slots := 6 * r, locals := 129 + 29 * n } : Room) (va_Pc [.ref (a 0), .int p0, .int p1, .int p2, .int p3] (vPre dC dI (wB a k σ) (tB k) sz)) (qBi dC dI a k (va_A (wB a k σ) sz) q) r (6 * r) (va_A (wB a k σ) sz)) ∧ (∀ {sz : Nat} {p0 : Int32} {p1 : Int32} {p2 : Int32} {p3 : Int32} {σ : ST} {q : Int32 × ST} {r : Nat}, (R_X11_items n).2.1 p0 p1 p2 p3 σ = some (q, r) → Met l yX11_parts (.code yX11_parts cX11_parts 8 (some .boolean) :: pw) ({ frames := 6 + n, cells := r, slots := 6 * r, locals := 129 + 29 * n } : Room) (va_Pc [.ref (a 0), .int p0, .int p1, .int p2, .int p3] (vPre dC dI (wB a k σ) (tB k) sz)) (qBi dC dI a k (va_A (wB a k σ) sz) q) r (6 * r) (va_A (wB a k σ) sz)) ∧ (∀ {sz : Nat} {p0 : Int32} {p1 : Int32} {p2 : Int32} {p3 : Int32} {p4 : Int32} {σ : ST} {q : Int32 × ST} {r : Nat}, (R_X11_items n).2.2 p0 p1 p2 p3 p4 σ = some (q, r) → Met l yX11_value (.code yX11_value cX11_value 10 (some .boolean) :: pw) ({ frames := 6 + n, cells := r, slots := 6 * r, locals := 129 + 29 * n } : Room) (va_Pc [.ref (a 0), .int p0, .int p1, .int p2, .int p3, .int p4] (vPre dC dI (wB a k σ) (tB k) sz)) (qBi dC dI a k (va_A (wB a k σ) sz) q) r (6 * r) (va_A (wB a k σ) sz)) := by
  intro n
  induction n with
  | zero => exact ⟨(fun h => nomatch h), (fun h => nomatch h), (fun h => nomatch h)⟩
  | succ n ih => exact ⟨(fun h => mekB (fun A => qBi dC dI a k A _) (plainFor_of_name (by decide)) (Nat.le_of_ble_eq_true rfl) (fun _ _ _ _ _ _ _ _ hC => b_X11_items_e hC ih.1 ih.2.1 ih.2.2 h (Nat.zero_add _))), (fun h => mekB (fun A => qBi dC dI a k A _) (plainFor_of_name (by decide)) (Nat.le_of_ble_eq_true rfl) (fun _ _ _ _ _ _ _ _ hC => b_X11_parts_e hC ih.1 ih.2.1 ih.2.2 h (Nat.zero_add _))), (fun h => mekB (fun A => qBi dC dI a k A _) (plainFor_of_name (by decide)) (Nat.le_of_ble_eq_true rfl) (fun _ _ _ _ _ _ _ _ hC => b_X11_value_e hC ih.1 ih.2.1 ih.2.2 h (Nat.zero_add _)))⟩
theorem s_X11_items {l : Launch} {dC : Nat → ClassId} {dI : Nat → Nat → Nat} {a : Nat → Nat} {k : Nat → ClassId} {sz : Nat} {p0 : Int32} {p1 : Int32} {p2 : Int32} {p3 : Int32} {σ : ST} {q : Int32 × ST} {r : Nat} (h : f_T_X11_items p0 p1 p2 p3 σ = some (q, r)) : Met l yX11_items (.code yX11_items cX11_items 7 (some .boolean) :: pw) ({ frames := 346, cells := r, slots := 6 * r, locals := 9989 } : Room) (va_Pc [.ref (a 0), .int p0, .int p1, .int p2, .int p3] (vPre dC dI (wB a k σ) (tB k) sz)) (qBi dC dI a k (va_A (wB a k σ) sz) q) r (6 * r) (va_A (wB a k σ) sz) := (s_R_X11_items FRB).1 h
theorem s_X11_parts {l : Launch} {dC : Nat → ClassId} {dI : Nat → Nat → Nat} {a : Nat → Nat} {k : Nat → ClassId} {sz : Nat} {p0 : Int32} {p1 : Int32} {p2 : Int32} {p3 : Int32} {σ : ST} {q : Int32 × ST} {r : Nat} (h : f_T_X11_parts p0 p1 p2 p3 σ = some (q, r)) : Met l yX11_parts (.code yX11_parts cX11_parts 8 (some .boolean) :: pw) ({ frames := 346, cells := r, slots := 6 * r, locals := 9989 } : Room) (va_Pc [.ref (a 0), .int p0, .int p1, .int p2, .int p3] (vPre dC dI (wB a k σ) (tB k) sz)) (qBi dC dI a k (va_A (wB a k σ) sz) q) r (6 * r) (va_A (wB a k σ) sz) := (s_R_X11_items FRB).2.1 h
theorem s_X11_value {l : Launch} {dC : Nat → ClassId} {dI : Nat → Nat → Nat} {a : Nat → Nat} {k : Nat → ClassId} {sz : Nat} {p0 : Int32} {p1 : Int32} {p2 : Int32} {p3 : Int32} {p4 : Int32} {σ : ST} {q : Int32 × ST} {r : Nat} (h : f_T_X11_value p0 p1 p2 p3 p4 σ = some (q, r)) : Met l yX11_value (.code yX11_value cX11_value 10 (some .boolean) :: pw) ({ frames := 346, cells := r, slots := 6 * r, locals := 9989 } : Room) (va_Pc [.ref (a 0), .int p0, .int p1, .int p2, .int p3, .int p4] (vPre dC dI (wB a k σ) (tB k) sz)) (qBi dC dI a k (va_A (wB a k σ) sz) q) r (6 * r) (va_A (wB a k σ) sz) := (s_R_X11_items FRB).2.2 h

def f_X11_kept (p0 : Int32) (σ : ST) : Option (Int32 × ST) := if p0 = (-1) then (some (((stI σ 0 0 0).1 0 92), (stI σ 0 0 0))) else ((f_X11_within  (p0.toInt64) 0 ((((stI σ 0 0 0).1 0 92) - 1).toInt64) (stI σ 0 0 0)).bind fun q1 => if q1.1 = 0 then (some ((-1), q1.2)) else (if 0 ≤ p0.toInt ∧ p0.toInt < 4 then (some ((q1.2.1 55 p0.toNatClampNeg), q1.2)) else none))

set_option maxRecDepth 100000 in
set_option maxHeartbeats 4000000 in
theorem b_X11_kept_e {p : Program} {l : Launch} {e : Env} {s : State} {m : MethodId} {args : Array Value} {below : List Frame} {meth : Method} {c : Code} {dC : Nat → ClassId} {dI : Nat → Nat → Nat} {a : Nat → Nat} {k : Nat → ClassId} {A : Nat → Prop} {q : Int32 × ST} (hC : CxB p s m args meth c dC dI k A cX11_kept RX11 (some .int) 2)   {p0 : Int32} {σ : ST} (h : f_X11_kept  p0 σ = some q) : GoB p l e ({ frames := 1, cells := 0, slots := 0, locals := 25 } : Room) s m args below meth c (MQ below (qBi dC dI a k A q) args s 0 0 A) dC dI a k A 2 0 σ (lv_args 0 [.ref (a 0), .int p0]) [] := by
  have hC0 := hC
  obtain ⟨hx, hb, hr, hml, hown, hts, hlocks, hA, hN, hK⟩ := hC0
  intro H locs ls hP hD hS hl
  have hD0 : ∀ σ1 : ST, va_D A (wB a k σ1) := fun σ1 => wB_D hD
  replace hl : lv_has ls 2 [(0, .ref (a 0)), (1, .int p0)] := hl
  unfold f_X11_kept at h
  refine lv_aload_n hx hb dX11_kept_0 rfl (lv_at hl 0 rfl) ?_
  refine lv_iconst (v := 0) hx hb dX11_kept_1 (by decide) ?_
  refine va_put (D := (dC, dI)) (ci := 11) (ty := .int) (C := RX11) (T := TX11) (N := 95) hx hb hts inlX11 tyX11 tyX11_ok nmX11 hown hK hP hD hS 0 gB_0 rfl 0 (by decide) (hts (.fieldLink RX11 178 "ShapeReaderModel" "thrown" "I") mw_28_22) (fun _ h9 => h9) rfl (by decide +kernel) rfl rfl (Nat.le_of_ble_eq_true rfl) dX11_kept_2 (fun H locs hP hD hS => ?_)
  replace hP := uB_0_0 hP
  replace hD := hD0 ((stI σ 0 0 0))
  refine lv_iload_n hx hb dX11_kept_5 rfl (lv_at hl 1 rfl) ?_
  refine lv_iconst (v := (-1)) hx hb dX11_kept_6 (by decide) ?_
  refine lv_icmp_ne (tgt := 17) hx hb dX11_kept_7 (by decide) (fun hc => ?_) (fun hc => ?_)
  · replace h := iq hc h
    refine lv_iload_n hx hb dX11_kept_17 rfl (lv_at hl 1 rfl) ?_
    refine lv_i2l (v := p0.toInt64) hx hb dX11_kept_18 rfl ?_
    refine lv_lconst (v := 0) hx hb dX11_kept_19 (by decide) ?_
    refine lv_aload_n hx hb dX11_kept_20 rfl (lv_at hl 0 rfl) ?_
    refine va_get (D := (dC, dI)) (ci := 11) (C := RX11) (T := TX11) (N := 95) hx hb hts inlX11 hown hK hP 0 gB_0 rfl 92 (by decide) (hts (.fieldLink RX11 398 "ShapeReaderModel" "keptMany" "I") mw_33_19) (fun _ h9 => h9) rfl dX11_kept_21 ?_
    refine lv_iconst (v := 1) hx hb dX11_kept_24 (by decide) ?_
    refine lv_isub hx hb dX11_kept_25 ?_
    refine lv_i2l (v := (((stI σ 0 0 0).1 0 92) - 1).toInt64) hx hb dX11_kept_26 rfl ?_
    obtain ⟨q1, hc, h⟩ := ib h
    have hF := va_frees hD hS hA
    refine va_calli (va_runS (As := [.long (p0.toInt64), .long 0, .long ((((stI σ 0 0 0).1 0 92) - 1).toInt64)]) (rest := []) ⟨hx, hb, hml, hown, hts⟩ (s_X11_within hc) (va_cwS 3 hts (gS mw_29_0 mw_29_1 mw_0_15 mw_53_26) rfl rfl rfl (by decide +kernel) ⟨(Nat.le_of_ble_eq_true rfl), (Nat.le_of_ble_eq_true rfl)⟩) (vS hK hP hD hN) rfl rfl hl.1 rfl (lv_room (Nat.le_of_ble_eq_true rfl)) dX11_kept_27 ⟨(Nat.le_of_ble_eq_true rfl), (Nat.le_of_ble_eq_true rfl)⟩) hS (fun q _ h => hF q h) hF (fun r2 u t H locs ht hvm hw hB _ _ hS => ?_)
    obtain rfl : r2 = q1.1 := hw
    replace hP : va_P (dC, dI) vwCl (wB a k q1.2) H := by rw [← ht]; exact hB.1
    replace hD := hD0 (q1.2)
    clear hB hF
    refine lv_if_eq (tgt := 42) hx hb dX11_kept_30 (by decide) (fun hc => ?_) (fun hc => ?_)
    · replace h := ip hc h
      refine lv_iconst (v := (-1)) hx hb dX11_kept_42 (by decide) ?_
      obtain rfl := Option.some.inj h
      exact W.iret hx hb hr (fun t ht hW => ⟨⟨_, (), rfl, rfl, ⟨by rw [ht]; exact hP, va_K.moved hW.alike hK, hD⟩⟩, hS.F ht⟩) hS.2.2 dX11_kept_43
    · replace h := iq hc h
      refine lv_aload_n hx hb dX11_kept_33 rfl (lv_at hl 0 rfl) ?_
      refine va_get (D := (dC, dI)) (ci := 11) (C := RX11) (T := TX11) (N := 95) hx hb hts inlX11 hown hK hP 0 gB_0 rfl 91 (by decide) (hts (.fieldLink RX11 175 "ShapeReaderModel" "keptPair" "[I") mw_28_21) (fun _ h9 => h9) rfl dX11_kept_34 ?_
      refine lv_iload_n hx hb dX11_kept_37 rfl (lv_at hl 1 rfl) ?_
      obtain ⟨hg3, h⟩ := ig h
      refine va_iald hx hb hK hP 55 54 gB_55 yB_55 (vp_in_iff.mpr hg3) dX11_kept_38 ?_
      refine lv_goto (tgt := 43) hx hb dX11_kept_39 (by decide) ?_
      obtain rfl := Option.some.inj h
      exact W.iret hx hb hr (fun t ht hW => ⟨⟨_, (), rfl, rfl, ⟨by rw [ht]; exact hP, va_K.moved hW.alike hK, hD⟩⟩, hS.F ht⟩) hS.2.2 dX11_kept_43
  · replace h := ip hc h
    refine lv_aload_n hx hb dX11_kept_10 rfl (lv_at hl 0 rfl) ?_
    refine va_get (D := (dC, dI)) (ci := 11) (C := RX11) (T := TX11) (N := 95) hx hb hts inlX11 hown hK hP 0 gB_0 rfl 92 (by decide) (hts (.fieldLink RX11 398 "ShapeReaderModel" "keptMany" "I") mw_33_19) (fun _ h9 => h9) rfl dX11_kept_11 ?_
    refine lv_goto (tgt := 43) hx hb dX11_kept_14 (by decide) ?_
    obtain rfl := Option.some.inj h
    exact W.iret hx hb hr (fun t ht hW => ⟨⟨_, (), rfl, rfl, ⟨by rw [ht]; exact hP, va_K.moved hW.alike hK, hD⟩⟩, hS.F ht⟩) hS.2.2 dX11_kept_43

theorem s_X11_kept {l : Launch} {dC : Nat → ClassId} {dI : Nat → Nat → Nat} {a : Nat → Nat} {k : Nat → ClassId} {sz : Nat} {p0 : Int32} {σ : ST} {q : Int32 × ST} (h : f_X11_kept  p0 σ = some q) : Met l yX11_kept (.code yX11_kept cX11_kept 2 (some .int) :: pw) ({ frames := 1, cells := 0, slots := 0, locals := 25 } : Room) (va_Pc [.ref (a 0), .int p0] (vPre dC dI (wB a k σ) (tB k) sz)) (qBi dC dI a k (va_A (wB a k σ) sz) q) 0 0 (va_A (wB a k σ) sz) := metB (fun A => qBi dC dI a k A q) (plainFor_of_name (by decide)) (Nat.le_of_ble_eq_true rfl) (fun _ _ _ _ _ _ _ _ hC => b_X11_kept_e hC h)
