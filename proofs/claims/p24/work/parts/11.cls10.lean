theorem dX7_clear_0 : decode cX7_clear 0 = .ok (.aload_n 0, 1) := by decide +kernel
theorem dX7_clear_1 : decode cX7_clear 1 = .ok (.iconst 0, 1) := by decide +kernel
theorem dX7_clear_2 : decode cX7_clear 2 = .ok (.putfield 9, 3) := by decide +kernel
theorem dX7_clear_5 : decode cX7_clear 5 = .ok (.return_, 1) := by decide +kernel
def f_X4_take_140 (r_X4_take : Nat → Nat → Int32 → Int32 → Int32 → Int32 → Int32 → ST → Option (ST)) (r_X4_takeField : Nat → Nat → Int32 → Int32 → Int32 → Int32 → Int32 → ST → Option (ST)) (r_X4_takeList : Nat → Nat → Int32 → Int32 → Int32 → Int32 → Int32 → ST → Option (ST)) (r_X4_takeOwn : Nat → Nat → Int32 → Int32 → Int32 → Int32 → Int32 → ST → Option (ST)) (r_X4_takeRecord : Nat → Nat → Int32 → Int32 → Int32 → Int32 → Int32 → ST → Option (ST)) (b : Nat) (t : Nat) (x2 : Int32) (x3 : Int32) (x4 : Int32) (x5 : Int32) (x8 : Int32) (σ : ST) : Option (ST) := (r_X4_takeOwn b t x8 x2 x3 x4 x5 σ).bind fun q1 => (f_X4_stepBack b t  q1).bind fun q3 => some q3
def f_X4_take_34 (r_X4_take : Nat → Nat → Int32 → Int32 → Int32 → Int32 → Int32 → ST → Option (ST)) (r_X4_takeField : Nat → Nat → Int32 → Int32 → Int32 → Int32 → Int32 → ST → Option (ST)) (r_X4_takeList : Nat → Nat → Int32 → Int32 → Int32 → Int32 → Int32 → ST → Option (ST)) (r_X4_takeOwn : Nat → Nat → Int32 → Int32 → Int32 → Int32 → Int32 → ST → Option (ST)) (r_X4_takeRecord : Nat → Nat → Int32 → Int32 → Int32 → Int32 → Int32 → ST → Option (ST)) (b : Nat) (t : Nat) (x1 : Int32) (x2 : Int32) (x3 : Int32) (x4 : Int32) (x5 : Int32) (σ : ST) : Option (ST) := (f_X5_sortOf 4 x1 σ).bind fun q1 => if q1.1 = 8 then ((f_X5_branchesOf 4 x1 q1.2).bind fun q3 => (f_X4_takeCount b t (q1.2.1 b 5) (q3.1 - 1) q3.2).bind fun q5 => if (q5.2.1 b 7) = 0 then ((f_X5_branchOf 4 x1 q5.1 q5.2).bind fun q7 => (f_X4_step b t (200 + q5.1) q7.2).bind fun q9 => if x2 = (-1) then (f_X4_take_140 r_X4_take r_X4_takeField r_X4_takeList r_X4_takeOwn r_X4_takeRecord b t x2 x3 x4 x5 q7.1 q9) else ((f_X0_fits  q7.1 x2 q9).bind fun q11 => if q11.1 = 0 then ((f_X4_fail b t 13 (q1.2.1 b 5) q11.2).bind fun q13 => some q13) else (f_X4_take_140 r_X4_take r_X4_takeField r_X4_takeList r_X4_takeOwn r_X4_takeRecord b t x2 x3 x4 x5 q7.1 q11.2))) else (some q5.2)) else ((r_X4_takeOwn b t x1 x2 x3 x4 x5 q1.2).bind fun q15 => some q15)
def f_X4_take (r_X4_take : Nat → Nat → Int32 → Int32 → Int32 → Int32 → Int32 → ST → Option (ST)) (r_X4_takeField : Nat → Nat → Int32 → Int32 → Int32 → Int32 → Int32 → ST → Option (ST)) (r_X4_takeList : Nat → Nat → Int32 → Int32 → Int32 → Int32 → Int32 → ST → Option (ST)) (r_X4_takeOwn : Nat → Nat → Int32 → Int32 → Int32 → Int32 → Int32 → ST → Option (ST)) (r_X4_takeRecord : Nat → Nat → Int32 → Int32 → Int32 → Int32 → Int32 → ST → Option (ST)) (b : Nat) (t : Nat) (p0 : Int32) (p1 : Int32) (p2 : Int32) (p3 : Int32) (p4 : Int32) (σ : ST) : Option (ST) := if p4 < 31 then (if p1 = (-1) then ((f_X4_isEmptyThere b t p0 p4 σ).bind fun q1 => if q1.1 = 0 then (f_X4_take_34 r_X4_take r_X4_takeField r_X4_takeList r_X4_takeOwn r_X4_takeRecord b t p0 p1 p2 p3 p4 q1.2) else (some q1.2)) else (f_X4_take_34 r_X4_take r_X4_takeField r_X4_takeList r_X4_takeOwn r_X4_takeRecord b t p0 p1 p2 p3 p4 σ)) else ((f_X4_fail b t 16 (σ.1 b 5) σ).bind fun q3 => some q3)

def f_X4_takeField_76 (r_X4_take : Nat → Nat → Int32 → Int32 → Int32 → Int32 → Int32 → ST → Option (ST)) (r_X4_takeField : Nat → Nat → Int32 → Int32 → Int32 → Int32 → Int32 → ST → Option (ST)) (r_X4_takeList : Nat → Nat → Int32 → Int32 → Int32 → Int32 → Int32 → ST → Option (ST)) (r_X4_takeOwn : Nat → Nat → Int32 → Int32 → Int32 → Int32 → Int32 → ST → Option (ST)) (r_X4_takeRecord : Nat → Nat → Int32 → Int32 → Int32 → Int32 → Int32 → ST → Option (ST)) (k12 : Int32 → Int32 → Int32 → Int32 → Int32 → Int32 → Int32 → Int32 → ST → Option (ST)) (b : Nat) (t : Nat) (x1 : Int32) (x2 : Int32) (x3 : Int32) (x4 : Int32) (x5 : Int32) (x6 : Int32) (x7 : Int32) (x8 : Int32) (σ : ST) : Option (ST) := k12 x1 x2 x3 x4 x5 x6 x7 (x8 + 1) σ
def f_X4_takeField_82 (r_X4_take : Nat → Nat → Int32 → Int32 → Int32 → Int32 → Int32 → ST → Option (ST)) (r_X4_takeField : Nat → Nat → Int32 → Int32 → Int32 → Int32 → Int32 → ST → Option (ST)) (r_X4_takeList : Nat → Nat → Int32 → Int32 → Int32 → Int32 → Int32 → ST → Option (ST)) (r_X4_takeOwn : Nat → Nat → Int32 → Int32 → Int32 → Int32 → Int32 → ST → Option (ST)) (r_X4_takeRecord : Nat → Nat → Int32 → Int32 → Int32 → Int32 → Int32 → ST → Option (ST)) (b : Nat) (t : Nat) (x1 : Int32) (x5 : Int32) (x7 : Int32) (σ : ST) : Option (ST) := if x7 = 0 then ((r_X4_take b t x1 (-1) (-1) 0 (x5 + 1) σ).bind fun q1 => some q1) else (some σ)
def f_X4_takeField_12 (r_X4_take : Nat → Nat → Int32 → Int32 → Int32 → Int32 → Int32 → ST → Option (ST)) (r_X4_takeField : Nat → Nat → Int32 → Int32 → Int32 → Int32 → Int32 → ST → Option (ST)) (r_X4_takeList : Nat → Nat → Int32 → Int32 → Int32 → Int32 → Int32 → ST → Option (ST)) (r_X4_takeOwn : Nat → Nat → Int32 → Int32 → Int32 → Int32 → Int32 → ST → Option (ST)) (r_X4_takeRecord : Nat → Nat → Int32 → Int32 → Int32 → Int32 → Int32 → ST → Option (ST)) (b : Nat) (t : Nat) : Nat → Int32 → Int32 → Int32 → Int32 → Int32 → Int32 → Int32 → Int32 → ST → Option (ST)
  | 0, _, _, _, _, _, _, _, _, _ => none
  | n + 1, x1, x2, x3, x4, x5, x6, x7, x8, σ => (f_X5_fieldsOf 4 x3 σ).bind fun q1 => if q1.1 ≤ x8 then (f_X4_takeField_82 r_X4_take r_X4_takeField r_X4_takeList r_X4_takeOwn r_X4_takeRecord b t x1 x5 x7 q1.2) else (if (q1.2.1 b 7) = 0 then ((f_X4_sourceAt b t x5 x8 q1.2).bind fun q3 => if q3.1 = x2 then ((f_X5_typeOf 4 x3 x8 (stI q3.2 b 5 x6)).bind fun q5 => (r_X4_take b t x1 q5.1 x4 x8 (x5 + 1) q5.2).bind fun q7 => f_X4_takeField_76 r_X4_take r_X4_takeField r_X4_takeList r_X4_takeOwn r_X4_takeRecord (f_X4_takeField_12 r_X4_take r_X4_takeField r_X4_takeList r_X4_takeOwn r_X4_takeRecord b t n) b t x1 x2 x3 x4 x5 x6 1 x8 q7) else (f_X4_takeField_76 r_X4_take r_X4_takeField r_X4_takeList r_X4_takeOwn r_X4_takeRecord (f_X4_takeField_12 r_X4_take r_X4_takeField r_X4_takeList r_X4_takeOwn r_X4_takeRecord b t n) b t x1 x2 x3 x4 x5 x6 x7 x8 q3.2)) else (f_X4_takeField_82 r_X4_take r_X4_takeField r_X4_takeList r_X4_takeOwn r_X4_takeRecord b t x1 x5 x7 q1.2))
def f_X4_takeField (r_X4_take : Nat → Nat → Int32 → Int32 → Int32 → Int32 → Int32 → ST → Option (ST)) (r_X4_takeField : Nat → Nat → Int32 → Int32 → Int32 → Int32 → Int32 → ST → Option (ST)) (r_X4_takeList : Nat → Nat → Int32 → Int32 → Int32 → Int32 → Int32 → ST → Option (ST)) (r_X4_takeOwn : Nat → Nat → Int32 → Int32 → Int32 → Int32 → Int32 → ST → Option (ST)) (r_X4_takeRecord : Nat → Nat → Int32 → Int32 → Int32 → Int32 → Int32 → ST → Option (ST)) (b : Nat) (t : Nat) (p0 : Int32) (p1 : Int32) (p2 : Int32) (p3 : Int32) (p4 : Int32) (σ : ST) : Option (ST) := f_X4_takeField_12 r_X4_take r_X4_takeField r_X4_takeList r_X4_takeOwn r_X4_takeRecord b t FU p0 p1 p2 p3 p4 (σ.1 b 5) 0 0 σ

def f_X4_takeList_48 (r_X4_take : Nat → Nat → Int32 → Int32 → Int32 → Int32 → Int32 → ST → Option (ST)) (r_X4_takeField : Nat → Nat → Int32 → Int32 → Int32 → Int32 → Int32 → ST → Option (ST)) (r_X4_takeList : Nat → Nat → Int32 → Int32 → Int32 → Int32 → Int32 → ST → Option (ST)) (r_X4_takeOwn : Nat → Nat → Int32 → Int32 → Int32 → Int32 → Int32 → ST → Option (ST)) (r_X4_takeRecord : Nat → Nat → Int32 → Int32 → Int32 → Int32 → Int32 → ST → Option (ST)) (b : Nat) (t : Nat) : Nat → Int32 → Int32 → Int32 → Int32 → Int32 → Int32 → ST → Option (ST)
  | 0, _, _, _, _, _, _, _ => none
  | n + 1, x1, x5, x6, x7, x8, x9, σ => if x6 ≤ x9 then (some σ) else (if (σ.1 b 7) = 0 then ((f_X4_step b t (100 + x9) σ).bind fun q1 => (r_X4_take b t x1 x8 x7 x9 (x5 + 1) q1).bind fun q3 => (f_X4_stepBack b t  q3).bind fun q5 => f_X4_takeList_48 r_X4_take r_X4_takeField r_X4_takeList r_X4_takeOwn r_X4_takeRecord b t n x1 x5 x6 x7 x8 (x9 + 1) q5) else (some σ))
def f_X4_takeList_43 (r_X4_take : Nat → Nat → Int32 → Int32 → Int32 → Int32 → Int32 → ST → Option (ST)) (r_X4_takeField : Nat → Nat → Int32 → Int32 → Int32 → Int32 → Int32 → ST → Option (ST)) (r_X4_takeList : Nat → Nat → Int32 → Int32 → Int32 → Int32 → Int32 → ST → Option (ST)) (r_X4_takeOwn : Nat → Nat → Int32 → Int32 → Int32 → Int32 → Int32 → ST → Option (ST)) (r_X4_takeRecord : Nat → Nat → Int32 → Int32 → Int32 → Int32 → Int32 → ST → Option (ST)) (b : Nat) (t : Nat) (x1 : Int32) (x5 : Int32) (x6 : Int32) (x7 : Int32) (y0 : Int32) (σ : ST) : Option (ST) := f_X4_takeList_48 r_X4_take r_X4_takeField r_X4_takeList r_X4_takeOwn r_X4_takeRecord b t FU x1 x5 x6 x7 y0 0 σ
def f_X4_takeList (r_X4_take : Nat → Nat → Int32 → Int32 → Int32 → Int32 → Int32 → ST → Option (ST)) (r_X4_takeField : Nat → Nat → Int32 → Int32 → Int32 → Int32 → Int32 → ST → Option (ST)) (r_X4_takeList : Nat → Nat → Int32 → Int32 → Int32 → Int32 → Int32 → ST → Option (ST)) (r_X4_takeOwn : Nat → Nat → Int32 → Int32 → Int32 → Int32 → Int32 → ST → Option (ST)) (r_X4_takeRecord : Nat → Nat → Int32 → Int32 → Int32 → Int32 → Int32 → ST → Option (ST)) (b : Nat) (t : Nat) (p0 : Int32) (p1 : Int32) (p2 : Int32) (p3 : Int32) (p4 : Int32) (σ : ST) : Option (ST) := (f_X4_takeCount b t (σ.1 b 5) 200 σ).bind fun q1 => (f_X4_addNode b t p1 p2 p3 q1.1 0 q1.2).bind fun q3 => if p1 = (-1) then (f_X4_takeList_43 r_X4_take r_X4_takeField r_X4_takeList r_X4_takeOwn r_X4_takeRecord b t p0 p4 q1.1 q3.1 (-1) q3.2) else ((f_X5_innerOf 4 p1 q3.2).bind fun q5 => f_X4_takeList_43 r_X4_take r_X4_takeField r_X4_takeList r_X4_takeOwn r_X4_takeRecord b t p0 p4 q1.1 q3.1 q5.1 q5.2)

def f_X4_takeOwn_26 (r_X4_take : Nat → Nat → Int32 → Int32 → Int32 → Int32 → Int32 → ST → Option (ST)) (r_X4_takeField : Nat → Nat → Int32 → Int32 → Int32 → Int32 → Int32 → ST → Option (ST)) (r_X4_takeList : Nat → Nat → Int32 → Int32 → Int32 → Int32 → Int32 → ST → Option (ST)) (r_X4_takeOwn : Nat → Nat → Int32 → Int32 → Int32 → Int32 → Int32 → ST → Option (ST)) (r_X4_takeRecord : Nat → Nat → Int32 → Int32 → Int32 → Int32 → Int32 → ST → Option (ST)) (b : Nat) (t : Nat) (x1 : Int32) (x3 : Int32) (x4 : Int32) (x5 : Int32) (y0 : Int32) (σ : ST) : Option (ST) := (f_X5_sortOf 4 x1 σ).bind fun q1 => if q1.1 = 7 then ((f_X5_innerOf 4 x1 q1.2).bind fun q9 => (r_X4_takeRecord b t q9.1 y0 x3 x4 x5 q9.2).bind fun q11 => some q11) else (if q1.1 = 6 then ((f_X5_innerOf 4 x1 q1.2).bind fun q5 => (r_X4_takeList b t q5.1 y0 x3 x4 x5 q5.2).bind fun q7 => some q7) else ((f_X4_takePlain b t q1.1 y0 x3 x4 q1.2).bind fun q3 => some q3))
def f_X4_takeOwn (r_X4_take : Nat → Nat → Int32 → Int32 → Int32 → Int32 → Int32 → ST → Option (ST)) (r_X4_takeField : Nat → Nat → Int32 → Int32 → Int32 → Int32 → Int32 → ST → Option (ST)) (r_X4_takeList : Nat → Nat → Int32 → Int32 → Int32 → Int32 → Int32 → ST → Option (ST)) (r_X4_takeOwn : Nat → Nat → Int32 → Int32 → Int32 → Int32 → Int32 → ST → Option (ST)) (r_X4_takeRecord : Nat → Nat → Int32 → Int32 → Int32 → Int32 → Int32 → ST → Option (ST)) (b : Nat) (t : Nat) (p0 : Int32) (p1 : Int32) (p2 : Int32) (p3 : Int32) (p4 : Int32) (σ : ST) : Option (ST) := (f_X5_sortOf 4 p1 σ).bind fun q1 => if q1.1 = 8 then ((f_X0_chosen  p0 p1 q1.2).bind fun q3 => f_X4_takeOwn_26 r_X4_take r_X4_takeField r_X4_takeList r_X4_takeOwn r_X4_takeRecord b t p0 p2 p3 p4 q3.1 q3.2) else (f_X4_takeOwn_26 r_X4_take r_X4_takeField r_X4_takeList r_X4_takeOwn r_X4_takeRecord b t p0 p2 p3 p4 p1 q1.2)

def f_X4_takeRecord_155 (r_X4_take : Nat → Nat → Int32 → Int32 → Int32 → Int32 → Int32 → ST → Option (ST)) (r_X4_takeField : Nat → Nat → Int32 → Int32 → Int32 → Int32 → Int32 → ST → Option (ST)) (r_X4_takeList : Nat → Nat → Int32 → Int32 → Int32 → Int32 → Int32 → ST → Option (ST)) (r_X4_takeOwn : Nat → Nat → Int32 → Int32 → Int32 → Int32 → Int32 → ST → Option (ST)) (r_X4_takeRecord : Nat → Nat → Int32 → Int32 → Int32 → Int32 → Int32 → ST → Option (ST)) (k112 : Int32 → Int32 → Int32 → Int32 → ST → Option (ST)) (b : Nat) (t : Nat) (x5 : Int32) (x6 : Int32) (x7 : Int32) (x8 : Int32) (σ : ST) : Option (ST) := k112 x5 x6 x7 (x8 + 1) σ
def f_X4_takeRecord_112 (r_X4_take : Nat → Nat → Int32 → Int32 → Int32 → Int32 → Int32 → ST → Option (ST)) (r_X4_takeField : Nat → Nat → Int32 → Int32 → Int32 → Int32 → Int32 → ST → Option (ST)) (r_X4_takeList : Nat → Nat → Int32 → Int32 → Int32 → Int32 → Int32 → ST → Option (ST)) (r_X4_takeOwn : Nat → Nat → Int32 → Int32 → Int32 → Int32 → Int32 → ST → Option (ST)) (r_X4_takeRecord : Nat → Nat → Int32 → Int32 → Int32 → Int32 → Int32 → ST → Option (ST)) (b : Nat) (t : Nat) : Nat → Int32 → Int32 → Int32 → Int32 → ST → Option (ST)
  | 0, _, _, _, _, _ => none
  | n + 1, x5, x6, x7, x8, σ => (f_X5_fieldsOf 4 x6 σ).bind fun q1 => if q1.1 ≤ x8 then (some q1.2) else (if (q1.2.1 b 7) = 0 then ((f_X4_sourceAt b t x5 x8 q1.2).bind fun q3 => if q3.1 = (-1) then ((f_X4_fillIn b t x6 x8 x7 q3.2).bind fun q5 => f_X4_takeRecord_155 r_X4_take r_X4_takeField r_X4_takeList r_X4_takeOwn r_X4_takeRecord (f_X4_takeRecord_112 r_X4_take r_X4_takeField r_X4_takeList r_X4_takeOwn r_X4_takeRecord b t n) b t x5 x6 x7 x8 q5) else (f_X4_takeRecord_155 r_X4_take r_X4_takeField r_X4_takeList r_X4_takeOwn r_X4_takeRecord (f_X4_takeRecord_112 r_X4_take r_X4_takeField r_X4_takeList r_X4_takeOwn r_X4_takeRecord b t n) b t x5 x6 x7 x8 q3.2)) else (some q1.2))
def f_X4_takeRecord_109 (r_X4_take : Nat → Nat → Int32 → Int32 → Int32 → Int32 → Int32 → ST → Option (ST)) (r_X4_takeField : Nat → Nat → Int32 → Int32 → Int32 → Int32 → Int32 → ST → Option (ST)) (r_X4_takeList : Nat → Nat → Int32 → Int32 → Int32 → Int32 → Int32 → ST → Option (ST)) (r_X4_takeOwn : Nat → Nat → Int32 → Int32 → Int32 → Int32 → Int32 → ST → Option (ST)) (r_X4_takeRecord : Nat → Nat → Int32 → Int32 → Int32 → Int32 → Int32 → ST → Option (ST)) (b : Nat) (t : Nat) (x5 : Int32) (x6 : Int32) (x7 : Int32) (σ : ST) : Option (ST) := f_X4_takeRecord_112 r_X4_take r_X4_takeField r_X4_takeList r_X4_takeOwn r_X4_takeRecord b t FU x5 x6 x7 0 σ
def f_X4_takeRecord_51 (r_X4_take : Nat → Nat → Int32 → Int32 → Int32 → Int32 → Int32 → ST → Option (ST)) (r_X4_takeField : Nat → Nat → Int32 → Int32 → Int32 → Int32 → Int32 → ST → Option (ST)) (r_X4_takeList : Nat → Nat → Int32 → Int32 → Int32 → Int32 → Int32 → ST → Option (ST)) (r_X4_takeOwn : Nat → Nat → Int32 → Int32 → Int32 → Int32 → Int32 → ST → Option (ST)) (r_X4_takeRecord : Nat → Nat → Int32 → Int32 → Int32 → Int32 → Int32 → ST → Option (ST)) (b : Nat) (t : Nat) : Nat → Int32 → Int32 → Int32 → Int32 → Int32 → ST → Option (ST)
  | 0, _, _, _, _, _, _ => none
  | n + 1, x1, x5, x6, x7, x8, σ => (f_X5_fieldsOf 4 x1 σ).bind fun q1 => if q1.1 ≤ x8 then (f_X4_takeRecord_109 r_X4_take r_X4_takeField r_X4_takeList r_X4_takeOwn r_X4_takeRecord b t x5 x6 x7 q1.2) else (if (q1.2.1 b 7) = 0 then ((f_X4_step b t x8 q1.2).bind fun q3 => (f_X5_typeOf 4 x1 x8 q3).bind fun q5 => (r_X4_takeField b t q5.1 x8 x6 x7 x5 q5.2).bind fun q7 => (f_X4_stepBack b t  q7).bind fun q9 => f_X4_takeRecord_51 r_X4_take r_X4_takeField r_X4_takeList r_X4_takeOwn r_X4_takeRecord b t n x1 x5 x6 x7 (x8 + 1) q9) else (f_X4_takeRecord_109 r_X4_take r_X4_takeField r_X4_takeList r_X4_takeOwn r_X4_takeRecord b t x5 x6 x7 q1.2))
def f_X4_takeRecord_17 (r_X4_take : Nat → Nat → Int32 → Int32 → Int32 → Int32 → Int32 → ST → Option (ST)) (r_X4_takeField : Nat → Nat → Int32 → Int32 → Int32 → Int32 → Int32 → ST → Option (ST)) (r_X4_takeList : Nat → Nat → Int32 → Int32 → Int32 → Int32 → Int32 → ST → Option (ST)) (r_X4_takeOwn : Nat → Nat → Int32 → Int32 → Int32 → Int32 → Int32 → ST → Option (ST)) (r_X4_takeRecord : Nat → Nat → Int32 → Int32 → Int32 → Int32 → Int32 → ST → Option (ST)) (b : Nat) (t : Nat) (x1 : Int32) (x2 : Int32) (x3 : Int32) (x4 : Int32) (x5 : Int32) (y0 : Int32) (σ : ST) : Option (ST) := (f_X5_fieldsOf 4 y0 σ).bind fun q1 => (f_X4_addNode b t x2 x3 x4 q1.1 0 q1.2).bind fun q3 => (f_X4_findSources b t x1 y0 x5 q3.2).bind fun q5 => f_X4_takeRecord_51 r_X4_take r_X4_takeField r_X4_takeList r_X4_takeOwn r_X4_takeRecord b t FU x1 x5 y0 q3.1 0 q5
def f_X4_takeRecord (r_X4_take : Nat → Nat → Int32 → Int32 → Int32 → Int32 → Int32 → ST → Option (ST)) (r_X4_takeField : Nat → Nat → Int32 → Int32 → Int32 → Int32 → Int32 → ST → Option (ST)) (r_X4_takeList : Nat → Nat → Int32 → Int32 → Int32 → Int32 → Int32 → ST → Option (ST)) (r_X4_takeOwn : Nat → Nat → Int32 → Int32 → Int32 → Int32 → Int32 → ST → Option (ST)) (r_X4_takeRecord : Nat → Nat → Int32 → Int32 → Int32 → Int32 → Int32 → ST → Option (ST)) (b : Nat) (t : Nat) (p0 : Int32) (p1 : Int32) (p2 : Int32) (p3 : Int32) (p4 : Int32) (σ : ST) : Option (ST) := if p1 = (-1) then (f_X4_takeRecord_17 r_X4_take r_X4_takeField r_X4_takeList r_X4_takeOwn r_X4_takeRecord b t p0 p1 p2 p3 p4 (-1) σ) else ((f_X5_innerOf 4 p1 σ).bind fun q1 => f_X4_takeRecord_17 r_X4_take r_X4_takeField r_X4_takeList r_X4_takeOwn r_X4_takeRecord b t p0 p1 p2 p3 p4 q1.1 q1.2)

def R_X4_take : Nat → (Nat → Nat → Int32 → Int32 → Int32 → Int32 → Int32 → ST → Option (ST)) × (Nat → Nat → Int32 → Int32 → Int32 → Int32 → Int32 → ST → Option (ST)) × (Nat → Nat → Int32 → Int32 → Int32 → Int32 → Int32 → ST → Option (ST)) × (Nat → Nat → Int32 → Int32 → Int32 → Int32 → Int32 → ST → Option (ST)) × (Nat → Nat → Int32 → Int32 → Int32 → Int32 → Int32 → ST → Option (ST))
  | 0 => ((fun _ _ _ _ _ _ _ _ => none), (fun _ _ _ _ _ _ _ _ => none), (fun _ _ _ _ _ _ _ _ => none), (fun _ _ _ _ _ _ _ _ => none), (fun _ _ _ _ _ _ _ _ => none))
  | n + 1 => (f_X4_take ((R_X4_take n).1) ((R_X4_take n).2.1) ((R_X4_take n).2.2.1) ((R_X4_take n).2.2.2.1) ((R_X4_take n).2.2.2.2), f_X4_takeField ((R_X4_take n).1) ((R_X4_take n).2.1) ((R_X4_take n).2.2.1) ((R_X4_take n).2.2.2.1) ((R_X4_take n).2.2.2.2), f_X4_takeList ((R_X4_take n).1) ((R_X4_take n).2.1) ((R_X4_take n).2.2.1) ((R_X4_take n).2.2.2.1) ((R_X4_take n).2.2.2.2), f_X4_takeOwn ((R_X4_take n).1) ((R_X4_take n).2.1) ((R_X4_take n).2.2.1) ((R_X4_take n).2.2.2.1) ((R_X4_take n).2.2.2.2), f_X4_takeRecord ((R_X4_take n).1) ((R_X4_take n).2.1) ((R_X4_take n).2.2.1) ((R_X4_take n).2.2.2.1) ((R_X4_take n).2.2.2.2))
def f_T_X4_take (b : Nat) (t : Nat) (p0 : Int32) (p1 : Int32) (p2 : Int32) (p3 : Int32) (p4 : Int32) (σ : ST) : Option (ST) := (R_X4_take FR).1 b t p0 p1 p2 p3 p4 σ
def f_T_X4_takeField (b : Nat) (t : Nat) (p0 : Int32) (p1 : Int32) (p2 : Int32) (p3 : Int32) (p4 : Int32) (σ : ST) : Option (ST) := (R_X4_take FR).2.1 b t p0 p1 p2 p3 p4 σ
def f_T_X4_takeList (b : Nat) (t : Nat) (p0 : Int32) (p1 : Int32) (p2 : Int32) (p3 : Int32) (p4 : Int32) (σ : ST) : Option (ST) := (R_X4_take FR).2.2.1 b t p0 p1 p2 p3 p4 σ
def f_T_X4_takeOwn (b : Nat) (t : Nat) (p0 : Int32) (p1 : Int32) (p2 : Int32) (p3 : Int32) (p4 : Int32) (σ : ST) : Option (ST) := (R_X4_take FR).2.2.2.1 b t p0 p1 p2 p3 p4 σ
def f_T_X4_takeRecord (b : Nat) (t : Nat) (p0 : Int32) (p1 : Int32) (p2 : Int32) (p3 : Int32) (p4 : Int32) (σ : ST) : Option (ST) := (R_X4_take FR).2.2.2.2 b t p0 p1 p2 p3 p4 σ

set_option maxRecDepth 100000 in
set_option maxHeartbeats 4000000 in
theorem b_X4_take_140_89_50 {p : Program} {l : Launch} {e : Env} {s : State} {m : MethodId} {args : Array Value} {below : List Frame} {meth : Method} {c : Code} {dC : Nat → ClassId} {dI : Nat → Nat → Nat} {a : Nat → Nat} {k : Nat → ClassId} {A : Nat → Prop} {q : ST} (hC : CxA p s m args meth c dC dI k A cX4_take RX4 none 9) {nn : Nat} {r_X4_take : Nat → Nat → Int32 → Int32 → Int32 → Int32 → Int32 → ST → Option (ST)} (hr_X4_take : ∀ {sz : Nat} {p0 : Int32} {p1 : Int32} {p2 : Int32} {p3 : Int32} {p4 : Int32} {σ : ST} {q : ST}, r_X4_take 89 50 p0 p1 p2 p3 p4 σ = some q → Met l yX4_take (.code yX4_take cX4_take 9 none :: pw) ({ frames := 164 + nn, cells := 0, slots := 0, locals := 4412 + 29 * nn } : Room) (va_Pc [.ref (a 89), .int p0, .int p1, .int p2, .int p3, .int p4] (vPre dC dI (wA a k σ) (tA k) sz)) (qAv dC dI a k (va_A (wA a k σ) sz) q) 0 0 (va_A (wA a k σ) sz)) {r_X4_takeField : Nat → Nat → Int32 → Int32 → Int32 → Int32 → Int32 → ST → Option (ST)} (hr_X4_takeField : ∀ {sz : Nat} {p0 : Int32} {p1 : Int32} {p2 : Int32} {p3 : Int32} {p4 : Int32} {σ : ST} {q : ST}, r_X4_takeField 89 50 p0 p1 p2 p3 p4 σ = some q → Met l yX4_takeField (.code yX4_takeField cX4_takeField 9 none :: pw) ({ frames := 164 + nn, cells := 0, slots := 0, locals := 4412 + 29 * nn } : Room) (va_Pc [.ref (a 89), .int p0, .int p1, .int p2, .int p3, .int p4] (vPre dC dI (wA a k σ) (tA k) sz)) (qAv dC dI a k (va_A (wA a k σ) sz) q) 0 0 (va_A (wA a k σ) sz)) {r_X4_takeList : Nat → Nat → Int32 → Int32 → Int32 → Int32 → Int32 → ST → Option (ST)} (hr_X4_takeList : ∀ {sz : Nat} {p0 : Int32} {p1 : Int32} {p2 : Int32} {p3 : Int32} {p4 : Int32} {σ : ST} {q : ST}, r_X4_takeList 89 50 p0 p1 p2 p3 p4 σ = some q → Met l yX4_takeList (.code yX4_takeList cX4_takeList 10 none :: pw) ({ frames := 164 + nn, cells := 0, slots := 0, locals := 4412 + 29 * nn } : Room) (va_Pc [.ref (a 89), .int p0, .int p1, .int p2, .int p3, .int p4] (vPre dC dI (wA a k σ) (tA k) sz)) (qAv dC dI a k (va_A (wA a k σ) sz) q) 0 0 (va_A (wA a k σ) sz)) {r_X4_takeOwn : Nat → Nat → Int32 → Int32 → Int32 → Int32 → Int32 → ST → Option (ST)} (hr_X4_takeOwn : ∀ {sz : Nat} {p0 : Int32} {p1 : Int32} {p2 : Int32} {p3 : Int32} {p4 : Int32} {σ : ST} {q : ST}, r_X4_takeOwn 89 50 p0 p1 p2 p3 p4 σ = some q → Met l yX4_takeOwn (.code yX4_takeOwn cX4_takeOwn 8 none :: pw) ({ frames := 164 + nn, cells := 0, slots := 0, locals := 4412 + 29 * nn } : Room) (va_Pc [.ref (a 89), .int p0, .int p1, .int p2, .int p3, .int p4] (vPre dC dI (wA a k σ) (tA k) sz)) (qAv dC dI a k (va_A (wA a k σ) sz) q) 0 0 (va_A (wA a k σ) sz)) {r_X4_takeRecord : Nat → Nat → Int32 → Int32 → Int32 → Int32 → Int32 → ST → Option (ST)} (hr_X4_takeRecord : ∀ {sz : Nat} {p0 : Int32} {p1 : Int32} {p2 : Int32} {p3 : Int32} {p4 : Int32} {σ : ST} {q : ST}, r_X4_takeRecord 89 50 p0 p1 p2 p3 p4 σ = some q → Met l yX4_takeRecord (.code yX4_takeRecord cX4_takeRecord 9 none :: pw) ({ frames := 164 + nn, cells := 0, slots := 0, locals := 4412 + 29 * nn } : Room) (va_Pc [.ref (a 89), .int p0, .int p1, .int p2, .int p3, .int p4] (vPre dC dI (wA a k σ) (tA k) sz)) (qAv dC dI a k (va_A (wA a k σ) sz) q) 0 0 (va_A (wA a k σ) sz))  {x2 : Int32} {x3 : Int32} {x4 : Int32} {x5 : Int32} {x8 : Int32} {σ : ST} (h : f_X4_take_140 r_X4_take r_X4_takeField r_X4_takeList r_X4_takeOwn r_X4_takeRecord 89 50 x2 x3 x4 x5 x8 σ = some q) : GoA p l e ({ frames := 164 + (nn + 1), cells := 0, slots := 0, locals := 4412 + 29 * (nn + 1) } : Room) s m args below meth c (MQ below (qAv dC dI a k A q) args s 0 0 A) dC dI a k A 9 140 σ [(0, .ref (a 89)), (2, .int x2), (3, .int x3), (4, .int x4), (5, .int x5), (8, .int x8)] [] := by
  have hC0 := hC
  obtain ⟨hx, hb, hr, hml, hown, hts, hlocks, hA, hN, hK⟩ := hC0
  intro H locs ls hP hD hS hl
  have hD0 : ∀ σ1 : ST, va_D A (wA a k σ1) := fun σ1 => wA_D hD
  unfold f_X4_take_140 at h
  refine lv_aload_n hx hb dX4_take_140 rfl (lv_at hl 0 rfl) ?_
  refine lv_iload hx hb dX4_take_141 (lv_at hl 5 rfl) ?_
  refine lv_iload_n hx hb dX4_take_143 rfl (lv_at hl 1 rfl) ?_
  refine lv_iload_n hx hb dX4_take_144 rfl (lv_at hl 2 rfl) ?_
  refine lv_iload hx hb dX4_take_145 (lv_at hl 3 rfl) ?_
  refine lv_iload hx hb dX4_take_147 (lv_at hl 4 rfl) ?_
  obtain ⟨q1, hc, h⟩ := ib h
  have hF := va_frees hD hS hA
  refine va_callv (va_runV (As := [.int x8, .int x2, .int x3, .int x4, .int x5]) (rest := []) ⟨hx, hb, hml, hown, hts⟩ (hr_X4_takeOwn hc) (cwV 5 hts (gV mw_11_26 mw_11_27 mw_11_28 mw_0_8 mw_49_7) rfl rfl rfl (by decide +kernel) ⟨by show (164 + nn) + 1 ≤ 164 + (nn + 1); omega, by show 8 + (8 + 11) + (4412 + 29 * nn) ≤ 4412 + 29 * (nn + 1); omega⟩) (vV (ci := 4) (q0 := 89) hK hP hD hN rfl gA_89) rfl rfl hl.1 rfl (lv_room (Nat.le_of_ble_eq_true rfl)) dX4_take_149 ⟨(Nat.le_of_ble_eq_true rfl), (Nat.le_of_ble_eq_true rfl)⟩) hS (fun q _ h => hF q h) hF (fun u t H locs ht hvm hw hB _ _ hS => ?_)
  replace hP : va_P (dC, dI) vwCl (wA a k q1) H := by rw [← ht]; exact hB.1
  replace hD := hD0 (q1)
  clear hB hF
  refine lv_aload_n hx hb dX4_take_152 rfl (lv_at hl 0 rfl) ?_
  obtain ⟨q3, hc, h⟩ := ib h
  have hF := va_frees hD hS hA
  refine va_callv (va_runV (As := []) (rest := []) ⟨hx, hb, hml, hown, hts⟩ (s_X4_stepBack_89_50 hc) (cwV 0 hts (gV mw_12_12 mw_12_13 mw_12_14 mw_0_8 mw_49_4) rfl rfl rfl (by decide +kernel) ⟨by show 0 + 1 ≤ 164 + (nn + 1); omega, by show 8 + (1 + 11) + 0 ≤ 4412 + 29 * (nn + 1); omega⟩) (vV (ci := 4) (q0 := 89) hK hP hD hN rfl gA_89) rfl rfl hl.1 rfl (lv_room (Nat.le_of_ble_eq_true rfl)) dX4_take_153 ⟨(Nat.le_of_ble_eq_true rfl), (Nat.le_of_ble_eq_true rfl)⟩) hS (fun q _ h => hF q h) hF (fun u t H locs ht hvm hw hB _ _ hS => ?_)
  replace hP : va_P (dC, dI) vwCl (wA a k q3) H := by rw [← ht]; exact hB.1
  replace hD := hD0 (q3)
  clear hB hF
  obtain rfl := Option.some.inj h
  exact W.vret hx hb hr (fun t ht hW => ⟨⟨(), rfl, trivial, ⟨by rw [ht]; exact hP, va_K.moved hW.alike hK, hD⟩⟩, hS.F ht⟩) hS.2.2 dX4_take_156

set_option maxRecDepth 100000 in
set_option maxHeartbeats 4000000 in
theorem b_X4_take_34_89_50 {p : Program} {l : Launch} {e : Env} {s : State} {m : MethodId} {args : Array Value} {below : List Frame} {meth : Method} {c : Code} {dC : Nat → ClassId} {dI : Nat → Nat → Nat} {a : Nat → Nat} {k : Nat → ClassId} {A : Nat → Prop} {q : ST} (hC : CxA p s m args meth c dC dI k A cX4_take RX4 none 9) {nn : Nat} {r_X4_take : Nat → Nat → Int32 → Int32 → Int32 → Int32 → Int32 → ST → Option (ST)} (hr_X4_take : ∀ {sz : Nat} {p0 : Int32} {p1 : Int32} {p2 : Int32} {p3 : Int32} {p4 : Int32} {σ : ST} {q : ST}, r_X4_take 89 50 p0 p1 p2 p3 p4 σ = some q → Met l yX4_take (.code yX4_take cX4_take 9 none :: pw) ({ frames := 164 + nn, cells := 0, slots := 0, locals := 4412 + 29 * nn } : Room) (va_Pc [.ref (a 89), .int p0, .int p1, .int p2, .int p3, .int p4] (vPre dC dI (wA a k σ) (tA k) sz)) (qAv dC dI a k (va_A (wA a k σ) sz) q) 0 0 (va_A (wA a k σ) sz)) {r_X4_takeField : Nat → Nat → Int32 → Int32 → Int32 → Int32 → Int32 → ST → Option (ST)} (hr_X4_takeField : ∀ {sz : Nat} {p0 : Int32} {p1 : Int32} {p2 : Int32} {p3 : Int32} {p4 : Int32} {σ : ST} {q : ST}, r_X4_takeField 89 50 p0 p1 p2 p3 p4 σ = some q → Met l yX4_takeField (.code yX4_takeField cX4_takeField 9 none :: pw) ({ frames := 164 + nn, cells := 0, slots := 0, locals := 4412 + 29 * nn } : Room) (va_Pc [.ref (a 89), .int p0, .int p1, .int p2, .int p3, .int p4] (vPre dC dI (wA a k σ) (tA k) sz)) (qAv dC dI a k (va_A (wA a k σ) sz) q) 0 0 (va_A (wA a k σ) sz)) {r_X4_takeList : Nat → Nat → Int32 → Int32 → Int32 → Int32 → Int32 → ST → Option (ST)} (hr_X4_takeList : ∀ {sz : Nat} {p0 : Int32} {p1 : Int32} {p2 : Int32} {p3 : Int32} {p4 : Int32} {σ : ST} {q : ST}, r_X4_takeList 89 50 p0 p1 p2 p3 p4 σ = some q → Met l yX4_takeList (.code yX4_takeList cX4_takeList 10 none :: pw) ({ frames := 164 + nn, cells := 0, slots := 0, locals := 4412 + 29 * nn } : Room) (va_Pc [.ref (a 89), .int p0, .int p1, .int p2, .int p3, .int p4] (vPre dC dI (wA a k σ) (tA k) sz)) (qAv dC dI a k (va_A (wA a k σ) sz) q) 0 0 (va_A (wA a k σ) sz)) {r_X4_takeOwn : Nat → Nat → Int32 → Int32 → Int32 → Int32 → Int32 → ST → Option (ST)} (hr_X4_takeOwn : ∀ {sz : Nat} {p0 : Int32} {p1 : Int32} {p2 : Int32} {p3 : Int32} {p4 : Int32} {σ : ST} {q : ST}, r_X4_takeOwn 89 50 p0 p1 p2 p3 p4 σ = some q → Met l yX4_takeOwn (.code yX4_takeOwn cX4_takeOwn 8 none :: pw) ({ frames := 164 + nn, cells := 0, slots := 0, locals := 4412 + 29 * nn } : Room) (va_Pc [.ref (a 89), .int p0, .int p1, .int p2, .int p3, .int p4] (vPre dC dI (wA a k σ) (tA k) sz)) (qAv dC dI a k (va_A (wA a k σ) sz) q) 0 0 (va_A (wA a k σ) sz)) {r_X4_takeRecord : Nat → Nat → Int32 → Int32 → Int32 → Int32 → Int32 → ST → Option (ST)} (hr_X4_takeRecord : ∀ {sz : Nat} {p0 : Int32} {p1 : Int32} {p2 : Int32} {p3 : Int32} {p4 : Int32} {σ : ST} {q : ST}, r_X4_takeRecord 89 50 p0 p1 p2 p3 p4 σ = some q → Met l yX4_takeRecord (.code yX4_takeRecord cX4_takeRecord 9 none :: pw) ({ frames := 164 + nn, cells := 0, slots := 0, locals := 4412 + 29 * nn } : Room) (va_Pc [.ref (a 89), .int p0, .int p1, .int p2, .int p3, .int p4] (vPre dC dI (wA a k σ) (tA k) sz)) (qAv dC dI a k (va_A (wA a k σ) sz) q) 0 0 (va_A (wA a k σ) sz))  {x1 : Int32} {x2 : Int32} {x3 : Int32} {x4 : Int32} {x5 : Int32} {σ : ST} (h : f_X4_take_34 r_X4_take r_X4_takeField r_X4_takeList r_X4_takeOwn r_X4_takeRecord 89 50 x1 x2 x3 x4 x5 σ = some q) : GoA p l e ({ frames := 164 + (nn + 1), cells := 0, slots := 0, locals := 4412 + 29 * (nn + 1) } : Room) s m args below meth c (MQ below (qAv dC dI a k A q) args s 0 0 A) dC dI a k A 9 34 σ [(0, .ref (a 89)), (1, .int x1), (2, .int x2), (3, .int x3), (4, .int x4), (5, .int x5)] [] := by
  have hC0 := hC
  obtain ⟨hx, hb, hr, hml, hown, hts, hlocks, hA, hN, hK⟩ := hC0
  intro H locs ls hP hD hS hl
  have hD0 : ∀ σ1 : ST, va_D A (wA a k σ1) := fun σ1 => wA_D hD
  unfold f_X4_take_34 at h
  refine lv_aload_n hx hb dX4_take_34 rfl (lv_at hl 0 rfl) ?_
  refine va_get (D := (dC, dI)) (ci := 4) (C := RX4) (T := TX4) (N := 12) hx hb hts inlX4 hown hK hP 89 gA_89 rfl 0 (by decide) (hts (.fieldLink RX4 37 "ShapeReader$Reading" "shapes" "LShapeReader$Shapes;") mw_10_28) (fun _ h9 => h9) rfl dX4_take_35 ?_
  refine lv_iload_n hx hb dX4_take_38 rfl (lv_at hl 1 rfl) ?_
  obtain ⟨q1, hc, h⟩ := ib h
  have hF := va_frees hD hS hA
  refine va_calli (va_runV (As := [.int x1]) (rest := []) ⟨hx, hb, hml, hown, hts⟩ (s_X5_sortOf_4 hc) (cwV 1 hts (gV mw_11_25 mw_2_13 mw_2_14 mw_0_9 mw_50_6) rfl rfl rfl (by decide +kernel) ⟨by show 1 + 1 ≤ 164 + (nn + 1); omega, by show 8 + (2 + 11) + 21 ≤ 4412 + 29 * (nn + 1); omega⟩) (vV (ci := 5) (q0 := 4) hK hP hD hN rfl gA_4) rfl rfl hl.1 rfl (lv_room (Nat.le_of_ble_eq_true rfl)) dX4_take_39 ⟨(Nat.le_of_ble_eq_true rfl), (Nat.le_of_ble_eq_true rfl)⟩) hS (fun q _ h => hF q h) hF (fun r2 u t H locs ht hvm hw hB _ _ hS => ?_)
  obtain rfl : r2 = q1.1 := hw
  replace hP : va_P (dC, dI) vwCl (wA a k q1.2) H := by rw [← ht]; exact hB.1
  replace hD := hD0 (q1.2)
  clear hB hF
  refine lv_bipush (v := 8) hx hb dX4_take_42 (by decide) ?_
  refine lv_icmp_eq (tgt := 59) hx hb dX4_take_44 (by decide) (fun hc => ?_) (fun hc => ?_)
  · replace h := ip hc h
    refine lv_aload_n hx hb dX4_take_59 rfl (lv_at hl 0 rfl) ?_
    refine va_get (D := (dC, dI)) (ci := 4) (C := RX4) (T := TX4) (N := 12) hx hb hts inlX4 hown hK hP 89 gA_89 rfl 5 (by decide) (hts (.fieldLink RX4 15 "ShapeReader$Reading" "next" "I") mw_10_21) (fun _ h9 => h9) rfl dX4_take_60 ?_
    refine lv_istore (lv' := [(6, .int (q1.2.1 89 5)), (0, .ref (a 89)), (1, .int x1), (2, .int x2), (3, .int x3), (4, .int x4), (5, .int x5)]) hx hb dX4_take_63 hl (by decide) rfl (fun ls hl => ?_)
    refine lv_aload_n hx hb dX4_take_65 rfl (lv_at hl 1 rfl) ?_
    refine lv_iload hx hb dX4_take_66 (lv_at hl 0 rfl) ?_
    refine lv_aload_n hx hb dX4_take_68 rfl (lv_at hl 1 rfl) ?_
    refine va_get (D := (dC, dI)) (ci := 4) (C := RX4) (T := TX4) (N := 12) hx hb hts inlX4 hown hK hP 89 gA_89 rfl 0 (by decide) (hts (.fieldLink RX4 37 "ShapeReader$Reading" "shapes" "LShapeReader$Shapes;") mw_10_28) (fun _ h9 => h9) rfl dX4_take_69 ?_
    refine lv_iload_n hx hb dX4_take_72 rfl (lv_at hl 2 rfl) ?_
    obtain ⟨q3, hc, h⟩ := ib h
    have hF := va_frees hD hS hA
    refine va_calli (va_runV (As := [.int x1]) (rest := [.int (q1.2.1 89 5), .ref (a 89)]) ⟨hx, hb, hml, hown, hts⟩ (s_X5_branchesOf_4 hc) (cwV 1 hts (gV mw_11_29 mw_12_0 mw_12_1 mw_0_9 mw_50_9) rfl rfl rfl (by decide +kernel) ⟨by show 2 + 1 ≤ 164 + (nn + 1); omega, by show 8 + (4 + 11) + 42 ≤ 4412 + 29 * (nn + 1); omega⟩) (vV (ci := 5) (q0 := 4) hK hP hD hN rfl gA_4) rfl rfl hl.1 rfl (lv_room (Nat.le_of_ble_eq_true rfl)) dX4_take_73 ⟨(Nat.le_of_ble_eq_true rfl), (Nat.le_of_ble_eq_true rfl)⟩) hS (fun q _ h => hF q h) hF (fun r4 u t H locs ht hvm hw hB _ _ hS => ?_)
    obtain rfl : r4 = q3.1 := hw
    replace hP : va_P (dC, dI) vwCl (wA a k q3.2) H := by rw [← ht]; exact hB.1
    replace hD := hD0 (q3.2)
    clear hB hF
    refine lv_iconst (v := 1) hx hb dX4_take_76 (by decide) ?_
    refine lv_isub hx hb dX4_take_77 ?_
    obtain ⟨q5, hc, h⟩ := ib h
    have hF := va_frees hD hS hA
    refine va_calli (va_runV (As := [.int (q1.2.1 89 5), .int (q3.1 - 1)]) (rest := []) ⟨hx, hb, hml, hown, hts⟩ (s_X4_takeCount_89_50 hc) (cwV 2 hts (gV mw_12_2 mw_12_3 mw_12_4 mw_0_8 mw_49_18) rfl rfl rfl (by decide +kernel) ⟨by show 3 + 1 ≤ 164 + (nn + 1); omega, by show 8 + (5 + 11) + 69 ≤ 4412 + 29 * (nn + 1); omega⟩) (vV (ci := 4) (q0 := 89) hK hP hD hN rfl gA_89) rfl rfl hl.1 rfl (lv_room (Nat.le_of_ble_eq_true rfl)) dX4_take_78 ⟨(Nat.le_of_ble_eq_true rfl), (Nat.le_of_ble_eq_true rfl)⟩) hS (fun q _ h => hF q h) hF (fun r6 u t H locs ht hvm hw hB _ _ hS => ?_)
    obtain rfl : r6 = q5.1 := hw
    replace hP : va_P (dC, dI) vwCl (wA a k q5.2) H := by rw [← ht]; exact hB.1
    replace hD := hD0 (q5.2)
    clear hB hF
    refine lv_istore (lv' := [(7, .int q5.1), (6, .int (q1.2.1 89 5)), (0, .ref (a 89)), (1, .int x1), (2, .int x2), (3, .int x3), (4, .int x4), (5, .int x5)]) hx hb dX4_take_81 hl (by decide) rfl (fun ls hl => ?_)
    refine lv_aload_n hx hb dX4_take_83 rfl (lv_at hl 2 rfl) ?_
    refine va_get (D := (dC, dI)) (ci := 4) (C := RX4) (T := TX4) (N := 12) hx hb hts inlX4 hown hK hP 89 gA_89 rfl 7 (by decide) (hts (.fieldLink RX4 21 "ShapeReader$Reading" "failure" "I") mw_10_23) (fun _ h9 => h9) rfl dX4_take_84 ?_
    refine lv_if_eq (tgt := 91) hx hb dX4_take_87 (by decide) (fun hc => ?_) (fun hc => ?_)
    · replace h := ip hc h
      refine lv_aload_n hx hb dX4_take_91 rfl (lv_at hl 2 rfl) ?_
      refine va_get (D := (dC, dI)) (ci := 4) (C := RX4) (T := TX4) (N := 12) hx hb hts inlX4 hown hK hP 89 gA_89 rfl 0 (by decide) (hts (.fieldLink RX4 37 "ShapeReader$Reading" "shapes" "LShapeReader$Shapes;") mw_10_28) (fun _ h9 => h9) rfl dX4_take_92 ?_
      refine lv_iload_n hx hb dX4_take_95 rfl (lv_at hl 3 rfl) ?_
      refine lv_iload hx hb dX4_take_96 (lv_at hl 0 rfl) ?_
      obtain ⟨q7, hc, h⟩ := ib h
      have hF := va_frees hD hS hA
      refine va_calli (va_runV (As := [.int x1, .int q5.1]) (rest := []) ⟨hx, hb, hml, hown, hts⟩ (s_X5_branchOf_4 hc) (cwV 2 hts (gV mw_12_5 mw_12_6 mw_12_7 mw_0_9 mw_50_10) rfl rfl rfl (by decide +kernel) ⟨by show 2 + 1 ≤ 164 + (nn + 1); omega, by show 8 + (5 + 11) + 42 ≤ 4412 + 29 * (nn + 1); omega⟩) (vV (ci := 5) (q0 := 4) hK hP hD hN rfl gA_4) rfl rfl hl.1 rfl (lv_room (Nat.le_of_ble_eq_true rfl)) dX4_take_98 ⟨(Nat.le_of_ble_eq_true rfl), (Nat.le_of_ble_eq_true rfl)⟩) hS (fun q _ h => hF q h) hF (fun r8 u t H locs ht hvm hw hB _ _ hS => ?_)
      obtain rfl : r8 = q7.1 := hw
      replace hP : va_P (dC, dI) vwCl (wA a k q7.2) H := by rw [← ht]; exact hB.1
      replace hD := hD0 (q7.2)
      clear hB hF
      refine lv_istore (lv' := [(8, .int q7.1), (7, .int q5.1), (6, .int (q1.2.1 89 5)), (0, .ref (a 89)), (1, .int x1), (2, .int x2), (3, .int x3), (4, .int x4), (5, .int x5)]) hx hb dX4_take_101 hl (by decide) rfl (fun ls hl => ?_)
      refine lv_aload_n hx hb dX4_take_103 rfl (lv_at hl 3 rfl) ?_
      refine lv_sipush (v := 200) hx hb dX4_take_104 (by decide) ?_
      refine lv_iload hx hb dX4_take_107 (lv_at hl 1 rfl) ?_
      refine lv_iadd hx hb dX4_take_109 ?_
      obtain ⟨q9, hc, h⟩ := ib h
      have hF := va_frees hD hS hA
      refine va_callv (va_runV (As := [.int (200 + q5.1)]) (rest := []) ⟨hx, hb, hml, hown, hts⟩ (s_X4_step_89_50 hc) (cwV 1 hts (gV mw_12_8 mw_12_9 mw_12_10 mw_0_8 mw_49_3) rfl rfl rfl (by decide +kernel) ⟨by show 0 + 1 ≤ 164 + (nn + 1); omega, by show 8 + (2 + 11) + 0 ≤ 4412 + 29 * (nn + 1); omega⟩) (vV (ci := 4) (q0 := 89) hK hP hD hN rfl gA_89) rfl rfl hl.1 rfl (lv_room (Nat.le_of_ble_eq_true rfl)) dX4_take_110 ⟨(Nat.le_of_ble_eq_true rfl), (Nat.le_of_ble_eq_true rfl)⟩) hS (fun q _ h => hF q h) hF (fun u t H locs ht hvm hw hB _ _ hS => ?_)
      replace hP : va_P (dC, dI) vwCl (wA a k q9) H := by rw [← ht]; exact hB.1
      replace hD := hD0 (q9)
      clear hB hF
      refine lv_iload_n hx hb dX4_take_113 rfl (lv_at hl 5 rfl) ?_
      refine lv_iconst (v := (-1)) hx hb dX4_take_114 (by decide) ?_
      refine lv_icmp_eq (tgt := 140) hx hb dX4_take_115 (by decide) (fun hc => ?_) (fun hc => ?_)
      · replace h := ip hc h
        exact b_X4_take_140_89_50 hC hr_X4_take hr_X4_takeField hr_X4_takeList hr_X4_takeOwn hr_X4_takeRecord h _ _ _ hP hD hS (lv_sub hl [3, 5, 6, 7, 8, 0] rfl)
      · replace h := iq hc h
        refine lv_aload_n hx hb dX4_take_118 rfl (lv_at hl 3 rfl) ?_
        refine va_get (D := (dC, dI)) (ci := 4) (C := RX4) (T := TX4) (N := 12) hx hb hts inlX4 hown hK hP 89 gA_89 rfl 2 (by decide) (hts (.fieldLink RX4 45 "ShapeReader$Reading" "matcher" "LShapeReader$Matcher;") mw_11_0) (fun _ h9 => h9) rfl dX4_take_119 ?_
        refine lv_iload hx hb dX4_take_122 (lv_at hl 0 rfl) ?_
        refine lv_iload_n hx hb dX4_take_124 rfl (lv_at hl 5 rfl) ?_
        obtain ⟨q11, hc, h⟩ := ib h
        have hF := va_frees hD hS hA
        refine va_calli (va_runV (As := [.int q7.1, .int x2]) (rest := []) ⟨hx, hb, hml, hown, hts⟩ (s_X0_fits hc) (cwV 2 hts (gV mw_12_11 mw_3_27 mw_3_28 mw_0_4 mw_47_9) rfl rfl rfl (by decide +kernel) ⟨by show 163 + 1 ≤ 164 + (nn + 1); omega, by show 8 + (3 + 11) + 4390 ≤ 4412 + 29 * (nn + 1); omega⟩) (vV (ci := 0) (q0 := 41) hK hP hD hN rfl gA_41) rfl rfl hl.1 rfl (lv_room (Nat.le_of_ble_eq_true rfl)) dX4_take_125 ⟨(Nat.le_of_ble_eq_true rfl), (Nat.le_of_ble_eq_true rfl)⟩) hS (fun q _ h => hF q h) hF (fun r12 u t H locs ht hvm hw hB _ _ hS => ?_)
        obtain rfl : r12 = q11.1 := hw
        replace hP : va_P (dC, dI) vwCl (wA a k q11.2) H := by rw [← ht]; exact hB.1
        replace hD := hD0 (q11.2)
        clear hB hF
        refine lv_if_ne (tgt := 140) hx hb dX4_take_128 (by decide) (fun hc => ?_) (fun hc => ?_)
        · replace h := iq hc h
          exact b_X4_take_140_89_50 hC hr_X4_take hr_X4_takeField hr_X4_takeList hr_X4_takeOwn hr_X4_takeRecord h _ _ _ hP hD hS (lv_sub hl [3, 5, 6, 7, 8, 0] rfl)
        · replace h := ip hc h
          refine lv_aload_n hx hb dX4_take_131 rfl (lv_at hl 3 rfl) ?_
          refine lv_bipush (v := 13) hx hb dX4_take_132 (by decide) ?_
          refine lv_iload hx hb dX4_take_134 (lv_at hl 2 rfl) ?_
          obtain ⟨q13, hc, h⟩ := ib h
          have hF := va_frees hD hS hA
          refine va_callv (va_runV (As := [.int 13, .int (q1.2.1 89 5)]) (rest := []) ⟨hx, hb, hml, hown, hts⟩ (s_X4_fail_89_50 hc) (cwV 2 hts (gV mw_11_15 mw_11_16 mw_11_17 mw_0_8 mw_49_2) rfl rfl rfl (by decide +kernel) ⟨by show 0 + 1 ≤ 164 + (nn + 1); omega, by show 8 + (3 + 11) + 0 ≤ 4412 + 29 * (nn + 1); omega⟩) (vV (ci := 4) (q0 := 89) hK hP hD hN rfl gA_89) rfl rfl hl.1 rfl (lv_room (Nat.le_of_ble_eq_true rfl)) dX4_take_136 ⟨(Nat.le_of_ble_eq_true rfl), (Nat.le_of_ble_eq_true rfl)⟩) hS (fun q _ h => hF q h) hF (fun u t H locs ht hvm hw hB _ _ hS => ?_)
          replace hP : va_P (dC, dI) vwCl (wA a k q13) H := by rw [← ht]; exact hB.1
          replace hD := hD0 (q13)
          clear hB hF
          obtain rfl := Option.some.inj h
          exact W.vret hx hb hr (fun t ht hW => ⟨⟨(), rfl, trivial, ⟨by rw [ht]; exact hP, va_K.moved hW.alike hK, hD⟩⟩, hS.F ht⟩) hS.2.2 dX4_take_139
    · replace h := iq hc h
      obtain rfl := Option.some.inj h
      exact W.vret hx hb hr (fun t ht hW => ⟨⟨(), rfl, trivial, ⟨by rw [ht]; exact hP, va_K.moved hW.alike hK, hD⟩⟩, hS.F ht⟩) hS.2.2 dX4_take_90
  · replace h := iq hc h
    refine lv_aload_n hx hb dX4_take_47 rfl (lv_at hl 0 rfl) ?_
    refine lv_iload_n hx hb dX4_take_48 rfl (lv_at hl 1 rfl) ?_
    refine lv_iload_n hx hb dX4_take_49 rfl (lv_at hl 2 rfl) ?_
    refine lv_iload_n hx hb dX4_take_50 rfl (lv_at hl 3 rfl) ?_
    refine lv_iload hx hb dX4_take_51 (lv_at hl 4 rfl) ?_
    refine lv_iload hx hb dX4_take_53 (lv_at hl 5 rfl) ?_
    obtain ⟨q15, hc, h⟩ := ib h
    have hF := va_frees hD hS hA
    refine va_callv (va_runV (As := [.int x1, .int x2, .int x3, .int x4, .int x5]) (rest := []) ⟨hx, hb, hml, hown, hts⟩ (hr_X4_takeOwn hc) (cwV 5 hts (gV mw_11_26 mw_11_27 mw_11_28 mw_0_8 mw_49_7) rfl rfl rfl (by decide +kernel) ⟨by show (164 + nn) + 1 ≤ 164 + (nn + 1); omega, by show 8 + (8 + 11) + (4412 + 29 * nn) ≤ 4412 + 29 * (nn + 1); omega⟩) (vV (ci := 4) (q0 := 89) hK hP hD hN rfl gA_89) rfl rfl hl.1 rfl (lv_room (Nat.le_of_ble_eq_true rfl)) dX4_take_55 ⟨(Nat.le_of_ble_eq_true rfl), (Nat.le_of_ble_eq_true rfl)⟩) hS (fun q _ h => hF q h) hF (fun u t H locs ht hvm hw hB _ _ hS => ?_)
    replace hP : va_P (dC, dI) vwCl (wA a k q15) H := by rw [← ht]; exact hB.1
    replace hD := hD0 (q15)
    clear hB hF
    obtain rfl := Option.some.inj h
    exact W.vret hx hb hr (fun t ht hW => ⟨⟨(), rfl, trivial, ⟨by rw [ht]; exact hP, va_K.moved hW.alike hK, hD⟩⟩, hS.F ht⟩) hS.2.2 dX4_take_58

set_option maxRecDepth 100000 in
set_option maxHeartbeats 4000000 in
theorem b_X4_take_e_89_50 {p : Program} {l : Launch} {e : Env} {s : State} {m : MethodId} {args : Array Value} {below : List Frame} {meth : Method} {c : Code} {dC : Nat → ClassId} {dI : Nat → Nat → Nat} {a : Nat → Nat} {k : Nat → ClassId} {A : Nat → Prop} {q : ST} (hC : CxA p s m args meth c dC dI k A cX4_take RX4 none 9) {nn : Nat} {r_X4_take : Nat → Nat → Int32 → Int32 → Int32 → Int32 → Int32 → ST → Option (ST)} (hr_X4_take : ∀ {sz : Nat} {p0 : Int32} {p1 : Int32} {p2 : Int32} {p3 : Int32} {p4 : Int32} {σ : ST} {q : ST}, r_X4_take 89 50 p0 p1 p2 p3 p4 σ = some q → Met l yX4_take (.code yX4_take cX4_take 9 none :: pw) ({ frames := 164 + nn, cells := 0, slots := 0, locals := 4412 + 29 * nn } : Room) (va_Pc [.ref (a 89), .int p0, .int p1, .int p2, .int p3, .int p4] (vPre dC dI (wA a k σ) (tA k) sz)) (qAv dC dI a k (va_A (wA a k σ) sz) q) 0 0 (va_A (wA a k σ) sz)) {r_X4_takeField : Nat → Nat → Int32 → Int32 → Int32 → Int32 → Int32 → ST → Option (ST)} (hr_X4_takeField : ∀ {sz : Nat} {p0 : Int32} {p1 : Int32} {p2 : Int32} {p3 : Int32} {p4 : Int32} {σ : ST} {q : ST}, r_X4_takeField 89 50 p0 p1 p2 p3 p4 σ = some q → Met l yX4_takeField (.code yX4_takeField cX4_takeField 9 none :: pw) ({ frames := 164 + nn, cells := 0, slots := 0, locals := 4412 + 29 * nn } : Room) (va_Pc [.ref (a 89), .int p0, .int p1, .int p2, .int p3, .int p4] (vPre dC dI (wA a k σ) (tA k) sz)) (qAv dC dI a k (va_A (wA a k σ) sz) q) 0 0 (va_A (wA a k σ) sz)) {r_X4_takeList : Nat → Nat → Int32 → Int32 → Int32 → Int32 → Int32 → ST → Option (ST)} (hr_X4_takeList : ∀ {sz : Nat} {p0 : Int32} {p1 : Int32} {p2 : Int32} {p3 : Int32} {p4 : Int32} {σ : ST} {q : ST}, r_X4_takeList 89 50 p0 p1 p2 p3 p4 σ = some q → Met l yX4_takeList (.code yX4_takeList cX4_takeList 10 none :: pw) ({ frames := 164 + nn, cells := 0, slots := 0, locals := 4412 + 29 * nn } : Room) (va_Pc [.ref (a 89), .int p0, .int p1, .int p2, .int p3, .int p4] (vPre dC dI (wA a k σ) (tA k) sz)) (qAv dC dI a k (va_A (wA a k σ) sz) q) 0 0 (va_A (wA a k σ) sz)) {r_X4_takeOwn : Nat → Nat → Int32 → Int32 → Int32 → Int32 → Int32 → ST → Option (ST)} (hr_X4_takeOwn : ∀ {sz : Nat} {p0 : Int32} {p1 : Int32} {p2 : Int32} {p3 : Int32} {p4 : Int32} {σ : ST} {q : ST}, r_X4_takeOwn 89 50 p0 p1 p2 p3 p4 σ = some q → Met l yX4_takeOwn (.code yX4_takeOwn cX4_takeOwn 8 none :: pw) ({ frames := 164 + nn, cells := 0, slots := 0, locals := 4412 + 29 * nn } : Room) (va_Pc [.ref (a 89), .int p0, .int p1, .int p2, .int p3, .int p4] (vPre dC dI (wA a k σ) (tA k) sz)) (qAv dC dI a k (va_A (wA a k σ) sz) q) 0 0 (va_A (wA a k σ) sz)) {r_X4_takeRecord : Nat → Nat → Int32 → Int32 → Int32 → Int32 → Int32 → ST → Option (ST)} (hr_X4_takeRecord : ∀ {sz : Nat} {p0 : Int32} {p1 : Int32} {p2 : Int32} {p3 : Int32} {p4 : Int32} {σ : ST} {q : ST}, r_X4_takeRecord 89 50 p0 p1 p2 p3 p4 σ = some q → Met l yX4_takeRecord (.code yX4_takeRecord cX4_takeRecord 9 none :: pw) ({ frames := 164 + nn, cells := 0, slots := 0, locals := 4412 + 29 * nn } : Room) (va_Pc [.ref (a 89), .int p0, .int p1, .int p2, .int p3, .int p4] (vPre dC dI (wA a k σ) (tA k) sz)) (qAv dC dI a k (va_A (wA a k σ) sz) q) 0 0 (va_A (wA a k σ) sz))  {p0 : Int32} {p1 : Int32} {p2 : Int32} {p3 : Int32} {p4 : Int32} {σ : ST} (h : f_X4_take r_X4_take r_X4_takeField r_X4_takeList r_X4_takeOwn r_X4_takeRecord 89 50 p0 p1 p2 p3 p4 σ = some q) : GoA p l e ({ frames := 164 + (nn + 1), cells := 0, slots := 0, locals := 4412 + 29 * (nn + 1) } : Room) s m args below meth c (MQ below (qAv dC dI a k A q) args s 0 0 A) dC dI a k A 9 0 σ (lv_args 0 [.ref (a 89), .int p0, .int p1, .int p2, .int p3, .int p4]) [] := by
  have hC0 := hC
  obtain ⟨hx, hb, hr, hml, hown, hts, hlocks, hA, hN, hK⟩ := hC0
  intro H locs ls hP hD hS hl
  have hD0 : ∀ σ1 : ST, va_D A (wA a k σ1) := fun σ1 => wA_D hD
  replace hl : lv_has ls 9 [(0, .ref (a 89)), (1, .int p0), (2, .int p1), (3, .int p2), (4, .int p3), (5, .int p4)] := hl
  unfold f_X4_take at h
  refine lv_iload hx hb dX4_take_0 (lv_at hl 5 rfl) ?_
  refine lv_bipush (v := 31) hx hb dX4_take_2 (by decide) ?_
  refine lv_icmp_lt (tgt := 18) hx hb dX4_take_4 (by decide) (fun hc => ?_) (fun hc => ?_)
  · replace h := ip hc h
    refine lv_iload_n hx hb dX4_take_18 rfl (lv_at hl 2 rfl) ?_
    refine lv_iconst (v := (-1)) hx hb dX4_take_19 (by decide) ?_
    refine lv_icmp_ne (tgt := 34) hx hb dX4_take_20 (by decide) (fun hc => ?_) (fun hc => ?_)
    · replace h := iq hc h
      exact b_X4_take_34_89_50 hC hr_X4_take hr_X4_takeField hr_X4_takeList hr_X4_takeOwn hr_X4_takeRecord h _ _ _ hP hD hS (lv_sub hl [0, 1, 2, 3, 4, 5] rfl)
    · replace h := ip hc h
      refine lv_aload_n hx hb dX4_take_23 rfl (lv_at hl 0 rfl) ?_
      refine lv_iload_n hx hb dX4_take_24 rfl (lv_at hl 1 rfl) ?_
      refine lv_iload hx hb dX4_take_25 (lv_at hl 5 rfl) ?_
      obtain ⟨q1, hc, h⟩ := ib h
      have hF := va_frees hD hS hA
      refine va_calli (va_runV (As := [.int p0, .int p4]) (rest := []) ⟨hx, hb, hml, hown, hts⟩ (s_X4_isEmptyThere_89_50 hc) (cwV 2 hts (gV mw_11_22 mw_11_23 mw_11_24 mw_0_8 mw_49_6) rfl rfl rfl (by decide +kernel) ⟨by show 3 + 1 ≤ 164 + (nn + 1); omega, by show 8 + (4 + 11) + 64 ≤ 4412 + 29 * (nn + 1); omega⟩) (vV (ci := 4) (q0 := 89) hK hP hD hN rfl gA_89) rfl rfl hl.1 rfl (lv_room (Nat.le_of_ble_eq_true rfl)) dX4_take_27 ⟨(Nat.le_of_ble_eq_true rfl), (Nat.le_of_ble_eq_true rfl)⟩) hS (fun q _ h => hF q h) hF (fun r2 u t H locs ht hvm hw hB _ _ hS => ?_)
      obtain rfl : r2 = q1.1 := hw
      replace hP : va_P (dC, dI) vwCl (wA a k q1.2) H := by rw [← ht]; exact hB.1
      replace hD := hD0 (q1.2)
      clear hB hF
      refine lv_if_eq (tgt := 34) hx hb dX4_take_30 (by decide) (fun hc => ?_) (fun hc => ?_)
      · replace h := ip hc h
        exact b_X4_take_34_89_50 hC hr_X4_take hr_X4_takeField hr_X4_takeList hr_X4_takeOwn hr_X4_takeRecord h _ _ _ hP hD hS (lv_sub hl [0, 1, 2, 3, 4, 5] rfl)
      · replace h := iq hc h
        obtain rfl := Option.some.inj h
        exact W.vret hx hb hr (fun t ht hW => ⟨⟨(), rfl, trivial, ⟨by rw [ht]; exact hP, va_K.moved hW.alike hK, hD⟩⟩, hS.F ht⟩) hS.2.2 dX4_take_33
  · replace h := iq hc h
    refine lv_aload_n hx hb dX4_take_7 rfl (lv_at hl 0 rfl) ?_
    refine lv_bipush (v := 16) hx hb dX4_take_8 (by decide) ?_
    refine lv_aload_n hx hb dX4_take_10 rfl (lv_at hl 0 rfl) ?_
    refine va_get (D := (dC, dI)) (ci := 4) (C := RX4) (T := TX4) (N := 12) hx hb hts inlX4 hown hK hP 89 gA_89 rfl 5 (by decide) (hts (.fieldLink RX4 15 "ShapeReader$Reading" "next" "I") mw_10_21) (fun _ h9 => h9) rfl dX4_take_11 ?_
    obtain ⟨q3, hc, h⟩ := ib h
    have hF := va_frees hD hS hA
    refine va_callv (va_runV (As := [.int 16, .int (σ.1 89 5)]) (rest := []) ⟨hx, hb, hml, hown, hts⟩ (s_X4_fail_89_50 hc) (cwV 2 hts (gV mw_11_15 mw_11_16 mw_11_17 mw_0_8 mw_49_2) rfl rfl rfl (by decide +kernel) ⟨by show 0 + 1 ≤ 164 + (nn + 1); omega, by show 8 + (3 + 11) + 0 ≤ 4412 + 29 * (nn + 1); omega⟩) (vV (ci := 4) (q0 := 89) hK hP hD hN rfl gA_89) rfl rfl hl.1 rfl (lv_room (Nat.le_of_ble_eq_true rfl)) dX4_take_14 ⟨(Nat.le_of_ble_eq_true rfl), (Nat.le_of_ble_eq_true rfl)⟩) hS (fun q _ h => hF q h) hF (fun u t H locs ht hvm hw hB _ _ hS => ?_)
    replace hP : va_P (dC, dI) vwCl (wA a k q3) H := by rw [← ht]; exact hB.1
    replace hD := hD0 (q3)
    clear hB hF
    obtain rfl := Option.some.inj h
    exact W.vret hx hb hr (fun t ht hW => ⟨⟨(), rfl, trivial, ⟨by rw [ht]; exact hP, va_K.moved hW.alike hK, hD⟩⟩, hS.F ht⟩) hS.2.2 dX4_take_17


set_option maxRecDepth 100000 in
set_option maxHeartbeats 4000000 in
theorem b_X4_takeField_76_89_50 {p : Program} {l : Launch} {e : Env} {s : State} {m : MethodId} {args : Array Value} {below : List Frame} {meth : Method} {c : Code} {dC : Nat → ClassId} {dI : Nat → Nat → Nat} {a : Nat → Nat} {k : Nat → ClassId} {A : Nat → Prop} {q : ST} (hC : CxA p s m args meth c dC dI k A cX4_takeField RX4 none 9) {nn : Nat} {r_X4_take : Nat → Nat → Int32 → Int32 → Int32 → Int32 → Int32 → ST → Option (ST)} (hr_X4_take : ∀ {sz : Nat} {p0 : Int32} {p1 : Int32} {p2 : Int32} {p3 : Int32} {p4 : Int32} {σ : ST} {q : ST}, r_X4_take 89 50 p0 p1 p2 p3 p4 σ = some q → Met l yX4_take (.code yX4_take cX4_take 9 none :: pw) ({ frames := 164 + nn, cells := 0, slots := 0, locals := 4412 + 29 * nn } : Room) (va_Pc [.ref (a 89), .int p0, .int p1, .int p2, .int p3, .int p4] (vPre dC dI (wA a k σ) (tA k) sz)) (qAv dC dI a k (va_A (wA a k σ) sz) q) 0 0 (va_A (wA a k σ) sz)) {r_X4_takeField : Nat → Nat → Int32 → Int32 → Int32 → Int32 → Int32 → ST → Option (ST)} (hr_X4_takeField : ∀ {sz : Nat} {p0 : Int32} {p1 : Int32} {p2 : Int32} {p3 : Int32} {p4 : Int32} {σ : ST} {q : ST}, r_X4_takeField 89 50 p0 p1 p2 p3 p4 σ = some q → Met l yX4_takeField (.code yX4_takeField cX4_takeField 9 none :: pw) ({ frames := 164 + nn, cells := 0, slots := 0, locals := 4412 + 29 * nn } : Room) (va_Pc [.ref (a 89), .int p0, .int p1, .int p2, .int p3, .int p4] (vPre dC dI (wA a k σ) (tA k) sz)) (qAv dC dI a k (va_A (wA a k σ) sz) q) 0 0 (va_A (wA a k σ) sz)) {r_X4_takeList : Nat → Nat → Int32 → Int32 → Int32 → Int32 → Int32 → ST → Option (ST)} (hr_X4_takeList : ∀ {sz : Nat} {p0 : Int32} {p1 : Int32} {p2 : Int32} {p3 : Int32} {p4 : Int32} {σ : ST} {q : ST}, r_X4_takeList 89 50 p0 p1 p2 p3 p4 σ = some q → Met l yX4_takeList (.code yX4_takeList cX4_takeList 10 none :: pw) ({ frames := 164 + nn, cells := 0, slots := 0, locals := 4412 + 29 * nn } : Room) (va_Pc [.ref (a 89), .int p0, .int p1, .int p2, .int p3, .int p4] (vPre dC dI (wA a k σ) (tA k) sz)) (qAv dC dI a k (va_A (wA a k σ) sz) q) 0 0 (va_A (wA a k σ) sz)) {r_X4_takeOwn : Nat → Nat → Int32 → Int32 → Int32 → Int32 → Int32 → ST → Option (ST)} (hr_X4_takeOwn : ∀ {sz : Nat} {p0 : Int32} {p1 : Int32} {p2 : Int32} {p3 : Int32} {p4 : Int32} {σ : ST} {q : ST}, r_X4_takeOwn 89 50 p0 p1 p2 p3 p4 σ = some q → Met l yX4_takeOwn (.code yX4_takeOwn cX4_takeOwn 8 none :: pw) ({ frames := 164 + nn, cells := 0, slots := 0, locals := 4412 + 29 * nn } : Room) (va_Pc [.ref (a 89), .int p0, .int p1, .int p2, .int p3, .int p4] (vPre dC dI (wA a k σ) (tA k) sz)) (qAv dC dI a k (va_A (wA a k σ) sz) q) 0 0 (va_A (wA a k σ) sz)) {r_X4_takeRecord : Nat → Nat → Int32 → Int32 → Int32 → Int32 → Int32 → ST → Option (ST)} (hr_X4_takeRecord : ∀ {sz : Nat} {p0 : Int32} {p1 : Int32} {p2 : Int32} {p3 : Int32} {p4 : Int32} {σ : ST} {q : ST}, r_X4_takeRecord 89 50 p0 p1 p2 p3 p4 σ = some q → Met l yX4_takeRecord (.code yX4_takeRecord cX4_takeRecord 9 none :: pw) ({ frames := 164 + nn, cells := 0, slots := 0, locals := 4412 + 29 * nn } : Room) (va_Pc [.ref (a 89), .int p0, .int p1, .int p2, .int p3, .int p4] (vPre dC dI (wA a k σ) (tA k) sz)) (qAv dC dI a k (va_A (wA a k σ) sz) q) 0 0 (va_A (wA a k σ) sz)) {k12 : Int32 → Int32 → Int32 → Int32 → Int32 → Int32 → Int32 → Int32 → ST → Option (ST)} (hk12 : ∀ (x1 : Int32) (x2 : Int32) (x3 : Int32) (x4 : Int32) (x5 : Int32) (x6 : Int32) (x7 : Int32) (x8 : Int32) (σ : ST), k12 x1 x2 x3 x4 x5 x6 x7 x8 σ = some q → GoA p l e ({ frames := 164 + (nn + 1), cells := 0, slots := 0, locals := 4412 + 29 * (nn + 1) } : Room) s m args below meth c (MQ below (qAv dC dI a k A q) args s 0 0 A) dC dI a k A 9 12 σ [(0, .ref (a 89)), (1, .int x1), (2, .int x2), (3, .int x3), (4, .int x4), (5, .int x5), (6, .int x6), (7, .int x7), (8, .int x8)] []) {x1 : Int32} {x2 : Int32} {x3 : Int32} {x4 : Int32} {x5 : Int32} {x6 : Int32} {x7 : Int32} {x8 : Int32} {σ : ST} (h : f_X4_takeField_76 r_X4_take r_X4_takeField r_X4_takeList r_X4_takeOwn r_X4_takeRecord k12 89 50 x1 x2 x3 x4 x5 x6 x7 x8 σ = some q) : GoA p l e ({ frames := 164 + (nn + 1), cells := 0, slots := 0, locals := 4412 + 29 * (nn + 1) } : Room) s m args below meth c (MQ below (qAv dC dI a k A q) args s 0 0 A) dC dI a k A 9 76 σ [(0, .ref (a 89)), (1, .int x1), (2, .int x2), (3, .int x3), (4, .int x4), (5, .int x5), (6, .int x6), (7, .int x7), (8, .int x8)] [] := by
  have hC0 := hC
  obtain ⟨hx, hb, hr, hml, hown, hts, hlocks, hA, hN, hK⟩ := hC0
  intro H locs ls hP hD hS hl
  have hD0 : ∀ σ1 : ST, va_D A (wA a k σ1) := fun σ1 => wA_D hD
  unfold f_X4_takeField_76 at h
  refine lv_iinc (v := (x8 + 1)) (lv' := [(8, .int (x8 + 1)), (0, .ref (a 89)), (1, .int x1), (2, .int x2), (3, .int x3), (4, .int x4), (5, .int x5), (6, .int x6), (7, .int x7)]) hx hb dX4_takeField_76 hl (k := 8) rfl rfl (by decide) rfl (fun ls hl => ?_)
  refine lv_goto (tgt := 12) hx hb dX4_takeField_79 (by decide) ?_
  exact hk12 _ _ _ _ _ _ _ _ _ h _ _ _ hP hD hS (lv_sub hl [1, 2, 3, 4, 5, 6, 7, 8, 0] rfl)

set_option maxRecDepth 100000 in
set_option maxHeartbeats 4000000 in
theorem b_X4_takeField_82_89_50 {p : Program} {l : Launch} {e : Env} {s : State} {m : MethodId} {args : Array Value} {below : List Frame} {meth : Method} {c : Code} {dC : Nat → ClassId} {dI : Nat → Nat → Nat} {a : Nat → Nat} {k : Nat → ClassId} {A : Nat → Prop} {q : ST} (hC : CxA p s m args meth c dC dI k A cX4_takeField RX4 none 9) {nn : Nat} {r_X4_take : Nat → Nat → Int32 → Int32 → Int32 → Int32 → Int32 → ST → Option (ST)} (hr_X4_take : ∀ {sz : Nat} {p0 : Int32} {p1 : Int32} {p2 : Int32} {p3 : Int32} {p4 : Int32} {σ : ST} {q : ST}, r_X4_take 89 50 p0 p1 p2 p3 p4 σ = some q → Met l yX4_take (.code yX4_take cX4_take 9 none :: pw) ({ frames := 164 + nn, cells := 0, slots := 0, locals := 4412 + 29 * nn } : Room) (va_Pc [.ref (a 89), .int p0, .int p1, .int p2, .int p3, .int p4] (vPre dC dI (wA a k σ) (tA k) sz)) (qAv dC dI a k (va_A (wA a k σ) sz) q) 0 0 (va_A (wA a k σ) sz)) {r_X4_takeField : Nat → Nat → Int32 → Int32 → Int32 → Int32 → Int32 → ST → Option (ST)} (hr_X4_takeField : ∀ {sz : Nat} {p0 : Int32} {p1 : Int32} {p2 : Int32} {p3 : Int32} {p4 : Int32} {σ : ST} {q : ST}, r_X4_takeField 89 50 p0 p1 p2 p3 p4 σ = some q → Met l yX4_takeField (.code yX4_takeField cX4_takeField 9 none :: pw) ({ frames := 164 + nn, cells := 0, slots := 0, locals := 4412 + 29 * nn } : Room) (va_Pc [.ref (a 89), .int p0, .int p1, .int p2, .int p3, .int p4] (vPre dC dI (wA a k σ) (tA k) sz)) (qAv dC dI a k (va_A (wA a k σ) sz) q) 0 0 (va_A (wA a k σ) sz)) {r_X4_takeList : Nat → Nat → Int32 → Int32 → Int32 → Int32 → Int32 → ST → Option (ST)} (hr_X4_takeList : ∀ {sz : Nat} {p0 : Int32} {p1 : Int32} {p2 : Int32} {p3 : Int32} {p4 : Int32} {σ : ST} {q : ST}, r_X4_takeList 89 50 p0 p1 p2 p3 p4 σ = some q → Met l yX4_takeList (.code yX4_takeList cX4_takeList 10 none :: pw) ({ frames := 164 + nn, cells := 0, slots := 0, locals := 4412 + 29 * nn } : Room) (va_Pc [.ref (a 89), .int p0, .int p1, .int p2, .int p3, .int p4] (vPre dC dI (wA a k σ) (tA k) sz)) (qAv dC dI a k (va_A (wA a k σ) sz) q) 0 0 (va_A (wA a k σ) sz)) {r_X4_takeOwn : Nat → Nat → Int32 → Int32 → Int32 → Int32 → Int32 → ST → Option (ST)} (hr_X4_takeOwn : ∀ {sz : Nat} {p0 : Int32} {p1 : Int32} {p2 : Int32} {p3 : Int32} {p4 : Int32} {σ : ST} {q : ST}, r_X4_takeOwn 89 50 p0 p1 p2 p3 p4 σ = some q → Met l yX4_takeOwn (.code yX4_takeOwn cX4_takeOwn 8 none :: pw) ({ frames := 164 + nn, cells := 0, slots := 0, locals := 4412 + 29 * nn } : Room) (va_Pc [.ref (a 89), .int p0, .int p1, .int p2, .int p3, .int p4] (vPre dC dI (wA a k σ) (tA k) sz)) (qAv dC dI a k (va_A (wA a k σ) sz) q) 0 0 (va_A (wA a k σ) sz)) {r_X4_takeRecord : Nat → Nat → Int32 → Int32 → Int32 → Int32 → Int32 → ST → Option (ST)} (hr_X4_takeRecord : ∀ {sz : Nat} {p0 : Int32} {p1 : Int32} {p2 : Int32} {p3 : Int32} {p4 : Int32} {σ : ST} {q : ST}, r_X4_takeRecord 89 50 p0 p1 p2 p3 p4 σ = some q → Met l yX4_takeRecord (.code yX4_takeRecord cX4_takeRecord 9 none :: pw) ({ frames := 164 + nn, cells := 0, slots := 0, locals := 4412 + 29 * nn } : Room) (va_Pc [.ref (a 89), .int p0, .int p1, .int p2, .int p3, .int p4] (vPre dC dI (wA a k σ) (tA k) sz)) (qAv dC dI a k (va_A (wA a k σ) sz) q) 0 0 (va_A (wA a k σ) sz))  {x1 : Int32} {x5 : Int32} {x7 : Int32} {σ : ST} (h : f_X4_takeField_82 r_X4_take r_X4_takeField r_X4_takeList r_X4_takeOwn r_X4_takeRecord 89 50 x1 x5 x7 σ = some q) : GoA p l e ({ frames := 164 + (nn + 1), cells := 0, slots := 0, locals := 4412 + 29 * (nn + 1) } : Room) s m args below meth c (MQ below (qAv dC dI a k A q) args s 0 0 A) dC dI a k A 9 82 σ [(0, .ref (a 89)), (1, .int x1), (5, .int x5), (7, .int x7)] [] := by
  have hC0 := hC
  obtain ⟨hx, hb, hr, hml, hown, hts, hlocks, hA, hN, hK⟩ := hC0
  intro H locs ls hP hD hS hl
  have hD0 : ∀ σ1 : ST, va_D A (wA a k σ1) := fun σ1 => wA_D hD
  unfold f_X4_takeField_82 at h
  refine lv_iload hx hb dX4_takeField_82 (lv_at hl 3 rfl) ?_
  refine lv_if_ne (tgt := 99) hx hb dX4_takeField_84 (by decide) (fun hc => ?_) (fun hc => ?_)
  · replace h := iq hc h
    obtain rfl := Option.some.inj h
    exact W.vret hx hb hr (fun t ht hW => ⟨⟨(), rfl, trivial, ⟨by rw [ht]; exact hP, va_K.moved hW.alike hK, hD⟩⟩, hS.F ht⟩) hS.2.2 dX4_takeField_99
  · replace h := ip hc h
    refine lv_aload_n hx hb dX4_takeField_87 rfl (lv_at hl 0 rfl) ?_
    refine lv_iload_n hx hb dX4_takeField_88 rfl (lv_at hl 1 rfl) ?_
    refine lv_iconst (v := (-1)) hx hb dX4_takeField_89 (by decide) ?_
    refine lv_iconst (v := (-1)) hx hb dX4_takeField_90 (by decide) ?_
    refine lv_iconst (v := 0) hx hb dX4_takeField_91 (by decide) ?_
    refine lv_iload hx hb dX4_takeField_92 (lv_at hl 2 rfl) ?_
    refine lv_iconst (v := 1) hx hb dX4_takeField_94 (by decide) ?_
    refine lv_iadd hx hb dX4_takeField_95 ?_
    obtain ⟨q1, hc, h⟩ := ib h
    have hF := va_frees hD hS hA
    refine va_callv (va_runV (As := [.int x1, .int (-1), .int (-1), .int 0, .int (x5 + 1)]) (rest := []) ⟨hx, hb, hml, hown, hts⟩ (hr_X4_take hc) (cwV 5 hts (gV mw_11_12 mw_11_13 mw_11_14 mw_0_8 mw_49_5) rfl rfl rfl (by decide +kernel) ⟨by show (164 + nn) + 1 ≤ 164 + (nn + 1); omega, by show 8 + (9 + 11) + (4412 + 29 * nn) ≤ 4412 + 29 * (nn + 1); omega⟩) (vV (ci := 4) (q0 := 89) hK hP hD hN rfl gA_89) rfl rfl hl.1 rfl (lv_room (Nat.le_of_ble_eq_true rfl)) dX4_takeField_96 ⟨(Nat.le_of_ble_eq_true rfl), (Nat.le_of_ble_eq_true rfl)⟩) hS (fun q _ h => hF q h) hF (fun u t H locs ht hvm hw hB _ _ hS => ?_)
    replace hP : va_P (dC, dI) vwCl (wA a k q1) H := by rw [← ht]; exact hB.1
    replace hD := hD0 (q1)
    clear hB hF
    obtain rfl := Option.some.inj h
    exact W.vret hx hb hr (fun t ht hW => ⟨⟨(), rfl, trivial, ⟨by rw [ht]; exact hP, va_K.moved hW.alike hK, hD⟩⟩, hS.F ht⟩) hS.2.2 dX4_takeField_99

set_option maxRecDepth 100000 in
set_option maxHeartbeats 4000000 in
theorem b_X4_takeField_12_89_50 {p : Program} {l : Launch} {e : Env} {s : State} {m : MethodId} {args : Array Value} {below : List Frame} {meth : Method} {c : Code} {dC : Nat → ClassId} {dI : Nat → Nat → Nat} {a : Nat → Nat} {k : Nat → ClassId} {A : Nat → Prop} {q : ST} (hC : CxA p s m args meth c dC dI k A cX4_takeField RX4 none 9) {nn : Nat} {r_X4_take : Nat → Nat → Int32 → Int32 → Int32 → Int32 → Int32 → ST → Option (ST)} (hr_X4_take : ∀ {sz : Nat} {p0 : Int32} {p1 : Int32} {p2 : Int32} {p3 : Int32} {p4 : Int32} {σ : ST} {q : ST}, r_X4_take 89 50 p0 p1 p2 p3 p4 σ = some q → Met l yX4_take (.code yX4_take cX4_take 9 none :: pw) ({ frames := 164 + nn, cells := 0, slots := 0, locals := 4412 + 29 * nn } : Room) (va_Pc [.ref (a 89), .int p0, .int p1, .int p2, .int p3, .int p4] (vPre dC dI (wA a k σ) (tA k) sz)) (qAv dC dI a k (va_A (wA a k σ) sz) q) 0 0 (va_A (wA a k σ) sz)) {r_X4_takeField : Nat → Nat → Int32 → Int32 → Int32 → Int32 → Int32 → ST → Option (ST)} (hr_X4_takeField : ∀ {sz : Nat} {p0 : Int32} {p1 : Int32} {p2 : Int32} {p3 : Int32} {p4 : Int32} {σ : ST} {q : ST}, r_X4_takeField 89 50 p0 p1 p2 p3 p4 σ = some q → Met l yX4_takeField (.code yX4_takeField cX4_takeField 9 none :: pw) ({ frames := 164 + nn, cells := 0, slots := 0, locals := 4412 + 29 * nn } : Room) (va_Pc [.ref (a 89), .int p0, .int p1, .int p2, .int p3, .int p4] (vPre dC dI (wA a k σ) (tA k) sz)) (qAv dC dI a k (va_A (wA a k σ) sz) q) 0 0 (va_A (wA a k σ) sz)) {r_X4_takeList : Nat → Nat → Int32 → Int32 → Int32 → Int32 → Int32 → ST → Option (ST)} (hr_X4_takeList : ∀ {sz : Nat} {p0 : Int32} {p1 : Int32} {p2 : Int32} {p3 : Int32} {p4 : Int32} {σ : ST} {q : ST}, r_X4_takeList 89 50 p0 p1 p2 p3 p4 σ = some q → Met l yX4_takeList (.code yX4_takeList cX4_takeList 10 none :: pw) ({ frames := 164 + nn, cells := 0, slots := 0, locals := 4412 + 29 * nn } : Room) (va_Pc [.ref (a 89), .int p0, .int p1, .int p2, .int p3, .int p4] (vPre dC dI (wA a k σ) (tA k) sz)) (qAv dC dI a k (va_A (wA a k σ) sz) q) 0 0 (va_A (wA a k σ) sz)) {r_X4_takeOwn : Nat → Nat → Int32 → Int32 → Int32 → Int32 → Int32 → ST → Option (ST)} (hr_X4_takeOwn : ∀ {sz : Nat} {p0 : Int32} {p1 : Int32} {p2 : Int32} {p3 : Int32} {p4 : Int32} {σ : ST} {q : ST}, r_X4_takeOwn 89 50 p0 p1 p2 p3 p4 σ = some q → Met l yX4_takeOwn (.code yX4_takeOwn cX4_takeOwn 8 none :: pw) ({ frames := 164 + nn, cells := 0, slots := 0, locals := 4412 + 29 * nn } : Room) (va_Pc [.ref (a 89), .int p0, .int p1, .int p2, .int p3, .int p4] (vPre dC dI (wA a k σ) (tA k) sz)) (qAv dC dI a k (va_A (wA a k σ) sz) q) 0 0 (va_A (wA a k σ) sz)) {r_X4_takeRecord : Nat → Nat → Int32 → Int32 → Int32 → Int32 → Int32 → ST → Option (ST)} (hr_X4_takeRecord : ∀ {sz : Nat} {p0 : Int32} {p1 : Int32} {p2 : Int32} {p3 : Int32} {p4 : Int32} {σ : ST} {q : ST}, r_X4_takeRecord 89 50 p0 p1 p2 p3 p4 σ = some q → Met l yX4_takeRecord (.code yX4_takeRecord cX4_takeRecord 9 none :: pw) ({ frames := 164 + nn, cells := 0, slots := 0, locals := 4412 + 29 * nn } : Room) (va_Pc [.ref (a 89), .int p0, .int p1, .int p2, .int p3, .int p4] (vPre dC dI (wA a k σ) (tA k) sz)) (qAv dC dI a k (va_A (wA a k σ) sz) q) 0 0 (va_A (wA a k σ) sz))  : ∀ (n : Nat) (x1 : Int32) (x2 : Int32) (x3 : Int32) (x4 : Int32) (x5 : Int32) (x6 : Int32) (x7 : Int32) (x8 : Int32) (σ : ST), f_X4_takeField_12 r_X4_take r_X4_takeField r_X4_takeList r_X4_takeOwn r_X4_takeRecord 89 50 n x1 x2 x3 x4 x5 x6 x7 x8 σ = some q → GoA p l e ({ frames := 164 + (nn + 1), cells := 0, slots := 0, locals := 4412 + 29 * (nn + 1) } : Room) s m args below meth c (MQ below (qAv dC dI a k A q) args s 0 0 A) dC dI a k A 9 12 σ [(0, .ref (a 89)), (1, .int x1), (2, .int x2), (3, .int x3), (4, .int x4), (5, .int x5), (6, .int x6), (7, .int x7), (8, .int x8)] [] := by
  intro n
  induction n with
  | zero =>
    intro x1 x2 x3 x4 x5 x6 x7 x8 σ h
    rw [f_X4_takeField_12] at h
    cases h
  | succ n ih =>
    intro x1 x2 x3 x4 x5 x6 x7 x8 σ h
    have hC0 := hC
    obtain ⟨hx, hb, hr, hml, hown, hts, hlocks, hA, hN, hK⟩ := hC0
    intro H locs ls hP hD hS hl
    have hD0 : ∀ σ1 : ST, va_D A (wA a k σ1) := fun σ1 => wA_D hD
    rw [f_X4_takeField_12] at h
    refine lv_iload hx hb dX4_takeField_12 (lv_at hl 8 rfl) ?_
    refine lv_aload_n hx hb dX4_takeField_14 rfl (lv_at hl 0 rfl) ?_
    refine va_get (D := (dC, dI)) (ci := 4) (C := RX4) (T := TX4) (N := 12) hx hb hts inlX4 hown hK hP 89 gA_89 rfl 0 (by decide) (hts (.fieldLink RX4 37 "ShapeReader$Reading" "shapes" "LShapeReader$Shapes;") mw_10_28) (fun _ h9 => h9) rfl dX4_takeField_15 ?_
    refine lv_iload_n hx hb dX4_takeField_18 rfl (lv_at hl 3 rfl) ?_
    obtain ⟨q1, hc, h⟩ := ib h
    have hF := va_frees hD hS hA
    refine va_calli (va_runV (As := [.int x3]) (rest := [.int x8]) ⟨hx, hb, hml, hown, hts⟩ (s_X5_fieldsOf_4 hc) (cwV 1 hts (gV mw_13_5 mw_1_28 mw_1_29 mw_0_9 mw_49_29) rfl rfl rfl (by decide +kernel) ⟨by show 1 + 1 ≤ 164 + (nn + 1); omega, by show 8 + (2 + 11) + 20 ≤ 4412 + 29 * (nn + 1); omega⟩) (vV (ci := 5) (q0 := 4) hK hP hD hN rfl gA_4) rfl rfl hl.1 rfl (lv_room (Nat.le_of_ble_eq_true rfl)) dX4_takeField_19 ⟨(Nat.le_of_ble_eq_true rfl), (Nat.le_of_ble_eq_true rfl)⟩) hS (fun q _ h => hF q h) hF (fun r2 u t H locs ht hvm hw hB _ _ hS => ?_)
    obtain rfl : r2 = q1.1 := hw
    replace hP : va_P (dC, dI) vwCl (wA a k q1.2) H := by rw [← ht]; exact hB.1
    replace hD := hD0 (q1.2)
    clear hB hF
    refine lv_icmp_ge (tgt := 82) hx hb dX4_takeField_22 (by decide) (fun hc => ?_) (fun hc => ?_)
    · replace h := ip hc h
      exact b_X4_takeField_82_89_50 hC hr_X4_take hr_X4_takeField hr_X4_takeList hr_X4_takeOwn hr_X4_takeRecord h _ _ _ hP hD hS (lv_sub hl [0, 1, 5, 7] rfl)
    · replace h := iq hc h
      refine lv_aload_n hx hb dX4_takeField_25 rfl (lv_at hl 0 rfl) ?_
      refine va_get (D := (dC, dI)) (ci := 4) (C := RX4) (T := TX4) (N := 12) hx hb hts inlX4 hown hK hP 89 gA_89 rfl 7 (by decide) (hts (.fieldLink RX4 21 "ShapeReader$Reading" "failure" "I") mw_10_23) (fun _ h9 => h9) rfl dX4_takeField_26 ?_
      refine lv_if_ne (tgt := 82) hx hb dX4_takeField_29 (by decide) (fun hc => ?_) (fun hc => ?_)
      · replace h := iq hc h
        exact b_X4_takeField_82_89_50 hC hr_X4_take hr_X4_takeField hr_X4_takeList hr_X4_takeOwn hr_X4_takeRecord h _ _ _ hP hD hS (lv_sub hl [0, 1, 5, 7] rfl)
      · replace h := ip hc h
        refine lv_aload_n hx hb dX4_takeField_32 rfl (lv_at hl 0 rfl) ?_
        refine lv_iload hx hb dX4_takeField_33 (lv_at hl 5 rfl) ?_
        refine lv_iload hx hb dX4_takeField_35 (lv_at hl 8 rfl) ?_
        obtain ⟨q3, hc, h⟩ := ib h
        have hF := va_frees hD hS hA
        refine va_calli (va_runV (As := [.int x5, .int x8]) (rest := []) ⟨hx, hb, hml, hown, hts⟩ (s_X4_sourceAt_89_50 hc) (cwV 2 hts (gV mw_13_16 mw_13_17 mw_13_18 mw_0_8 mw_49_11) rfl rfl rfl (by decide +kernel) ⟨by show 0 + 1 ≤ 164 + (nn + 1); omega, by show 8 + (3 + 11) + 0 ≤ 4412 + 29 * (nn + 1); omega⟩) (vV (ci := 4) (q0 := 89) hK hP hD hN rfl gA_89) rfl rfl hl.1 rfl (lv_room (Nat.le_of_ble_eq_true rfl)) dX4_takeField_37 ⟨(Nat.le_of_ble_eq_true rfl), (Nat.le_of_ble_eq_true rfl)⟩) hS (fun q _ h => hF q h) hF (fun r4 u t H locs ht hvm hw hB _ _ hS => ?_)
        obtain rfl : r4 = q3.1 := hw
        replace hP : va_P (dC, dI) vwCl (wA a k q3.2) H := by rw [← ht]; exact hB.1
        replace hD := hD0 (q3.2)
        clear hB hF
        refine lv_iload_n hx hb dX4_takeField_40 rfl (lv_at hl 2 rfl) ?_
        refine lv_icmp_ne (tgt := 76) hx hb dX4_takeField_41 (by decide) (fun hc => ?_) (fun hc => ?_)
        · replace h := iq hc h
          exact b_X4_takeField_76_89_50 hC hr_X4_take hr_X4_takeField hr_X4_takeList hr_X4_takeOwn hr_X4_takeRecord ih h _ _ _ hP hD hS (lv_sub hl [0, 1, 2, 3, 4, 5, 6, 7, 8] rfl)
        · replace h := ip hc h
          refine lv_aload_n hx hb dX4_takeField_44 rfl (lv_at hl 0 rfl) ?_
          refine lv_iload hx hb dX4_takeField_45 (lv_at hl 6 rfl) ?_
          refine va_put (D := (dC, dI)) (ci := 4) (ty := .int) (C := RX4) (T := TX4) (N := 12) hx hb hts inlX4 tyX4 tyX4_ok nmX4 hown hK hP hD hS 89 gA_89 rfl 5 (by decide) (hts (.fieldLink RX4 15 "ShapeReader$Reading" "next" "I") mw_10_21) (fun _ h9 => h9) rfl (by decide +kernel) rfl rfl (Nat.le_of_ble_eq_true rfl) dX4_takeField_47 (fun H locs hP hD hS => ?_)
          replace hP := uA_89_5 hP
          replace hD := hD0 ((stI q3.2 89 5 x6))
          refine lv_iconst (v := 1) hx hb dX4_takeField_50 (by decide) ?_
          refine lv_istore (lv' := [(7, .int 1), (0, .ref (a 89)), (1, .int x1), (2, .int x2), (3, .int x3), (4, .int x4), (5, .int x5), (6, .int x6), (8, .int x8)]) hx hb dX4_takeField_51 hl (by decide) rfl (fun ls hl => ?_)
          refine lv_aload_n hx hb dX4_takeField_53 rfl (lv_at hl 1 rfl) ?_
          refine lv_iload_n hx hb dX4_takeField_54 rfl (lv_at hl 2 rfl) ?_
          refine lv_aload_n hx hb dX4_takeField_55 rfl (lv_at hl 1 rfl) ?_
          refine va_get (D := (dC, dI)) (ci := 4) (C := RX4) (T := TX4) (N := 12) hx hb hts inlX4 hown hK hP 89 gA_89 rfl 0 (by decide) (hts (.fieldLink RX4 37 "ShapeReader$Reading" "shapes" "LShapeReader$Shapes;") mw_10_28) (fun _ h9 => h9) rfl dX4_takeField_56 ?_
          refine lv_iload_n hx hb dX4_takeField_59 rfl (lv_at hl 4 rfl) ?_
          refine lv_iload hx hb dX4_takeField_60 (lv_at hl 8 rfl) ?_
          obtain ⟨q5, hc, h⟩ := ib h
          have hF := va_frees hD hS hA
          refine va_calli (va_runV (As := [.int x3, .int x8]) (rest := [.int x1, .ref (a 89)]) ⟨hx, hb, hml, hown, hts⟩ (s_X5_typeOf_4 hc) (cwV 2 hts (gV mw_13_12 mw_2_7 mw_2_8 mw_0_9 mw_50_3) rfl rfl rfl (by decide +kernel) ⟨by show 1 + 1 ≤ 164 + (nn + 1); omega, by show 8 + (3 + 11) + 21 ≤ 4412 + 29 * (nn + 1); omega⟩) (vV (ci := 5) (q0 := 4) hK hP hD hN rfl gA_4) rfl rfl hl.1 rfl (lv_room (Nat.le_of_ble_eq_true rfl)) dX4_takeField_62 ⟨(Nat.le_of_ble_eq_true rfl), (Nat.le_of_ble_eq_true rfl)⟩) hS (fun q _ h => hF q h) hF (fun r6 u t H locs ht hvm hw hB _ _ hS => ?_)
          obtain rfl : r6 = q5.1 := hw
          replace hP : va_P (dC, dI) vwCl (wA a k q5.2) H := by rw [← ht]; exact hB.1
          replace hD := hD0 (q5.2)
          clear hB hF
          refine lv_iload hx hb dX4_takeField_65 (lv_at hl 5 rfl) ?_
          refine lv_iload hx hb dX4_takeField_67 (lv_at hl 8 rfl) ?_
          refine lv_iload hx hb dX4_takeField_69 (lv_at hl 6 rfl) ?_
          refine lv_iconst (v := 1) hx hb dX4_takeField_71 (by decide) ?_
          refine lv_iadd hx hb dX4_takeField_72 ?_
          obtain ⟨q7, hc, h⟩ := ib h
          have hF := va_frees hD hS hA
          refine va_callv (va_runV (As := [.int x1, .int q5.1, .int x4, .int x8, .int (x5 + 1)]) (rest := []) ⟨hx, hb, hml, hown, hts⟩ (hr_X4_take hc) (cwV 5 hts (gV mw_11_12 mw_11_13 mw_11_14 mw_0_8 mw_49_5) rfl rfl rfl (by decide +kernel) ⟨by show (164 + nn) + 1 ≤ 164 + (nn + 1); omega, by show 8 + (9 + 11) + (4412 + 29 * nn) ≤ 4412 + 29 * (nn + 1); omega⟩) (vV (ci := 4) (q0 := 89) hK hP hD hN rfl gA_89) rfl rfl hl.1 rfl (lv_room (Nat.le_of_ble_eq_true rfl)) dX4_takeField_73 ⟨(Nat.le_of_ble_eq_true rfl), (Nat.le_of_ble_eq_true rfl)⟩) hS (fun q _ h => hF q h) hF (fun u t H locs ht hvm hw hB _ _ hS => ?_)
          replace hP : va_P (dC, dI) vwCl (wA a k q7) H := by rw [← ht]; exact hB.1
          replace hD := hD0 (q7)
          clear hB hF
          exact b_X4_takeField_76_89_50 hC hr_X4_take hr_X4_takeField hr_X4_takeList hr_X4_takeOwn hr_X4_takeRecord ih h _ _ _ hP hD hS (lv_sub hl [1, 2, 3, 4, 5, 6, 7, 0, 8] rfl)

set_option maxRecDepth 100000 in
set_option maxHeartbeats 4000000 in
theorem b_X4_takeField_e_89_50 {p : Program} {l : Launch} {e : Env} {s : State} {m : MethodId} {args : Array Value} {below : List Frame} {meth : Method} {c : Code} {dC : Nat → ClassId} {dI : Nat → Nat → Nat} {a : Nat → Nat} {k : Nat → ClassId} {A : Nat → Prop} {q : ST} (hC : CxA p s m args meth c dC dI k A cX4_takeField RX4 none 9) {nn : Nat} {r_X4_take : Nat → Nat → Int32 → Int32 → Int32 → Int32 → Int32 → ST → Option (ST)} (hr_X4_take : ∀ {sz : Nat} {p0 : Int32} {p1 : Int32} {p2 : Int32} {p3 : Int32} {p4 : Int32} {σ : ST} {q : ST}, r_X4_take 89 50 p0 p1 p2 p3 p4 σ = some q → Met l yX4_take (.code yX4_take cX4_take 9 none :: pw) ({ frames := 164 + nn, cells := 0, slots := 0, locals := 4412 + 29 * nn } : Room) (va_Pc [.ref (a 89), .int p0, .int p1, .int p2, .int p3, .int p4] (vPre dC dI (wA a k σ) (tA k) sz)) (qAv dC dI a k (va_A (wA a k σ) sz) q) 0 0 (va_A (wA a k σ) sz)) {r_X4_takeField : Nat → Nat → Int32 → Int32 → Int32 → Int32 → Int32 → ST → Option (ST)} (hr_X4_takeField : ∀ {sz : Nat} {p0 : Int32} {p1 : Int32} {p2 : Int32} {p3 : Int32} {p4 : Int32} {σ : ST} {q : ST}, r_X4_takeField 89 50 p0 p1 p2 p3 p4 σ = some q → Met l yX4_takeField (.code yX4_takeField cX4_takeField 9 none :: pw) ({ frames := 164 + nn, cells := 0, slots := 0, locals := 4412 + 29 * nn } : Room) (va_Pc [.ref (a 89), .int p0, .int p1, .int p2, .int p3, .int p4] (vPre dC dI (wA a k σ) (tA k) sz)) (qAv dC dI a k (va_A (wA a k σ) sz) q) 0 0 (va_A (wA a k σ) sz)) {r_X4_takeList : Nat → Nat → Int32 → Int32 → Int32 → Int32 → Int32 → ST → Option (ST)} (hr_X4_takeList : ∀ {sz : Nat} {p0 : Int32} {p1 : Int32} {p2 : Int32} {p3 : Int32} {p4 : Int32} {σ : ST} {q : ST}, r_X4_takeList 89 50 p0 p1 p2 p3 p4 σ = some q → Met l yX4_takeList (.code yX4_takeList cX4_takeList 10 none :: pw) ({ frames := 164 + nn, cells := 0, slots := 0, locals := 4412 + 29 * nn } : Room) (va_Pc [.ref (a 89), .int p0, .int p1, .int p2, .int p3, .int p4] (vPre dC dI (wA a k σ) (tA k) sz)) (qAv dC dI a k (va_A (wA a k σ) sz) q) 0 0 (va_A (wA a k σ) sz)) {r_X4_takeOwn : Nat → Nat → Int32 → Int32 → Int32 → Int32 → Int32 → ST → Option (ST)} (hr_X4_takeOwn : ∀ {sz : Nat} {p0 : Int32} {p1 : Int32} {p2 : Int32} {p3 : Int32} {p4 : Int32} {σ : ST} {q : ST}, r_X4_takeOwn 89 50 p0 p1 p2 p3 p4 σ = some q → Met l yX4_takeOwn (.code yX4_takeOwn cX4_takeOwn 8 none :: pw) ({ frames := 164 + nn, cells := 0, slots := 0, locals := 4412 + 29 * nn } : Room) (va_Pc [.ref (a 89), .int p0, .int p1, .int p2, .int p3, .int p4] (vPre dC dI (wA a k σ) (tA k) sz)) (qAv dC dI a k (va_A (wA a k σ) sz) q) 0 0 (va_A (wA a k σ) sz)) {r_X4_takeRecord : Nat → Nat → Int32 → Int32 → Int32 → Int32 → Int32 → ST → Option (ST)} (hr_X4_takeRecord : ∀ {sz : Nat} {p0 : Int32} {p1 : Int32} {p2 : Int32} {p3 : Int32} {p4 : Int32} {σ : ST} {q : ST}, r_X4_takeRecord 89 50 p0 p1 p2 p3 p4 σ = some q → Met l yX4_takeRecord (.code yX4_takeRecord cX4_takeRecord 9 none :: pw) ({ frames := 164 + nn, cells := 0, slots := 0, locals := 4412 + 29 * nn } : Room) (va_Pc [.ref (a 89), .int p0, .int p1, .int p2, .int p3, .int p4] (vPre dC dI (wA a k σ) (tA k) sz)) (qAv dC dI a k (va_A (wA a k σ) sz) q) 0 0 (va_A (wA a k σ) sz))  {p0 : Int32} {p1 : Int32} {p2 : Int32} {p3 : Int32} {p4 : Int32} {σ : ST} (h : f_X4_takeField r_X4_take r_X4_takeField r_X4_takeList r_X4_takeOwn r_X4_takeRecord 89 50 p0 p1 p2 p3 p4 σ = some q) : GoA p l e ({ frames := 164 + (nn + 1), cells := 0, slots := 0, locals := 4412 + 29 * (nn + 1) } : Room) s m args below meth c (MQ below (qAv dC dI a k A q) args s 0 0 A) dC dI a k A 9 0 σ (lv_args 0 [.ref (a 89), .int p0, .int p1, .int p2, .int p3, .int p4]) [] := by
  have hC0 := hC
  obtain ⟨hx, hb, hr, hml, hown, hts, hlocks, hA, hN, hK⟩ := hC0
  intro H locs ls hP hD hS hl
  have hD0 : ∀ σ1 : ST, va_D A (wA a k σ1) := fun σ1 => wA_D hD
  replace hl : lv_has ls 9 [(0, .ref (a 89)), (1, .int p0), (2, .int p1), (3, .int p2), (4, .int p3), (5, .int p4)] := hl
  unfold f_X4_takeField at h
  refine lv_aload_n hx hb dX4_takeField_0 rfl (lv_at hl 0 rfl) ?_
  refine va_get (D := (dC, dI)) (ci := 4) (C := RX4) (T := TX4) (N := 12) hx hb hts inlX4 hown hK hP 89 gA_89 rfl 5 (by decide) (hts (.fieldLink RX4 15 "ShapeReader$Reading" "next" "I") mw_10_21) (fun _ h9 => h9) rfl dX4_takeField_1 ?_
  refine lv_istore (lv' := [(6, .int (σ.1 89 5)), (0, .ref (a 89)), (1, .int p0), (2, .int p1), (3, .int p2), (4, .int p3), (5, .int p4)]) hx hb dX4_takeField_4 hl (by decide) rfl (fun ls hl => ?_)
  refine lv_iconst (v := 0) hx hb dX4_takeField_6 (by decide) ?_
  refine lv_istore (lv' := [(7, .int 0), (6, .int (σ.1 89 5)), (0, .ref (a 89)), (1, .int p0), (2, .int p1), (3, .int p2), (4, .int p3), (5, .int p4)]) hx hb dX4_takeField_7 hl (by decide) rfl (fun ls hl => ?_)
  refine lv_iconst (v := 0) hx hb dX4_takeField_9 (by decide) ?_
  refine lv_istore (lv' := [(8, .int 0), (7, .int 0), (6, .int (σ.1 89 5)), (0, .ref (a 89)), (1, .int p0), (2, .int p1), (3, .int p2), (4, .int p3), (5, .int p4)]) hx hb dX4_takeField_10 hl (by decide) rfl (fun ls hl => ?_)
  exact b_X4_takeField_12_89_50 hC hr_X4_take hr_X4_takeField hr_X4_takeList hr_X4_takeOwn hr_X4_takeRecord FU _ _ _ _ _ _ _ _ _ h _ _ _ hP hD hS (lv_sub hl [3, 4, 5, 6, 7, 8, 2, 1, 0] rfl)


set_option maxRecDepth 100000 in
set_option maxHeartbeats 4000000 in
theorem b_X4_takeList_48_89_50 {p : Program} {l : Launch} {e : Env} {s : State} {m : MethodId} {args : Array Value} {below : List Frame} {meth : Method} {c : Code} {dC : Nat → ClassId} {dI : Nat → Nat → Nat} {a : Nat → Nat} {k : Nat → ClassId} {A : Nat → Prop} {q : ST} (hC : CxA p s m args meth c dC dI k A cX4_takeList RX4 none 10) {nn : Nat} {r_X4_take : Nat → Nat → Int32 → Int32 → Int32 → Int32 → Int32 → ST → Option (ST)} (hr_X4_take : ∀ {sz : Nat} {p0 : Int32} {p1 : Int32} {p2 : Int32} {p3 : Int32} {p4 : Int32} {σ : ST} {q : ST}, r_X4_take 89 50 p0 p1 p2 p3 p4 σ = some q → Met l yX4_take (.code yX4_take cX4_take 9 none :: pw) ({ frames := 164 + nn, cells := 0, slots := 0, locals := 4412 + 29 * nn } : Room) (va_Pc [.ref (a 89), .int p0, .int p1, .int p2, .int p3, .int p4] (vPre dC dI (wA a k σ) (tA k) sz)) (qAv dC dI a k (va_A (wA a k σ) sz) q) 0 0 (va_A (wA a k σ) sz)) {r_X4_takeField : Nat → Nat → Int32 → Int32 → Int32 → Int32 → Int32 → ST → Option (ST)} (hr_X4_takeField : ∀ {sz : Nat} {p0 : Int32} {p1 : Int32} {p2 : Int32} {p3 : Int32} {p4 : Int32} {σ : ST} {q : ST}, r_X4_takeField 89 50 p0 p1 p2 p3 p4 σ = some q → Met l yX4_takeField (.code yX4_takeField cX4_takeField 9 none :: pw) ({ frames := 164 + nn, cells := 0, slots := 0, locals := 4412 + 29 * nn } : Room) (va_Pc [.ref (a 89), .int p0, .int p1, .int p2, .int p3, .int p4] (vPre dC dI (wA a k σ) (tA k) sz)) (qAv dC dI a k (va_A (wA a k σ) sz) q) 0 0 (va_A (wA a k σ) sz)) {r_X4_takeList : Nat → Nat → Int32 → Int32 → Int32 → Int32 → Int32 → ST → Option (ST)} (hr_X4_takeList : ∀ {sz : Nat} {p0 : Int32} {p1 : Int32} {p2 : Int32} {p3 : Int32} {p4 : Int32} {σ : ST} {q : ST}, r_X4_takeList 89 50 p0 p1 p2 p3 p4 σ = some q → Met l yX4_takeList (.code yX4_takeList cX4_takeList 10 none :: pw) ({ frames := 164 + nn, cells := 0, slots := 0, locals := 4412 + 29 * nn } : Room) (va_Pc [.ref (a 89), .int p0, .int p1, .int p2, .int p3, .int p4] (vPre dC dI (wA a k σ) (tA k) sz)) (qAv dC dI a k (va_A (wA a k σ) sz) q) 0 0 (va_A (wA a k σ) sz)) {r_X4_takeOwn : Nat → Nat → Int32 → Int32 → Int32 → Int32 → Int32 → ST → Option (ST)} (hr_X4_takeOwn : ∀ {sz : Nat} {p0 : Int32} {p1 : Int32} {p2 : Int32} {p3 : Int32} {p4 : Int32} {σ : ST} {q : ST}, r_X4_takeOwn 89 50 p0 p1 p2 p3 p4 σ = some q → Met l yX4_takeOwn (.code yX4_takeOwn cX4_takeOwn 8 none :: pw) ({ frames := 164 + nn, cells := 0, slots := 0, locals := 4412 + 29 * nn } : Room) (va_Pc [.ref (a 89), .int p0, .int p1, .int p2, .int p3, .int p4] (vPre dC dI (wA a k σ) (tA k) sz)) (qAv dC dI a k (va_A (wA a k σ) sz) q) 0 0 (va_A (wA a k σ) sz)) {r_X4_takeRecord : Nat → Nat → Int32 → Int32 → Int32 → Int32 → Int32 → ST → Option (ST)} (hr_X4_takeRecord : ∀ {sz : Nat} {p0 : Int32} {p1 : Int32} {p2 : Int32} {p3 : Int32} {p4 : Int32} {σ : ST} {q : ST}, r_X4_takeRecord 89 50 p0 p1 p2 p3 p4 σ = some q → Met l yX4_takeRecord (.code yX4_takeRecord cX4_takeRecord 9 none :: pw) ({ frames := 164 + nn, cells := 0, slots := 0, locals := 4412 + 29 * nn } : Room) (va_Pc [.ref (a 89), .int p0, .int p1, .int p2, .int p3, .int p4] (vPre dC dI (wA a k σ) (tA k) sz)) (qAv dC dI a k (va_A (wA a k σ) sz) q) 0 0 (va_A (wA a k σ) sz))  : ∀ (n : Nat) (x1 : Int32) (x5 : Int32) (x6 : Int32) (x7 : Int32) (x8 : Int32) (x9 : Int32) (σ : ST), f_X4_takeList_48 r_X4_take r_X4_takeField r_X4_takeList r_X4_takeOwn r_X4_takeRecord 89 50 n x1 x5 x6 x7 x8 x9 σ = some q → GoA p l e ({ frames := 164 + (nn + 1), cells := 0, slots := 0, locals := 4412 + 29 * (nn + 1) } : Room) s m args below meth c (MQ below (qAv dC dI a k A q) args s 0 0 A) dC dI a k A 10 48 σ [(0, .ref (a 89)), (1, .int x1), (5, .int x5), (6, .int x6), (7, .int x7), (8, .int x8), (9, .int x9)] [] := by
  intro n
  induction n with
  | zero =>
    intro x1 x5 x6 x7 x8 x9 σ h
    rw [f_X4_takeList_48] at h
    cases h
  | succ n ih =>
    intro x1 x5 x6 x7 x8 x9 σ h
    have hC0 := hC
    obtain ⟨hx, hb, hr, hml, hown, hts, hlocks, hA, hN, hK⟩ := hC0
    intro H locs ls hP hD hS hl
    have hD0 : ∀ σ1 : ST, va_D A (wA a k σ1) := fun σ1 => wA_D hD
    rw [f_X4_takeList_48] at h
    refine lv_iload hx hb dX4_takeList_48 (lv_at hl 6 rfl) ?_
    refine lv_iload hx hb dX4_takeList_50 (lv_at hl 3 rfl) ?_
    refine lv_icmp_ge (tgt := 96) hx hb dX4_takeList_52 (by decide) (fun hc => ?_) (fun hc => ?_)
    · replace h := ip hc h
      obtain rfl := Option.some.inj h
      exact W.vret hx hb hr (fun t ht hW => ⟨⟨(), rfl, trivial, ⟨by rw [ht]; exact hP, va_K.moved hW.alike hK, hD⟩⟩, hS.F ht⟩) hS.2.2 dX4_takeList_96
    · replace h := iq hc h
      refine lv_aload_n hx hb dX4_takeList_55 rfl (lv_at hl 0 rfl) ?_
      refine va_get (D := (dC, dI)) (ci := 4) (C := RX4) (T := TX4) (N := 12) hx hb hts inlX4 hown hK hP 89 gA_89 rfl 7 (by decide) (hts (.fieldLink RX4 21 "ShapeReader$Reading" "failure" "I") mw_10_23) (fun _ h9 => h9) rfl dX4_takeList_56 ?_
      refine lv_if_ne (tgt := 96) hx hb dX4_takeList_59 (by decide) (fun hc => ?_) (fun hc => ?_)
      · replace h := iq hc h
        obtain rfl := Option.some.inj h
        exact W.vret hx hb hr (fun t ht hW => ⟨⟨(), rfl, trivial, ⟨by rw [ht]; exact hP, va_K.moved hW.alike hK, hD⟩⟩, hS.F ht⟩) hS.2.2 dX4_takeList_96
      · replace h := ip hc h
        refine lv_aload_n hx hb dX4_takeList_62 rfl (lv_at hl 0 rfl) ?_
        refine lv_bipush (v := 100) hx hb dX4_takeList_63 (by decide) ?_
        refine lv_iload hx hb dX4_takeList_65 (lv_at hl 6 rfl) ?_
        refine lv_iadd hx hb dX4_takeList_67 ?_
        obtain ⟨q1, hc, h⟩ := ib h
        have hF := va_frees hD hS hA
        refine va_callv (va_runV (As := [.int (100 + x9)]) (rest := []) ⟨hx, hb, hml, hown, hts⟩ (s_X4_step_89_50 hc) (cwV 1 hts (gV mw_12_8 mw_12_9 mw_12_10 mw_0_8 mw_49_3) rfl rfl rfl (by decide +kernel) ⟨by show 0 + 1 ≤ 164 + (nn + 1); omega, by show 8 + (2 + 11) + 0 ≤ 4412 + 29 * (nn + 1); omega⟩) (vV (ci := 4) (q0 := 89) hK hP hD hN rfl gA_89) rfl rfl hl.1 rfl (lv_room (Nat.le_of_ble_eq_true rfl)) dX4_takeList_68 ⟨(Nat.le_of_ble_eq_true rfl), (Nat.le_of_ble_eq_true rfl)⟩) hS (fun q _ h => hF q h) hF (fun u t H locs ht hvm hw hB _ _ hS => ?_)
        replace hP : va_P (dC, dI) vwCl (wA a k q1) H := by rw [← ht]; exact hB.1
        replace hD := hD0 (q1)
        clear hB hF
        refine lv_aload_n hx hb dX4_takeList_71 rfl (lv_at hl 0 rfl) ?_
        refine lv_iload_n hx hb dX4_takeList_72 rfl (lv_at hl 1 rfl) ?_
        refine lv_iload hx hb dX4_takeList_73 (lv_at hl 5 rfl) ?_
        refine lv_iload hx hb dX4_takeList_75 (lv_at hl 4 rfl) ?_
        refine lv_iload hx hb dX4_takeList_77 (lv_at hl 6 rfl) ?_
        refine lv_iload hx hb dX4_takeList_79 (lv_at hl 2 rfl) ?_
        refine lv_iconst (v := 1) hx hb dX4_takeList_81 (by decide) ?_
        refine lv_iadd hx hb dX4_takeList_82 ?_
        obtain ⟨q3, hc, h⟩ := ib h
        have hF := va_frees hD hS hA
        refine va_callv (va_runV (As := [.int x1, .int x8, .int x7, .int x9, .int (x5 + 1)]) (rest := []) ⟨hx, hb, hml, hown, hts⟩ (hr_X4_take hc) (cwV 5 hts (gV mw_11_12 mw_11_13 mw_11_14 mw_0_8 mw_49_5) rfl rfl rfl (by decide +kernel) ⟨by show (164 + nn) + 1 ≤ 164 + (nn + 1); omega, by show 8 + (9 + 11) + (4412 + 29 * nn) ≤ 4412 + 29 * (nn + 1); omega⟩) (vV (ci := 4) (q0 := 89) hK hP hD hN rfl gA_89) rfl rfl hl.1 rfl (lv_room (Nat.le_of_ble_eq_true rfl)) dX4_takeList_83 ⟨(Nat.le_of_ble_eq_true rfl), (Nat.le_of_ble_eq_true rfl)⟩) hS (fun q _ h => hF q h) hF (fun u t H locs ht hvm hw hB _ _ hS => ?_)
        replace hP : va_P (dC, dI) vwCl (wA a k q3) H := by rw [← ht]; exact hB.1
        replace hD := hD0 (q3)
        clear hB hF
        refine lv_aload_n hx hb dX4_takeList_86 rfl (lv_at hl 0 rfl) ?_
        obtain ⟨q5, hc, h⟩ := ib h
        have hF := va_frees hD hS hA
        refine va_callv (va_runV (As := []) (rest := []) ⟨hx, hb, hml, hown, hts⟩ (s_X4_stepBack_89_50 hc) (cwV 0 hts (gV mw_12_12 mw_12_13 mw_12_14 mw_0_8 mw_49_4) rfl rfl rfl (by decide +kernel) ⟨by show 0 + 1 ≤ 164 + (nn + 1); omega, by show 8 + (1 + 11) + 0 ≤ 4412 + 29 * (nn + 1); omega⟩) (vV (ci := 4) (q0 := 89) hK hP hD hN rfl gA_89) rfl rfl hl.1 rfl (lv_room (Nat.le_of_ble_eq_true rfl)) dX4_takeList_87 ⟨(Nat.le_of_ble_eq_true rfl), (Nat.le_of_ble_eq_true rfl)⟩) hS (fun q _ h => hF q h) hF (fun u t H locs ht hvm hw hB _ _ hS => ?_)
        replace hP : va_P (dC, dI) vwCl (wA a k q5) H := by rw [← ht]; exact hB.1
        replace hD := hD0 (q5)
        clear hB hF
        refine lv_iinc (v := (x9 + 1)) (lv' := [(9, .int (x9 + 1)), (0, .ref (a 89)), (1, .int x1), (5, .int x5), (6, .int x6), (7, .int x7), (8, .int x8)]) hx hb dX4_takeList_90 hl (k := 6) rfl rfl (by decide) rfl (fun ls hl => ?_)
        refine lv_goto (tgt := 48) hx hb dX4_takeList_93 (by decide) ?_
        exact ih _ _ _ _ _ _ _ h _ _ _ hP hD hS (lv_sub hl [1, 2, 3, 4, 5, 6, 0] rfl)

set_option maxRecDepth 100000 in
set_option maxHeartbeats 4000000 in
theorem b_X4_takeList_43_89_50 {p : Program} {l : Launch} {e : Env} {s : State} {m : MethodId} {args : Array Value} {below : List Frame} {meth : Method} {c : Code} {dC : Nat → ClassId} {dI : Nat → Nat → Nat} {a : Nat → Nat} {k : Nat → ClassId} {A : Nat → Prop} {q : ST} (hC : CxA p s m args meth c dC dI k A cX4_takeList RX4 none 10) {nn : Nat} {r_X4_take : Nat → Nat → Int32 → Int32 → Int32 → Int32 → Int32 → ST → Option (ST)} (hr_X4_take : ∀ {sz : Nat} {p0 : Int32} {p1 : Int32} {p2 : Int32} {p3 : Int32} {p4 : Int32} {σ : ST} {q : ST}, r_X4_take 89 50 p0 p1 p2 p3 p4 σ = some q → Met l yX4_take (.code yX4_take cX4_take 9 none :: pw) ({ frames := 164 + nn, cells := 0, slots := 0, locals := 4412 + 29 * nn } : Room) (va_Pc [.ref (a 89), .int p0, .int p1, .int p2, .int p3, .int p4] (vPre dC dI (wA a k σ) (tA k) sz)) (qAv dC dI a k (va_A (wA a k σ) sz) q) 0 0 (va_A (wA a k σ) sz)) {r_X4_takeField : Nat → Nat → Int32 → Int32 → Int32 → Int32 → Int32 → ST → Option (ST)} (hr_X4_takeField : ∀ {sz : Nat} {p0 : Int32} {p1 : Int32} {p2 : Int32} {p3 : Int32} {p4 : Int32} {σ : ST} {q : ST}, r_X4_takeField 89 50 p0 p1 p2 p3 p4 σ = some q → Met l yX4_takeField (.code yX4_takeField cX4_takeField 9 none :: pw) ({ frames := 164 + nn, cells := 0, slots := 0, locals := 4412 + 29 * nn } : Room) (va_Pc [.ref (a 89), .int p0, .int p1, .int p2, .int p3, .int p4] (vPre dC dI (wA a k σ) (tA k) sz)) (qAv dC dI a k (va_A (wA a k σ) sz) q) 0 0 (va_A (wA a k σ) sz)) {r_X4_takeList : Nat → Nat → Int32 → Int32 → Int32 → Int32 → Int32 → ST → Option (ST)} (hr_X4_takeList : ∀ {sz : Nat} {p0 : Int32} {p1 : Int32} {p2 : Int32} {p3 : Int32} {p4 : Int32} {σ : ST} {q : ST}, r_X4_takeList 89 50 p0 p1 p2 p3 p4 σ = some q → Met l yX4_takeList (.code yX4_takeList cX4_takeList 10 none :: pw) ({ frames := 164 + nn, cells := 0, slots := 0, locals := 4412 + 29 * nn } : Room) (va_Pc [.ref (a 89), .int p0, .int p1, .int p2, .int p3, .int p4] (vPre dC dI (wA a k σ) (tA k) sz)) (qAv dC dI a k (va_A (wA a k σ) sz) q) 0 0 (va_A (wA a k σ) sz)) {r_X4_takeOwn : Nat → Nat → Int32 → Int32 → Int32 → Int32 → Int32 → ST → Option (ST)} (hr_X4_takeOwn : ∀ {sz : Nat} {p0 : Int32} {p1 : Int32} {p2 : Int32} {p3 : Int32} {p4 : Int32} {σ : ST} {q : ST}, r_X4_takeOwn 89 50 p0 p1 p2 p3 p4 σ = some q → Met l yX4_takeOwn (.code yX4_takeOwn cX4_takeOwn 8 none :: pw) ({ frames := 164 + nn, cells := 0, slots := 0, locals := 4412 + 29 * nn } : Room) (va_Pc [.ref (a 89), .int p0, .int p1, .int p2, .int p3, .int p4] (vPre dC dI (wA a k σ) (tA k) sz)) (qAv dC dI a k (va_A (wA a k σ) sz) q) 0 0 (va_A (wA a k σ) sz)) {r_X4_takeRecord : Nat → Nat → Int32 → Int32 → Int32 → Int32 → Int32 → ST → Option (ST)} (hr_X4_takeRecord : ∀ {sz : Nat} {p0 : Int32} {p1 : Int32} {p2 : Int32} {p3 : Int32} {p4 : Int32} {σ : ST} {q : ST}, r_X4_takeRecord 89 50 p0 p1 p2 p3 p4 σ = some q → Met l yX4_takeRecord (.code yX4_takeRecord cX4_takeRecord 9 none :: pw) ({ frames := 164 + nn, cells := 0, slots := 0, locals := 4412 + 29 * nn } : Room) (va_Pc [.ref (a 89), .int p0, .int p1, .int p2, .int p3, .int p4] (vPre dC dI (wA a k σ) (tA k) sz)) (qAv dC dI a k (va_A (wA a k σ) sz) q) 0 0 (va_A (wA a k σ) sz))  {x1 : Int32} {x5 : Int32} {x6 : Int32} {x7 : Int32} {y0 : Int32} {σ : ST} (h : f_X4_takeList_43 r_X4_take r_X4_takeField r_X4_takeList r_X4_takeOwn r_X4_takeRecord 89 50 x1 x5 x6 x7 y0 σ = some q) : GoA p l e ({ frames := 164 + (nn + 1), cells := 0, slots := 0, locals := 4412 + 29 * (nn + 1) } : Room) s m args below meth c (MQ below (qAv dC dI a k A q) args s 0 0 A) dC dI a k A 10 43 σ [(0, .ref (a 89)), (1, .int x1), (5, .int x5), (6, .int x6), (7, .int x7)] [.int y0] := by
  have hC0 := hC
  obtain ⟨hx, hb, hr, hml, hown, hts, hlocks, hA, hN, hK⟩ := hC0
  intro H locs ls hP hD hS hl
  have hD0 : ∀ σ1 : ST, va_D A (wA a k σ1) := fun σ1 => wA_D hD
  unfold f_X4_takeList_43 at h
  refine lv_istore (lv' := [(8, .int y0), (0, .ref (a 89)), (1, .int x1), (5, .int x5), (6, .int x6), (7, .int x7)]) hx hb dX4_takeList_43 hl (by decide) rfl (fun ls hl => ?_)
  refine lv_iconst (v := 0) hx hb dX4_takeList_45 (by decide) ?_
  refine lv_istore (lv' := [(9, .int 0), (8, .int y0), (0, .ref (a 89)), (1, .int x1), (5, .int x5), (6, .int x6), (7, .int x7)]) hx hb dX4_takeList_46 hl (by decide) rfl (fun ls hl => ?_)
  exact b_X4_takeList_48_89_50 hC hr_X4_take hr_X4_takeField hr_X4_takeList hr_X4_takeOwn hr_X4_takeRecord FU _ _ _ _ _ _ _ h _ _ _ hP hD hS (lv_sub hl [2, 3, 4, 5, 6, 1, 0] rfl)

set_option maxRecDepth 100000 in
set_option maxHeartbeats 4000000 in
theorem b_X4_takeList_e_89_50 {p : Program} {l : Launch} {e : Env} {s : State} {m : MethodId} {args : Array Value} {below : List Frame} {meth : Method} {c : Code} {dC : Nat → ClassId} {dI : Nat → Nat → Nat} {a : Nat → Nat} {k : Nat → ClassId} {A : Nat → Prop} {q : ST} (hC : CxA p s m args meth c dC dI k A cX4_takeList RX4 none 10) {nn : Nat} {r_X4_take : Nat → Nat → Int32 → Int32 → Int32 → Int32 → Int32 → ST → Option (ST)} (hr_X4_take : ∀ {sz : Nat} {p0 : Int32} {p1 : Int32} {p2 : Int32} {p3 : Int32} {p4 : Int32} {σ : ST} {q : ST}, r_X4_take 89 50 p0 p1 p2 p3 p4 σ = some q → Met l yX4_take (.code yX4_take cX4_take 9 none :: pw) ({ frames := 164 + nn, cells := 0, slots := 0, locals := 4412 + 29 * nn } : Room) (va_Pc [.ref (a 89), .int p0, .int p1, .int p2, .int p3, .int p4] (vPre dC dI (wA a k σ) (tA k) sz)) (qAv dC dI a k (va_A (wA a k σ) sz) q) 0 0 (va_A (wA a k σ) sz)) {r_X4_takeField : Nat → Nat → Int32 → Int32 → Int32 → Int32 → Int32 → ST → Option (ST)} (hr_X4_takeField : ∀ {sz : Nat} {p0 : Int32} {p1 : Int32} {p2 : Int32} {p3 : Int32} {p4 : Int32} {σ : ST} {q : ST}, r_X4_takeField 89 50 p0 p1 p2 p3 p4 σ = some q → Met l yX4_takeField (.code yX4_takeField cX4_takeField 9 none :: pw) ({ frames := 164 + nn, cells := 0, slots := 0, locals := 4412 + 29 * nn } : Room) (va_Pc [.ref (a 89), .int p0, .int p1, .int p2, .int p3, .int p4] (vPre dC dI (wA a k σ) (tA k) sz)) (qAv dC dI a k (va_A (wA a k σ) sz) q) 0 0 (va_A (wA a k σ) sz)) {r_X4_takeList : Nat → Nat → Int32 → Int32 → Int32 → Int32 → Int32 → ST → Option (ST)} (hr_X4_takeList : ∀ {sz : Nat} {p0 : Int32} {p1 : Int32} {p2 : Int32} {p3 : Int32} {p4 : Int32} {σ : ST} {q : ST}, r_X4_takeList 89 50 p0 p1 p2 p3 p4 σ = some q → Met l yX4_takeList (.code yX4_takeList cX4_takeList 10 none :: pw) ({ frames := 164 + nn, cells := 0, slots := 0, locals := 4412 + 29 * nn } : Room) (va_Pc [.ref (a 89), .int p0, .int p1, .int p2, .int p3, .int p4] (vPre dC dI (wA a k σ) (tA k) sz)) (qAv dC dI a k (va_A (wA a k σ) sz) q) 0 0 (va_A (wA a k σ) sz)) {r_X4_takeOwn : Nat → Nat → Int32 → Int32 → Int32 → Int32 → Int32 → ST → Option (ST)} (hr_X4_takeOwn : ∀ {sz : Nat} {p0 : Int32} {p1 : Int32} {p2 : Int32} {p3 : Int32} {p4 : Int32} {σ : ST} {q : ST}, r_X4_takeOwn 89 50 p0 p1 p2 p3 p4 σ = some q → Met l yX4_takeOwn (.code yX4_takeOwn cX4_takeOwn 8 none :: pw) ({ frames := 164 + nn, cells := 0, slots := 0, locals := 4412 + 29 * nn } : Room) (va_Pc [.ref (a 89), .int p0, .int p1, .int p2, .int p3, .int p4] (vPre dC dI (wA a k σ) (tA k) sz)) (qAv dC dI a k (va_A (wA a k σ) sz) q) 0 0 (va_A (wA a k σ) sz)) {r_X4_takeRecord : Nat → Nat → Int32 → Int32 → Int32 → Int32 → Int32 → ST → Option (ST)} (hr_X4_takeRecord : ∀ {sz : Nat} {p0 : Int32} {p1 : Int32} {p2 : Int32} {p3 : Int32} {p4 : Int32} {σ : ST} {q : ST}, r_X4_takeRecord 89 50 p0 p1 p2 p3 p4 σ = some q → Met l yX4_takeRecord (.code yX4_takeRecord cX4_takeRecord 9 none :: pw) ({ frames := 164 + nn, cells := 0, slots := 0, locals := 4412 + 29 * nn } : Room) (va_Pc [.ref (a 89), .int p0, .int p1, .int p2, .int p3, .int p4] (vPre dC dI (wA a k σ) (tA k) sz)) (qAv dC dI a k (va_A (wA a k σ) sz) q) 0 0 (va_A (wA a k σ) sz))  {p0 : Int32} {p1 : Int32} {p2 : Int32} {p3 : Int32} {p4 : Int32} {σ : ST} (h : f_X4_takeList r_X4_take r_X4_takeField r_X4_takeList r_X4_takeOwn r_X4_takeRecord 89 50 p0 p1 p2 p3 p4 σ = some q) : GoA p l e ({ frames := 164 + (nn + 1), cells := 0, slots := 0, locals := 4412 + 29 * (nn + 1) } : Room) s m args below meth c (MQ below (qAv dC dI a k A q) args s 0 0 A) dC dI a k A 10 0 σ (lv_args 0 [.ref (a 89), .int p0, .int p1, .int p2, .int p3, .int p4]) [] := by
  have hC0 := hC
  obtain ⟨hx, hb, hr, hml, hown, hts, hlocks, hA, hN, hK⟩ := hC0
  intro H locs ls hP hD hS hl
  have hD0 : ∀ σ1 : ST, va_D A (wA a k σ1) := fun σ1 => wA_D hD
  replace hl : lv_has ls 10 [(0, .ref (a 89)), (1, .int p0), (2, .int p1), (3, .int p2), (4, .int p3), (5, .int p4)] := hl
  unfold f_X4_takeList at h
  refine lv_aload_n hx hb dX4_takeList_0 rfl (lv_at hl 0 rfl) ?_
  refine lv_aload_n hx hb dX4_takeList_1 rfl (lv_at hl 0 rfl) ?_
  refine va_get (D := (dC, dI)) (ci := 4) (C := RX4) (T := TX4) (N := 12) hx hb hts inlX4 hown hK hP 89 gA_89 rfl 5 (by decide) (hts (.fieldLink RX4 15 "ShapeReader$Reading" "next" "I") mw_10_21) (fun _ h9 => h9) rfl dX4_takeList_2 ?_
  refine lv_sipush (v := 200) hx hb dX4_takeList_5 (by decide) ?_
  obtain ⟨q1, hc, h⟩ := ib h
  have hF := va_frees hD hS hA
  refine va_calli (va_runV (As := [.int (σ.1 89 5), .int 200]) (rest := []) ⟨hx, hb, hml, hown, hts⟩ (s_X4_takeCount_89_50 hc) (cwV 2 hts (gV mw_12_2 mw_12_3 mw_12_4 mw_0_8 mw_49_18) rfl rfl rfl (by decide +kernel) ⟨by show 3 + 1 ≤ 164 + (nn + 1); omega, by show 8 + (5 + 11) + 69 ≤ 4412 + 29 * (nn + 1); omega⟩) (vV (ci := 4) (q0 := 89) hK hP hD hN rfl gA_89) rfl rfl hl.1 rfl (lv_room (Nat.le_of_ble_eq_true rfl)) dX4_takeList_8 ⟨(Nat.le_of_ble_eq_true rfl), (Nat.le_of_ble_eq_true rfl)⟩) hS (fun q _ h => hF q h) hF (fun r2 u t H locs ht hvm hw hB _ _ hS => ?_)
  obtain rfl : r2 = q1.1 := hw
  replace hP : va_P (dC, dI) vwCl (wA a k q1.2) H := by rw [← ht]; exact hB.1
  replace hD := hD0 (q1.2)
  clear hB hF
  refine lv_istore (lv' := [(6, .int q1.1), (0, .ref (a 89)), (1, .int p0), (2, .int p1), (3, .int p2), (4, .int p3), (5, .int p4)]) hx hb dX4_takeList_11 hl (by decide) rfl (fun ls hl => ?_)
  refine lv_aload_n hx hb dX4_takeList_13 rfl (lv_at hl 1 rfl) ?_
  refine lv_iload_n hx hb dX4_takeList_14 rfl (lv_at hl 3 rfl) ?_
  refine lv_iload_n hx hb dX4_takeList_15 rfl (lv_at hl 4 rfl) ?_
  refine lv_iload hx hb dX4_takeList_16 (lv_at hl 5 rfl) ?_
  refine lv_iload hx hb dX4_takeList_18 (lv_at hl 0 rfl) ?_
  refine lv_lconst (v := 0) hx hb dX4_takeList_20 (by decide) ?_
  obtain ⟨q3, hc, h⟩ := ib h
  have hF := va_frees hD hS hA
  refine va_calli (va_runV (As := [.int p1, .int p2, .int p3, .int q1.1, .long 0]) (rest := []) ⟨hx, hb, hml, hown, hts⟩ (s_X4_addNode_89_50 hc) (cwV 5 hts (gV mw_13_6 mw_13_7 mw_13_8 mw_0_8 mw_49_8) rfl rfl rfl (by decide +kernel) ⟨by show 3 + 1 ≤ 164 + (nn + 1); omega, by show 8 + (8 + 11) + 71 ≤ 4412 + 29 * (nn + 1); omega⟩) (vV (ci := 4) (q0 := 89) hK hP hD hN rfl gA_89) rfl rfl hl.1 rfl (lv_room (Nat.le_of_ble_eq_true rfl)) dX4_takeList_21 ⟨(Nat.le_of_ble_eq_true rfl), (Nat.le_of_ble_eq_true rfl)⟩) hS (fun q _ h => hF q h) hF (fun r4 u t H locs ht hvm hw hB _ _ hS => ?_)
  obtain rfl : r4 = q3.1 := hw
  replace hP : va_P (dC, dI) vwCl (wA a k q3.2) H := by rw [← ht]; exact hB.1
  replace hD := hD0 (q3.2)
  clear hB hF
  refine lv_istore (lv' := [(7, .int q3.1), (6, .int q1.1), (0, .ref (a 89)), (1, .int p0), (2, .int p1), (3, .int p2), (4, .int p3), (5, .int p4)]) hx hb dX4_takeList_24 hl (by decide) rfl (fun ls hl => ?_)
  refine lv_iload_n hx hb dX4_takeList_26 rfl (lv_at hl 4 rfl) ?_
  refine lv_iconst (v := (-1)) hx hb dX4_takeList_27 (by decide) ?_
  refine lv_icmp_ne (tgt := 35) hx hb dX4_takeList_28 (by decide) (fun hc => ?_) (fun hc => ?_)
  · replace h := iq hc h
    refine lv_aload_n hx hb dX4_takeList_35 rfl (lv_at hl 2 rfl) ?_
    refine va_get (D := (dC, dI)) (ci := 4) (C := RX4) (T := TX4) (N := 12) hx hb hts inlX4 hown hK hP 89 gA_89 rfl 0 (by decide) (hts (.fieldLink RX4 37 "ShapeReader$Reading" "shapes" "LShapeReader$Shapes;") mw_10_28) (fun _ h9 => h9) rfl dX4_takeList_36 ?_
    refine lv_iload_n hx hb dX4_takeList_39 rfl (lv_at hl 4 rfl) ?_
    obtain ⟨q5, hc, h⟩ := ib h
    have hF := va_frees hD hS hA
    refine va_calli (va_runV (As := [.int p1]) (rest := []) ⟨hx, hb, hml, hown, hts⟩ (s_X5_innerOf_4 hc) (cwV 1 hts (gV mw_12_19 mw_2_16 mw_2_17 mw_0_9 mw_50_7) rfl rfl rfl (by decide +kernel) ⟨by show 1 + 1 ≤ 164 + (nn + 1); omega, by show 8 + (2 + 11) + 21 ≤ 4412 + 29 * (nn + 1); omega⟩) (vV (ci := 5) (q0 := 4) hK hP hD hN rfl gA_4) rfl rfl hl.1 rfl (lv_room (Nat.le_of_ble_eq_true rfl)) dX4_takeList_40 ⟨(Nat.le_of_ble_eq_true rfl), (Nat.le_of_ble_eq_true rfl)⟩) hS (fun q _ h => hF q h) hF (fun r6 u t H locs ht hvm hw hB _ _ hS => ?_)
    obtain rfl : r6 = q5.1 := hw
    replace hP : va_P (dC, dI) vwCl (wA a k q5.2) H := by rw [← ht]; exact hB.1
    replace hD := hD0 (q5.2)
    clear hB hF
    exact b_X4_takeList_43_89_50 hC hr_X4_take hr_X4_takeField hr_X4_takeList hr_X4_takeOwn hr_X4_takeRecord h _ _ _ hP hD hS (lv_sub hl [2, 3, 7, 1, 0] rfl)
  · replace h := ip hc h
    refine lv_iconst (v := (-1)) hx hb dX4_takeList_31 (by decide) ?_
    refine lv_goto (tgt := 43) hx hb dX4_takeList_32 (by decide) ?_
    exact b_X4_takeList_43_89_50 hC hr_X4_take hr_X4_takeField hr_X4_takeList hr_X4_takeOwn hr_X4_takeRecord h _ _ _ hP hD hS (lv_sub hl [2, 3, 7, 1, 0] rfl)


set_option maxRecDepth 100000 in
set_option maxHeartbeats 4000000 in
theorem b_X4_takeOwn_26_89_50 {p : Program} {l : Launch} {e : Env} {s : State} {m : MethodId} {args : Array Value} {below : List Frame} {meth : Method} {c : Code} {dC : Nat → ClassId} {dI : Nat → Nat → Nat} {a : Nat → Nat} {k : Nat → ClassId} {A : Nat → Prop} {q : ST} (hC : CxA p s m args meth c dC dI k A cX4_takeOwn RX4 none 8) {nn : Nat} {r_X4_take : Nat → Nat → Int32 → Int32 → Int32 → Int32 → Int32 → ST → Option (ST)} (hr_X4_take : ∀ {sz : Nat} {p0 : Int32} {p1 : Int32} {p2 : Int32} {p3 : Int32} {p4 : Int32} {σ : ST} {q : ST}, r_X4_take 89 50 p0 p1 p2 p3 p4 σ = some q → Met l yX4_take (.code yX4_take cX4_take 9 none :: pw) ({ frames := 164 + nn, cells := 0, slots := 0, locals := 4412 + 29 * nn } : Room) (va_Pc [.ref (a 89), .int p0, .int p1, .int p2, .int p3, .int p4] (vPre dC dI (wA a k σ) (tA k) sz)) (qAv dC dI a k (va_A (wA a k σ) sz) q) 0 0 (va_A (wA a k σ) sz)) {r_X4_takeField : Nat → Nat → Int32 → Int32 → Int32 → Int32 → Int32 → ST → Option (ST)} (hr_X4_takeField : ∀ {sz : Nat} {p0 : Int32} {p1 : Int32} {p2 : Int32} {p3 : Int32} {p4 : Int32} {σ : ST} {q : ST}, r_X4_takeField 89 50 p0 p1 p2 p3 p4 σ = some q → Met l yX4_takeField (.code yX4_takeField cX4_takeField 9 none :: pw) ({ frames := 164 + nn, cells := 0, slots := 0, locals := 4412 + 29 * nn } : Room) (va_Pc [.ref (a 89), .int p0, .int p1, .int p2, .int p3, .int p4] (vPre dC dI (wA a k σ) (tA k) sz)) (qAv dC dI a k (va_A (wA a k σ) sz) q) 0 0 (va_A (wA a k σ) sz)) {r_X4_takeList : Nat → Nat → Int32 → Int32 → Int32 → Int32 → Int32 → ST → Option (ST)} (hr_X4_takeList : ∀ {sz : Nat} {p0 : Int32} {p1 : Int32} {p2 : Int32} {p3 : Int32} {p4 : Int32} {σ : ST} {q : ST}, r_X4_takeList 89 50 p0 p1 p2 p3 p4 σ = some q → Met l yX4_takeList (.code yX4_takeList cX4_takeList 10 none :: pw) ({ frames := 164 + nn, cells := 0, slots := 0, locals := 4412 + 29 * nn } : Room) (va_Pc [.ref (a 89), .int p0, .int p1, .int p2, .int p3, .int p4] (vPre dC dI (wA a k σ) (tA k) sz)) (qAv dC dI a k (va_A (wA a k σ) sz) q) 0 0 (va_A (wA a k σ) sz)) {r_X4_takeOwn : Nat → Nat → Int32 → Int32 → Int32 → Int32 → Int32 → ST → Option (ST)} (hr_X4_takeOwn : ∀ {sz : Nat} {p0 : Int32} {p1 : Int32} {p2 : Int32} {p3 : Int32} {p4 : Int32} {σ : ST} {q : ST}, r_X4_takeOwn 89 50 p0 p1 p2 p3 p4 σ = some q → Met l yX4_takeOwn (.code yX4_takeOwn cX4_takeOwn 8 none :: pw) ({ frames := 164 + nn, cells := 0, slots := 0, locals := 4412 + 29 * nn } : Room) (va_Pc [.ref (a 89), .int p0, .int p1, .int p2, .int p3, .int p4] (vPre dC dI (wA a k σ) (tA k) sz)) (qAv dC dI a k (va_A (wA a k σ) sz) q) 0 0 (va_A (wA a k σ) sz)) {r_X4_takeRecord : Nat → Nat → Int32 → Int32 → Int32 → Int32 → Int32 → ST → Option (ST)} (hr_X4_takeRecord : ∀ {sz : Nat} {p0 : Int32} {p1 : Int32} {p2 : Int32} {p3 : Int32} {p4 : Int32} {σ : ST} {q : ST}, r_X4_takeRecord 89 50 p0 p1 p2 p3 p4 σ = some q → Met l yX4_takeRecord (.code yX4_takeRecord cX4_takeRecord 9 none :: pw) ({ frames := 164 + nn, cells := 0, slots := 0, locals := 4412 + 29 * nn } : Room) (va_Pc [.ref (a 89), .int p0, .int p1, .int p2, .int p3, .int p4] (vPre dC dI (wA a k σ) (tA k) sz)) (qAv dC dI a k (va_A (wA a k σ) sz) q) 0 0 (va_A (wA a k σ) sz))  {x1 : Int32} {x3 : Int32} {x4 : Int32} {x5 : Int32} {y0 : Int32} {σ : ST} (h : f_X4_takeOwn_26 r_X4_take r_X4_takeField r_X4_takeList r_X4_takeOwn r_X4_takeRecord 89 50 x1 x3 x4 x5 y0 σ = some q) : GoA p l e ({ frames := 164 + (nn + 1), cells := 0, slots := 0, locals := 4412 + 29 * (nn + 1) } : Room) s m args below meth c (MQ below (qAv dC dI a k A q) args s 0 0 A) dC dI a k A 8 26 σ [(0, .ref (a 89)), (1, .int x1), (3, .int x3), (4, .int x4), (5, .int x5)] [.int y0] := by
  have hC0 := hC
  obtain ⟨hx, hb, hr, hml, hown, hts, hlocks, hA, hN, hK⟩ := hC0
  intro H locs ls hP hD hS hl
  have hD0 : ∀ σ1 : ST, va_D A (wA a k σ1) := fun σ1 => wA_D hD
  unfold f_X4_takeOwn_26 at h
  refine lv_istore (lv' := [(6, .int y0), (0, .ref (a 89)), (1, .int x1), (3, .int x3), (4, .int x4), (5, .int x5)]) hx hb dX4_takeOwn_26 hl (by decide) rfl (fun ls hl => ?_)
  refine lv_aload_n hx hb dX4_takeOwn_28 rfl (lv_at hl 1 rfl) ?_
  refine va_get (D := (dC, dI)) (ci := 4) (C := RX4) (T := TX4) (N := 12) hx hb hts inlX4 hown hK hP 89 gA_89 rfl 0 (by decide) (hts (.fieldLink RX4 37 "ShapeReader$Reading" "shapes" "LShapeReader$Shapes;") mw_10_28) (fun _ h9 => h9) rfl dX4_takeOwn_29 ?_
  refine lv_iload_n hx hb dX4_takeOwn_32 rfl (lv_at hl 2 rfl) ?_
  obtain ⟨q1, hc, h⟩ := ib h
  have hF := va_frees hD hS hA
  refine va_calli (va_runV (As := [.int x1]) (rest := []) ⟨hx, hb, hml, hown, hts⟩ (s_X5_sortOf_4 hc) (cwV 1 hts (gV mw_11_25 mw_2_13 mw_2_14 mw_0_9 mw_50_6) rfl rfl rfl (by decide +kernel) ⟨by show 1 + 1 ≤ 164 + (nn + 1); omega, by show 8 + (2 + 11) + 21 ≤ 4412 + 29 * (nn + 1); omega⟩) (vV (ci := 5) (q0 := 4) hK hP hD hN rfl gA_4) rfl rfl hl.1 rfl (lv_room (Nat.le_of_ble_eq_true rfl)) dX4_takeOwn_33 ⟨(Nat.le_of_ble_eq_true rfl), (Nat.le_of_ble_eq_true rfl)⟩) hS (fun q _ h => hF q h) hF (fun r2 u t H locs ht hvm hw hB _ _ hS => ?_)
  obtain rfl : r2 = q1.1 := hw
  replace hP : va_P (dC, dI) vwCl (wA a k q1.2) H := by rw [← ht]; exact hB.1
  replace hD := hD0 (q1.2)
  clear hB hF
  refine lv_istore (lv' := [(7, .int q1.1), (6, .int y0), (0, .ref (a 89)), (1, .int x1), (3, .int x3), (4, .int x4), (5, .int x5)]) hx hb dX4_takeOwn_36 hl (by decide) rfl (fun ls hl => ?_)
  refine lv_iload hx hb dX4_takeOwn_38 (lv_at hl 0 rfl) ?_
  refine lv_bipush (v := 7) hx hb dX4_takeOwn_40 (by decide) ?_
  refine lv_icmp_ne (tgt := 67) hx hb dX4_takeOwn_42 (by decide) (fun hc => ?_) (fun hc => ?_)
  · replace h := iq hc h
    refine lv_iload hx hb dX4_takeOwn_67 (lv_at hl 0 rfl) ?_
    refine lv_bipush (v := 6) hx hb dX4_takeOwn_69 (by decide) ?_
    refine lv_icmp_ne (tgt := 96) hx hb dX4_takeOwn_71 (by decide) (fun hc => ?_) (fun hc => ?_)
    · replace h := iq hc h
      refine lv_aload_n hx hb dX4_takeOwn_96 rfl (lv_at hl 2 rfl) ?_
      refine lv_iload hx hb dX4_takeOwn_97 (lv_at hl 0 rfl) ?_
      refine lv_iload hx hb dX4_takeOwn_99 (lv_at hl 1 rfl) ?_
      refine lv_iload_n hx hb dX4_takeOwn_101 rfl (lv_at hl 4 rfl) ?_
      refine lv_iload hx hb dX4_takeOwn_102 (lv_at hl 5 rfl) ?_
      obtain ⟨q3, hc, h⟩ := ib h
      have hF := va_frees hD hS hA
      refine va_callv (va_runV (As := [.int q1.1, .int y0, .int x3, .int x4]) (rest := []) ⟨hx, hb, hml, hown, hts⟩ (s_X4_takePlain_89_50 hc) (cwV 4 hts (gV mw_12_26 mw_12_27 mw_12_28 mw_0_8 mw_49_15) rfl rfl rfl (by decide +kernel) ⟨by show 4 + 1 ≤ 164 + (nn + 1); omega, by show 8 + (10 + 11) + 98 ≤ 4412 + 29 * (nn + 1); omega⟩) (vV (ci := 4) (q0 := 89) hK hP hD hN rfl gA_89) rfl rfl hl.1 rfl (lv_room (Nat.le_of_ble_eq_true rfl)) dX4_takeOwn_104 ⟨(Nat.le_of_ble_eq_true rfl), (Nat.le_of_ble_eq_true rfl)⟩) hS (fun q _ h => hF q h) hF (fun u t H locs ht hvm hw hB _ _ hS => ?_)
      replace hP : va_P (dC, dI) vwCl (wA a k q3) H := by rw [← ht]; exact hB.1
      replace hD := hD0 (q3)
      clear hB hF
      obtain rfl := Option.some.inj h
      exact W.vret hx hb hr (fun t ht hW => ⟨⟨(), rfl, trivial, ⟨by rw [ht]; exact hP, va_K.moved hW.alike hK, hD⟩⟩, hS.F ht⟩) hS.2.2 dX4_takeOwn_107
    · replace h := ip hc h
      refine lv_aload_n hx hb dX4_takeOwn_74 rfl (lv_at hl 2 rfl) ?_
      refine lv_aload_n hx hb dX4_takeOwn_75 rfl (lv_at hl 2 rfl) ?_
      refine va_get (D := (dC, dI)) (ci := 4) (C := RX4) (T := TX4) (N := 12) hx hb hts inlX4 hown hK hP 89 gA_89 rfl 0 (by decide) (hts (.fieldLink RX4 37 "ShapeReader$Reading" "shapes" "LShapeReader$Shapes;") mw_10_28) (fun _ h9 => h9) rfl dX4_takeOwn_76 ?_
      refine lv_iload_n hx hb dX4_takeOwn_79 rfl (lv_at hl 3 rfl) ?_
      obtain ⟨q5, hc, h⟩ := ib h
      have hF := va_frees hD hS hA
      refine va_calli (va_runV (As := [.int x1]) (rest := [.ref (a 89)]) ⟨hx, hb, hml, hown, hts⟩ (s_X5_innerOf_4 hc) (cwV 1 hts (gV mw_12_19 mw_2_16 mw_2_17 mw_0_9 mw_50_7) rfl rfl rfl (by decide +kernel) ⟨by show 1 + 1 ≤ 164 + (nn + 1); omega, by show 8 + (2 + 11) + 21 ≤ 4412 + 29 * (nn + 1); omega⟩) (vV (ci := 5) (q0 := 4) hK hP hD hN rfl gA_4) rfl rfl hl.1 rfl (lv_room (Nat.le_of_ble_eq_true rfl)) dX4_takeOwn_80 ⟨(Nat.le_of_ble_eq_true rfl), (Nat.le_of_ble_eq_true rfl)⟩) hS (fun q _ h => hF q h) hF (fun r6 u t H locs ht hvm hw hB _ _ hS => ?_)
      obtain rfl : r6 = q5.1 := hw
      replace hP : va_P (dC, dI) vwCl (wA a k q5.2) H := by rw [← ht]; exact hB.1
      replace hD := hD0 (q5.2)
      clear hB hF
      refine lv_iload hx hb dX4_takeOwn_83 (lv_at hl 1 rfl) ?_
      refine lv_iload_n hx hb dX4_takeOwn_85 rfl (lv_at hl 4 rfl) ?_
      refine lv_iload hx hb dX4_takeOwn_86 (lv_at hl 5 rfl) ?_
      refine lv_iload hx hb dX4_takeOwn_88 (lv_at hl 6 rfl) ?_
      obtain ⟨q7, hc, h⟩ := ib h
      have hF := va_frees hD hS hA
      refine va_callv (va_runV (As := [.int q5.1, .int y0, .int x3, .int x4, .int x5]) (rest := []) ⟨hx, hb, hml, hown, hts⟩ (hr_X4_takeList hc) (cwV 5 hts (gV mw_12_23 mw_12_24 mw_12_25 mw_0_8 mw_49_14) rfl rfl rfl (by decide +kernel) ⟨by show (164 + nn) + 1 ≤ 164 + (nn + 1); omega, by show 8 + (10 + 11) + (4412 + 29 * nn) ≤ 4412 + 29 * (nn + 1); omega⟩) (vV (ci := 4) (q0 := 89) hK hP hD hN rfl gA_89) rfl rfl hl.1 rfl (lv_room (Nat.le_of_ble_eq_true rfl)) dX4_takeOwn_90 ⟨(Nat.le_of_ble_eq_true rfl), (Nat.le_of_ble_eq_true rfl)⟩) hS (fun q _ h => hF q h) hF (fun u t H locs ht hvm hw hB _ _ hS => ?_)
      replace hP : va_P (dC, dI) vwCl (wA a k q7) H := by rw [← ht]; exact hB.1
      replace hD := hD0 (q7)
      clear hB hF
      refine lv_goto (tgt := 107) hx hb dX4_takeOwn_93 (by decide) ?_
      obtain rfl := Option.some.inj h
      exact W.vret hx hb hr (fun t ht hW => ⟨⟨(), rfl, trivial, ⟨by rw [ht]; exact hP, va_K.moved hW.alike hK, hD⟩⟩, hS.F ht⟩) hS.2.2 dX4_takeOwn_107
  · replace h := ip hc h
    refine lv_aload_n hx hb dX4_takeOwn_45 rfl (lv_at hl 2 rfl) ?_
    refine lv_aload_n hx hb dX4_takeOwn_46 rfl (lv_at hl 2 rfl) ?_
    refine va_get (D := (dC, dI)) (ci := 4) (C := RX4) (T := TX4) (N := 12) hx hb hts inlX4 hown hK hP 89 gA_89 rfl 0 (by decide) (hts (.fieldLink RX4 37 "ShapeReader$Reading" "shapes" "LShapeReader$Shapes;") mw_10_28) (fun _ h9 => h9) rfl dX4_takeOwn_47 ?_
    refine lv_iload_n hx hb dX4_takeOwn_50 rfl (lv_at hl 3 rfl) ?_
    obtain ⟨q9, hc, h⟩ := ib h
    have hF := va_frees hD hS hA
    refine va_calli (va_runV (As := [.int x1]) (rest := [.ref (a 89)]) ⟨hx, hb, hml, hown, hts⟩ (s_X5_innerOf_4 hc) (cwV 1 hts (gV mw_12_19 mw_2_16 mw_2_17 mw_0_9 mw_50_7) rfl rfl rfl (by decide +kernel) ⟨by show 1 + 1 ≤ 164 + (nn + 1); omega, by show 8 + (2 + 11) + 21 ≤ 4412 + 29 * (nn + 1); omega⟩) (vV (ci := 5) (q0 := 4) hK hP hD hN rfl gA_4) rfl rfl hl.1 rfl (lv_room (Nat.le_of_ble_eq_true rfl)) dX4_takeOwn_51 ⟨(Nat.le_of_ble_eq_true rfl), (Nat.le_of_ble_eq_true rfl)⟩) hS (fun q _ h => hF q h) hF (fun r10 u t H locs ht hvm hw hB _ _ hS => ?_)
    obtain rfl : r10 = q9.1 := hw
    replace hP : va_P (dC, dI) vwCl (wA a k q9.2) H := by rw [← ht]; exact hB.1
    replace hD := hD0 (q9.2)
    clear hB hF
    refine lv_iload hx hb dX4_takeOwn_54 (lv_at hl 1 rfl) ?_
    refine lv_iload_n hx hb dX4_takeOwn_56 rfl (lv_at hl 4 rfl) ?_
    refine lv_iload hx hb dX4_takeOwn_57 (lv_at hl 5 rfl) ?_
    refine lv_iload hx hb dX4_takeOwn_59 (lv_at hl 6 rfl) ?_
    obtain ⟨q11, hc, h⟩ := ib h
    have hF := va_frees hD hS hA
    refine va_callv (va_runV (As := [.int q9.1, .int y0, .int x3, .int x4, .int x5]) (rest := []) ⟨hx, hb, hml, hown, hts⟩ (hr_X4_takeRecord hc) (cwV 5 hts (gV mw_12_20 mw_12_21 mw_12_22 mw_0_8 mw_49_9) rfl rfl rfl (by decide +kernel) ⟨by show (164 + nn) + 1 ≤ 164 + (nn + 1); omega, by show 8 + (9 + 11) + (4412 + 29 * nn) ≤ 4412 + 29 * (nn + 1); omega⟩) (vV (ci := 4) (q0 := 89) hK hP hD hN rfl gA_89) rfl rfl hl.1 rfl (lv_room (Nat.le_of_ble_eq_true rfl)) dX4_takeOwn_61 ⟨(Nat.le_of_ble_eq_true rfl), (Nat.le_of_ble_eq_true rfl)⟩) hS (fun q _ h => hF q h) hF (fun u t H locs ht hvm hw hB _ _ hS => ?_)
    replace hP : va_P (dC, dI) vwCl (wA a k q11) H := by rw [← ht]; exact hB.1
    replace hD := hD0 (q11)
    clear hB hF
    refine lv_goto (tgt := 107) hx hb dX4_takeOwn_64 (by decide) ?_
    obtain rfl := Option.some.inj h
    exact W.vret hx hb hr (fun t ht hW => ⟨⟨(), rfl, trivial, ⟨by rw [ht]; exact hP, va_K.moved hW.alike hK, hD⟩⟩, hS.F ht⟩) hS.2.2 dX4_takeOwn_107

set_option maxRecDepth 100000 in
set_option maxHeartbeats 4000000 in
theorem b_X4_takeOwn_e_89_50 {p : Program} {l : Launch} {e : Env} {s : State} {m : MethodId} {args : Array Value} {below : List Frame} {meth : Method} {c : Code} {dC : Nat → ClassId} {dI : Nat → Nat → Nat} {a : Nat → Nat} {k : Nat → ClassId} {A : Nat → Prop} {q : ST} (hC : CxA p s m args meth c dC dI k A cX4_takeOwn RX4 none 8) {nn : Nat} {r_X4_take : Nat → Nat → Int32 → Int32 → Int32 → Int32 → Int32 → ST → Option (ST)} (hr_X4_take : ∀ {sz : Nat} {p0 : Int32} {p1 : Int32} {p2 : Int32} {p3 : Int32} {p4 : Int32} {σ : ST} {q : ST}, r_X4_take 89 50 p0 p1 p2 p3 p4 σ = some q → Met l yX4_take (.code yX4_take cX4_take 9 none :: pw) ({ frames := 164 + nn, cells := 0, slots := 0, locals := 4412 + 29 * nn } : Room) (va_Pc [.ref (a 89), .int p0, .int p1, .int p2, .int p3, .int p4] (vPre dC dI (wA a k σ) (tA k) sz)) (qAv dC dI a k (va_A (wA a k σ) sz) q) 0 0 (va_A (wA a k σ) sz)) {r_X4_takeField : Nat → Nat → Int32 → Int32 → Int32 → Int32 → Int32 → ST → Option (ST)} (hr_X4_takeField : ∀ {sz : Nat} {p0 : Int32} {p1 : Int32} {p2 : Int32} {p3 : Int32} {p4 : Int32} {σ : ST} {q : ST}, r_X4_takeField 89 50 p0 p1 p2 p3 p4 σ = some q → Met l yX4_takeField (.code yX4_takeField cX4_takeField 9 none :: pw) ({ frames := 164 + nn, cells := 0, slots := 0, locals := 4412 + 29 * nn } : Room) (va_Pc [.ref (a 89), .int p0, .int p1, .int p2, .int p3, .int p4] (vPre dC dI (wA a k σ) (tA k) sz)) (qAv dC dI a k (va_A (wA a k σ) sz) q) 0 0 (va_A (wA a k σ) sz)) {r_X4_takeList : Nat → Nat → Int32 → Int32 → Int32 → Int32 → Int32 → ST → Option (ST)} (hr_X4_takeList : ∀ {sz : Nat} {p0 : Int32} {p1 : Int32} {p2 : Int32} {p3 : Int32} {p4 : Int32} {σ : ST} {q : ST}, r_X4_takeList 89 50 p0 p1 p2 p3 p4 σ = some q → Met l yX4_takeList (.code yX4_takeList cX4_takeList 10 none :: pw) ({ frames := 164 + nn, cells := 0, slots := 0, locals := 4412 + 29 * nn } : Room) (va_Pc [.ref (a 89), .int p0, .int p1, .int p2, .int p3, .int p4] (vPre dC dI (wA a k σ) (tA k) sz)) (qAv dC dI a k (va_A (wA a k σ) sz) q) 0 0 (va_A (wA a k σ) sz)) {r_X4_takeOwn : Nat → Nat → Int32 → Int32 → Int32 → Int32 → Int32 → ST → Option (ST)} (hr_X4_takeOwn : ∀ {sz : Nat} {p0 : Int32} {p1 : Int32} {p2 : Int32} {p3 : Int32} {p4 : Int32} {σ : ST} {q : ST}, r_X4_takeOwn 89 50 p0 p1 p2 p3 p4 σ = some q → Met l yX4_takeOwn (.code yX4_takeOwn cX4_takeOwn 8 none :: pw) ({ frames := 164 + nn, cells := 0, slots := 0, locals := 4412 + 29 * nn } : Room) (va_Pc [.ref (a 89), .int p0, .int p1, .int p2, .int p3, .int p4] (vPre dC dI (wA a k σ) (tA k) sz)) (qAv dC dI a k (va_A (wA a k σ) sz) q) 0 0 (va_A (wA a k σ) sz)) {r_X4_takeRecord : Nat → Nat → Int32 → Int32 → Int32 → Int32 → Int32 → ST → Option (ST)} (hr_X4_takeRecord : ∀ {sz : Nat} {p0 : Int32} {p1 : Int32} {p2 : Int32} {p3 : Int32} {p4 : Int32} {σ : ST} {q : ST}, r_X4_takeRecord 89 50 p0 p1 p2 p3 p4 σ = some q → Met l yX4_takeRecord (.code yX4_takeRecord cX4_takeRecord 9 none :: pw) ({ frames := 164 + nn, cells := 0, slots := 0, locals := 4412 + 29 * nn } : Room) (va_Pc [.ref (a 89), .int p0, .int p1, .int p2, .int p3, .int p4] (vPre dC dI (wA a k σ) (tA k) sz)) (qAv dC dI a k (va_A (wA a k σ) sz) q) 0 0 (va_A (wA a k σ) sz))  {p0 : Int32} {p1 : Int32} {p2 : Int32} {p3 : Int32} {p4 : Int32} {σ : ST} (h : f_X4_takeOwn r_X4_take r_X4_takeField r_X4_takeList r_X4_takeOwn r_X4_takeRecord 89 50 p0 p1 p2 p3 p4 σ = some q) : GoA p l e ({ frames := 164 + (nn + 1), cells := 0, slots := 0, locals := 4412 + 29 * (nn + 1) } : Room) s m args below meth c (MQ below (qAv dC dI a k A q) args s 0 0 A) dC dI a k A 8 0 σ (lv_args 0 [.ref (a 89), .int p0, .int p1, .int p2, .int p3, .int p4]) [] := by
  have hC0 := hC
  obtain ⟨hx, hb, hr, hml, hown, hts, hlocks, hA, hN, hK⟩ := hC0
  intro H locs ls hP hD hS hl
  have hD0 : ∀ σ1 : ST, va_D A (wA a k σ1) := fun σ1 => wA_D hD
  replace hl : lv_has ls 8 [(0, .ref (a 89)), (1, .int p0), (2, .int p1), (3, .int p2), (4, .int p3), (5, .int p4)] := hl
  unfold f_X4_takeOwn at h
  refine lv_aload_n hx hb dX4_takeOwn_0 rfl (lv_at hl 0 rfl) ?_
  refine va_get (D := (dC, dI)) (ci := 4) (C := RX4) (T := TX4) (N := 12) hx hb hts inlX4 hown hK hP 89 gA_89 rfl 0 (by decide) (hts (.fieldLink RX4 37 "ShapeReader$Reading" "shapes" "LShapeReader$Shapes;") mw_10_28) (fun _ h9 => h9) rfl dX4_takeOwn_1 ?_
  refine lv_iload_n hx hb dX4_takeOwn_4 rfl (lv_at hl 2 rfl) ?_
  obtain ⟨q1, hc, h⟩ := ib h
  have hF := va_frees hD hS hA
  refine va_calli (va_runV (As := [.int p1]) (rest := []) ⟨hx, hb, hml, hown, hts⟩ (s_X5_sortOf_4 hc) (cwV 1 hts (gV mw_11_25 mw_2_13 mw_2_14 mw_0_9 mw_50_6) rfl rfl rfl (by decide +kernel) ⟨by show 1 + 1 ≤ 164 + (nn + 1); omega, by show 8 + (2 + 11) + 21 ≤ 4412 + 29 * (nn + 1); omega⟩) (vV (ci := 5) (q0 := 4) hK hP hD hN rfl gA_4) rfl rfl hl.1 rfl (lv_room (Nat.le_of_ble_eq_true rfl)) dX4_takeOwn_5 ⟨(Nat.le_of_ble_eq_true rfl), (Nat.le_of_ble_eq_true rfl)⟩) hS (fun q _ h => hF q h) hF (fun r2 u t H locs ht hvm hw hB _ _ hS => ?_)
  obtain rfl : r2 = q1.1 := hw
  replace hP : va_P (dC, dI) vwCl (wA a k q1.2) H := by rw [← ht]; exact hB.1
  replace hD := hD0 (q1.2)
  clear hB hF
  refine lv_bipush (v := 8) hx hb dX4_takeOwn_8 (by decide) ?_
  refine lv_icmp_ne (tgt := 25) hx hb dX4_takeOwn_10 (by decide) (fun hc => ?_) (fun hc => ?_)
  · replace h := iq hc h
    refine lv_iload_n hx hb dX4_takeOwn_25 rfl (lv_at hl 2 rfl) ?_
    exact b_X4_takeOwn_26_89_50 hC hr_X4_take hr_X4_takeField hr_X4_takeList hr_X4_takeOwn hr_X4_takeRecord h _ _ _ hP hD hS (lv_sub hl [0, 1, 3, 4, 5] rfl)
  · replace h := ip hc h
    refine lv_aload_n hx hb dX4_takeOwn_13 rfl (lv_at hl 0 rfl) ?_
    refine va_get (D := (dC, dI)) (ci := 4) (C := RX4) (T := TX4) (N := 12) hx hb hts inlX4 hown hK hP 89 gA_89 rfl 2 (by decide) (hts (.fieldLink RX4 45 "ShapeReader$Reading" "matcher" "LShapeReader$Matcher;") mw_11_0) (fun _ h9 => h9) rfl dX4_takeOwn_14 ?_
    refine lv_iload_n hx hb dX4_takeOwn_17 rfl (lv_at hl 1 rfl) ?_
    refine lv_iload_n hx hb dX4_takeOwn_18 rfl (lv_at hl 2 rfl) ?_
    obtain ⟨q3, hc, h⟩ := ib h
    have hF := va_frees hD hS hA
    refine va_calli (va_runV (As := [.int p0, .int p1]) (rest := []) ⟨hx, hb, hml, hown, hts⟩ (s_X0_chosen hc) (cwV 2 hts (gV mw_12_18 mw_3_15 mw_3_16 mw_0_4 mw_47_12) rfl rfl rfl (by decide +kernel) ⟨by show 163 + 1 ≤ 164 + (nn + 1); omega, by show 8 + (3 + 11) + 4389 ≤ 4412 + 29 * (nn + 1); omega⟩) (vV (ci := 0) (q0 := 41) hK hP hD hN rfl gA_41) rfl rfl hl.1 rfl (lv_room (Nat.le_of_ble_eq_true rfl)) dX4_takeOwn_19 ⟨(Nat.le_of_ble_eq_true rfl), (Nat.le_of_ble_eq_true rfl)⟩) hS (fun q _ h => hF q h) hF (fun r4 u t H locs ht hvm hw hB _ _ hS => ?_)
    obtain rfl : r4 = q3.1 := hw
    replace hP : va_P (dC, dI) vwCl (wA a k q3.2) H := by rw [← ht]; exact hB.1
    replace hD := hD0 (q3.2)
    clear hB hF
    refine lv_goto (tgt := 26) hx hb dX4_takeOwn_22 (by decide) ?_
    exact b_X4_takeOwn_26_89_50 hC hr_X4_take hr_X4_takeField hr_X4_takeList hr_X4_takeOwn hr_X4_takeRecord h _ _ _ hP hD hS (lv_sub hl [0, 1, 3, 4, 5] rfl)


set_option maxRecDepth 100000 in
set_option maxHeartbeats 4000000 in
theorem b_X4_takeRecord_155_89_50 {p : Program} {l : Launch} {e : Env} {s : State} {m : MethodId} {args : Array Value} {below : List Frame} {meth : Method} {c : Code} {dC : Nat → ClassId} {dI : Nat → Nat → Nat} {a : Nat → Nat} {k : Nat → ClassId} {A : Nat → Prop} {q : ST} (hC : CxA p s m args meth c dC dI k A cX4_takeRecord RX4 none 9) {nn : Nat} {r_X4_take : Nat → Nat → Int32 → Int32 → Int32 → Int32 → Int32 → ST → Option (ST)} (hr_X4_take : ∀ {sz : Nat} {p0 : Int32} {p1 : Int32} {p2 : Int32} {p3 : Int32} {p4 : Int32} {σ : ST} {q : ST}, r_X4_take 89 50 p0 p1 p2 p3 p4 σ = some q → Met l yX4_take (.code yX4_take cX4_take 9 none :: pw) ({ frames := 164 + nn, cells := 0, slots := 0, locals := 4412 + 29 * nn } : Room) (va_Pc [.ref (a 89), .int p0, .int p1, .int p2, .int p3, .int p4] (vPre dC dI (wA a k σ) (tA k) sz)) (qAv dC dI a k (va_A (wA a k σ) sz) q) 0 0 (va_A (wA a k σ) sz)) {r_X4_takeField : Nat → Nat → Int32 → Int32 → Int32 → Int32 → Int32 → ST → Option (ST)} (hr_X4_takeField : ∀ {sz : Nat} {p0 : Int32} {p1 : Int32} {p2 : Int32} {p3 : Int32} {p4 : Int32} {σ : ST} {q : ST}, r_X4_takeField 89 50 p0 p1 p2 p3 p4 σ = some q → Met l yX4_takeField (.code yX4_takeField cX4_takeField 9 none :: pw) ({ frames := 164 + nn, cells := 0, slots := 0, locals := 4412 + 29 * nn } : Room) (va_Pc [.ref (a 89), .int p0, .int p1, .int p2, .int p3, .int p4] (vPre dC dI (wA a k σ) (tA k) sz)) (qAv dC dI a k (va_A (wA a k σ) sz) q) 0 0 (va_A (wA a k σ) sz)) {r_X4_takeList : Nat → Nat → Int32 → Int32 → Int32 → Int32 → Int32 → ST → Option (ST)} (hr_X4_takeList : ∀ {sz : Nat} {p0 : Int32} {p1 : Int32} {p2 : Int32} {p3 : Int32} {p4 : Int32} {σ : ST} {q : ST}, r_X4_takeList 89 50 p0 p1 p2 p3 p4 σ = some q → Met l yX4_takeList (.code yX4_takeList cX4_takeList 10 none :: pw) ({ frames := 164 + nn, cells := 0, slots := 0, locals := 4412 + 29 * nn } : Room) (va_Pc [.ref (a 89), .int p0, .int p1, .int p2, .int p3, .int p4] (vPre dC dI (wA a k σ) (tA k) sz)) (qAv dC dI a k (va_A (wA a k σ) sz) q) 0 0 (va_A (wA a k σ) sz)) {r_X4_takeOwn : Nat → Nat → Int32 → Int32 → Int32 → Int32 → Int32 → ST → Option (ST)} (hr_X4_takeOwn : ∀ {sz : Nat} {p0 : Int32} {p1 : Int32} {p2 : Int32} {p3 : Int32} {p4 : Int32} {σ : ST} {q : ST}, r_X4_takeOwn 89 50 p0 p1 p2 p3 p4 σ = some q → Met l yX4_takeOwn (.code yX4_takeOwn cX4_takeOwn 8 none :: pw) ({ frames := 164 + nn, cells := 0, slots := 0, locals := 4412 + 29 * nn } : Room) (va_Pc [.ref (a 89), .int p0, .int p1, .int p2, .int p3, .int p4] (vPre dC dI (wA a k σ) (tA k) sz)) (qAv dC dI a k (va_A (wA a k σ) sz) q) 0 0 (va_A (wA a k σ) sz)) {r_X4_takeRecord : Nat → Nat → Int32 → Int32 → Int32 → Int32 → Int32 → ST → Option (ST)} (hr_X4_takeRecord : ∀ {sz : Nat} {p0 : Int32} {p1 : Int32} {p2 : Int32} {p3 : Int32} {p4 : Int32} {σ : ST} {q : ST}, r_X4_takeRecord 89 50 p0 p1 p2 p3 p4 σ = some q → Met l yX4_takeRecord (.code yX4_takeRecord cX4_takeRecord 9 none :: pw) ({ frames := 164 + nn, cells := 0, slots := 0, locals := 4412 + 29 * nn } : Room) (va_Pc [.ref (a 89), .int p0, .int p1, .int p2, .int p3, .int p4] (vPre dC dI (wA a k σ) (tA k) sz)) (qAv dC dI a k (va_A (wA a k σ) sz) q) 0 0 (va_A (wA a k σ) sz)) {k112 : Int32 → Int32 → Int32 → Int32 → ST → Option (ST)} (hk112 : ∀ (x5 : Int32) (x6 : Int32) (x7 : Int32) (x8 : Int32) (σ : ST), k112 x5 x6 x7 x8 σ = some q → GoA p l e ({ frames := 164 + (nn + 1), cells := 0, slots := 0, locals := 4412 + 29 * (nn + 1) } : Room) s m args below meth c (MQ below (qAv dC dI a k A q) args s 0 0 A) dC dI a k A 9 112 σ [(0, .ref (a 89)), (5, .int x5), (6, .int x6), (7, .int x7), (8, .int x8)] []) {x5 : Int32} {x6 : Int32} {x7 : Int32} {x8 : Int32} {σ : ST} (h : f_X4_takeRecord_155 r_X4_take r_X4_takeField r_X4_takeList r_X4_takeOwn r_X4_takeRecord k112 89 50 x5 x6 x7 x8 σ = some q) : GoA p l e ({ frames := 164 + (nn + 1), cells := 0, slots := 0, locals := 4412 + 29 * (nn + 1) } : Room) s m args below meth c (MQ below (qAv dC dI a k A q) args s 0 0 A) dC dI a k A 9 155 σ [(0, .ref (a 89)), (5, .int x5), (6, .int x6), (7, .int x7), (8, .int x8)] [] := by
  have hC0 := hC
  obtain ⟨hx, hb, hr, hml, hown, hts, hlocks, hA, hN, hK⟩ := hC0
  intro H locs ls hP hD hS hl
  have hD0 : ∀ σ1 : ST, va_D A (wA a k σ1) := fun σ1 => wA_D hD
  unfold f_X4_takeRecord_155 at h
  refine lv_iinc (v := (x8 + 1)) (lv' := [(8, .int (x8 + 1)), (0, .ref (a 89)), (5, .int x5), (6, .int x6), (7, .int x7)]) hx hb dX4_takeRecord_155 hl (k := 4) rfl rfl (by decide) rfl (fun ls hl => ?_)
  refine lv_goto (tgt := 112) hx hb dX4_takeRecord_158 (by decide) ?_
  exact hk112 _ _ _ _ _ h _ _ _ hP hD hS (lv_sub hl [1, 2, 3, 4, 0] rfl)

set_option maxRecDepth 100000 in
set_option maxHeartbeats 4000000 in
theorem b_X4_takeRecord_112_89_50 {p : Program} {l : Launch} {e : Env} {s : State} {m : MethodId} {args : Array Value} {below : List Frame} {meth : Method} {c : Code} {dC : Nat → ClassId} {dI : Nat → Nat → Nat} {a : Nat → Nat} {k : Nat → ClassId} {A : Nat → Prop} {q : ST} (hC : CxA p s m args meth c dC dI k A cX4_takeRecord RX4 none 9) {nn : Nat} {r_X4_take : Nat → Nat → Int32 → Int32 → Int32 → Int32 → Int32 → ST → Option (ST)} (hr_X4_take : ∀ {sz : Nat} {p0 : Int32} {p1 : Int32} {p2 : Int32} {p3 : Int32} {p4 : Int32} {σ : ST} {q : ST}, r_X4_take 89 50 p0 p1 p2 p3 p4 σ = some q → Met l yX4_take (.code yX4_take cX4_take 9 none :: pw) ({ frames := 164 + nn, cells := 0, slots := 0, locals := 4412 + 29 * nn } : Room) (va_Pc [.ref (a 89), .int p0, .int p1, .int p2, .int p3, .int p4] (vPre dC dI (wA a k σ) (tA k) sz)) (qAv dC dI a k (va_A (wA a k σ) sz) q) 0 0 (va_A (wA a k σ) sz)) {r_X4_takeField : Nat → Nat → Int32 → Int32 → Int32 → Int32 → Int32 → ST → Option (ST)} (hr_X4_takeField : ∀ {sz : Nat} {p0 : Int32} {p1 : Int32} {p2 : Int32} {p3 : Int32} {p4 : Int32} {σ : ST} {q : ST}, r_X4_takeField 89 50 p0 p1 p2 p3 p4 σ = some q → Met l yX4_takeField (.code yX4_takeField cX4_takeField 9 none :: pw) ({ frames := 164 + nn, cells := 0, slots := 0, locals := 4412 + 29 * nn } : Room) (va_Pc [.ref (a 89), .int p0, .int p1, .int p2, .int p3, .int p4] (vPre dC dI (wA a k σ) (tA k) sz)) (qAv dC dI a k (va_A (wA a k σ) sz) q) 0 0 (va_A (wA a k σ) sz)) {r_X4_takeList : Nat → Nat → Int32 → Int32 → Int32 → Int32 → Int32 → ST → Option (ST)} (hr_X4_takeList : ∀ {sz : Nat} {p0 : Int32} {p1 : Int32} {p2 : Int32} {p3 : Int32} {p4 : Int32} {σ : ST} {q : ST}, r_X4_takeList 89 50 p0 p1 p2 p3 p4 σ = some q → Met l yX4_takeList (.code yX4_takeList cX4_takeList 10 none :: pw) ({ frames := 164 + nn, cells := 0, slots := 0, locals := 4412 + 29 * nn } : Room) (va_Pc [.ref (a 89), .int p0, .int p1, .int p2, .int p3, .int p4] (vPre dC dI (wA a k σ) (tA k) sz)) (qAv dC dI a k (va_A (wA a k σ) sz) q) 0 0 (va_A (wA a k σ) sz)) {r_X4_takeOwn : Nat → Nat → Int32 → Int32 → Int32 → Int32 → Int32 → ST → Option (ST)} (hr_X4_takeOwn : ∀ {sz : Nat} {p0 : Int32} {p1 : Int32} {p2 : Int32} {p3 : Int32} {p4 : Int32} {σ : ST} {q : ST}, r_X4_takeOwn 89 50 p0 p1 p2 p3 p4 σ = some q → Met l yX4_takeOwn (.code yX4_takeOwn cX4_takeOwn 8 none :: pw) ({ frames := 164 + nn, cells := 0, slots := 0, locals := 4412 + 29 * nn } : Room) (va_Pc [.ref (a 89), .int p0, .int p1, .int p2, .int p3, .int p4] (vPre dC dI (wA a k σ) (tA k) sz)) (qAv dC dI a k (va_A (wA a k σ) sz) q) 0 0 (va_A (wA a k σ) sz)) {r_X4_takeRecord : Nat → Nat → Int32 → Int32 → Int32 → Int32 → Int32 → ST → Option (ST)} (hr_X4_takeRecord : ∀ {sz : Nat} {p0 : Int32} {p1 : Int32} {p2 : Int32} {p3 : Int32} {p4 : Int32} {σ : ST} {q : ST}, r_X4_takeRecord 89 50 p0 p1 p2 p3 p4 σ = some q → Met l yX4_takeRecord (.code yX4_takeRecord cX4_takeRecord 9 none :: pw) ({ frames := 164 + nn, cells := 0, slots := 0, locals := 4412 + 29 * nn } : Room) (va_Pc [.ref (a 89), .int p0, .int p1, .int p2, .int p3, .int p4] (vPre dC dI (wA a k σ) (tA k) sz)) (qAv dC dI a k (va_A (wA a k σ) sz) q) 0 0 (va_A (wA a k σ) sz))  : ∀ (n : Nat) (x5 : Int32) (x6 : Int32) (x7 : Int32) (x8 : Int32) (σ : ST), f_X4_takeRecord_112 r_X4_take r_X4_takeField r_X4_takeList r_X4_takeOwn r_X4_takeRecord 89 50 n x5 x6 x7 x8 σ = some q → GoA p l e ({ frames := 164 + (nn + 1), cells := 0, slots := 0, locals := 4412 + 29 * (nn + 1) } : Room) s m args below meth c (MQ below (qAv dC dI a k A q) args s 0 0 A) dC dI a k A 9 112 σ [(0, .ref (a 89)), (5, .int x5), (6, .int x6), (7, .int x7), (8, .int x8)] [] := by
  intro n
  induction n with
  | zero =>
    intro x5 x6 x7 x8 σ h
    rw [f_X4_takeRecord_112] at h
    cases h
  | succ n ih =>
    intro x5 x6 x7 x8 σ h
    have hC0 := hC
    obtain ⟨hx, hb, hr, hml, hown, hts, hlocks, hA, hN, hK⟩ := hC0
    intro H locs ls hP hD hS hl
    have hD0 : ∀ σ1 : ST, va_D A (wA a k σ1) := fun σ1 => wA_D hD
    rw [f_X4_takeRecord_112] at h
    refine lv_iload hx hb dX4_takeRecord_112 (lv_at hl 4 rfl) ?_
    refine lv_aload_n hx hb dX4_takeRecord_114 rfl (lv_at hl 0 rfl) ?_
    refine va_get (D := (dC, dI)) (ci := 4) (C := RX4) (T := TX4) (N := 12) hx hb hts inlX4 hown hK hP 89 gA_89 rfl 0 (by decide) (hts (.fieldLink RX4 37 "ShapeReader$Reading" "shapes" "LShapeReader$Shapes;") mw_10_28) (fun _ h9 => h9) rfl dX4_takeRecord_115 ?_
    refine lv_iload hx hb dX4_takeRecord_118 (lv_at hl 2 rfl) ?_
    obtain ⟨q1, hc, h⟩ := ib h
    have hF := va_frees hD hS hA
    refine va_calli (va_runV (As := [.int x6]) (rest := [.int x8]) ⟨hx, hb, hml, hown, hts⟩ (s_X5_fieldsOf_4 hc) (cwV 1 hts (gV mw_13_5 mw_1_28 mw_1_29 mw_0_9 mw_49_29) rfl rfl rfl (by decide +kernel) ⟨by show 1 + 1 ≤ 164 + (nn + 1); omega, by show 8 + (2 + 11) + 20 ≤ 4412 + 29 * (nn + 1); omega⟩) (vV (ci := 5) (q0 := 4) hK hP hD hN rfl gA_4) rfl rfl hl.1 rfl (lv_room (Nat.le_of_ble_eq_true rfl)) dX4_takeRecord_120 ⟨(Nat.le_of_ble_eq_true rfl), (Nat.le_of_ble_eq_true rfl)⟩) hS (fun q _ h => hF q h) hF (fun r2 u t H locs ht hvm hw hB _ _ hS => ?_)
    obtain rfl : r2 = q1.1 := hw
    replace hP : va_P (dC, dI) vwCl (wA a k q1.2) H := by rw [← ht]; exact hB.1
    replace hD := hD0 (q1.2)
    clear hB hF
    refine lv_icmp_ge (tgt := 161) hx hb dX4_takeRecord_123 (by decide) (fun hc => ?_) (fun hc => ?_)
    · replace h := ip hc h
      obtain rfl := Option.some.inj h
      exact W.vret hx hb hr (fun t ht hW => ⟨⟨(), rfl, trivial, ⟨by rw [ht]; exact hP, va_K.moved hW.alike hK, hD⟩⟩, hS.F ht⟩) hS.2.2 dX4_takeRecord_161
    · replace h := iq hc h
      refine lv_aload_n hx hb dX4_takeRecord_126 rfl (lv_at hl 0 rfl) ?_
      refine va_get (D := (dC, dI)) (ci := 4) (C := RX4) (T := TX4) (N := 12) hx hb hts inlX4 hown hK hP 89 gA_89 rfl 7 (by decide) (hts (.fieldLink RX4 21 "ShapeReader$Reading" "failure" "I") mw_10_23) (fun _ h9 => h9) rfl dX4_takeRecord_127 ?_
      refine lv_if_ne (tgt := 161) hx hb dX4_takeRecord_130 (by decide) (fun hc => ?_) (fun hc => ?_)
      · replace h := iq hc h
        obtain rfl := Option.some.inj h
        exact W.vret hx hb hr (fun t ht hW => ⟨⟨(), rfl, trivial, ⟨by rw [ht]; exact hP, va_K.moved hW.alike hK, hD⟩⟩, hS.F ht⟩) hS.2.2 dX4_takeRecord_161
      · replace h := ip hc h
        refine lv_aload_n hx hb dX4_takeRecord_133 rfl (lv_at hl 0 rfl) ?_
        refine lv_iload hx hb dX4_takeRecord_134 (lv_at hl 1 rfl) ?_
        refine lv_iload hx hb dX4_takeRecord_136 (lv_at hl 4 rfl) ?_
        obtain ⟨q3, hc, h⟩ := ib h
        have hF := va_frees hD hS hA
        refine va_calli (va_runV (As := [.int x5, .int x8]) (rest := []) ⟨hx, hb, hml, hown, hts⟩ (s_X4_sourceAt_89_50 hc) (cwV 2 hts (gV mw_13_16 mw_13_17 mw_13_18 mw_0_8 mw_49_11) rfl rfl rfl (by decide +kernel) ⟨by show 0 + 1 ≤ 164 + (nn + 1); omega, by show 8 + (3 + 11) + 0 ≤ 4412 + 29 * (nn + 1); omega⟩) (vV (ci := 4) (q0 := 89) hK hP hD hN rfl gA_89) rfl rfl hl.1 rfl (lv_room (Nat.le_of_ble_eq_true rfl)) dX4_takeRecord_138 ⟨(Nat.le_of_ble_eq_true rfl), (Nat.le_of_ble_eq_true rfl)⟩) hS (fun q _ h => hF q h) hF (fun r4 u t H locs ht hvm hw hB _ _ hS => ?_)
        obtain rfl : r4 = q3.1 := hw
        replace hP : va_P (dC, dI) vwCl (wA a k q3.2) H := by rw [← ht]; exact hB.1
        replace hD := hD0 (q3.2)
        clear hB hF
        refine lv_iconst (v := (-1)) hx hb dX4_takeRecord_141 (by decide) ?_
        refine lv_icmp_ne (tgt := 155) hx hb dX4_takeRecord_142 (by decide) (fun hc => ?_) (fun hc => ?_)
        · replace h := iq hc h
          exact b_X4_takeRecord_155_89_50 hC hr_X4_take hr_X4_takeField hr_X4_takeList hr_X4_takeOwn hr_X4_takeRecord ih h _ _ _ hP hD hS (lv_sub hl [0, 1, 2, 3, 4] rfl)
        · replace h := ip hc h
          refine lv_aload_n hx hb dX4_takeRecord_145 rfl (lv_at hl 0 rfl) ?_
          refine lv_iload hx hb dX4_takeRecord_146 (lv_at hl 2 rfl) ?_
          refine lv_iload hx hb dX4_takeRecord_148 (lv_at hl 4 rfl) ?_
          refine lv_iload hx hb dX4_takeRecord_150 (lv_at hl 3 rfl) ?_
          obtain ⟨q5, hc, h⟩ := ib h
          have hF := va_frees hD hS hA
          refine va_callv (va_runV (As := [.int x6, .int x8, .int x7]) (rest := []) ⟨hx, hb, hml, hown, hts⟩ (s_X4_fillIn_89_50 hc) (cwV 3 hts (gV mw_13_19 mw_13_20 mw_13_21 mw_0_8 mw_49_13) rfl rfl rfl (by decide +kernel) ⟨by show 4 + 1 ≤ 164 + (nn + 1); omega, by show 8 + (8 + 11) + 98 ≤ 4412 + 29 * (nn + 1); omega⟩) (vV (ci := 4) (q0 := 89) hK hP hD hN rfl gA_89) rfl rfl hl.1 rfl (lv_room (Nat.le_of_ble_eq_true rfl)) dX4_takeRecord_152 ⟨(Nat.le_of_ble_eq_true rfl), (Nat.le_of_ble_eq_true rfl)⟩) hS (fun q _ h => hF q h) hF (fun u t H locs ht hvm hw hB _ _ hS => ?_)
          replace hP : va_P (dC, dI) vwCl (wA a k q5) H := by rw [← ht]; exact hB.1
          replace hD := hD0 (q5)
          clear hB hF
          exact b_X4_takeRecord_155_89_50 hC hr_X4_take hr_X4_takeField hr_X4_takeList hr_X4_takeOwn hr_X4_takeRecord ih h _ _ _ hP hD hS (lv_sub hl [0, 1, 2, 3, 4] rfl)

set_option maxRecDepth 100000 in
set_option maxHeartbeats 4000000 in
theorem b_X4_takeRecord_109_89_50 {p : Program} {l : Launch} {e : Env} {s : State} {m : MethodId} {args : Array Value} {below : List Frame} {meth : Method} {c : Code} {dC : Nat → ClassId} {dI : Nat → Nat → Nat} {a : Nat → Nat} {k : Nat → ClassId} {A : Nat → Prop} {q : ST} (hC : CxA p s m args meth c dC dI k A cX4_takeRecord RX4 none 9) {nn : Nat} {r_X4_take : Nat → Nat → Int32 → Int32 → Int32 → Int32 → Int32 → ST → Option (ST)} (hr_X4_take : ∀ {sz : Nat} {p0 : Int32} {p1 : Int32} {p2 : Int32} {p3 : Int32} {p4 : Int32} {σ : ST} {q : ST}, r_X4_take 89 50 p0 p1 p2 p3 p4 σ = some q → Met l yX4_take (.code yX4_take cX4_take 9 none :: pw) ({ frames := 164 + nn, cells := 0, slots := 0, locals := 4412 + 29 * nn } : Room) (va_Pc [.ref (a 89), .int p0, .int p1, .int p2, .int p3, .int p4] (vPre dC dI (wA a k σ) (tA k) sz)) (qAv dC dI a k (va_A (wA a k σ) sz) q) 0 0 (va_A (wA a k σ) sz)) {r_X4_takeField : Nat → Nat → Int32 → Int32 → Int32 → Int32 → Int32 → ST → Option (ST)} (hr_X4_takeField : ∀ {sz : Nat} {p0 : Int32} {p1 : Int32} {p2 : Int32} {p3 : Int32} {p4 : Int32} {σ : ST} {q : ST}, r_X4_takeField 89 50 p0 p1 p2 p3 p4 σ = some q → Met l yX4_takeField (.code yX4_takeField cX4_takeField 9 none :: pw) ({ frames := 164 + nn, cells := 0, slots := 0, locals := 4412 + 29 * nn } : Room) (va_Pc [.ref (a 89), .int p0, .int p1, .int p2, .int p3, .int p4] (vPre dC dI (wA a k σ) (tA k) sz)) (qAv dC dI a k (va_A (wA a k σ) sz) q) 0 0 (va_A (wA a k σ) sz)) {r_X4_takeList : Nat → Nat → Int32 → Int32 → Int32 → Int32 → Int32 → ST → Option (ST)} (hr_X4_takeList : ∀ {sz : Nat} {p0 : Int32} {p1 : Int32} {p2 : Int32} {p3 : Int32} {p4 : Int32} {σ : ST} {q : ST}, r_X4_takeList 89 50 p0 p1 p2 p3 p4 σ = some q → Met l yX4_takeList (.code yX4_takeList cX4_takeList 10 none :: pw) ({ frames := 164 + nn, cells := 0, slots := 0, locals := 4412 + 29 * nn } : Room) (va_Pc [.ref (a 89), .int p0, .int p1, .int p2, .int p3, .int p4] (vPre dC dI (wA a k σ) (tA k) sz)) (qAv dC dI a k (va_A (wA a k σ) sz) q) 0 0 (va_A (wA a k σ) sz)) {r_X4_takeOwn : Nat → Nat → Int32 → Int32 → Int32 → Int32 → Int32 → ST → Option (ST)} (hr_X4_takeOwn : ∀ {sz : Nat} {p0 : Int32} {p1 : Int32} {p2 : Int32} {p3 : Int32} {p4 : Int32} {σ : ST} {q : ST}, r_X4_takeOwn 89 50 p0 p1 p2 p3 p4 σ = some q → Met l yX4_takeOwn (.code yX4_takeOwn cX4_takeOwn 8 none :: pw) ({ frames := 164 + nn, cells := 0, slots := 0, locals := 4412 + 29 * nn } : Room) (va_Pc [.ref (a 89), .int p0, .int p1, .int p2, .int p3, .int p4] (vPre dC dI (wA a k σ) (tA k) sz)) (qAv dC dI a k (va_A (wA a k σ) sz) q) 0 0 (va_A (wA a k σ) sz)) {r_X4_takeRecord : Nat → Nat → Int32 → Int32 → Int32 → Int32 → Int32 → ST → Option (ST)} (hr_X4_takeRecord : ∀ {sz : Nat} {p0 : Int32} {p1 : Int32} {p2 : Int32} {p3 : Int32} {p4 : Int32} {σ : ST} {q : ST}, r_X4_takeRecord 89 50 p0 p1 p2 p3 p4 σ = some q → Met l yX4_takeRecord (.code yX4_takeRecord cX4_takeRecord 9 none :: pw) ({ frames := 164 + nn, cells := 0, slots := 0, locals := 4412 + 29 * nn } : Room) (va_Pc [.ref (a 89), .int p0, .int p1, .int p2, .int p3, .int p4] (vPre dC dI (wA a k σ) (tA k) sz)) (qAv dC dI a k (va_A (wA a k σ) sz) q) 0 0 (va_A (wA a k σ) sz))  {x5 : Int32} {x6 : Int32} {x7 : Int32} {σ : ST} (h : f_X4_takeRecord_109 r_X4_take r_X4_takeField r_X4_takeList r_X4_takeOwn r_X4_takeRecord 89 50 x5 x6 x7 σ = some q) : GoA p l e ({ frames := 164 + (nn + 1), cells := 0, slots := 0, locals := 4412 + 29 * (nn + 1) } : Room) s m args below meth c (MQ below (qAv dC dI a k A q) args s 0 0 A) dC dI a k A 9 109 σ [(0, .ref (a 89)), (5, .int x5), (6, .int x6), (7, .int x7)] [] := by
  have hC0 := hC
  obtain ⟨hx, hb, hr, hml, hown, hts, hlocks, hA, hN, hK⟩ := hC0
  intro H locs ls hP hD hS hl
  have hD0 : ∀ σ1 : ST, va_D A (wA a k σ1) := fun σ1 => wA_D hD
  unfold f_X4_takeRecord_109 at h
  refine lv_iconst (v := 0) hx hb dX4_takeRecord_109 (by decide) ?_
  refine lv_istore (lv' := [(8, .int 0), (0, .ref (a 89)), (5, .int x5), (6, .int x6), (7, .int x7)]) hx hb dX4_takeRecord_110 hl (by decide) rfl (fun ls hl => ?_)
  exact b_X4_takeRecord_112_89_50 hC hr_X4_take hr_X4_takeField hr_X4_takeList hr_X4_takeOwn hr_X4_takeRecord FU _ _ _ _ _ h _ _ _ hP hD hS (lv_sub hl [1, 2, 3, 4, 0] rfl)

set_option maxRecDepth 100000 in
set_option maxHeartbeats 4000000 in
theorem b_X4_takeRecord_51_89_50 {p : Program} {l : Launch} {e : Env} {s : State} {m : MethodId} {args : Array Value} {below : List Frame} {meth : Method} {c : Code} {dC : Nat → ClassId} {dI : Nat → Nat → Nat} {a : Nat → Nat} {k : Nat → ClassId} {A : Nat → Prop} {q : ST} (hC : CxA p s m args meth c dC dI k A cX4_takeRecord RX4 none 9) {nn : Nat} {r_X4_take : Nat → Nat → Int32 → Int32 → Int32 → Int32 → Int32 → ST → Option (ST)} (hr_X4_take : ∀ {sz : Nat} {p0 : Int32} {p1 : Int32} {p2 : Int32} {p3 : Int32} {p4 : Int32} {σ : ST} {q : ST}, r_X4_take 89 50 p0 p1 p2 p3 p4 σ = some q → Met l yX4_take (.code yX4_take cX4_take 9 none :: pw) ({ frames := 164 + nn, cells := 0, slots := 0, locals := 4412 + 29 * nn } : Room) (va_Pc [.ref (a 89), .int p0, .int p1, .int p2, .int p3, .int p4] (vPre dC dI (wA a k σ) (tA k) sz)) (qAv dC dI a k (va_A (wA a k σ) sz) q) 0 0 (va_A (wA a k σ) sz)) {r_X4_takeField : Nat → Nat → Int32 → Int32 → Int32 → Int32 → Int32 → ST → Option (ST)} (hr_X4_takeField : ∀ {sz : Nat} {p0 : Int32} {p1 : Int32} {p2 : Int32} {p3 : Int32} {p4 : Int32} {σ : ST} {q : ST}, r_X4_takeField 89 50 p0 p1 p2 p3 p4 σ = some q → Met l yX4_takeField (.code yX4_takeField cX4_takeField 9 none :: pw) ({ frames := 164 + nn, cells := 0, slots := 0, locals := 4412 + 29 * nn } : Room) (va_Pc [.ref (a 89), .int p0, .int p1, .int p2, .int p3, .int p4] (vPre dC dI (wA a k σ) (tA k) sz)) (qAv dC dI a k (va_A (wA a k σ) sz) q) 0 0 (va_A (wA a k σ) sz)) {r_X4_takeList : Nat → Nat → Int32 → Int32 → Int32 → Int32 → Int32 → ST → Option (ST)} (hr_X4_takeList : ∀ {sz : Nat} {p0 : Int32} {p1 : Int32} {p2 : Int32} {p3 : Int32} {p4 : Int32} {σ : ST} {q : ST}, r_X4_takeList 89 50 p0 p1 p2 p3 p4 σ = some q → Met l yX4_takeList (.code yX4_takeList cX4_takeList 10 none :: pw) ({ frames := 164 + nn, cells := 0, slots := 0, locals := 4412 + 29 * nn } : Room) (va_Pc [.ref (a 89), .int p0, .int p1, .int p2, .int p3, .int p4] (vPre dC dI (wA a k σ) (tA k) sz)) (qAv dC dI a k (va_A (wA a k σ) sz) q) 0 0 (va_A (wA a k σ) sz)) {r_X4_takeOwn : Nat → Nat → Int32 → Int32 → Int32 → Int32 → Int32 → ST → Option (ST)} (hr_X4_takeOwn : ∀ {sz : Nat} {p0 : Int32} {p1 : Int32} {p2 : Int32} {p3 : Int32} {p4 : Int32} {σ : ST} {q : ST}, r_X4_takeOwn 89 50 p0 p1 p2 p3 p4 σ = some q → Met l yX4_takeOwn (.code yX4_takeOwn cX4_takeOwn 8 none :: pw) ({ frames := 164 + nn, cells := 0, slots := 0, locals := 4412 + 29 * nn } : Room) (va_Pc [.ref (a 89), .int p0, .int p1, .int p2, .int p3, .int p4] (vPre dC dI (wA a k σ) (tA k) sz)) (qAv dC dI a k (va_A (wA a k σ) sz) q) 0 0 (va_A (wA a k σ) sz)) {r_X4_takeRecord : Nat → Nat → Int32 → Int32 → Int32 → Int32 → Int32 → ST → Option (ST)} (hr_X4_takeRecord : ∀ {sz : Nat} {p0 : Int32} {p1 : Int32} {p2 : Int32} {p3 : Int32} {p4 : Int32} {σ : ST} {q : ST}, r_X4_takeRecord 89 50 p0 p1 p2 p3 p4 σ = some q → Met l yX4_takeRecord (.code yX4_takeRecord cX4_takeRecord 9 none :: pw) ({ frames := 164 + nn, cells := 0, slots := 0, locals := 4412 + 29 * nn } : Room) (va_Pc [.ref (a 89), .int p0, .int p1, .int p2, .int p3, .int p4] (vPre dC dI (wA a k σ) (tA k) sz)) (qAv dC dI a k (va_A (wA a k σ) sz) q) 0 0 (va_A (wA a k σ) sz))  : ∀ (n : Nat) (x1 : Int32) (x5 : Int32) (x6 : Int32) (x7 : Int32) (x8 : Int32) (σ : ST), f_X4_takeRecord_51 r_X4_take r_X4_takeField r_X4_takeList r_X4_takeOwn r_X4_takeRecord 89 50 n x1 x5 x6 x7 x8 σ = some q → GoA p l e ({ frames := 164 + (nn + 1), cells := 0, slots := 0, locals := 4412 + 29 * (nn + 1) } : Room) s m args below meth c (MQ below (qAv dC dI a k A q) args s 0 0 A) dC dI a k A 9 51 σ [(0, .ref (a 89)), (1, .int x1), (5, .int x5), (6, .int x6), (7, .int x7), (8, .int x8)] [] := by
  intro n
  induction n with
  | zero =>
    intro x1 x5 x6 x7 x8 σ h
    rw [f_X4_takeRecord_51] at h
    cases h
  | succ n ih =>
    intro x1 x5 x6 x7 x8 σ h
    have hC0 := hC
    obtain ⟨hx, hb, hr, hml, hown, hts, hlocks, hA, hN, hK⟩ := hC0
    intro H locs ls hP hD hS hl
    have hD0 : ∀ σ1 : ST, va_D A (wA a k σ1) := fun σ1 => wA_D hD
    rw [f_X4_takeRecord_51] at h
    refine lv_iload hx hb dX4_takeRecord_51 (lv_at hl 5 rfl) ?_
    refine lv_aload_n hx hb dX4_takeRecord_53 rfl (lv_at hl 0 rfl) ?_
    refine va_get (D := (dC, dI)) (ci := 4) (C := RX4) (T := TX4) (N := 12) hx hb hts inlX4 hown hK hP 89 gA_89 rfl 0 (by decide) (hts (.fieldLink RX4 37 "ShapeReader$Reading" "shapes" "LShapeReader$Shapes;") mw_10_28) (fun _ h9 => h9) rfl dX4_takeRecord_54 ?_
    refine lv_iload_n hx hb dX4_takeRecord_57 rfl (lv_at hl 1 rfl) ?_
    obtain ⟨q1, hc, h⟩ := ib h
    have hF := va_frees hD hS hA
    refine va_calli (va_runV (As := [.int x1]) (rest := [.int x8]) ⟨hx, hb, hml, hown, hts⟩ (s_X5_fieldsOf_4 hc) (cwV 1 hts (gV mw_13_5 mw_1_28 mw_1_29 mw_0_9 mw_49_29) rfl rfl rfl (by decide +kernel) ⟨by show 1 + 1 ≤ 164 + (nn + 1); omega, by show 8 + (2 + 11) + 20 ≤ 4412 + 29 * (nn + 1); omega⟩) (vV (ci := 5) (q0 := 4) hK hP hD hN rfl gA_4) rfl rfl hl.1 rfl (lv_room (Nat.le_of_ble_eq_true rfl)) dX4_takeRecord_58 ⟨(Nat.le_of_ble_eq_true rfl), (Nat.le_of_ble_eq_true rfl)⟩) hS (fun q _ h => hF q h) hF (fun r2 u t H locs ht hvm hw hB _ _ hS => ?_)
    obtain rfl : r2 = q1.1 := hw
    replace hP : va_P (dC, dI) vwCl (wA a k q1.2) H := by rw [← ht]; exact hB.1
    replace hD := hD0 (q1.2)
    clear hB hF
    refine lv_icmp_ge (tgt := 109) hx hb dX4_takeRecord_61 (by decide) (fun hc => ?_) (fun hc => ?_)
    · replace h := ip hc h
      exact b_X4_takeRecord_109_89_50 hC hr_X4_take hr_X4_takeField hr_X4_takeList hr_X4_takeOwn hr_X4_takeRecord h _ _ _ hP hD hS (lv_sub hl [0, 2, 3, 4] rfl)
    · replace h := iq hc h
      refine lv_aload_n hx hb dX4_takeRecord_64 rfl (lv_at hl 0 rfl) ?_
      refine va_get (D := (dC, dI)) (ci := 4) (C := RX4) (T := TX4) (N := 12) hx hb hts inlX4 hown hK hP 89 gA_89 rfl 7 (by decide) (hts (.fieldLink RX4 21 "ShapeReader$Reading" "failure" "I") mw_10_23) (fun _ h9 => h9) rfl dX4_takeRecord_65 ?_
      refine lv_if_ne (tgt := 109) hx hb dX4_takeRecord_68 (by decide) (fun hc => ?_) (fun hc => ?_)
      · replace h := iq hc h
        exact b_X4_takeRecord_109_89_50 hC hr_X4_take hr_X4_takeField hr_X4_takeList hr_X4_takeOwn hr_X4_takeRecord h _ _ _ hP hD hS (lv_sub hl [0, 2, 3, 4] rfl)
      · replace h := ip hc h
        refine lv_aload_n hx hb dX4_takeRecord_71 rfl (lv_at hl 0 rfl) ?_
        refine lv_iload hx hb dX4_takeRecord_72 (lv_at hl 5 rfl) ?_
        obtain ⟨q3, hc, h⟩ := ib h
        have hF := va_frees hD hS hA
        refine va_callv (va_runV (As := [.int x8]) (rest := []) ⟨hx, hb, hml, hown, hts⟩ (s_X4_step_89_50 hc) (cwV 1 hts (gV mw_12_8 mw_12_9 mw_12_10 mw_0_8 mw_49_3) rfl rfl rfl (by decide +kernel) ⟨by show 0 + 1 ≤ 164 + (nn + 1); omega, by show 8 + (2 + 11) + 0 ≤ 4412 + 29 * (nn + 1); omega⟩) (vV (ci := 4) (q0 := 89) hK hP hD hN rfl gA_89) rfl rfl hl.1 rfl (lv_room (Nat.le_of_ble_eq_true rfl)) dX4_takeRecord_74 ⟨(Nat.le_of_ble_eq_true rfl), (Nat.le_of_ble_eq_true rfl)⟩) hS (fun q _ h => hF q h) hF (fun u t H locs ht hvm hw hB _ _ hS => ?_)
        replace hP : va_P (dC, dI) vwCl (wA a k q3) H := by rw [← ht]; exact hB.1
        replace hD := hD0 (q3)
        clear hB hF
        refine lv_aload_n hx hb dX4_takeRecord_77 rfl (lv_at hl 0 rfl) ?_
        refine lv_aload_n hx hb dX4_takeRecord_78 rfl (lv_at hl 0 rfl) ?_
        refine va_get (D := (dC, dI)) (ci := 4) (C := RX4) (T := TX4) (N := 12) hx hb hts inlX4 hown hK hP 89 gA_89 rfl 0 (by decide) (hts (.fieldLink RX4 37 "ShapeReader$Reading" "shapes" "LShapeReader$Shapes;") mw_10_28) (fun _ h9 => h9) rfl dX4_takeRecord_79 ?_
        refine lv_iload_n hx hb dX4_takeRecord_82 rfl (lv_at hl 1 rfl) ?_
        refine lv_iload hx hb dX4_takeRecord_83 (lv_at hl 5 rfl) ?_
        obtain ⟨q5, hc, h⟩ := ib h
        have hF := va_frees hD hS hA
        refine va_calli (va_runV (As := [.int x1, .int x8]) (rest := [.ref (a 89)]) ⟨hx, hb, hml, hown, hts⟩ (s_X5_typeOf_4 hc) (cwV 2 hts (gV mw_13_12 mw_2_7 mw_2_8 mw_0_9 mw_50_3) rfl rfl rfl (by decide +kernel) ⟨by show 1 + 1 ≤ 164 + (nn + 1); omega, by show 8 + (3 + 11) + 21 ≤ 4412 + 29 * (nn + 1); omega⟩) (vV (ci := 5) (q0 := 4) hK hP hD hN rfl gA_4) rfl rfl hl.1 rfl (lv_room (Nat.le_of_ble_eq_true rfl)) dX4_takeRecord_85 ⟨(Nat.le_of_ble_eq_true rfl), (Nat.le_of_ble_eq_true rfl)⟩) hS (fun q _ h => hF q h) hF (fun r6 u t H locs ht hvm hw hB _ _ hS => ?_)
        obtain rfl : r6 = q5.1 := hw
        replace hP : va_P (dC, dI) vwCl (wA a k q5.2) H := by rw [← ht]; exact hB.1
        replace hD := hD0 (q5.2)
        clear hB hF
        refine lv_iload hx hb dX4_takeRecord_88 (lv_at hl 5 rfl) ?_
        refine lv_iload hx hb dX4_takeRecord_90 (lv_at hl 3 rfl) ?_
        refine lv_iload hx hb dX4_takeRecord_92 (lv_at hl 4 rfl) ?_
        refine lv_iload hx hb dX4_takeRecord_94 (lv_at hl 2 rfl) ?_
        obtain ⟨q7, hc, h⟩ := ib h
        have hF := va_frees hD hS hA
        refine va_callv (va_runV (As := [.int q5.1, .int x8, .int x6, .int x7, .int x5]) (rest := []) ⟨hx, hb, hml, hown, hts⟩ (hr_X4_takeField hc) (cwV 5 hts (gV mw_13_13 mw_13_14 mw_13_15 mw_0_8 mw_49_12) rfl rfl rfl (by decide +kernel) ⟨by show (164 + nn) + 1 ≤ 164 + (nn + 1); omega, by show 8 + (9 + 11) + (4412 + 29 * nn) ≤ 4412 + 29 * (nn + 1); omega⟩) (vV (ci := 4) (q0 := 89) hK hP hD hN rfl gA_89) rfl rfl hl.1 rfl (lv_room (Nat.le_of_ble_eq_true rfl)) dX4_takeRecord_96 ⟨(Nat.le_of_ble_eq_true rfl), (Nat.le_of_ble_eq_true rfl)⟩) hS (fun q _ h => hF q h) hF (fun u t H locs ht hvm hw hB _ _ hS => ?_)
        replace hP : va_P (dC, dI) vwCl (wA a k q7) H := by rw [← ht]; exact hB.1
        replace hD := hD0 (q7)
        clear hB hF
        refine lv_aload_n hx hb dX4_takeRecord_99 rfl (lv_at hl 0 rfl) ?_
        obtain ⟨q9, hc, h⟩ := ib h
        have hF := va_frees hD hS hA
        refine va_callv (va_runV (As := []) (rest := []) ⟨hx, hb, hml, hown, hts⟩ (s_X4_stepBack_89_50 hc) (cwV 0 hts (gV mw_12_12 mw_12_13 mw_12_14 mw_0_8 mw_49_4) rfl rfl rfl (by decide +kernel) ⟨by show 0 + 1 ≤ 164 + (nn + 1); omega, by show 8 + (1 + 11) + 0 ≤ 4412 + 29 * (nn + 1); omega⟩) (vV (ci := 4) (q0 := 89) hK hP hD hN rfl gA_89) rfl rfl hl.1 rfl (lv_room (Nat.le_of_ble_eq_true rfl)) dX4_takeRecord_100 ⟨(Nat.le_of_ble_eq_true rfl), (Nat.le_of_ble_eq_true rfl)⟩) hS (fun q _ h => hF q h) hF (fun u t H locs ht hvm hw hB _ _ hS => ?_)
        replace hP : va_P (dC, dI) vwCl (wA a k q9) H := by rw [← ht]; exact hB.1
        replace hD := hD0 (q9)
        clear hB hF
        refine lv_iinc (v := (x8 + 1)) (lv' := [(8, .int (x8 + 1)), (0, .ref (a 89)), (1, .int x1), (5, .int x5), (6, .int x6), (7, .int x7)]) hx hb dX4_takeRecord_103 hl (k := 5) rfl rfl (by decide) rfl (fun ls hl => ?_)
        refine lv_goto (tgt := 51) hx hb dX4_takeRecord_106 (by decide) ?_
        exact ih _ _ _ _ _ _ h _ _ _ hP hD hS (lv_sub hl [1, 2, 3, 4, 5, 0] rfl)

set_option maxRecDepth 100000 in
set_option maxHeartbeats 4000000 in
theorem b_X4_takeRecord_17_89_50 {p : Program} {l : Launch} {e : Env} {s : State} {m : MethodId} {args : Array Value} {below : List Frame} {meth : Method} {c : Code} {dC : Nat → ClassId} {dI : Nat → Nat → Nat} {a : Nat → Nat} {k : Nat → ClassId} {A : Nat → Prop} {q : ST} (hC : CxA p s m args meth c dC dI k A cX4_takeRecord RX4 none 9) {nn : Nat} {r_X4_take : Nat → Nat → Int32 → Int32 → Int32 → Int32 → Int32 → ST → Option (ST)} (hr_X4_take : ∀ {sz : Nat} {p0 : Int32} {p1 : Int32} {p2 : Int32} {p3 : Int32} {p4 : Int32} {σ : ST} {q : ST}, r_X4_take 89 50 p0 p1 p2 p3 p4 σ = some q → Met l yX4_take (.code yX4_take cX4_take 9 none :: pw) ({ frames := 164 + nn, cells := 0, slots := 0, locals := 4412 + 29 * nn } : Room) (va_Pc [.ref (a 89), .int p0, .int p1, .int p2, .int p3, .int p4] (vPre dC dI (wA a k σ) (tA k) sz)) (qAv dC dI a k (va_A (wA a k σ) sz) q) 0 0 (va_A (wA a k σ) sz)) {r_X4_takeField : Nat → Nat → Int32 → Int32 → Int32 → Int32 → Int32 → ST → Option (ST)} (hr_X4_takeField : ∀ {sz : Nat} {p0 : Int32} {p1 : Int32} {p2 : Int32} {p3 : Int32} {p4 : Int32} {σ : ST} {q : ST}, r_X4_takeField 89 50 p0 p1 p2 p3 p4 σ = some q → Met l yX4_takeField (.code yX4_takeField cX4_takeField 9 none :: pw) ({ frames := 164 + nn, cells := 0, slots := 0, locals := 4412 + 29 * nn } : Room) (va_Pc [.ref (a 89), .int p0, .int p1, .int p2, .int p3, .int p4] (vPre dC dI (wA a k σ) (tA k) sz)) (qAv dC dI a k (va_A (wA a k σ) sz) q) 0 0 (va_A (wA a k σ) sz)) {r_X4_takeList : Nat → Nat → Int32 → Int32 → Int32 → Int32 → Int32 → ST → Option (ST)} (hr_X4_takeList : ∀ {sz : Nat} {p0 : Int32} {p1 : Int32} {p2 : Int32} {p3 : Int32} {p4 : Int32} {σ : ST} {q : ST}, r_X4_takeList 89 50 p0 p1 p2 p3 p4 σ = some q → Met l yX4_takeList (.code yX4_takeList cX4_takeList 10 none :: pw) ({ frames := 164 + nn, cells := 0, slots := 0, locals := 4412 + 29 * nn } : Room) (va_Pc [.ref (a 89), .int p0, .int p1, .int p2, .int p3, .int p4] (vPre dC dI (wA a k σ) (tA k) sz)) (qAv dC dI a k (va_A (wA a k σ) sz) q) 0 0 (va_A (wA a k σ) sz)) {r_X4_takeOwn : Nat → Nat → Int32 → Int32 → Int32 → Int32 → Int32 → ST → Option (ST)} (hr_X4_takeOwn : ∀ {sz : Nat} {p0 : Int32} {p1 : Int32} {p2 : Int32} {p3 : Int32} {p4 : Int32} {σ : ST} {q : ST}, r_X4_takeOwn 89 50 p0 p1 p2 p3 p4 σ = some q → Met l yX4_takeOwn (.code yX4_takeOwn cX4_takeOwn 8 none :: pw) ({ frames := 164 + nn, cells := 0, slots := 0, locals := 4412 + 29 * nn } : Room) (va_Pc [.ref (a 89), .int p0, .int p1, .int p2, .int p3, .int p4] (vPre dC dI (wA a k σ) (tA k) sz)) (qAv dC dI a k (va_A (wA a k σ) sz) q) 0 0 (va_A (wA a k σ) sz)) {r_X4_takeRecord : Nat → Nat → Int32 → Int32 → Int32 → Int32 → Int32 → ST → Option (ST)} (hr_X4_takeRecord : ∀ {sz : Nat} {p0 : Int32} {p1 : Int32} {p2 : Int32} {p3 : Int32} {p4 : Int32} {σ : ST} {q : ST}, r_X4_takeRecord 89 50 p0 p1 p2 p3 p4 σ = some q → Met l yX4_takeRecord (.code yX4_takeRecord cX4_takeRecord 9 none :: pw) ({ frames := 164 + nn, cells := 0, slots := 0, locals := 4412 + 29 * nn } : Room) (va_Pc [.ref (a 89), .int p0, .int p1, .int p2, .int p3, .int p4] (vPre dC dI (wA a k σ) (tA k) sz)) (qAv dC dI a k (va_A (wA a k σ) sz) q) 0 0 (va_A (wA a k σ) sz))  {x1 : Int32} {x2 : Int32} {x3 : Int32} {x4 : Int32} {x5 : Int32} {y0 : Int32} {σ : ST} (h : f_X4_takeRecord_17 r_X4_take r_X4_takeField r_X4_takeList r_X4_takeOwn r_X4_takeRecord 89 50 x1 x2 x3 x4 x5 y0 σ = some q) : GoA p l e ({ frames := 164 + (nn + 1), cells := 0, slots := 0, locals := 4412 + 29 * (nn + 1) } : Room) s m args below meth c (MQ below (qAv dC dI a k A q) args s 0 0 A) dC dI a k A 9 17 σ [(0, .ref (a 89)), (1, .int x1), (2, .int x2), (3, .int x3), (4, .int x4), (5, .int x5)] [.int y0] := by
  have hC0 := hC
  obtain ⟨hx, hb, hr, hml, hown, hts, hlocks, hA, hN, hK⟩ := hC0
  intro H locs ls hP hD hS hl
  have hD0 : ∀ σ1 : ST, va_D A (wA a k σ1) := fun σ1 => wA_D hD
  unfold f_X4_takeRecord_17 at h
  refine lv_istore (lv' := [(6, .int y0), (0, .ref (a 89)), (1, .int x1), (2, .int x2), (3, .int x3), (4, .int x4), (5, .int x5)]) hx hb dX4_takeRecord_17 hl (by decide) rfl (fun ls hl => ?_)
  refine lv_aload_n hx hb dX4_takeRecord_19 rfl (lv_at hl 1 rfl) ?_
  refine lv_iload_n hx hb dX4_takeRecord_20 rfl (lv_at hl 3 rfl) ?_
  refine lv_iload_n hx hb dX4_takeRecord_21 rfl (lv_at hl 4 rfl) ?_
  refine lv_iload hx hb dX4_takeRecord_22 (lv_at hl 5 rfl) ?_
  refine lv_aload_n hx hb dX4_takeRecord_24 rfl (lv_at hl 1 rfl) ?_
  refine va_get (D := (dC, dI)) (ci := 4) (C := RX4) (T := TX4) (N := 12) hx hb hts inlX4 hown hK hP 89 gA_89 rfl 0 (by decide) (hts (.fieldLink RX4 37 "ShapeReader$Reading" "shapes" "LShapeReader$Shapes;") mw_10_28) (fun _ h9 => h9) rfl dX4_takeRecord_25 ?_
  refine lv_iload hx hb dX4_takeRecord_28 (lv_at hl 0 rfl) ?_
  obtain ⟨q1, hc, h⟩ := ib h
  have hF := va_frees hD hS hA
  refine va_calli (va_runV (As := [.int y0]) (rest := [.int x4, .int x3, .int x2, .ref (a 89)]) ⟨hx, hb, hml, hown, hts⟩ (s_X5_fieldsOf_4 hc) (cwV 1 hts (gV mw_13_5 mw_1_28 mw_1_29 mw_0_9 mw_49_29) rfl rfl rfl (by decide +kernel) ⟨by show 1 + 1 ≤ 164 + (nn + 1); omega, by show 8 + (2 + 11) + 20 ≤ 4412 + 29 * (nn + 1); omega⟩) (vV (ci := 5) (q0 := 4) hK hP hD hN rfl gA_4) rfl rfl hl.1 rfl (lv_room (Nat.le_of_ble_eq_true rfl)) dX4_takeRecord_30 ⟨(Nat.le_of_ble_eq_true rfl), (Nat.le_of_ble_eq_true rfl)⟩) hS (fun q _ h => hF q h) hF (fun r2 u t H locs ht hvm hw hB _ _ hS => ?_)
  obtain rfl : r2 = q1.1 := hw
  replace hP : va_P (dC, dI) vwCl (wA a k q1.2) H := by rw [← ht]; exact hB.1
  replace hD := hD0 (q1.2)
  clear hB hF
  refine lv_lconst (v := 0) hx hb dX4_takeRecord_33 (by decide) ?_
  obtain ⟨q3, hc, h⟩ := ib h
  have hF := va_frees hD hS hA
  refine va_calli (va_runV (As := [.int x2, .int x3, .int x4, .int q1.1, .long 0]) (rest := []) ⟨hx, hb, hml, hown, hts⟩ (s_X4_addNode_89_50 hc) (cwV 5 hts (gV mw_13_6 mw_13_7 mw_13_8 mw_0_8 mw_49_8) rfl rfl rfl (by decide +kernel) ⟨by show 3 + 1 ≤ 164 + (nn + 1); omega, by show 8 + (8 + 11) + 71 ≤ 4412 + 29 * (nn + 1); omega⟩) (vV (ci := 4) (q0 := 89) hK hP hD hN rfl gA_89) rfl rfl hl.1 rfl (lv_room (Nat.le_of_ble_eq_true rfl)) dX4_takeRecord_34 ⟨(Nat.le_of_ble_eq_true rfl), (Nat.le_of_ble_eq_true rfl)⟩) hS (fun q _ h => hF q h) hF (fun r4 u t H locs ht hvm hw hB _ _ hS => ?_)
  obtain rfl : r4 = q3.1 := hw
  replace hP : va_P (dC, dI) vwCl (wA a k q3.2) H := by rw [← ht]; exact hB.1
  replace hD := hD0 (q3.2)
  clear hB hF
  refine lv_istore (lv' := [(7, .int q3.1), (6, .int y0), (0, .ref (a 89)), (1, .int x1), (2, .int x2), (3, .int x3), (4, .int x4), (5, .int x5)]) hx hb dX4_takeRecord_37 hl (by decide) rfl (fun ls hl => ?_)
  refine lv_aload_n hx hb dX4_takeRecord_39 rfl (lv_at hl 2 rfl) ?_
  refine lv_iload_n hx hb dX4_takeRecord_40 rfl (lv_at hl 3 rfl) ?_
  refine lv_iload hx hb dX4_takeRecord_41 (lv_at hl 1 rfl) ?_
  refine lv_iload hx hb dX4_takeRecord_43 (lv_at hl 7 rfl) ?_
  obtain ⟨q5, hc, h⟩ := ib h
  have hF := va_frees hD hS hA
  refine va_callv (va_runV (As := [.int x1, .int y0, .int x5]) (rest := []) ⟨hx, hb, hml, hown, hts⟩ (s_X4_findSources_89_50 hc) (cwV 3 hts (gV mw_13_9 mw_13_10 mw_13_11 mw_0_8 mw_49_10) rfl rfl rfl (by decide +kernel) ⟨by show 3 + 1 ≤ 164 + (nn + 1); omega, by show 8 + (5 + 11) + 73 ≤ 4412 + 29 * (nn + 1); omega⟩) (vV (ci := 4) (q0 := 89) hK hP hD hN rfl gA_89) rfl rfl hl.1 rfl (lv_room (Nat.le_of_ble_eq_true rfl)) dX4_takeRecord_45 ⟨(Nat.le_of_ble_eq_true rfl), (Nat.le_of_ble_eq_true rfl)⟩) hS (fun q _ h => hF q h) hF (fun u t H locs ht hvm hw hB _ _ hS => ?_)
  replace hP : va_P (dC, dI) vwCl (wA a k q5) H := by rw [← ht]; exact hB.1
  replace hD := hD0 (q5)
  clear hB hF
  refine lv_iconst (v := 0) hx hb dX4_takeRecord_48 (by decide) ?_
  refine lv_istore (lv' := [(8, .int 0), (7, .int q3.1), (6, .int y0), (0, .ref (a 89)), (1, .int x1), (2, .int x2), (3, .int x3), (4, .int x4), (5, .int x5)]) hx hb dX4_takeRecord_49 hl (by decide) rfl (fun ls hl => ?_)
  exact b_X4_takeRecord_51_89_50 hC hr_X4_take hr_X4_takeField hr_X4_takeList hr_X4_takeOwn hr_X4_takeRecord FU _ _ _ _ _ _ h _ _ _ hP hD hS (lv_sub hl [3, 4, 8, 2, 1, 0] rfl)

set_option maxRecDepth 100000 in
set_option maxHeartbeats 4000000 in
theorem b_X4_takeRecord_e_89_50 {p : Program} {l : Launch} {e : Env} {s : State} {m : MethodId} {args : Array Value} {below : List Frame} {meth : Method} {c : Code} {dC : Nat → ClassId} {dI : Nat → Nat → Nat} {a : Nat → Nat} {k : Nat → ClassId} {A : Nat → Prop} {q : ST} (hC : CxA p s m args meth c dC dI k A cX4_takeRecord RX4 none 9) {nn : Nat} {r_X4_take : Nat → Nat → Int32 → Int32 → Int32 → Int32 → Int32 → ST → Option (ST)} (hr_X4_take : ∀ {sz : Nat} {p0 : Int32} {p1 : Int32} {p2 : Int32} {p3 : Int32} {p4 : Int32} {σ : ST} {q : ST}, r_X4_take 89 50 p0 p1 p2 p3 p4 σ = some q → Met l yX4_take (.code yX4_take cX4_take 9 none :: pw) ({ frames := 164 + nn, cells := 0, slots := 0, locals := 4412 + 29 * nn } : Room) (va_Pc [.ref (a 89), .int p0, .int p1, .int p2, .int p3, .int p4] (vPre dC dI (wA a k σ) (tA k) sz)) (qAv dC dI a k (va_A (wA a k σ) sz) q) 0 0 (va_A (wA a k σ) sz)) {r_X4_takeField : Nat → Nat → Int32 → Int32 → Int32 → Int32 → Int32 → ST → Option (ST)} (hr_X4_takeField : ∀ {sz : Nat} {p0 : Int32} {p1 : Int32} {p2 : Int32} {p3 : Int32} {p4 : Int32} {σ : ST} {q : ST}, r_X4_takeField 89 50 p0 p1 p2 p3 p4 σ = some q → Met l yX4_takeField (.code yX4_takeField cX4_takeField 9 none :: pw) ({ frames := 164 + nn, cells := 0, slots := 0, locals := 4412 + 29 * nn } : Room) (va_Pc [.ref (a 89), .int p0, .int p1, .int p2, .int p3, .int p4] (vPre dC dI (wA a k σ) (tA k) sz)) (qAv dC dI a k (va_A (wA a k σ) sz) q) 0 0 (va_A (wA a k σ) sz)) {r_X4_takeList : Nat → Nat → Int32 → Int32 → Int32 → Int32 → Int32 → ST → Option (ST)} (hr_X4_takeList : ∀ {sz : Nat} {p0 : Int32} {p1 : Int32} {p2 : Int32} {p3 : Int32} {p4 : Int32} {σ : ST} {q : ST}, r_X4_takeList 89 50 p0 p1 p2 p3 p4 σ = some q → Met l yX4_takeList (.code yX4_takeList cX4_takeList 10 none :: pw) ({ frames := 164 + nn, cells := 0, slots := 0, locals := 4412 + 29 * nn } : Room) (va_Pc [.ref (a 89), .int p0, .int p1, .int p2, .int p3, .int p4] (vPre dC dI (wA a k σ) (tA k) sz)) (qAv dC dI a k (va_A (wA a k σ) sz) q) 0 0 (va_A (wA a k σ) sz)) {r_X4_takeOwn : Nat → Nat → Int32 → Int32 → Int32 → Int32 → Int32 → ST → Option (ST)} (hr_X4_takeOwn : ∀ {sz : Nat} {p0 : Int32} {p1 : Int32} {p2 : Int32} {p3 : Int32} {p4 : Int32} {σ : ST} {q : ST}, r_X4_takeOwn 89 50 p0 p1 p2 p3 p4 σ = some q → Met l yX4_takeOwn (.code yX4_takeOwn cX4_takeOwn 8 none :: pw) ({ frames := 164 + nn, cells := 0, slots := 0, locals := 4412 + 29 * nn } : Room) (va_Pc [.ref (a 89), .int p0, .int p1, .int p2, .int p3, .int p4] (vPre dC dI (wA a k σ) (tA k) sz)) (qAv dC dI a k (va_A (wA a k σ) sz) q) 0 0 (va_A (wA a k σ) sz)) {r_X4_takeRecord : Nat → Nat → Int32 → Int32 → Int32 → Int32 → Int32 → ST → Option (ST)} (hr_X4_takeRecord : ∀ {sz : Nat} {p0 : Int32} {p1 : Int32} {p2 : Int32} {p3 : Int32} {p4 : Int32} {σ : ST} {q : ST}, r_X4_takeRecord 89 50 p0 p1 p2 p3 p4 σ = some q → Met l yX4_takeRecord (.code yX4_takeRecord cX4_takeRecord 9 none :: pw) ({ frames := 164 + nn, cells := 0, slots := 0, locals := 4412 + 29 * nn } : Room) (va_Pc [.ref (a 89), .int p0, .int p1, .int p2, .int p3, .int p4] (vPre dC dI (wA a k σ) (tA k) sz)) (qAv dC dI a k (va_A (wA a k σ) sz) q) 0 0 (va_A (wA a k σ) sz))  {p0 : Int32} {p1 : Int32} {p2 : Int32} {p3 : Int32} {p4 : Int32} {σ : ST} (h : f_X4_takeRecord r_X4_take r_X4_takeField r_X4_takeList r_X4_takeOwn r_X4_takeRecord 89 50 p0 p1 p2 p3 p4 σ = some q) : GoA p l e ({ frames := 164 + (nn + 1), cells := 0, slots := 0, locals := 4412 + 29 * (nn + 1) } : Room) s m args below meth c (MQ below (qAv dC dI a k A q) args s 0 0 A) dC dI a k A 9 0 σ (lv_args 0 [.ref (a 89), .int p0, .int p1, .int p2, .int p3, .int p4]) [] := by
  have hC0 := hC
  obtain ⟨hx, hb, hr, hml, hown, hts, hlocks, hA, hN, hK⟩ := hC0
  intro H locs ls hP hD hS hl
  have hD0 : ∀ σ1 : ST, va_D A (wA a k σ1) := fun σ1 => wA_D hD
  replace hl : lv_has ls 9 [(0, .ref (a 89)), (1, .int p0), (2, .int p1), (3, .int p2), (4, .int p3), (5, .int p4)] := hl
  unfold f_X4_takeRecord at h
  refine lv_iload_n hx hb dX4_takeRecord_0 rfl (lv_at hl 2 rfl) ?_
  refine lv_iconst (v := (-1)) hx hb dX4_takeRecord_1 (by decide) ?_
  refine lv_icmp_ne (tgt := 9) hx hb dX4_takeRecord_2 (by decide) (fun hc => ?_) (fun hc => ?_)
  · replace h := iq hc h
    refine lv_aload_n hx hb dX4_takeRecord_9 rfl (lv_at hl 0 rfl) ?_
    refine va_get (D := (dC, dI)) (ci := 4) (C := RX4) (T := TX4) (N := 12) hx hb hts inlX4 hown hK hP 89 gA_89 rfl 0 (by decide) (hts (.fieldLink RX4 37 "ShapeReader$Reading" "shapes" "LShapeReader$Shapes;") mw_10_28) (fun _ h9 => h9) rfl dX4_takeRecord_10 ?_
    refine lv_iload_n hx hb dX4_takeRecord_13 rfl (lv_at hl 2 rfl) ?_
    obtain ⟨q1, hc, h⟩ := ib h
    have hF := va_frees hD hS hA
    refine va_calli (va_runV (As := [.int p1]) (rest := []) ⟨hx, hb, hml, hown, hts⟩ (s_X5_innerOf_4 hc) (cwV 1 hts (gV mw_12_19 mw_2_16 mw_2_17 mw_0_9 mw_50_7) rfl rfl rfl (by decide +kernel) ⟨by show 1 + 1 ≤ 164 + (nn + 1); omega, by show 8 + (2 + 11) + 21 ≤ 4412 + 29 * (nn + 1); omega⟩) (vV (ci := 5) (q0 := 4) hK hP hD hN rfl gA_4) rfl rfl hl.1 rfl (lv_room (Nat.le_of_ble_eq_true rfl)) dX4_takeRecord_14 ⟨(Nat.le_of_ble_eq_true rfl), (Nat.le_of_ble_eq_true rfl)⟩) hS (fun q _ h => hF q h) hF (fun r2 u t H locs ht hvm hw hB _ _ hS => ?_)
    obtain rfl : r2 = q1.1 := hw
    replace hP : va_P (dC, dI) vwCl (wA a k q1.2) H := by rw [← ht]; exact hB.1
    replace hD := hD0 (q1.2)
    clear hB hF
    exact b_X4_takeRecord_17_89_50 hC hr_X4_take hr_X4_takeField hr_X4_takeList hr_X4_takeOwn hr_X4_takeRecord h _ _ _ hP hD hS (lv_sub hl [0, 1, 2, 3, 4, 5] rfl)
  · replace h := ip hc h
    refine lv_iconst (v := (-1)) hx hb dX4_takeRecord_5 (by decide) ?_
    refine lv_goto (tgt := 17) hx hb dX4_takeRecord_6 (by decide) ?_
    exact b_X4_takeRecord_17_89_50 hC hr_X4_take hr_X4_takeField hr_X4_takeList hr_X4_takeOwn hr_X4_takeRecord h _ _ _ hP hD hS (lv_sub hl [0, 1, 2, 3, 4, 5] rfl)


set_option maxRecDepth 100000 in
set_option maxHeartbeats 4000000 in
theorem s_R_X4_take_89_50 {l : Launch} {dC : Nat → ClassId} {dI : Nat → Nat → Nat} {a : Nat → Nat} {k : Nat → ClassId} : ∀ n : Nat, (∀ {sz : Nat} {p0 : Int32} {p1 : Int32} {p2 : Int32} {p3 : Int32} {p4 : Int32} {σ : ST} {q : ST}, (R_X4_take n).1 89 50 p0 p1 p2 p3 p4 σ = some q → Met l yX4_take (.code yX4_take cX4_take 9 none :: pw) ({ frames := 164 + n, cells := 0, slots := 0, locals := 4412 + 29 * n } : Room) (va_Pc [.ref (a 89), .int p0, .int p1, .int p2, .int p3, .int p4] (vPre dC dI (wA a k σ) (tA k) sz)) (qAv dC dI a k (va_A (wA a k σ) sz) q) 0 0 (va_A (wA a k σ) sz)) ∧ (∀ {sz : Nat} {p0 : Int32} {p1 : Int32} {p2 : Int32} {p3 : Int32} {p4 : Int32} {σ : ST} {q : ST}, (R_X4_take n).2.1 89 50 p0 p1 p2 p3 p4 σ = some q → Met l yX4_takeField (.code yX4_takeField cX4_takeField 9 none :: pw) ({ frames := 164 + n, cells := 0, slots := 0, locals := 4412 + 29 * n } : Room) (va_Pc [.ref (a 89), .int p0, .int p1, .int p2, .int p3, .int p4] (vPre dC dI (wA a k σ) (tA k) sz)) (qAv dC dI a k (va_A (wA a k σ) sz) q) 0 0 (va_A (wA a k σ) sz)) ∧ (∀ {sz : Nat} {p0 : Int32} {p1 : Int32} {p2 : Int32} {p3 : Int32} {p4 : Int32} {σ : ST} {q : ST}, (R_X4_take n).2.2.1 89 50 p0 p1 p2 p3 p4 σ = some q → Met l yX4_takeList (.code yX4_takeList cX4_takeList 10 none :: pw) ({ frames := 164 + n, cells := 0, slots := 0, locals := 4412 + 29 * n } : Room) (va_Pc [.ref (a 89), .int p0, .int p1, .int p2, .int p3, .int p4] (vPre dC dI (wA a k σ) (tA k) sz)) (qAv dC dI a k (va_A (wA a k σ) sz) q) 0 0 (va_A (wA a k σ) sz)) ∧ (∀ {sz : Nat} {p0 : Int32} {p1 : Int32} {p2 : Int32} {p3 : Int32} {p4 : Int32} {σ : ST} {q : ST}, (R_X4_take n).2.2.2.1 89 50 p0 p1 p2 p3 p4 σ = some q → Met l yX4_takeOwn (.code yX4_takeOwn cX4_takeOwn 8 none :: pw) ({ frames := 164 + n, cells := 0, slots := 0, locals := 4412 + 29 * n } : Room) (va_Pc [.ref (a 89), .int p0, .int p1, .int p2, .int p3, .int p4] (vPre dC dI (wA a k σ) (tA k) sz)) (qAv dC dI a k (va_A (wA a k σ) sz) q) 0 0 (va_A (wA a k σ) sz)) ∧ (∀ {sz : Nat} {p0 : Int32} {p1 : Int32} {p2 : Int32} {p3 : Int32} {p4 : Int32} {σ : ST} {q : ST}, (R_X4_take n).2.2.2.2 89 50 p0 p1 p2 p3 p4 σ = some q → Met l yX4_takeRecord (.code yX4_takeRecord cX4_takeRecord 9 none :: pw) ({ frames := 164 + n, cells := 0, slots := 0, locals := 4412 + 29 * n } : Room) (va_Pc [.ref (a 89), .int p0, .int p1, .int p2, .int p3, .int p4] (vPre dC dI (wA a k σ) (tA k) sz)) (qAv dC dI a k (va_A (wA a k σ) sz) q) 0 0 (va_A (wA a k σ) sz)) := by
  intro n
  induction n with
  | zero => exact ⟨(fun h => nomatch h), (fun h => nomatch h), (fun h => nomatch h), (fun h => nomatch h), (fun h => nomatch h)⟩
  | succ n ih => exact ⟨(fun h => metA (fun A => qAv dC dI a k A _) (plainFor_of_name (by decide)) (Nat.le_of_ble_eq_true rfl) (fun _ _ _ _ _ _ _ _ hC => b_X4_take_e_89_50 hC ih.1 ih.2.1 ih.2.2.1 ih.2.2.2.1 ih.2.2.2.2 h)), (fun h => metA (fun A => qAv dC dI a k A _) (plainFor_of_name (by decide)) (Nat.le_of_ble_eq_true rfl) (fun _ _ _ _ _ _ _ _ hC => b_X4_takeField_e_89_50 hC ih.1 ih.2.1 ih.2.2.1 ih.2.2.2.1 ih.2.2.2.2 h)), (fun h => metA (fun A => qAv dC dI a k A _) (plainFor_of_name (by decide)) (Nat.le_of_ble_eq_true rfl) (fun _ _ _ _ _ _ _ _ hC => b_X4_takeList_e_89_50 hC ih.1 ih.2.1 ih.2.2.1 ih.2.2.2.1 ih.2.2.2.2 h)), (fun h => metA (fun A => qAv dC dI a k A _) (plainFor_of_name (by decide)) (Nat.le_of_ble_eq_true rfl) (fun _ _ _ _ _ _ _ _ hC => b_X4_takeOwn_e_89_50 hC ih.1 ih.2.1 ih.2.2.1 ih.2.2.2.1 ih.2.2.2.2 h)), (fun h => metA (fun A => qAv dC dI a k A _) (plainFor_of_name (by decide)) (Nat.le_of_ble_eq_true rfl) (fun _ _ _ _ _ _ _ _ hC => b_X4_takeRecord_e_89_50 hC ih.1 ih.2.1 ih.2.2.1 ih.2.2.2.1 ih.2.2.2.2 h))⟩
theorem s_X4_take_89_50 {l : Launch} {dC : Nat → ClassId} {dI : Nat → Nat → Nat} {a : Nat → Nat} {k : Nat → ClassId} {sz : Nat} {p0 : Int32} {p1 : Int32} {p2 : Int32} {p3 : Int32} {p4 : Int32} {σ : ST} {q : ST} (h : f_T_X4_take 89 50 p0 p1 p2 p3 p4 σ = some q) : Met l yX4_take (.code yX4_take cX4_take 9 none :: pw) ({ frames := 324, cells := 0, slots := 0, locals := 9052 } : Room) (va_Pc [.ref (a 89), .int p0, .int p1, .int p2, .int p3, .int p4] (vPre dC dI (wA a k σ) (tA k) sz)) (qAv dC dI a k (va_A (wA a k σ) sz) q) 0 0 (va_A (wA a k σ) sz) := (s_R_X4_take_89_50 FR).1 h
theorem s_X4_takeField_89_50 {l : Launch} {dC : Nat → ClassId} {dI : Nat → Nat → Nat} {a : Nat → Nat} {k : Nat → ClassId} {sz : Nat} {p0 : Int32} {p1 : Int32} {p2 : Int32} {p3 : Int32} {p4 : Int32} {σ : ST} {q : ST} (h : f_T_X4_takeField 89 50 p0 p1 p2 p3 p4 σ = some q) : Met l yX4_takeField (.code yX4_takeField cX4_takeField 9 none :: pw) ({ frames := 324, cells := 0, slots := 0, locals := 9052 } : Room) (va_Pc [.ref (a 89), .int p0, .int p1, .int p2, .int p3, .int p4] (vPre dC dI (wA a k σ) (tA k) sz)) (qAv dC dI a k (va_A (wA a k σ) sz) q) 0 0 (va_A (wA a k σ) sz) := (s_R_X4_take_89_50 FR).2.1 h
theorem s_X4_takeList_89_50 {l : Launch} {dC : Nat → ClassId} {dI : Nat → Nat → Nat} {a : Nat → Nat} {k : Nat → ClassId} {sz : Nat} {p0 : Int32} {p1 : Int32} {p2 : Int32} {p3 : Int32} {p4 : Int32} {σ : ST} {q : ST} (h : f_T_X4_takeList 89 50 p0 p1 p2 p3 p4 σ = some q) : Met l yX4_takeList (.code yX4_takeList cX4_takeList 10 none :: pw) ({ frames := 324, cells := 0, slots := 0, locals := 9052 } : Room) (va_Pc [.ref (a 89), .int p0, .int p1, .int p2, .int p3, .int p4] (vPre dC dI (wA a k σ) (tA k) sz)) (qAv dC dI a k (va_A (wA a k σ) sz) q) 0 0 (va_A (wA a k σ) sz) := (s_R_X4_take_89_50 FR).2.2.1 h
theorem s_X4_takeOwn_89_50 {l : Launch} {dC : Nat → ClassId} {dI : Nat → Nat → Nat} {a : Nat → Nat} {k : Nat → ClassId} {sz : Nat} {p0 : Int32} {p1 : Int32} {p2 : Int32} {p3 : Int32} {p4 : Int32} {σ : ST} {q : ST} (h : f_T_X4_takeOwn 89 50 p0 p1 p2 p3 p4 σ = some q) : Met l yX4_takeOwn (.code yX4_takeOwn cX4_takeOwn 8 none :: pw) ({ frames := 324, cells := 0, slots := 0, locals := 9052 } : Room) (va_Pc [.ref (a 89), .int p0, .int p1, .int p2, .int p3, .int p4] (vPre dC dI (wA a k σ) (tA k) sz)) (qAv dC dI a k (va_A (wA a k σ) sz) q) 0 0 (va_A (wA a k σ) sz) := (s_R_X4_take_89_50 FR).2.2.2.1 h
theorem s_X4_takeRecord_89_50 {l : Launch} {dC : Nat → ClassId} {dI : Nat → Nat → Nat} {a : Nat → Nat} {k : Nat → ClassId} {sz : Nat} {p0 : Int32} {p1 : Int32} {p2 : Int32} {p3 : Int32} {p4 : Int32} {σ : ST} {q : ST} (h : f_T_X4_takeRecord 89 50 p0 p1 p2 p3 p4 σ = some q) : Met l yX4_takeRecord (.code yX4_takeRecord cX4_takeRecord 9 none :: pw) ({ frames := 324, cells := 0, slots := 0, locals := 9052 } : Room) (va_Pc [.ref (a 89), .int p0, .int p1, .int p2, .int p3, .int p4] (vPre dC dI (wA a k σ) (tA k) sz)) (qAv dC dI a k (va_A (wA a k σ) sz) q) 0 0 (va_A (wA a k σ) sz) := (s_R_X4_take_89_50 FR).2.2.2.2 h

set_option maxRecDepth 100000 in
set_option maxHeartbeats 4000000 in
theorem b_X4_take_140_92_62 {p : Program} {l : Launch} {e : Env} {s : State} {m : MethodId} {args : Array Value} {below : List Frame} {meth : Method} {c : Code} {dC : Nat → ClassId} {dI : Nat → Nat → Nat} {a : Nat → Nat} {k : Nat → ClassId} {A : Nat → Prop} {q : ST} (hC : CxA p s m args meth c dC dI k A cX4_take RX4 none 9) {nn : Nat} {r_X4_take : Nat → Nat → Int32 → Int32 → Int32 → Int32 → Int32 → ST → Option (ST)} (hr_X4_take : ∀ {sz : Nat} {p0 : Int32} {p1 : Int32} {p2 : Int32} {p3 : Int32} {p4 : Int32} {σ : ST} {q : ST}, r_X4_take 92 62 p0 p1 p2 p3 p4 σ = some q → Met l yX4_take (.code yX4_take cX4_take 9 none :: pw) ({ frames := 164 + nn, cells := 0, slots := 0, locals := 4412 + 29 * nn } : Room) (va_Pc [.ref (a 92), .int p0, .int p1, .int p2, .int p3, .int p4] (vPre dC dI (wA a k σ) (tA k) sz)) (qAv dC dI a k (va_A (wA a k σ) sz) q) 0 0 (va_A (wA a k σ) sz)) {r_X4_takeField : Nat → Nat → Int32 → Int32 → Int32 → Int32 → Int32 → ST → Option (ST)} (hr_X4_takeField : ∀ {sz : Nat} {p0 : Int32} {p1 : Int32} {p2 : Int32} {p3 : Int32} {p4 : Int32} {σ : ST} {q : ST}, r_X4_takeField 92 62 p0 p1 p2 p3 p4 σ = some q → Met l yX4_takeField (.code yX4_takeField cX4_takeField 9 none :: pw) ({ frames := 164 + nn, cells := 0, slots := 0, locals := 4412 + 29 * nn } : Room) (va_Pc [.ref (a 92), .int p0, .int p1, .int p2, .int p3, .int p4] (vPre dC dI (wA a k σ) (tA k) sz)) (qAv dC dI a k (va_A (wA a k σ) sz) q) 0 0 (va_A (wA a k σ) sz)) {r_X4_takeList : Nat → Nat → Int32 → Int32 → Int32 → Int32 → Int32 → ST → Option (ST)} (hr_X4_takeList : ∀ {sz : Nat} {p0 : Int32} {p1 : Int32} {p2 : Int32} {p3 : Int32} {p4 : Int32} {σ : ST} {q : ST}, r_X4_takeList 92 62 p0 p1 p2 p3 p4 σ = some q → Met l yX4_takeList (.code yX4_takeList cX4_takeList 10 none :: pw) ({ frames := 164 + nn, cells := 0, slots := 0, locals := 4412 + 29 * nn } : Room) (va_Pc [.ref (a 92), .int p0, .int p1, .int p2, .int p3, .int p4] (vPre dC dI (wA a k σ) (tA k) sz)) (qAv dC dI a k (va_A (wA a k σ) sz) q) 0 0 (va_A (wA a k σ) sz)) {r_X4_takeOwn : Nat → Nat → Int32 → Int32 → Int32 → Int32 → Int32 → ST → Option (ST)} (hr_X4_takeOwn : ∀ {sz : Nat} {p0 : Int32} {p1 : Int32} {p2 : Int32} {p3 : Int32} {p4 : Int32} {σ : ST} {q : ST}, r_X4_takeOwn 92 62 p0 p1 p2 p3 p4 σ = some q → Met l yX4_takeOwn (.code yX4_takeOwn cX4_takeOwn 8 none :: pw) ({ frames := 164 + nn, cells := 0, slots := 0, locals := 4412 + 29 * nn } : Room) (va_Pc [.ref (a 92), .int p0, .int p1, .int p2, .int p3, .int p4] (vPre dC dI (wA a k σ) (tA k) sz)) (qAv dC dI a k (va_A (wA a k σ) sz) q) 0 0 (va_A (wA a k σ) sz)) {r_X4_takeRecord : Nat → Nat → Int32 → Int32 → Int32 → Int32 → Int32 → ST → Option (ST)} (hr_X4_takeRecord : ∀ {sz : Nat} {p0 : Int32} {p1 : Int32} {p2 : Int32} {p3 : Int32} {p4 : Int32} {σ : ST} {q : ST}, r_X4_takeRecord 92 62 p0 p1 p2 p3 p4 σ = some q → Met l yX4_takeRecord (.code yX4_takeRecord cX4_takeRecord 9 none :: pw) ({ frames := 164 + nn, cells := 0, slots := 0, locals := 4412 + 29 * nn } : Room) (va_Pc [.ref (a 92), .int p0, .int p1, .int p2, .int p3, .int p4] (vPre dC dI (wA a k σ) (tA k) sz)) (qAv dC dI a k (va_A (wA a k σ) sz) q) 0 0 (va_A (wA a k σ) sz))  {x2 : Int32} {x3 : Int32} {x4 : Int32} {x5 : Int32} {x8 : Int32} {σ : ST} (h : f_X4_take_140 r_X4_take r_X4_takeField r_X4_takeList r_X4_takeOwn r_X4_takeRecord 92 62 x2 x3 x4 x5 x8 σ = some q) : GoA p l e ({ frames := 164 + (nn + 1), cells := 0, slots := 0, locals := 4412 + 29 * (nn + 1) } : Room) s m args below meth c (MQ below (qAv dC dI a k A q) args s 0 0 A) dC dI a k A 9 140 σ [(0, .ref (a 92)), (2, .int x2), (3, .int x3), (4, .int x4), (5, .int x5), (8, .int x8)] [] := by
  have hC0 := hC
  obtain ⟨hx, hb, hr, hml, hown, hts, hlocks, hA, hN, hK⟩ := hC0
  intro H locs ls hP hD hS hl
  have hD0 : ∀ σ1 : ST, va_D A (wA a k σ1) := fun σ1 => wA_D hD
  unfold f_X4_take_140 at h
  refine lv_aload_n hx hb dX4_take_140 rfl (lv_at hl 0 rfl) ?_
  refine lv_iload hx hb dX4_take_141 (lv_at hl 5 rfl) ?_
  refine lv_iload_n hx hb dX4_take_143 rfl (lv_at hl 1 rfl) ?_
  refine lv_iload_n hx hb dX4_take_144 rfl (lv_at hl 2 rfl) ?_
  refine lv_iload hx hb dX4_take_145 (lv_at hl 3 rfl) ?_
  refine lv_iload hx hb dX4_take_147 (lv_at hl 4 rfl) ?_
  obtain ⟨q1, hc, h⟩ := ib h
  have hF := va_frees hD hS hA
  refine va_callv (va_runV (As := [.int x8, .int x2, .int x3, .int x4, .int x5]) (rest := []) ⟨hx, hb, hml, hown, hts⟩ (hr_X4_takeOwn hc) (cwV 5 hts (gV mw_11_26 mw_11_27 mw_11_28 mw_0_8 mw_49_7) rfl rfl rfl (by decide +kernel) ⟨by show (164 + nn) + 1 ≤ 164 + (nn + 1); omega, by show 8 + (8 + 11) + (4412 + 29 * nn) ≤ 4412 + 29 * (nn + 1); omega⟩) (vV (ci := 4) (q0 := 92) hK hP hD hN rfl gA_92) rfl rfl hl.1 rfl (lv_room (Nat.le_of_ble_eq_true rfl)) dX4_take_149 ⟨(Nat.le_of_ble_eq_true rfl), (Nat.le_of_ble_eq_true rfl)⟩) hS (fun q _ h => hF q h) hF (fun u t H locs ht hvm hw hB _ _ hS => ?_)
  replace hP : va_P (dC, dI) vwCl (wA a k q1) H := by rw [← ht]; exact hB.1
  replace hD := hD0 (q1)
  clear hB hF
  refine lv_aload_n hx hb dX4_take_152 rfl (lv_at hl 0 rfl) ?_
  obtain ⟨q3, hc, h⟩ := ib h
  have hF := va_frees hD hS hA
  refine va_callv (va_runV (As := []) (rest := []) ⟨hx, hb, hml, hown, hts⟩ (s_X4_stepBack_92_62 hc) (cwV 0 hts (gV mw_12_12 mw_12_13 mw_12_14 mw_0_8 mw_49_4) rfl rfl rfl (by decide +kernel) ⟨by show 0 + 1 ≤ 164 + (nn + 1); omega, by show 8 + (1 + 11) + 0 ≤ 4412 + 29 * (nn + 1); omega⟩) (vV (ci := 4) (q0 := 92) hK hP hD hN rfl gA_92) rfl rfl hl.1 rfl (lv_room (Nat.le_of_ble_eq_true rfl)) dX4_take_153 ⟨(Nat.le_of_ble_eq_true rfl), (Nat.le_of_ble_eq_true rfl)⟩) hS (fun q _ h => hF q h) hF (fun u t H locs ht hvm hw hB _ _ hS => ?_)
  replace hP : va_P (dC, dI) vwCl (wA a k q3) H := by rw [← ht]; exact hB.1
  replace hD := hD0 (q3)
  clear hB hF
  obtain rfl := Option.some.inj h
  exact W.vret hx hb hr (fun t ht hW => ⟨⟨(), rfl, trivial, ⟨by rw [ht]; exact hP, va_K.moved hW.alike hK, hD⟩⟩, hS.F ht⟩) hS.2.2 dX4_take_156

set_option maxRecDepth 100000 in
set_option maxHeartbeats 4000000 in
theorem b_X4_take_34_92_62 {p : Program} {l : Launch} {e : Env} {s : State} {m : MethodId} {args : Array Value} {below : List Frame} {meth : Method} {c : Code} {dC : Nat → ClassId} {dI : Nat → Nat → Nat} {a : Nat → Nat} {k : Nat → ClassId} {A : Nat → Prop} {q : ST} (hC : CxA p s m args meth c dC dI k A cX4_take RX4 none 9) {nn : Nat} {r_X4_take : Nat → Nat → Int32 → Int32 → Int32 → Int32 → Int32 → ST → Option (ST)} (hr_X4_take : ∀ {sz : Nat} {p0 : Int32} {p1 : Int32} {p2 : Int32} {p3 : Int32} {p4 : Int32} {σ : ST} {q : ST}, r_X4_take 92 62 p0 p1 p2 p3 p4 σ = some q → Met l yX4_take (.code yX4_take cX4_take 9 none :: pw) ({ frames := 164 + nn, cells := 0, slots := 0, locals := 4412 + 29 * nn } : Room) (va_Pc [.ref (a 92), .int p0, .int p1, .int p2, .int p3, .int p4] (vPre dC dI (wA a k σ) (tA k) sz)) (qAv dC dI a k (va_A (wA a k σ) sz) q) 0 0 (va_A (wA a k σ) sz)) {r_X4_takeField : Nat → Nat → Int32 → Int32 → Int32 → Int32 → Int32 → ST → Option (ST)} (hr_X4_takeField : ∀ {sz : Nat} {p0 : Int32} {p1 : Int32} {p2 : Int32} {p3 : Int32} {p4 : Int32} {σ : ST} {q : ST}, r_X4_takeField 92 62 p0 p1 p2 p3 p4 σ = some q → Met l yX4_takeField (.code yX4_takeField cX4_takeField 9 none :: pw) ({ frames := 164 + nn, cells := 0, slots := 0, locals := 4412 + 29 * nn } : Room) (va_Pc [.ref (a 92), .int p0, .int p1, .int p2, .int p3, .int p4] (vPre dC dI (wA a k σ) (tA k) sz)) (qAv dC dI a k (va_A (wA a k σ) sz) q) 0 0 (va_A (wA a k σ) sz)) {r_X4_takeList : Nat → Nat → Int32 → Int32 → Int32 → Int32 → Int32 → ST → Option (ST)} (hr_X4_takeList : ∀ {sz : Nat} {p0 : Int32} {p1 : Int32} {p2 : Int32} {p3 : Int32} {p4 : Int32} {σ : ST} {q : ST}, r_X4_takeList 92 62 p0 p1 p2 p3 p4 σ = some q → Met l yX4_takeList (.code yX4_takeList cX4_takeList 10 none :: pw) ({ frames := 164 + nn, cells := 0, slots := 0, locals := 4412 + 29 * nn } : Room) (va_Pc [.ref (a 92), .int p0, .int p1, .int p2, .int p3, .int p4] (vPre dC dI (wA a k σ) (tA k) sz)) (qAv dC dI a k (va_A (wA a k σ) sz) q) 0 0 (va_A (wA a k σ) sz)) {r_X4_takeOwn : Nat → Nat → Int32 → Int32 → Int32 → Int32 → Int32 → ST → Option (ST)} (hr_X4_takeOwn : ∀ {sz : Nat} {p0 : Int32} {p1 : Int32} {p2 : Int32} {p3 : Int32} {p4 : Int32} {σ : ST} {q : ST}, r_X4_takeOwn 92 62 p0 p1 p2 p3 p4 σ = some q → Met l yX4_takeOwn (.code yX4_takeOwn cX4_takeOwn 8 none :: pw) ({ frames := 164 + nn, cells := 0, slots := 0, locals := 4412 + 29 * nn } : Room) (va_Pc [.ref (a 92), .int p0, .int p1, .int p2, .int p3, .int p4] (vPre dC dI (wA a k σ) (tA k) sz)) (qAv dC dI a k (va_A (wA a k σ) sz) q) 0 0 (va_A (wA a k σ) sz)) {r_X4_takeRecord : Nat → Nat → Int32 → Int32 → Int32 → Int32 → Int32 → ST → Option (ST)} (hr_X4_takeRecord : ∀ {sz : Nat} {p0 : Int32} {p1 : Int32} {p2 : Int32} {p3 : Int32} {p4 : Int32} {σ : ST} {q : ST}, r_X4_takeRecord 92 62 p0 p1 p2 p3 p4 σ = some q → Met l yX4_takeRecord (.code yX4_takeRecord cX4_takeRecord 9 none :: pw) ({ frames := 164 + nn, cells := 0, slots := 0, locals := 4412 + 29 * nn } : Room) (va_Pc [.ref (a 92), .int p0, .int p1, .int p2, .int p3, .int p4] (vPre dC dI (wA a k σ) (tA k) sz)) (qAv dC dI a k (va_A (wA a k σ) sz) q) 0 0 (va_A (wA a k σ) sz))  {x1 : Int32} {x2 : Int32} {x3 : Int32} {x4 : Int32} {x5 : Int32} {σ : ST} (h : f_X4_take_34 r_X4_take r_X4_takeField r_X4_takeList r_X4_takeOwn r_X4_takeRecord 92 62 x1 x2 x3 x4 x5 σ = some q) : GoA p l e ({ frames := 164 + (nn + 1), cells := 0, slots := 0, locals := 4412 + 29 * (nn + 1) } : Room) s m args below meth c (MQ below (qAv dC dI a k A q) args s 0 0 A) dC dI a k A 9 34 σ [(0, .ref (a 92)), (1, .int x1), (2, .int x2), (3, .int x3), (4, .int x4), (5, .int x5)] [] := by
  have hC0 := hC
  obtain ⟨hx, hb, hr, hml, hown, hts, hlocks, hA, hN, hK⟩ := hC0
  intro H locs ls hP hD hS hl
  have hD0 : ∀ σ1 : ST, va_D A (wA a k σ1) := fun σ1 => wA_D hD
  unfold f_X4_take_34 at h
  refine lv_aload_n hx hb dX4_take_34 rfl (lv_at hl 0 rfl) ?_
  refine va_get (D := (dC, dI)) (ci := 4) (C := RX4) (T := TX4) (N := 12) hx hb hts inlX4 hown hK hP 92 gA_92 rfl 0 (by decide) (hts (.fieldLink RX4 37 "ShapeReader$Reading" "shapes" "LShapeReader$Shapes;") mw_10_28) (fun _ h9 => h9) rfl dX4_take_35 ?_
  refine lv_iload_n hx hb dX4_take_38 rfl (lv_at hl 1 rfl) ?_
  obtain ⟨q1, hc, h⟩ := ib h
  have hF := va_frees hD hS hA
  refine va_calli (va_runV (As := [.int x1]) (rest := []) ⟨hx, hb, hml, hown, hts⟩ (s_X5_sortOf_4 hc) (cwV 1 hts (gV mw_11_25 mw_2_13 mw_2_14 mw_0_9 mw_50_6) rfl rfl rfl (by decide +kernel) ⟨by show 1 + 1 ≤ 164 + (nn + 1); omega, by show 8 + (2 + 11) + 21 ≤ 4412 + 29 * (nn + 1); omega⟩) (vV (ci := 5) (q0 := 4) hK hP hD hN rfl gA_4) rfl rfl hl.1 rfl (lv_room (Nat.le_of_ble_eq_true rfl)) dX4_take_39 ⟨(Nat.le_of_ble_eq_true rfl), (Nat.le_of_ble_eq_true rfl)⟩) hS (fun q _ h => hF q h) hF (fun r2 u t H locs ht hvm hw hB _ _ hS => ?_)
  obtain rfl : r2 = q1.1 := hw
  replace hP : va_P (dC, dI) vwCl (wA a k q1.2) H := by rw [← ht]; exact hB.1
  replace hD := hD0 (q1.2)
  clear hB hF
  refine lv_bipush (v := 8) hx hb dX4_take_42 (by decide) ?_
  refine lv_icmp_eq (tgt := 59) hx hb dX4_take_44 (by decide) (fun hc => ?_) (fun hc => ?_)
  · replace h := ip hc h
    refine lv_aload_n hx hb dX4_take_59 rfl (lv_at hl 0 rfl) ?_
    refine va_get (D := (dC, dI)) (ci := 4) (C := RX4) (T := TX4) (N := 12) hx hb hts inlX4 hown hK hP 92 gA_92 rfl 5 (by decide) (hts (.fieldLink RX4 15 "ShapeReader$Reading" "next" "I") mw_10_21) (fun _ h9 => h9) rfl dX4_take_60 ?_
    refine lv_istore (lv' := [(6, .int (q1.2.1 92 5)), (0, .ref (a 92)), (1, .int x1), (2, .int x2), (3, .int x3), (4, .int x4), (5, .int x5)]) hx hb dX4_take_63 hl (by decide) rfl (fun ls hl => ?_)
    refine lv_aload_n hx hb dX4_take_65 rfl (lv_at hl 1 rfl) ?_
    refine lv_iload hx hb dX4_take_66 (lv_at hl 0 rfl) ?_
    refine lv_aload_n hx hb dX4_take_68 rfl (lv_at hl 1 rfl) ?_
    refine va_get (D := (dC, dI)) (ci := 4) (C := RX4) (T := TX4) (N := 12) hx hb hts inlX4 hown hK hP 92 gA_92 rfl 0 (by decide) (hts (.fieldLink RX4 37 "ShapeReader$Reading" "shapes" "LShapeReader$Shapes;") mw_10_28) (fun _ h9 => h9) rfl dX4_take_69 ?_
    refine lv_iload_n hx hb dX4_take_72 rfl (lv_at hl 2 rfl) ?_
    obtain ⟨q3, hc, h⟩ := ib h
    have hF := va_frees hD hS hA
    refine va_calli (va_runV (As := [.int x1]) (rest := [.int (q1.2.1 92 5), .ref (a 92)]) ⟨hx, hb, hml, hown, hts⟩ (s_X5_branchesOf_4 hc) (cwV 1 hts (gV mw_11_29 mw_12_0 mw_12_1 mw_0_9 mw_50_9) rfl rfl rfl (by decide +kernel) ⟨by show 2 + 1 ≤ 164 + (nn + 1); omega, by show 8 + (4 + 11) + 42 ≤ 4412 + 29 * (nn + 1); omega⟩) (vV (ci := 5) (q0 := 4) hK hP hD hN rfl gA_4) rfl rfl hl.1 rfl (lv_room (Nat.le_of_ble_eq_true rfl)) dX4_take_73 ⟨(Nat.le_of_ble_eq_true rfl), (Nat.le_of_ble_eq_true rfl)⟩) hS (fun q _ h => hF q h) hF (fun r4 u t H locs ht hvm hw hB _ _ hS => ?_)
    obtain rfl : r4 = q3.1 := hw
    replace hP : va_P (dC, dI) vwCl (wA a k q3.2) H := by rw [← ht]; exact hB.1
    replace hD := hD0 (q3.2)
    clear hB hF
    refine lv_iconst (v := 1) hx hb dX4_take_76 (by decide) ?_
    refine lv_isub hx hb dX4_take_77 ?_
    obtain ⟨q5, hc, h⟩ := ib h
    have hF := va_frees hD hS hA
    refine va_calli (va_runV (As := [.int (q1.2.1 92 5), .int (q3.1 - 1)]) (rest := []) ⟨hx, hb, hml, hown, hts⟩ (s_X4_takeCount_92_62 hc) (cwV 2 hts (gV mw_12_2 mw_12_3 mw_12_4 mw_0_8 mw_49_18) rfl rfl rfl (by decide +kernel) ⟨by show 3 + 1 ≤ 164 + (nn + 1); omega, by show 8 + (5 + 11) + 69 ≤ 4412 + 29 * (nn + 1); omega⟩) (vV (ci := 4) (q0 := 92) hK hP hD hN rfl gA_92) rfl rfl hl.1 rfl (lv_room (Nat.le_of_ble_eq_true rfl)) dX4_take_78 ⟨(Nat.le_of_ble_eq_true rfl), (Nat.le_of_ble_eq_true rfl)⟩) hS (fun q _ h => hF q h) hF (fun r6 u t H locs ht hvm hw hB _ _ hS => ?_)
    obtain rfl : r6 = q5.1 := hw
    replace hP : va_P (dC, dI) vwCl (wA a k q5.2) H := by rw [← ht]; exact hB.1
    replace hD := hD0 (q5.2)
    clear hB hF
    refine lv_istore (lv' := [(7, .int q5.1), (6, .int (q1.2.1 92 5)), (0, .ref (a 92)), (1, .int x1), (2, .int x2), (3, .int x3), (4, .int x4), (5, .int x5)]) hx hb dX4_take_81 hl (by decide) rfl (fun ls hl => ?_)
    refine lv_aload_n hx hb dX4_take_83 rfl (lv_at hl 2 rfl) ?_
    refine va_get (D := (dC, dI)) (ci := 4) (C := RX4) (T := TX4) (N := 12) hx hb hts inlX4 hown hK hP 92 gA_92 rfl 7 (by decide) (hts (.fieldLink RX4 21 "ShapeReader$Reading" "failure" "I") mw_10_23) (fun _ h9 => h9) rfl dX4_take_84 ?_
    refine lv_if_eq (tgt := 91) hx hb dX4_take_87 (by decide) (fun hc => ?_) (fun hc => ?_)
    · replace h := ip hc h
      refine lv_aload_n hx hb dX4_take_91 rfl (lv_at hl 2 rfl) ?_
      refine va_get (D := (dC, dI)) (ci := 4) (C := RX4) (T := TX4) (N := 12) hx hb hts inlX4 hown hK hP 92 gA_92 rfl 0 (by decide) (hts (.fieldLink RX4 37 "ShapeReader$Reading" "shapes" "LShapeReader$Shapes;") mw_10_28) (fun _ h9 => h9) rfl dX4_take_92 ?_
      refine lv_iload_n hx hb dX4_take_95 rfl (lv_at hl 3 rfl) ?_
      refine lv_iload hx hb dX4_take_96 (lv_at hl 0 rfl) ?_
      obtain ⟨q7, hc, h⟩ := ib h
      have hF := va_frees hD hS hA
      refine va_calli (va_runV (As := [.int x1, .int q5.1]) (rest := []) ⟨hx, hb, hml, hown, hts⟩ (s_X5_branchOf_4 hc) (cwV 2 hts (gV mw_12_5 mw_12_6 mw_12_7 mw_0_9 mw_50_10) rfl rfl rfl (by decide +kernel) ⟨by show 2 + 1 ≤ 164 + (nn + 1); omega, by show 8 + (5 + 11) + 42 ≤ 4412 + 29 * (nn + 1); omega⟩) (vV (ci := 5) (q0 := 4) hK hP hD hN rfl gA_4) rfl rfl hl.1 rfl (lv_room (Nat.le_of_ble_eq_true rfl)) dX4_take_98 ⟨(Nat.le_of_ble_eq_true rfl), (Nat.le_of_ble_eq_true rfl)⟩) hS (fun q _ h => hF q h) hF (fun r8 u t H locs ht hvm hw hB _ _ hS => ?_)
      obtain rfl : r8 = q7.1 := hw
      replace hP : va_P (dC, dI) vwCl (wA a k q7.2) H := by rw [← ht]; exact hB.1
      replace hD := hD0 (q7.2)
      clear hB hF
      refine lv_istore (lv' := [(8, .int q7.1), (7, .int q5.1), (6, .int (q1.2.1 92 5)), (0, .ref (a 92)), (1, .int x1), (2, .int x2), (3, .int x3), (4, .int x4), (5, .int x5)]) hx hb dX4_take_101 hl (by decide) rfl (fun ls hl => ?_)
      refine lv_aload_n hx hb dX4_take_103 rfl (lv_at hl 3 rfl) ?_
      refine lv_sipush (v := 200) hx hb dX4_take_104 (by decide) ?_
      refine lv_iload hx hb dX4_take_107 (lv_at hl 1 rfl) ?_
      refine lv_iadd hx hb dX4_take_109 ?_
      obtain ⟨q9, hc, h⟩ := ib h
      have hF := va_frees hD hS hA
      refine va_callv (va_runV (As := [.int (200 + q5.1)]) (rest := []) ⟨hx, hb, hml, hown, hts⟩ (s_X4_step_92_62 hc) (cwV 1 hts (gV mw_12_8 mw_12_9 mw_12_10 mw_0_8 mw_49_3) rfl rfl rfl (by decide +kernel) ⟨by show 0 + 1 ≤ 164 + (nn + 1); omega, by show 8 + (2 + 11) + 0 ≤ 4412 + 29 * (nn + 1); omega⟩) (vV (ci := 4) (q0 := 92) hK hP hD hN rfl gA_92) rfl rfl hl.1 rfl (lv_room (Nat.le_of_ble_eq_true rfl)) dX4_take_110 ⟨(Nat.le_of_ble_eq_true rfl), (Nat.le_of_ble_eq_true rfl)⟩) hS (fun q _ h => hF q h) hF (fun u t H locs ht hvm hw hB _ _ hS => ?_)
      replace hP : va_P (dC, dI) vwCl (wA a k q9) H := by rw [← ht]; exact hB.1
      replace hD := hD0 (q9)
      clear hB hF
      refine lv_iload_n hx hb dX4_take_113 rfl (lv_at hl 5 rfl) ?_
      refine lv_iconst (v := (-1)) hx hb dX4_take_114 (by decide) ?_
      refine lv_icmp_eq (tgt := 140) hx hb dX4_take_115 (by decide) (fun hc => ?_) (fun hc => ?_)
      · replace h := ip hc h
        exact b_X4_take_140_92_62 hC hr_X4_take hr_X4_takeField hr_X4_takeList hr_X4_takeOwn hr_X4_takeRecord h _ _ _ hP hD hS (lv_sub hl [3, 5, 6, 7, 8, 0] rfl)
      · replace h := iq hc h
        refine lv_aload_n hx hb dX4_take_118 rfl (lv_at hl 3 rfl) ?_
        refine va_get (D := (dC, dI)) (ci := 4) (C := RX4) (T := TX4) (N := 12) hx hb hts inlX4 hown hK hP 92 gA_92 rfl 2 (by decide) (hts (.fieldLink RX4 45 "ShapeReader$Reading" "matcher" "LShapeReader$Matcher;") mw_11_0) (fun _ h9 => h9) rfl dX4_take_119 ?_
        refine lv_iload hx hb dX4_take_122 (lv_at hl 0 rfl) ?_
        refine lv_iload_n hx hb dX4_take_124 rfl (lv_at hl 5 rfl) ?_
        obtain ⟨q11, hc, h⟩ := ib h
        have hF := va_frees hD hS hA
        refine va_calli (va_runV (As := [.int q7.1, .int x2]) (rest := []) ⟨hx, hb, hml, hown, hts⟩ (s_X0_fits hc) (cwV 2 hts (gV mw_12_11 mw_3_27 mw_3_28 mw_0_4 mw_47_9) rfl rfl rfl (by decide +kernel) ⟨by show 163 + 1 ≤ 164 + (nn + 1); omega, by show 8 + (3 + 11) + 4390 ≤ 4412 + 29 * (nn + 1); omega⟩) (vV (ci := 0) (q0 := 41) hK hP hD hN rfl gA_41) rfl rfl hl.1 rfl (lv_room (Nat.le_of_ble_eq_true rfl)) dX4_take_125 ⟨(Nat.le_of_ble_eq_true rfl), (Nat.le_of_ble_eq_true rfl)⟩) hS (fun q _ h => hF q h) hF (fun r12 u t H locs ht hvm hw hB _ _ hS => ?_)
        obtain rfl : r12 = q11.1 := hw
        replace hP : va_P (dC, dI) vwCl (wA a k q11.2) H := by rw [← ht]; exact hB.1
        replace hD := hD0 (q11.2)
        clear hB hF
        refine lv_if_ne (tgt := 140) hx hb dX4_take_128 (by decide) (fun hc => ?_) (fun hc => ?_)
        · replace h := iq hc h
          exact b_X4_take_140_92_62 hC hr_X4_take hr_X4_takeField hr_X4_takeList hr_X4_takeOwn hr_X4_takeRecord h _ _ _ hP hD hS (lv_sub hl [3, 5, 6, 7, 8, 0] rfl)
        · replace h := ip hc h
          refine lv_aload_n hx hb dX4_take_131 rfl (lv_at hl 3 rfl) ?_
          refine lv_bipush (v := 13) hx hb dX4_take_132 (by decide) ?_
          refine lv_iload hx hb dX4_take_134 (lv_at hl 2 rfl) ?_
          obtain ⟨q13, hc, h⟩ := ib h
          have hF := va_frees hD hS hA
          refine va_callv (va_runV (As := [.int 13, .int (q1.2.1 92 5)]) (rest := []) ⟨hx, hb, hml, hown, hts⟩ (s_X4_fail_92_62 hc) (cwV 2 hts (gV mw_11_15 mw_11_16 mw_11_17 mw_0_8 mw_49_2) rfl rfl rfl (by decide +kernel) ⟨by show 0 + 1 ≤ 164 + (nn + 1); omega, by show 8 + (3 + 11) + 0 ≤ 4412 + 29 * (nn + 1); omega⟩) (vV (ci := 4) (q0 := 92) hK hP hD hN rfl gA_92) rfl rfl hl.1 rfl (lv_room (Nat.le_of_ble_eq_true rfl)) dX4_take_136 ⟨(Nat.le_of_ble_eq_true rfl), (Nat.le_of_ble_eq_true rfl)⟩) hS (fun q _ h => hF q h) hF (fun u t H locs ht hvm hw hB _ _ hS => ?_)
          replace hP : va_P (dC, dI) vwCl (wA a k q13) H := by rw [← ht]; exact hB.1
          replace hD := hD0 (q13)
          clear hB hF
          obtain rfl := Option.some.inj h
          exact W.vret hx hb hr (fun t ht hW => ⟨⟨(), rfl, trivial, ⟨by rw [ht]; exact hP, va_K.moved hW.alike hK, hD⟩⟩, hS.F ht⟩) hS.2.2 dX4_take_139
    · replace h := iq hc h
      obtain rfl := Option.some.inj h
      exact W.vret hx hb hr (fun t ht hW => ⟨⟨(), rfl, trivial, ⟨by rw [ht]; exact hP, va_K.moved hW.alike hK, hD⟩⟩, hS.F ht⟩) hS.2.2 dX4_take_90
  · replace h := iq hc h
    refine lv_aload_n hx hb dX4_take_47 rfl (lv_at hl 0 rfl) ?_
    refine lv_iload_n hx hb dX4_take_48 rfl (lv_at hl 1 rfl) ?_
    refine lv_iload_n hx hb dX4_take_49 rfl (lv_at hl 2 rfl) ?_
    refine lv_iload_n hx hb dX4_take_50 rfl (lv_at hl 3 rfl) ?_
    refine lv_iload hx hb dX4_take_51 (lv_at hl 4 rfl) ?_
    refine lv_iload hx hb dX4_take_53 (lv_at hl 5 rfl) ?_
    obtain ⟨q15, hc, h⟩ := ib h
    have hF := va_frees hD hS hA
    refine va_callv (va_runV (As := [.int x1, .int x2, .int x3, .int x4, .int x5]) (rest := []) ⟨hx, hb, hml, hown, hts⟩ (hr_X4_takeOwn hc) (cwV 5 hts (gV mw_11_26 mw_11_27 mw_11_28 mw_0_8 mw_49_7) rfl rfl rfl (by decide +kernel) ⟨by show (164 + nn) + 1 ≤ 164 + (nn + 1); omega, by show 8 + (8 + 11) + (4412 + 29 * nn) ≤ 4412 + 29 * (nn + 1); omega⟩) (vV (ci := 4) (q0 := 92) hK hP hD hN rfl gA_92) rfl rfl hl.1 rfl (lv_room (Nat.le_of_ble_eq_true rfl)) dX4_take_55 ⟨(Nat.le_of_ble_eq_true rfl), (Nat.le_of_ble_eq_true rfl)⟩) hS (fun q _ h => hF q h) hF (fun u t H locs ht hvm hw hB _ _ hS => ?_)
    replace hP : va_P (dC, dI) vwCl (wA a k q15) H := by rw [← ht]; exact hB.1
    replace hD := hD0 (q15)
    clear hB hF
    obtain rfl := Option.some.inj h
    exact W.vret hx hb hr (fun t ht hW => ⟨⟨(), rfl, trivial, ⟨by rw [ht]; exact hP, va_K.moved hW.alike hK, hD⟩⟩, hS.F ht⟩) hS.2.2 dX4_take_58

set_option maxRecDepth 100000 in
set_option maxHeartbeats 4000000 in
theorem b_X4_take_e_92_62 {p : Program} {l : Launch} {e : Env} {s : State} {m : MethodId} {args : Array Value} {below : List Frame} {meth : Method} {c : Code} {dC : Nat → ClassId} {dI : Nat → Nat → Nat} {a : Nat → Nat} {k : Nat → ClassId} {A : Nat → Prop} {q : ST} (hC : CxA p s m args meth c dC dI k A cX4_take RX4 none 9) {nn : Nat} {r_X4_take : Nat → Nat → Int32 → Int32 → Int32 → Int32 → Int32 → ST → Option (ST)} (hr_X4_take : ∀ {sz : Nat} {p0 : Int32} {p1 : Int32} {p2 : Int32} {p3 : Int32} {p4 : Int32} {σ : ST} {q : ST}, r_X4_take 92 62 p0 p1 p2 p3 p4 σ = some q → Met l yX4_take (.code yX4_take cX4_take 9 none :: pw) ({ frames := 164 + nn, cells := 0, slots := 0, locals := 4412 + 29 * nn } : Room) (va_Pc [.ref (a 92), .int p0, .int p1, .int p2, .int p3, .int p4] (vPre dC dI (wA a k σ) (tA k) sz)) (qAv dC dI a k (va_A (wA a k σ) sz) q) 0 0 (va_A (wA a k σ) sz)) {r_X4_takeField : Nat → Nat → Int32 → Int32 → Int32 → Int32 → Int32 → ST → Option (ST)} (hr_X4_takeField : ∀ {sz : Nat} {p0 : Int32} {p1 : Int32} {p2 : Int32} {p3 : Int32} {p4 : Int32} {σ : ST} {q : ST}, r_X4_takeField 92 62 p0 p1 p2 p3 p4 σ = some q → Met l yX4_takeField (.code yX4_takeField cX4_takeField 9 none :: pw) ({ frames := 164 + nn, cells := 0, slots := 0, locals := 4412 + 29 * nn } : Room) (va_Pc [.ref (a 92), .int p0, .int p1, .int p2, .int p3, .int p4] (vPre dC dI (wA a k σ) (tA k) sz)) (qAv dC dI a k (va_A (wA a k σ) sz) q) 0 0 (va_A (wA a k σ) sz)) {r_X4_takeList : Nat → Nat → Int32 → Int32 → Int32 → Int32 → Int32 → ST → Option (ST)} (hr_X4_takeList : ∀ {sz : Nat} {p0 : Int32} {p1 : Int32} {p2 : Int32} {p3 : Int32} {p4 : Int32} {σ : ST} {q : ST}, r_X4_takeList 92 62 p0 p1 p2 p3 p4 σ = some q → Met l yX4_takeList (.code yX4_takeList cX4_takeList 10 none :: pw) ({ frames := 164 + nn, cells := 0, slots := 0, locals := 4412 + 29 * nn } : Room) (va_Pc [.ref (a 92), .int p0, .int p1, .int p2, .int p3, .int p4] (vPre dC dI (wA a k σ) (tA k) sz)) (qAv dC dI a k (va_A (wA a k σ) sz) q) 0 0 (va_A (wA a k σ) sz)) {r_X4_takeOwn : Nat → Nat → Int32 → Int32 → Int32 → Int32 → Int32 → ST → Option (ST)} (hr_X4_takeOwn : ∀ {sz : Nat} {p0 : Int32} {p1 : Int32} {p2 : Int32} {p3 : Int32} {p4 : Int32} {σ : ST} {q : ST}, r_X4_takeOwn 92 62 p0 p1 p2 p3 p4 σ = some q → Met l yX4_takeOwn (.code yX4_takeOwn cX4_takeOwn 8 none :: pw) ({ frames := 164 + nn, cells := 0, slots := 0, locals := 4412 + 29 * nn } : Room) (va_Pc [.ref (a 92), .int p0, .int p1, .int p2, .int p3, .int p4] (vPre dC dI (wA a k σ) (tA k) sz)) (qAv dC dI a k (va_A (wA a k σ) sz) q) 0 0 (va_A (wA a k σ) sz)) {r_X4_takeRecord : Nat → Nat → Int32 → Int32 → Int32 → Int32 → Int32 → ST → Option (ST)} (hr_X4_takeRecord : ∀ {sz : Nat} {p0 : Int32} {p1 : Int32} {p2 : Int32} {p3 : Int32} {p4 : Int32} {σ : ST} {q : ST}, r_X4_takeRecord 92 62 p0 p1 p2 p3 p4 σ = some q → Met l yX4_takeRecord (.code yX4_takeRecord cX4_takeRecord 9 none :: pw) ({ frames := 164 + nn, cells := 0, slots := 0, locals := 4412 + 29 * nn } : Room) (va_Pc [.ref (a 92), .int p0, .int p1, .int p2, .int p3, .int p4] (vPre dC dI (wA a k σ) (tA k) sz)) (qAv dC dI a k (va_A (wA a k σ) sz) q) 0 0 (va_A (wA a k σ) sz))  {p0 : Int32} {p1 : Int32} {p2 : Int32} {p3 : Int32} {p4 : Int32} {σ : ST} (h : f_X4_take r_X4_take r_X4_takeField r_X4_takeList r_X4_takeOwn r_X4_takeRecord 92 62 p0 p1 p2 p3 p4 σ = some q) : GoA p l e ({ frames := 164 + (nn + 1), cells := 0, slots := 0, locals := 4412 + 29 * (nn + 1) } : Room) s m args below meth c (MQ below (qAv dC dI a k A q) args s 0 0 A) dC dI a k A 9 0 σ (lv_args 0 [.ref (a 92), .int p0, .int p1, .int p2, .int p3, .int p4]) [] := by
  have hC0 := hC
  obtain ⟨hx, hb, hr, hml, hown, hts, hlocks, hA, hN, hK⟩ := hC0
  intro H locs ls hP hD hS hl
  have hD0 : ∀ σ1 : ST, va_D A (wA a k σ1) := fun σ1 => wA_D hD
  replace hl : lv_has ls 9 [(0, .ref (a 92)), (1, .int p0), (2, .int p1), (3, .int p2), (4, .int p3), (5, .int p4)] := hl
  unfold f_X4_take at h
  refine lv_iload hx hb dX4_take_0 (lv_at hl 5 rfl) ?_
  refine lv_bipush (v := 31) hx hb dX4_take_2 (by decide) ?_
  refine lv_icmp_lt (tgt := 18) hx hb dX4_take_4 (by decide) (fun hc => ?_) (fun hc => ?_)
  · replace h := ip hc h
    refine lv_iload_n hx hb dX4_take_18 rfl (lv_at hl 2 rfl) ?_
    refine lv_iconst (v := (-1)) hx hb dX4_take_19 (by decide) ?_
    refine lv_icmp_ne (tgt := 34) hx hb dX4_take_20 (by decide) (fun hc => ?_) (fun hc => ?_)
    · replace h := iq hc h
      exact b_X4_take_34_92_62 hC hr_X4_take hr_X4_takeField hr_X4_takeList hr_X4_takeOwn hr_X4_takeRecord h _ _ _ hP hD hS (lv_sub hl [0, 1, 2, 3, 4, 5] rfl)
    · replace h := ip hc h
      refine lv_aload_n hx hb dX4_take_23 rfl (lv_at hl 0 rfl) ?_
      refine lv_iload_n hx hb dX4_take_24 rfl (lv_at hl 1 rfl) ?_
      refine lv_iload hx hb dX4_take_25 (lv_at hl 5 rfl) ?_
      obtain ⟨q1, hc, h⟩ := ib h
      have hF := va_frees hD hS hA
      refine va_calli (va_runV (As := [.int p0, .int p4]) (rest := []) ⟨hx, hb, hml, hown, hts⟩ (s_X4_isEmptyThere_92_62 hc) (cwV 2 hts (gV mw_11_22 mw_11_23 mw_11_24 mw_0_8 mw_49_6) rfl rfl rfl (by decide +kernel) ⟨by show 3 + 1 ≤ 164 + (nn + 1); omega, by show 8 + (4 + 11) + 64 ≤ 4412 + 29 * (nn + 1); omega⟩) (vV (ci := 4) (q0 := 92) hK hP hD hN rfl gA_92) rfl rfl hl.1 rfl (lv_room (Nat.le_of_ble_eq_true rfl)) dX4_take_27 ⟨(Nat.le_of_ble_eq_true rfl), (Nat.le_of_ble_eq_true rfl)⟩) hS (fun q _ h => hF q h) hF (fun r2 u t H locs ht hvm hw hB _ _ hS => ?_)
      obtain rfl : r2 = q1.1 := hw
      replace hP : va_P (dC, dI) vwCl (wA a k q1.2) H := by rw [← ht]; exact hB.1
      replace hD := hD0 (q1.2)
      clear hB hF
      refine lv_if_eq (tgt := 34) hx hb dX4_take_30 (by decide) (fun hc => ?_) (fun hc => ?_)
      · replace h := ip hc h
        exact b_X4_take_34_92_62 hC hr_X4_take hr_X4_takeField hr_X4_takeList hr_X4_takeOwn hr_X4_takeRecord h _ _ _ hP hD hS (lv_sub hl [0, 1, 2, 3, 4, 5] rfl)
      · replace h := iq hc h
        obtain rfl := Option.some.inj h
        exact W.vret hx hb hr (fun t ht hW => ⟨⟨(), rfl, trivial, ⟨by rw [ht]; exact hP, va_K.moved hW.alike hK, hD⟩⟩, hS.F ht⟩) hS.2.2 dX4_take_33
  · replace h := iq hc h
    refine lv_aload_n hx hb dX4_take_7 rfl (lv_at hl 0 rfl) ?_
    refine lv_bipush (v := 16) hx hb dX4_take_8 (by decide) ?_
    refine lv_aload_n hx hb dX4_take_10 rfl (lv_at hl 0 rfl) ?_
    refine va_get (D := (dC, dI)) (ci := 4) (C := RX4) (T := TX4) (N := 12) hx hb hts inlX4 hown hK hP 92 gA_92 rfl 5 (by decide) (hts (.fieldLink RX4 15 "ShapeReader$Reading" "next" "I") mw_10_21) (fun _ h9 => h9) rfl dX4_take_11 ?_
    obtain ⟨q3, hc, h⟩ := ib h
    have hF := va_frees hD hS hA
    refine va_callv (va_runV (As := [.int 16, .int (σ.1 92 5)]) (rest := []) ⟨hx, hb, hml, hown, hts⟩ (s_X4_fail_92_62 hc) (cwV 2 hts (gV mw_11_15 mw_11_16 mw_11_17 mw_0_8 mw_49_2) rfl rfl rfl (by decide +kernel) ⟨by show 0 + 1 ≤ 164 + (nn + 1); omega, by show 8 + (3 + 11) + 0 ≤ 4412 + 29 * (nn + 1); omega⟩) (vV (ci := 4) (q0 := 92) hK hP hD hN rfl gA_92) rfl rfl hl.1 rfl (lv_room (Nat.le_of_ble_eq_true rfl)) dX4_take_14 ⟨(Nat.le_of_ble_eq_true rfl), (Nat.le_of_ble_eq_true rfl)⟩) hS (fun q _ h => hF q h) hF (fun u t H locs ht hvm hw hB _ _ hS => ?_)
    replace hP : va_P (dC, dI) vwCl (wA a k q3) H := by rw [← ht]; exact hB.1
    replace hD := hD0 (q3)
    clear hB hF
    obtain rfl := Option.some.inj h
    exact W.vret hx hb hr (fun t ht hW => ⟨⟨(), rfl, trivial, ⟨by rw [ht]; exact hP, va_K.moved hW.alike hK, hD⟩⟩, hS.F ht⟩) hS.2.2 dX4_take_17


set_option maxRecDepth 100000 in
set_option maxHeartbeats 4000000 in
theorem b_X4_takeField_76_92_62 {p : Program} {l : Launch} {e : Env} {s : State} {m : MethodId} {args : Array Value} {below : List Frame} {meth : Method} {c : Code} {dC : Nat → ClassId} {dI : Nat → Nat → Nat} {a : Nat → Nat} {k : Nat → ClassId} {A : Nat → Prop} {q : ST} (hC : CxA p s m args meth c dC dI k A cX4_takeField RX4 none 9) {nn : Nat} {r_X4_take : Nat → Nat → Int32 → Int32 → Int32 → Int32 → Int32 → ST → Option (ST)} (hr_X4_take : ∀ {sz : Nat} {p0 : Int32} {p1 : Int32} {p2 : Int32} {p3 : Int32} {p4 : Int32} {σ : ST} {q : ST}, r_X4_take 92 62 p0 p1 p2 p3 p4 σ = some q → Met l yX4_take (.code yX4_take cX4_take 9 none :: pw) ({ frames := 164 + nn, cells := 0, slots := 0, locals := 4412 + 29 * nn } : Room) (va_Pc [.ref (a 92), .int p0, .int p1, .int p2, .int p3, .int p4] (vPre dC dI (wA a k σ) (tA k) sz)) (qAv dC dI a k (va_A (wA a k σ) sz) q) 0 0 (va_A (wA a k σ) sz)) {r_X4_takeField : Nat → Nat → Int32 → Int32 → Int32 → Int32 → Int32 → ST → Option (ST)} (hr_X4_takeField : ∀ {sz : Nat} {p0 : Int32} {p1 : Int32} {p2 : Int32} {p3 : Int32} {p4 : Int32} {σ : ST} {q : ST}, r_X4_takeField 92 62 p0 p1 p2 p3 p4 σ = some q → Met l yX4_takeField (.code yX4_takeField cX4_takeField 9 none :: pw) ({ frames := 164 + nn, cells := 0, slots := 0, locals := 4412 + 29 * nn } : Room) (va_Pc [.ref (a 92), .int p0, .int p1, .int p2, .int p3, .int p4] (vPre dC dI (wA a k σ) (tA k) sz)) (qAv dC dI a k (va_A (wA a k σ) sz) q) 0 0 (va_A (wA a k σ) sz)) {r_X4_takeList : Nat → Nat → Int32 → Int32 → Int32 → Int32 → Int32 → ST → Option (ST)} (hr_X4_takeList : ∀ {sz : Nat} {p0 : Int32} {p1 : Int32} {p2 : Int32} {p3 : Int32} {p4 : Int32} {σ : ST} {q : ST}, r_X4_takeList 92 62 p0 p1 p2 p3 p4 σ = some q → Met l yX4_takeList (.code yX4_takeList cX4_takeList 10 none :: pw) ({ frames := 164 + nn, cells := 0, slots := 0, locals := 4412 + 29 * nn } : Room) (va_Pc [.ref (a 92), .int p0, .int p1, .int p2, .int p3, .int p4] (vPre dC dI (wA a k σ) (tA k) sz)) (qAv dC dI a k (va_A (wA a k σ) sz) q) 0 0 (va_A (wA a k σ) sz)) {r_X4_takeOwn : Nat → Nat → Int32 → Int32 → Int32 → Int32 → Int32 → ST → Option (ST)} (hr_X4_takeOwn : ∀ {sz : Nat} {p0 : Int32} {p1 : Int32} {p2 : Int32} {p3 : Int32} {p4 : Int32} {σ : ST} {q : ST}, r_X4_takeOwn 92 62 p0 p1 p2 p3 p4 σ = some q → Met l yX4_takeOwn (.code yX4_takeOwn cX4_takeOwn 8 none :: pw) ({ frames := 164 + nn, cells := 0, slots := 0, locals := 4412 + 29 * nn } : Room) (va_Pc [.ref (a 92), .int p0, .int p1, .int p2, .int p3, .int p4] (vPre dC dI (wA a k σ) (tA k) sz)) (qAv dC dI a k (va_A (wA a k σ) sz) q) 0 0 (va_A (wA a k σ) sz)) {r_X4_takeRecord : Nat → Nat → Int32 → Int32 → Int32 → Int32 → Int32 → ST → Option (ST)} (hr_X4_takeRecord : ∀ {sz : Nat} {p0 : Int32} {p1 : Int32} {p2 : Int32} {p3 : Int32} {p4 : Int32} {σ : ST} {q : ST}, r_X4_takeRecord 92 62 p0 p1 p2 p3 p4 σ = some q → Met l yX4_takeRecord (.code yX4_takeRecord cX4_takeRecord 9 none :: pw) ({ frames := 164 + nn, cells := 0, slots := 0, locals := 4412 + 29 * nn } : Room) (va_Pc [.ref (a 92), .int p0, .int p1, .int p2, .int p3, .int p4] (vPre dC dI (wA a k σ) (tA k) sz)) (qAv dC dI a k (va_A (wA a k σ) sz) q) 0 0 (va_A (wA a k σ) sz)) {k12 : Int32 → Int32 → Int32 → Int32 → Int32 → Int32 → Int32 → Int32 → ST → Option (ST)} (hk12 : ∀ (x1 : Int32) (x2 : Int32) (x3 : Int32) (x4 : Int32) (x5 : Int32) (x6 : Int32) (x7 : Int32) (x8 : Int32) (σ : ST), k12 x1 x2 x3 x4 x5 x6 x7 x8 σ = some q → GoA p l e ({ frames := 164 + (nn + 1), cells := 0, slots := 0, locals := 4412 + 29 * (nn + 1) } : Room) s m args below meth c (MQ below (qAv dC dI a k A q) args s 0 0 A) dC dI a k A 9 12 σ [(0, .ref (a 92)), (1, .int x1), (2, .int x2), (3, .int x3), (4, .int x4), (5, .int x5), (6, .int x6), (7, .int x7), (8, .int x8)] []) {x1 : Int32} {x2 : Int32} {x3 : Int32} {x4 : Int32} {x5 : Int32} {x6 : Int32} {x7 : Int32} {x8 : Int32} {σ : ST} (h : f_X4_takeField_76 r_X4_take r_X4_takeField r_X4_takeList r_X4_takeOwn r_X4_takeRecord k12 92 62 x1 x2 x3 x4 x5 x6 x7 x8 σ = some q) : GoA p l e ({ frames := 164 + (nn + 1), cells := 0, slots := 0, locals := 4412 + 29 * (nn + 1) } : Room) s m args below meth c (MQ below (qAv dC dI a k A q) args s 0 0 A) dC dI a k A 9 76 σ [(0, .ref (a 92)), (1, .int x1), (2, .int x2), (3, .int x3), (4, .int x4), (5, .int x5), (6, .int x6), (7, .int x7), (8, .int x8)] [] := by
  have hC0 := hC
  obtain ⟨hx, hb, hr, hml, hown, hts, hlocks, hA, hN, hK⟩ := hC0
  intro H locs ls hP hD hS hl
  have hD0 : ∀ σ1 : ST, va_D A (wA a k σ1) := fun σ1 => wA_D hD
  unfold f_X4_takeField_76 at h
  refine lv_iinc (v := (x8 + 1)) (lv' := [(8, .int (x8 + 1)), (0, .ref (a 92)), (1, .int x1), (2, .int x2), (3, .int x3), (4, .int x4), (5, .int x5), (6, .int x6), (7, .int x7)]) hx hb dX4_takeField_76 hl (k := 8) rfl rfl (by decide) rfl (fun ls hl => ?_)
  refine lv_goto (tgt := 12) hx hb dX4_takeField_79 (by decide) ?_
  exact hk12 _ _ _ _ _ _ _ _ _ h _ _ _ hP hD hS (lv_sub hl [1, 2, 3, 4, 5, 6, 7, 8, 0] rfl)

set_option maxRecDepth 100000 in
set_option maxHeartbeats 4000000 in
theorem b_X4_takeField_82_92_62 {p : Program} {l : Launch} {e : Env} {s : State} {m : MethodId} {args : Array Value} {below : List Frame} {meth : Method} {c : Code} {dC : Nat → ClassId} {dI : Nat → Nat → Nat} {a : Nat → Nat} {k : Nat → ClassId} {A : Nat → Prop} {q : ST} (hC : CxA p s m args meth c dC dI k A cX4_takeField RX4 none 9) {nn : Nat} {r_X4_take : Nat → Nat → Int32 → Int32 → Int32 → Int32 → Int32 → ST → Option (ST)} (hr_X4_take : ∀ {sz : Nat} {p0 : Int32} {p1 : Int32} {p2 : Int32} {p3 : Int32} {p4 : Int32} {σ : ST} {q : ST}, r_X4_take 92 62 p0 p1 p2 p3 p4 σ = some q → Met l yX4_take (.code yX4_take cX4_take 9 none :: pw) ({ frames := 164 + nn, cells := 0, slots := 0, locals := 4412 + 29 * nn } : Room) (va_Pc [.ref (a 92), .int p0, .int p1, .int p2, .int p3, .int p4] (vPre dC dI (wA a k σ) (tA k) sz)) (qAv dC dI a k (va_A (wA a k σ) sz) q) 0 0 (va_A (wA a k σ) sz)) {r_X4_takeField : Nat → Nat → Int32 → Int32 → Int32 → Int32 → Int32 → ST → Option (ST)} (hr_X4_takeField : ∀ {sz : Nat} {p0 : Int32} {p1 : Int32} {p2 : Int32} {p3 : Int32} {p4 : Int32} {σ : ST} {q : ST}, r_X4_takeField 92 62 p0 p1 p2 p3 p4 σ = some q → Met l yX4_takeField (.code yX4_takeField cX4_takeField 9 none :: pw) ({ frames := 164 + nn, cells := 0, slots := 0, locals := 4412 + 29 * nn } : Room) (va_Pc [.ref (a 92), .int p0, .int p1, .int p2, .int p3, .int p4] (vPre dC dI (wA a k σ) (tA k) sz)) (qAv dC dI a k (va_A (wA a k σ) sz) q) 0 0 (va_A (wA a k σ) sz)) {r_X4_takeList : Nat → Nat → Int32 → Int32 → Int32 → Int32 → Int32 → ST → Option (ST)} (hr_X4_takeList : ∀ {sz : Nat} {p0 : Int32} {p1 : Int32} {p2 : Int32} {p3 : Int32} {p4 : Int32} {σ : ST} {q : ST}, r_X4_takeList 92 62 p0 p1 p2 p3 p4 σ = some q → Met l yX4_takeList (.code yX4_takeList cX4_takeList 10 none :: pw) ({ frames := 164 + nn, cells := 0, slots := 0, locals := 4412 + 29 * nn } : Room) (va_Pc [.ref (a 92), .int p0, .int p1, .int p2, .int p3, .int p4] (vPre dC dI (wA a k σ) (tA k) sz)) (qAv dC dI a k (va_A (wA a k σ) sz) q) 0 0 (va_A (wA a k σ) sz)) {r_X4_takeOwn : Nat → Nat → Int32 → Int32 → Int32 → Int32 → Int32 → ST → Option (ST)} (hr_X4_takeOwn : ∀ {sz : Nat} {p0 : Int32} {p1 : Int32} {p2 : Int32} {p3 : Int32} {p4 : Int32} {σ : ST} {q : ST}, r_X4_takeOwn 92 62 p0 p1 p2 p3 p4 σ = some q → Met l yX4_takeOwn (.code yX4_takeOwn cX4_takeOwn 8 none :: pw) ({ frames := 164 + nn, cells := 0, slots := 0, locals := 4412 + 29 * nn } : Room) (va_Pc [.ref (a 92), .int p0, .int p1, .int p2, .int p3, .int p4] (vPre dC dI (wA a k σ) (tA k) sz)) (qAv dC dI a k (va_A (wA a k σ) sz) q) 0 0 (va_A (wA a k σ) sz)) {r_X4_takeRecord : Nat → Nat → Int32 → Int32 → Int32 → Int32 → Int32 → ST → Option (ST)} (hr_X4_takeRecord : ∀ {sz : Nat} {p0 : Int32} {p1 : Int32} {p2 : Int32} {p3 : Int32} {p4 : Int32} {σ : ST} {q : ST}, r_X4_takeRecord 92 62 p0 p1 p2 p3 p4 σ = some q → Met l yX4_takeRecord (.code yX4_takeRecord cX4_takeRecord 9 none :: pw) ({ frames := 164 + nn, cells := 0, slots := 0, locals := 4412 + 29 * nn } : Room) (va_Pc [.ref (a 92), .int p0, .int p1, .int p2, .int p3, .int p4] (vPre dC dI (wA a k σ) (tA k) sz)) (qAv dC dI a k (va_A (wA a k σ) sz) q) 0 0 (va_A (wA a k σ) sz))  {x1 : Int32} {x5 : Int32} {x7 : Int32} {σ : ST} (h : f_X4_takeField_82 r_X4_take r_X4_takeField r_X4_takeList r_X4_takeOwn r_X4_takeRecord 92 62 x1 x5 x7 σ = some q) : GoA p l e ({ frames := 164 + (nn + 1), cells := 0, slots := 0, locals := 4412 + 29 * (nn + 1) } : Room) s m args below meth c (MQ below (qAv dC dI a k A q) args s 0 0 A) dC dI a k A 9 82 σ [(0, .ref (a 92)), (1, .int x1), (5, .int x5), (7, .int x7)] [] := by
  have hC0 := hC
  obtain ⟨hx, hb, hr, hml, hown, hts, hlocks, hA, hN, hK⟩ := hC0
  intro H locs ls hP hD hS hl
  have hD0 : ∀ σ1 : ST, va_D A (wA a k σ1) := fun σ1 => wA_D hD
  unfold f_X4_takeField_82 at h
  refine lv_iload hx hb dX4_takeField_82 (lv_at hl 3 rfl) ?_
  refine lv_if_ne (tgt := 99) hx hb dX4_takeField_84 (by decide) (fun hc => ?_) (fun hc => ?_)
  · replace h := iq hc h
    obtain rfl := Option.some.inj h
    exact W.vret hx hb hr (fun t ht hW => ⟨⟨(), rfl, trivial, ⟨by rw [ht]; exact hP, va_K.moved hW.alike hK, hD⟩⟩, hS.F ht⟩) hS.2.2 dX4_takeField_99
  · replace h := ip hc h
    refine lv_aload_n hx hb dX4_takeField_87 rfl (lv_at hl 0 rfl) ?_
    refine lv_iload_n hx hb dX4_takeField_88 rfl (lv_at hl 1 rfl) ?_
    refine lv_iconst (v := (-1)) hx hb dX4_takeField_89 (by decide) ?_
    refine lv_iconst (v := (-1)) hx hb dX4_takeField_90 (by decide) ?_
    refine lv_iconst (v := 0) hx hb dX4_takeField_91 (by decide) ?_
    refine lv_iload hx hb dX4_takeField_92 (lv_at hl 2 rfl) ?_
    refine lv_iconst (v := 1) hx hb dX4_takeField_94 (by decide) ?_
    refine lv_iadd hx hb dX4_takeField_95 ?_
    obtain ⟨q1, hc, h⟩ := ib h
    have hF := va_frees hD hS hA
    refine va_callv (va_runV (As := [.int x1, .int (-1), .int (-1), .int 0, .int (x5 + 1)]) (rest := []) ⟨hx, hb, hml, hown, hts⟩ (hr_X4_take hc) (cwV 5 hts (gV mw_11_12 mw_11_13 mw_11_14 mw_0_8 mw_49_5) rfl rfl rfl (by decide +kernel) ⟨by show (164 + nn) + 1 ≤ 164 + (nn + 1); omega, by show 8 + (9 + 11) + (4412 + 29 * nn) ≤ 4412 + 29 * (nn + 1); omega⟩) (vV (ci := 4) (q0 := 92) hK hP hD hN rfl gA_92) rfl rfl hl.1 rfl (lv_room (Nat.le_of_ble_eq_true rfl)) dX4_takeField_96 ⟨(Nat.le_of_ble_eq_true rfl), (Nat.le_of_ble_eq_true rfl)⟩) hS (fun q _ h => hF q h) hF (fun u t H locs ht hvm hw hB _ _ hS => ?_)
    replace hP : va_P (dC, dI) vwCl (wA a k q1) H := by rw [← ht]; exact hB.1
    replace hD := hD0 (q1)
    clear hB hF
    obtain rfl := Option.some.inj h
    exact W.vret hx hb hr (fun t ht hW => ⟨⟨(), rfl, trivial, ⟨by rw [ht]; exact hP, va_K.moved hW.alike hK, hD⟩⟩, hS.F ht⟩) hS.2.2 dX4_takeField_99

set_option maxRecDepth 100000 in
set_option maxHeartbeats 4000000 in
theorem b_X4_takeField_12_92_62 {p : Program} {l : Launch} {e : Env} {s : State} {m : MethodId} {args : Array Value} {below : List Frame} {meth : Method} {c : Code} {dC : Nat → ClassId} {dI : Nat → Nat → Nat} {a : Nat → Nat} {k : Nat → ClassId} {A : Nat → Prop} {q : ST} (hC : CxA p s m args meth c dC dI k A cX4_takeField RX4 none 9) {nn : Nat} {r_X4_take : Nat → Nat → Int32 → Int32 → Int32 → Int32 → Int32 → ST → Option (ST)} (hr_X4_take : ∀ {sz : Nat} {p0 : Int32} {p1 : Int32} {p2 : Int32} {p3 : Int32} {p4 : Int32} {σ : ST} {q : ST}, r_X4_take 92 62 p0 p1 p2 p3 p4 σ = some q → Met l yX4_take (.code yX4_take cX4_take 9 none :: pw) ({ frames := 164 + nn, cells := 0, slots := 0, locals := 4412 + 29 * nn } : Room) (va_Pc [.ref (a 92), .int p0, .int p1, .int p2, .int p3, .int p4] (vPre dC dI (wA a k σ) (tA k) sz)) (qAv dC dI a k (va_A (wA a k σ) sz) q) 0 0 (va_A (wA a k σ) sz)) {r_X4_takeField : Nat → Nat → Int32 → Int32 → Int32 → Int32 → Int32 → ST → Option (ST)} (hr_X4_takeField : ∀ {sz : Nat} {p0 : Int32} {p1 : Int32} {p2 : Int32} {p3 : Int32} {p4 : Int32} {σ : ST} {q : ST}, r_X4_takeField 92 62 p0 p1 p2 p3 p4 σ = some q → Met l yX4_takeField (.code yX4_takeField cX4_takeField 9 none :: pw) ({ frames := 164 + nn, cells := 0, slots := 0, locals := 4412 + 29 * nn } : Room) (va_Pc [.ref (a 92), .int p0, .int p1, .int p2, .int p3, .int p4] (vPre dC dI (wA a k σ) (tA k) sz)) (qAv dC dI a k (va_A (wA a k σ) sz) q) 0 0 (va_A (wA a k σ) sz)) {r_X4_takeList : Nat → Nat → Int32 → Int32 → Int32 → Int32 → Int32 → ST → Option (ST)} (hr_X4_takeList : ∀ {sz : Nat} {p0 : Int32} {p1 : Int32} {p2 : Int32} {p3 : Int32} {p4 : Int32} {σ : ST} {q : ST}, r_X4_takeList 92 62 p0 p1 p2 p3 p4 σ = some q → Met l yX4_takeList (.code yX4_takeList cX4_takeList 10 none :: pw) ({ frames := 164 + nn, cells := 0, slots := 0, locals := 4412 + 29 * nn } : Room) (va_Pc [.ref (a 92), .int p0, .int p1, .int p2, .int p3, .int p4] (vPre dC dI (wA a k σ) (tA k) sz)) (qAv dC dI a k (va_A (wA a k σ) sz) q) 0 0 (va_A (wA a k σ) sz)) {r_X4_takeOwn : Nat → Nat → Int32 → Int32 → Int32 → Int32 → Int32 → ST → Option (ST)} (hr_X4_takeOwn : ∀ {sz : Nat} {p0 : Int32} {p1 : Int32} {p2 : Int32} {p3 : Int32} {p4 : Int32} {σ : ST} {q : ST}, r_X4_takeOwn 92 62 p0 p1 p2 p3 p4 σ = some q → Met l yX4_takeOwn (.code yX4_takeOwn cX4_takeOwn 8 none :: pw) ({ frames := 164 + nn, cells := 0, slots := 0, locals := 4412 + 29 * nn } : Room) (va_Pc [.ref (a 92), .int p0, .int p1, .int p2, .int p3, .int p4] (vPre dC dI (wA a k σ) (tA k) sz)) (qAv dC dI a k (va_A (wA a k σ) sz) q) 0 0 (va_A (wA a k σ) sz)) {r_X4_takeRecord : Nat → Nat → Int32 → Int32 → Int32 → Int32 → Int32 → ST → Option (ST)} (hr_X4_takeRecord : ∀ {sz : Nat} {p0 : Int32} {p1 : Int32} {p2 : Int32} {p3 : Int32} {p4 : Int32} {σ : ST} {q : ST}, r_X4_takeRecord 92 62 p0 p1 p2 p3 p4 σ = some q → Met l yX4_takeRecord (.code yX4_takeRecord cX4_takeRecord 9 none :: pw) ({ frames := 164 + nn, cells := 0, slots := 0, locals := 4412 + 29 * nn } : Room) (va_Pc [.ref (a 92), .int p0, .int p1, .int p2, .int p3, .int p4] (vPre dC dI (wA a k σ) (tA k) sz)) (qAv dC dI a k (va_A (wA a k σ) sz) q) 0 0 (va_A (wA a k σ) sz))  : ∀ (n : Nat) (x1 : Int32) (x2 : Int32) (x3 : Int32) (x4 : Int32) (x5 : Int32) (x6 : Int32) (x7 : Int32) (x8 : Int32) (σ : ST), f_X4_takeField_12 r_X4_take r_X4_takeField r_X4_takeList r_X4_takeOwn r_X4_takeRecord 92 62 n x1 x2 x3 x4 x5 x6 x7 x8 σ = some q → GoA p l e ({ frames := 164 + (nn + 1), cells := 0, slots := 0, locals := 4412 + 29 * (nn + 1) } : Room) s m args below meth c (MQ below (qAv dC dI a k A q) args s 0 0 A) dC dI a k A 9 12 σ [(0, .ref (a 92)), (1, .int x1), (2, .int x2), (3, .int x3), (4, .int x4), (5, .int x5), (6, .int x6), (7, .int x7), (8, .int x8)] [] := by
  intro n
  induction n with
  | zero =>
    intro x1 x2 x3 x4 x5 x6 x7 x8 σ h
    rw [f_X4_takeField_12] at h
    cases h
  | succ n ih =>
    intro x1 x2 x3 x4 x5 x6 x7 x8 σ h
    have hC0 := hC
    obtain ⟨hx, hb, hr, hml, hown, hts, hlocks, hA, hN, hK⟩ := hC0
    intro H locs ls hP hD hS hl
    have hD0 : ∀ σ1 : ST, va_D A (wA a k σ1) := fun σ1 => wA_D hD
    rw [f_X4_takeField_12] at h
    refine lv_iload hx hb dX4_takeField_12 (lv_at hl 8 rfl) ?_
    refine lv_aload_n hx hb dX4_takeField_14 rfl (lv_at hl 0 rfl) ?_
    refine va_get (D := (dC, dI)) (ci := 4) (C := RX4) (T := TX4) (N := 12) hx hb hts inlX4 hown hK hP 92 gA_92 rfl 0 (by decide) (hts (.fieldLink RX4 37 "ShapeReader$Reading" "shapes" "LShapeReader$Shapes;") mw_10_28) (fun _ h9 => h9) rfl dX4_takeField_15 ?_
    refine lv_iload_n hx hb dX4_takeField_18 rfl (lv_at hl 3 rfl) ?_
    obtain ⟨q1, hc, h⟩ := ib h
    have hF := va_frees hD hS hA
    refine va_calli (va_runV (As := [.int x3]) (rest := [.int x8]) ⟨hx, hb, hml, hown, hts⟩ (s_X5_fieldsOf_4 hc) (cwV 1 hts (gV mw_13_5 mw_1_28 mw_1_29 mw_0_9 mw_49_29) rfl rfl rfl (by decide +kernel) ⟨by show 1 + 1 ≤ 164 + (nn + 1); omega, by show 8 + (2 + 11) + 20 ≤ 4412 + 29 * (nn + 1); omega⟩) (vV (ci := 5) (q0 := 4) hK hP hD hN rfl gA_4) rfl rfl hl.1 rfl (lv_room (Nat.le_of_ble_eq_true rfl)) dX4_takeField_19 ⟨(Nat.le_of_ble_eq_true rfl), (Nat.le_of_ble_eq_true rfl)⟩) hS (fun q _ h => hF q h) hF (fun r2 u t H locs ht hvm hw hB _ _ hS => ?_)
    obtain rfl : r2 = q1.1 := hw
    replace hP : va_P (dC, dI) vwCl (wA a k q1.2) H := by rw [← ht]; exact hB.1
    replace hD := hD0 (q1.2)
    clear hB hF
    refine lv_icmp_ge (tgt := 82) hx hb dX4_takeField_22 (by decide) (fun hc => ?_) (fun hc => ?_)
    · replace h := ip hc h
      exact b_X4_takeField_82_92_62 hC hr_X4_take hr_X4_takeField hr_X4_takeList hr_X4_takeOwn hr_X4_takeRecord h _ _ _ hP hD hS (lv_sub hl [0, 1, 5, 7] rfl)
    · replace h := iq hc h
      refine lv_aload_n hx hb dX4_takeField_25 rfl (lv_at hl 0 rfl) ?_
      refine va_get (D := (dC, dI)) (ci := 4) (C := RX4) (T := TX4) (N := 12) hx hb hts inlX4 hown hK hP 92 gA_92 rfl 7 (by decide) (hts (.fieldLink RX4 21 "ShapeReader$Reading" "failure" "I") mw_10_23) (fun _ h9 => h9) rfl dX4_takeField_26 ?_
      refine lv_if_ne (tgt := 82) hx hb dX4_takeField_29 (by decide) (fun hc => ?_) (fun hc => ?_)
      · replace h := iq hc h
        exact b_X4_takeField_82_92_62 hC hr_X4_take hr_X4_takeField hr_X4_takeList hr_X4_takeOwn hr_X4_takeRecord h _ _ _ hP hD hS (lv_sub hl [0, 1, 5, 7] rfl)
      · replace h := ip hc h
        refine lv_aload_n hx hb dX4_takeField_32 rfl (lv_at hl 0 rfl) ?_
        refine lv_iload hx hb dX4_takeField_33 (lv_at hl 5 rfl) ?_
        refine lv_iload hx hb dX4_takeField_35 (lv_at hl 8 rfl) ?_
        obtain ⟨q3, hc, h⟩ := ib h
        have hF := va_frees hD hS hA
        refine va_calli (va_runV (As := [.int x5, .int x8]) (rest := []) ⟨hx, hb, hml, hown, hts⟩ (s_X4_sourceAt_92_62 hc) (cwV 2 hts (gV mw_13_16 mw_13_17 mw_13_18 mw_0_8 mw_49_11) rfl rfl rfl (by decide +kernel) ⟨by show 0 + 1 ≤ 164 + (nn + 1); omega, by show 8 + (3 + 11) + 0 ≤ 4412 + 29 * (nn + 1); omega⟩) (vV (ci := 4) (q0 := 92) hK hP hD hN rfl gA_92) rfl rfl hl.1 rfl (lv_room (Nat.le_of_ble_eq_true rfl)) dX4_takeField_37 ⟨(Nat.le_of_ble_eq_true rfl), (Nat.le_of_ble_eq_true rfl)⟩) hS (fun q _ h => hF q h) hF (fun r4 u t H locs ht hvm hw hB _ _ hS => ?_)
        obtain rfl : r4 = q3.1 := hw
        replace hP : va_P (dC, dI) vwCl (wA a k q3.2) H := by rw [← ht]; exact hB.1
        replace hD := hD0 (q3.2)
        clear hB hF
        refine lv_iload_n hx hb dX4_takeField_40 rfl (lv_at hl 2 rfl) ?_
        refine lv_icmp_ne (tgt := 76) hx hb dX4_takeField_41 (by decide) (fun hc => ?_) (fun hc => ?_)
        · replace h := iq hc h
          exact b_X4_takeField_76_92_62 hC hr_X4_take hr_X4_takeField hr_X4_takeList hr_X4_takeOwn hr_X4_takeRecord ih h _ _ _ hP hD hS (lv_sub hl [0, 1, 2, 3, 4, 5, 6, 7, 8] rfl)
        · replace h := ip hc h
          refine lv_aload_n hx hb dX4_takeField_44 rfl (lv_at hl 0 rfl) ?_
          refine lv_iload hx hb dX4_takeField_45 (lv_at hl 6 rfl) ?_
          refine va_put (D := (dC, dI)) (ci := 4) (ty := .int) (C := RX4) (T := TX4) (N := 12) hx hb hts inlX4 tyX4 tyX4_ok nmX4 hown hK hP hD hS 92 gA_92 rfl 5 (by decide) (hts (.fieldLink RX4 15 "ShapeReader$Reading" "next" "I") mw_10_21) (fun _ h9 => h9) rfl (by decide +kernel) rfl rfl (Nat.le_of_ble_eq_true rfl) dX4_takeField_47 (fun H locs hP hD hS => ?_)
          replace hP := uA_92_5 hP
          replace hD := hD0 ((stI q3.2 92 5 x6))
          refine lv_iconst (v := 1) hx hb dX4_takeField_50 (by decide) ?_
          refine lv_istore (lv' := [(7, .int 1), (0, .ref (a 92)), (1, .int x1), (2, .int x2), (3, .int x3), (4, .int x4), (5, .int x5), (6, .int x6), (8, .int x8)]) hx hb dX4_takeField_51 hl (by decide) rfl (fun ls hl => ?_)
          refine lv_aload_n hx hb dX4_takeField_53 rfl (lv_at hl 1 rfl) ?_
          refine lv_iload_n hx hb dX4_takeField_54 rfl (lv_at hl 2 rfl) ?_
          refine lv_aload_n hx hb dX4_takeField_55 rfl (lv_at hl 1 rfl) ?_
          refine va_get (D := (dC, dI)) (ci := 4) (C := RX4) (T := TX4) (N := 12) hx hb hts inlX4 hown hK hP 92 gA_92 rfl 0 (by decide) (hts (.fieldLink RX4 37 "ShapeReader$Reading" "shapes" "LShapeReader$Shapes;") mw_10_28) (fun _ h9 => h9) rfl dX4_takeField_56 ?_
          refine lv_iload_n hx hb dX4_takeField_59 rfl (lv_at hl 4 rfl) ?_
          refine lv_iload hx hb dX4_takeField_60 (lv_at hl 8 rfl) ?_
          obtain ⟨q5, hc, h⟩ := ib h
          have hF := va_frees hD hS hA
          refine va_calli (va_runV (As := [.int x3, .int x8]) (rest := [.int x1, .ref (a 92)]) ⟨hx, hb, hml, hown, hts⟩ (s_X5_typeOf_4 hc) (cwV 2 hts (gV mw_13_12 mw_2_7 mw_2_8 mw_0_9 mw_50_3) rfl rfl rfl (by decide +kernel) ⟨by show 1 + 1 ≤ 164 + (nn + 1); omega, by show 8 + (3 + 11) + 21 ≤ 4412 + 29 * (nn + 1); omega⟩) (vV (ci := 5) (q0 := 4) hK hP hD hN rfl gA_4) rfl rfl hl.1 rfl (lv_room (Nat.le_of_ble_eq_true rfl)) dX4_takeField_62 ⟨(Nat.le_of_ble_eq_true rfl), (Nat.le_of_ble_eq_true rfl)⟩) hS (fun q _ h => hF q h) hF (fun r6 u t H locs ht hvm hw hB _ _ hS => ?_)
          obtain rfl : r6 = q5.1 := hw
          replace hP : va_P (dC, dI) vwCl (wA a k q5.2) H := by rw [← ht]; exact hB.1
          replace hD := hD0 (q5.2)
          clear hB hF
          refine lv_iload hx hb dX4_takeField_65 (lv_at hl 5 rfl) ?_
          refine lv_iload hx hb dX4_takeField_67 (lv_at hl 8 rfl) ?_
          refine lv_iload hx hb dX4_takeField_69 (lv_at hl 6 rfl) ?_
          refine lv_iconst (v := 1) hx hb dX4_takeField_71 (by decide) ?_
          refine lv_iadd hx hb dX4_takeField_72 ?_
          obtain ⟨q7, hc, h⟩ := ib h
          have hF := va_frees hD hS hA
          refine va_callv (va_runV (As := [.int x1, .int q5.1, .int x4, .int x8, .int (x5 + 1)]) (rest := []) ⟨hx, hb, hml, hown, hts⟩ (hr_X4_take hc) (cwV 5 hts (gV mw_11_12 mw_11_13 mw_11_14 mw_0_8 mw_49_5) rfl rfl rfl (by decide +kernel) ⟨by show (164 + nn) + 1 ≤ 164 + (nn + 1); omega, by show 8 + (9 + 11) + (4412 + 29 * nn) ≤ 4412 + 29 * (nn + 1); omega⟩) (vV (ci := 4) (q0 := 92) hK hP hD hN rfl gA_92) rfl rfl hl.1 rfl (lv_room (Nat.le_of_ble_eq_true rfl)) dX4_takeField_73 ⟨(Nat.le_of_ble_eq_true rfl), (Nat.le_of_ble_eq_true rfl)⟩) hS (fun q _ h => hF q h) hF (fun u t H locs ht hvm hw hB _ _ hS => ?_)
          replace hP : va_P (dC, dI) vwCl (wA a k q7) H := by rw [← ht]; exact hB.1
          replace hD := hD0 (q7)
          clear hB hF
          exact b_X4_takeField_76_92_62 hC hr_X4_take hr_X4_takeField hr_X4_takeList hr_X4_takeOwn hr_X4_takeRecord ih h _ _ _ hP hD hS (lv_sub hl [1, 2, 3, 4, 5, 6, 7, 0, 8] rfl)

set_option maxRecDepth 100000 in
set_option maxHeartbeats 4000000 in
theorem b_X4_takeField_e_92_62 {p : Program} {l : Launch} {e : Env} {s : State} {m : MethodId} {args : Array Value} {below : List Frame} {meth : Method} {c : Code} {dC : Nat → ClassId} {dI : Nat → Nat → Nat} {a : Nat → Nat} {k : Nat → ClassId} {A : Nat → Prop} {q : ST} (hC : CxA p s m args meth c dC dI k A cX4_takeField RX4 none 9) {nn : Nat} {r_X4_take : Nat → Nat → Int32 → Int32 → Int32 → Int32 → Int32 → ST → Option (ST)} (hr_X4_take : ∀ {sz : Nat} {p0 : Int32} {p1 : Int32} {p2 : Int32} {p3 : Int32} {p4 : Int32} {σ : ST} {q : ST}, r_X4_take 92 62 p0 p1 p2 p3 p4 σ = some q → Met l yX4_take (.code yX4_take cX4_take 9 none :: pw) ({ frames := 164 + nn, cells := 0, slots := 0, locals := 4412 + 29 * nn } : Room) (va_Pc [.ref (a 92), .int p0, .int p1, .int p2, .int p3, .int p4] (vPre dC dI (wA a k σ) (tA k) sz)) (qAv dC dI a k (va_A (wA a k σ) sz) q) 0 0 (va_A (wA a k σ) sz)) {r_X4_takeField : Nat → Nat → Int32 → Int32 → Int32 → Int32 → Int32 → ST → Option (ST)} (hr_X4_takeField : ∀ {sz : Nat} {p0 : Int32} {p1 : Int32} {p2 : Int32} {p3 : Int32} {p4 : Int32} {σ : ST} {q : ST}, r_X4_takeField 92 62 p0 p1 p2 p3 p4 σ = some q → Met l yX4_takeField (.code yX4_takeField cX4_takeField 9 none :: pw) ({ frames := 164 + nn, cells := 0, slots := 0, locals := 4412 + 29 * nn } : Room) (va_Pc [.ref (a 92), .int p0, .int p1, .int p2, .int p3, .int p4] (vPre dC dI (wA a k σ) (tA k) sz)) (qAv dC dI a k (va_A (wA a k σ) sz) q) 0 0 (va_A (wA a k σ) sz)) {r_X4_takeList : Nat → Nat → Int32 → Int32 → Int32 → Int32 → Int32 → ST → Option (ST)} (hr_X4_takeList : ∀ {sz : Nat} {p0 : Int32} {p1 : Int32} {p2 : Int32} {p3 : Int32} {p4 : Int32} {σ : ST} {q : ST}, r_X4_takeList 92 62 p0 p1 p2 p3 p4 σ = some q → Met l yX4_takeList (.code yX4_takeList cX4_takeList 10 none :: pw) ({ frames := 164 + nn, cells := 0, slots := 0, locals := 4412 + 29 * nn } : Room) (va_Pc [.ref (a 92), .int p0, .int p1, .int p2, .int p3, .int p4] (vPre dC dI (wA a k σ) (tA k) sz)) (qAv dC dI a k (va_A (wA a k σ) sz) q) 0 0 (va_A (wA a k σ) sz)) {r_X4_takeOwn : Nat → Nat → Int32 → Int32 → Int32 → Int32 → Int32 → ST → Option (ST)} (hr_X4_takeOwn : ∀ {sz : Nat} {p0 : Int32} {p1 : Int32} {p2 : Int32} {p3 : Int32} {p4 : Int32} {σ : ST} {q : ST}, r_X4_takeOwn 92 62 p0 p1 p2 p3 p4 σ = some q → Met l yX4_takeOwn (.code yX4_takeOwn cX4_takeOwn 8 none :: pw) ({ frames := 164 + nn, cells := 0, slots := 0, locals := 4412 + 29 * nn } : Room) (va_Pc [.ref (a 92), .int p0, .int p1, .int p2, .int p3, .int p4] (vPre dC dI (wA a k σ) (tA k) sz)) (qAv dC dI a k (va_A (wA a k σ) sz) q) 0 0 (va_A (wA a k σ) sz)) {r_X4_takeRecord : Nat → Nat → Int32 → Int32 → Int32 → Int32 → Int32 → ST → Option (ST)} (hr_X4_takeRecord : ∀ {sz : Nat} {p0 : Int32} {p1 : Int32} {p2 : Int32} {p3 : Int32} {p4 : Int32} {σ : ST} {q : ST}, r_X4_takeRecord 92 62 p0 p1 p2 p3 p4 σ = some q → Met l yX4_takeRecord (.code yX4_takeRecord cX4_takeRecord 9 none :: pw) ({ frames := 164 + nn, cells := 0, slots := 0, locals := 4412 + 29 * nn } : Room) (va_Pc [.ref (a 92), .int p0, .int p1, .int p2, .int p3, .int p4] (vPre dC dI (wA a k σ) (tA k) sz)) (qAv dC dI a k (va_A (wA a k σ) sz) q) 0 0 (va_A (wA a k σ) sz))  {p0 : Int32} {p1 : Int32} {p2 : Int32} {p3 : Int32} {p4 : Int32} {σ : ST} (h : f_X4_takeField r_X4_take r_X4_takeField r_X4_takeList r_X4_takeOwn r_X4_takeRecord 92 62 p0 p1 p2 p3 p4 σ = some q) : GoA p l e ({ frames := 164 + (nn + 1), cells := 0, slots := 0, locals := 4412 + 29 * (nn + 1) } : Room) s m args below meth c (MQ below (qAv dC dI a k A q) args s 0 0 A) dC dI a k A 9 0 σ (lv_args 0 [.ref (a 92), .int p0, .int p1, .int p2, .int p3, .int p4]) [] := by
  have hC0 := hC
  obtain ⟨hx, hb, hr, hml, hown, hts, hlocks, hA, hN, hK⟩ := hC0
  intro H locs ls hP hD hS hl
  have hD0 : ∀ σ1 : ST, va_D A (wA a k σ1) := fun σ1 => wA_D hD
  replace hl : lv_has ls 9 [(0, .ref (a 92)), (1, .int p0), (2, .int p1), (3, .int p2), (4, .int p3), (5, .int p4)] := hl
  unfold f_X4_takeField at h
  refine lv_aload_n hx hb dX4_takeField_0 rfl (lv_at hl 0 rfl) ?_
  refine va_get (D := (dC, dI)) (ci := 4) (C := RX4) (T := TX4) (N := 12) hx hb hts inlX4 hown hK hP 92 gA_92 rfl 5 (by decide) (hts (.fieldLink RX4 15 "ShapeReader$Reading" "next" "I") mw_10_21) (fun _ h9 => h9) rfl dX4_takeField_1 ?_
  refine lv_istore (lv' := [(6, .int (σ.1 92 5)), (0, .ref (a 92)), (1, .int p0), (2, .int p1), (3, .int p2), (4, .int p3), (5, .int p4)]) hx hb dX4_takeField_4 hl (by decide) rfl (fun ls hl => ?_)
  refine lv_iconst (v := 0) hx hb dX4_takeField_6 (by decide) ?_
  refine lv_istore (lv' := [(7, .int 0), (6, .int (σ.1 92 5)), (0, .ref (a 92)), (1, .int p0), (2, .int p1), (3, .int p2), (4, .int p3), (5, .int p4)]) hx hb dX4_takeField_7 hl (by decide) rfl (fun ls hl => ?_)
  refine lv_iconst (v := 0) hx hb dX4_takeField_9 (by decide) ?_
  refine lv_istore (lv' := [(8, .int 0), (7, .int 0), (6, .int (σ.1 92 5)), (0, .ref (a 92)), (1, .int p0), (2, .int p1), (3, .int p2), (4, .int p3), (5, .int p4)]) hx hb dX4_takeField_10 hl (by decide) rfl (fun ls hl => ?_)
  exact b_X4_takeField_12_92_62 hC hr_X4_take hr_X4_takeField hr_X4_takeList hr_X4_takeOwn hr_X4_takeRecord FU _ _ _ _ _ _ _ _ _ h _ _ _ hP hD hS (lv_sub hl [3, 4, 5, 6, 7, 8, 2, 1, 0] rfl)


set_option maxRecDepth 100000 in
set_option maxHeartbeats 4000000 in
theorem b_X4_takeList_48_92_62 {p : Program} {l : Launch} {e : Env} {s : State} {m : MethodId} {args : Array Value} {below : List Frame} {meth : Method} {c : Code} {dC : Nat → ClassId} {dI : Nat → Nat → Nat} {a : Nat → Nat} {k : Nat → ClassId} {A : Nat → Prop} {q : ST} (hC : CxA p s m args meth c dC dI k A cX4_takeList RX4 none 10) {nn : Nat} {r_X4_take : Nat → Nat → Int32 → Int32 → Int32 → Int32 → Int32 → ST → Option (ST)} (hr_X4_take : ∀ {sz : Nat} {p0 : Int32} {p1 : Int32} {p2 : Int32} {p3 : Int32} {p4 : Int32} {σ : ST} {q : ST}, r_X4_take 92 62 p0 p1 p2 p3 p4 σ = some q → Met l yX4_take (.code yX4_take cX4_take 9 none :: pw) ({ frames := 164 + nn, cells := 0, slots := 0, locals := 4412 + 29 * nn } : Room) (va_Pc [.ref (a 92), .int p0, .int p1, .int p2, .int p3, .int p4] (vPre dC dI (wA a k σ) (tA k) sz)) (qAv dC dI a k (va_A (wA a k σ) sz) q) 0 0 (va_A (wA a k σ) sz)) {r_X4_takeField : Nat → Nat → Int32 → Int32 → Int32 → Int32 → Int32 → ST → Option (ST)} (hr_X4_takeField : ∀ {sz : Nat} {p0 : Int32} {p1 : Int32} {p2 : Int32} {p3 : Int32} {p4 : Int32} {σ : ST} {q : ST}, r_X4_takeField 92 62 p0 p1 p2 p3 p4 σ = some q → Met l yX4_takeField (.code yX4_takeField cX4_takeField 9 none :: pw) ({ frames := 164 + nn, cells := 0, slots := 0, locals := 4412 + 29 * nn } : Room) (va_Pc [.ref (a 92), .int p0, .int p1, .int p2, .int p3, .int p4] (vPre dC dI (wA a k σ) (tA k) sz)) (qAv dC dI a k (va_A (wA a k σ) sz) q) 0 0 (va_A (wA a k σ) sz)) {r_X4_takeList : Nat → Nat → Int32 → Int32 → Int32 → Int32 → Int32 → ST → Option (ST)} (hr_X4_takeList : ∀ {sz : Nat} {p0 : Int32} {p1 : Int32} {p2 : Int32} {p3 : Int32} {p4 : Int32} {σ : ST} {q : ST}, r_X4_takeList 92 62 p0 p1 p2 p3 p4 σ = some q → Met l yX4_takeList (.code yX4_takeList cX4_takeList 10 none :: pw) ({ frames := 164 + nn, cells := 0, slots := 0, locals := 4412 + 29 * nn } : Room) (va_Pc [.ref (a 92), .int p0, .int p1, .int p2, .int p3, .int p4] (vPre dC dI (wA a k σ) (tA k) sz)) (qAv dC dI a k (va_A (wA a k σ) sz) q) 0 0 (va_A (wA a k σ) sz)) {r_X4_takeOwn : Nat → Nat → Int32 → Int32 → Int32 → Int32 → Int32 → ST → Option (ST)} (hr_X4_takeOwn : ∀ {sz : Nat} {p0 : Int32} {p1 : Int32} {p2 : Int32} {p3 : Int32} {p4 : Int32} {σ : ST} {q : ST}, r_X4_takeOwn 92 62 p0 p1 p2 p3 p4 σ = some q → Met l yX4_takeOwn (.code yX4_takeOwn cX4_takeOwn 8 none :: pw) ({ frames := 164 + nn, cells := 0, slots := 0, locals := 4412 + 29 * nn } : Room) (va_Pc [.ref (a 92), .int p0, .int p1, .int p2, .int p3, .int p4] (vPre dC dI (wA a k σ) (tA k) sz)) (qAv dC dI a k (va_A (wA a k σ) sz) q) 0 0 (va_A (wA a k σ) sz)) {r_X4_takeRecord : Nat → Nat → Int32 → Int32 → Int32 → Int32 → Int32 → ST → Option (ST)} (hr_X4_takeRecord : ∀ {sz : Nat} {p0 : Int32} {p1 : Int32} {p2 : Int32} {p3 : Int32} {p4 : Int32} {σ : ST} {q : ST}, r_X4_takeRecord 92 62 p0 p1 p2 p3 p4 σ = some q → Met l yX4_takeRecord (.code yX4_takeRecord cX4_takeRecord 9 none :: pw) ({ frames := 164 + nn, cells := 0, slots := 0, locals := 4412 + 29 * nn } : Room) (va_Pc [.ref (a 92), .int p0, .int p1, .int p2, .int p3, .int p4] (vPre dC dI (wA a k σ) (tA k) sz)) (qAv dC dI a k (va_A (wA a k σ) sz) q) 0 0 (va_A (wA a k σ) sz))  : ∀ (n : Nat) (x1 : Int32) (x5 : Int32) (x6 : Int32) (x7 : Int32) (x8 : Int32) (x9 : Int32) (σ : ST), f_X4_takeList_48 r_X4_take r_X4_takeField r_X4_takeList r_X4_takeOwn r_X4_takeRecord 92 62 n x1 x5 x6 x7 x8 x9 σ = some q → GoA p l e ({ frames := 164 + (nn + 1), cells := 0, slots := 0, locals := 4412 + 29 * (nn + 1) } : Room) s m args below meth c (MQ below (qAv dC dI a k A q) args s 0 0 A) dC dI a k A 10 48 σ [(0, .ref (a 92)), (1, .int x1), (5, .int x5), (6, .int x6), (7, .int x7), (8, .int x8), (9, .int x9)] [] := by
  intro n
  induction n with
  | zero =>
    intro x1 x5 x6 x7 x8 x9 σ h
    rw [f_X4_takeList_48] at h
    cases h
  | succ n ih =>
    intro x1 x5 x6 x7 x8 x9 σ h
    have hC0 := hC
    obtain ⟨hx, hb, hr, hml, hown, hts, hlocks, hA, hN, hK⟩ := hC0
    intro H locs ls hP hD hS hl
    have hD0 : ∀ σ1 : ST, va_D A (wA a k σ1) := fun σ1 => wA_D hD
    rw [f_X4_takeList_48] at h
    refine lv_iload hx hb dX4_takeList_48 (lv_at hl 6 rfl) ?_
    refine lv_iload hx hb dX4_takeList_50 (lv_at hl 3 rfl) ?_
    refine lv_icmp_ge (tgt := 96) hx hb dX4_takeList_52 (by decide) (fun hc => ?_) (fun hc => ?_)
    · replace h := ip hc h
      obtain rfl := Option.some.inj h
      exact W.vret hx hb hr (fun t ht hW => ⟨⟨(), rfl, trivial, ⟨by rw [ht]; exact hP, va_K.moved hW.alike hK, hD⟩⟩, hS.F ht⟩) hS.2.2 dX4_takeList_96
    · replace h := iq hc h
      refine lv_aload_n hx hb dX4_takeList_55 rfl (lv_at hl 0 rfl) ?_
      refine va_get (D := (dC, dI)) (ci := 4) (C := RX4) (T := TX4) (N := 12) hx hb hts inlX4 hown hK hP 92 gA_92 rfl 7 (by decide) (hts (.fieldLink RX4 21 "ShapeReader$Reading" "failure" "I") mw_10_23) (fun _ h9 => h9) rfl dX4_takeList_56 ?_
      refine lv_if_ne (tgt := 96) hx hb dX4_takeList_59 (by decide) (fun hc => ?_) (fun hc => ?_)
      · replace h := iq hc h
        obtain rfl := Option.some.inj h
        exact W.vret hx hb hr (fun t ht hW => ⟨⟨(), rfl, trivial, ⟨by rw [ht]; exact hP, va_K.moved hW.alike hK, hD⟩⟩, hS.F ht⟩) hS.2.2 dX4_takeList_96
      · replace h := ip hc h
        refine lv_aload_n hx hb dX4_takeList_62 rfl (lv_at hl 0 rfl) ?_
        refine lv_bipush (v := 100) hx hb dX4_takeList_63 (by decide) ?_
        refine lv_iload hx hb dX4_takeList_65 (lv_at hl 6 rfl) ?_
        refine lv_iadd hx hb dX4_takeList_67 ?_
        obtain ⟨q1, hc, h⟩ := ib h
        have hF := va_frees hD hS hA
        refine va_callv (va_runV (As := [.int (100 + x9)]) (rest := []) ⟨hx, hb, hml, hown, hts⟩ (s_X4_step_92_62 hc) (cwV 1 hts (gV mw_12_8 mw_12_9 mw_12_10 mw_0_8 mw_49_3) rfl rfl rfl (by decide +kernel) ⟨by show 0 + 1 ≤ 164 + (nn + 1); omega, by show 8 + (2 + 11) + 0 ≤ 4412 + 29 * (nn + 1); omega⟩) (vV (ci := 4) (q0 := 92) hK hP hD hN rfl gA_92) rfl rfl hl.1 rfl (lv_room (Nat.le_of_ble_eq_true rfl)) dX4_takeList_68 ⟨(Nat.le_of_ble_eq_true rfl), (Nat.le_of_ble_eq_true rfl)⟩) hS (fun q _ h => hF q h) hF (fun u t H locs ht hvm hw hB _ _ hS => ?_)
        replace hP : va_P (dC, dI) vwCl (wA a k q1) H := by rw [← ht]; exact hB.1
        replace hD := hD0 (q1)
        clear hB hF
        refine lv_aload_n hx hb dX4_takeList_71 rfl (lv_at hl 0 rfl) ?_
        refine lv_iload_n hx hb dX4_takeList_72 rfl (lv_at hl 1 rfl) ?_
        refine lv_iload hx hb dX4_takeList_73 (lv_at hl 5 rfl) ?_
        refine lv_iload hx hb dX4_takeList_75 (lv_at hl 4 rfl) ?_
        refine lv_iload hx hb dX4_takeList_77 (lv_at hl 6 rfl) ?_
        refine lv_iload hx hb dX4_takeList_79 (lv_at hl 2 rfl) ?_
        refine lv_iconst (v := 1) hx hb dX4_takeList_81 (by decide) ?_
        refine lv_iadd hx hb dX4_takeList_82 ?_
        obtain ⟨q3, hc, h⟩ := ib h
        have hF := va_frees hD hS hA
        refine va_callv (va_runV (As := [.int x1, .int x8, .int x7, .int x9, .int (x5 + 1)]) (rest := []) ⟨hx, hb, hml, hown, hts⟩ (hr_X4_take hc) (cwV 5 hts (gV mw_11_12 mw_11_13 mw_11_14 mw_0_8 mw_49_5) rfl rfl rfl (by decide +kernel) ⟨by show (164 + nn) + 1 ≤ 164 + (nn + 1); omega, by show 8 + (9 + 11) + (4412 + 29 * nn) ≤ 4412 + 29 * (nn + 1); omega⟩) (vV (ci := 4) (q0 := 92) hK hP hD hN rfl gA_92) rfl rfl hl.1 rfl (lv_room (Nat.le_of_ble_eq_true rfl)) dX4_takeList_83 ⟨(Nat.le_of_ble_eq_true rfl), (Nat.le_of_ble_eq_true rfl)⟩) hS (fun q _ h => hF q h) hF (fun u t H locs ht hvm hw hB _ _ hS => ?_)
        replace hP : va_P (dC, dI) vwCl (wA a k q3) H := by rw [← ht]; exact hB.1
        replace hD := hD0 (q3)
        clear hB hF
        refine lv_aload_n hx hb dX4_takeList_86 rfl (lv_at hl 0 rfl) ?_
        obtain ⟨q5, hc, h⟩ := ib h
        have hF := va_frees hD hS hA
        refine va_callv (va_runV (As := []) (rest := []) ⟨hx, hb, hml, hown, hts⟩ (s_X4_stepBack_92_62 hc) (cwV 0 hts (gV mw_12_12 mw_12_13 mw_12_14 mw_0_8 mw_49_4) rfl rfl rfl (by decide +kernel) ⟨by show 0 + 1 ≤ 164 + (nn + 1); omega, by show 8 + (1 + 11) + 0 ≤ 4412 + 29 * (nn + 1); omega⟩) (vV (ci := 4) (q0 := 92) hK hP hD hN rfl gA_92) rfl rfl hl.1 rfl (lv_room (Nat.le_of_ble_eq_true rfl)) dX4_takeList_87 ⟨(Nat.le_of_ble_eq_true rfl), (Nat.le_of_ble_eq_true rfl)⟩) hS (fun q _ h => hF q h) hF (fun u t H locs ht hvm hw hB _ _ hS => ?_)
        replace hP : va_P (dC, dI) vwCl (wA a k q5) H := by rw [← ht]; exact hB.1
        replace hD := hD0 (q5)
        clear hB hF
        refine lv_iinc (v := (x9 + 1)) (lv' := [(9, .int (x9 + 1)), (0, .ref (a 92)), (1, .int x1), (5, .int x5), (6, .int x6), (7, .int x7), (8, .int x8)]) hx hb dX4_takeList_90 hl (k := 6) rfl rfl (by decide) rfl (fun ls hl => ?_)
        refine lv_goto (tgt := 48) hx hb dX4_takeList_93 (by decide) ?_
        exact ih _ _ _ _ _ _ _ h _ _ _ hP hD hS (lv_sub hl [1, 2, 3, 4, 5, 6, 0] rfl)

set_option maxRecDepth 100000 in
set_option maxHeartbeats 4000000 in
theorem b_X4_takeList_43_92_62 {p : Program} {l : Launch} {e : Env} {s : State} {m : MethodId} {args : Array Value} {below : List Frame} {meth : Method} {c : Code} {dC : Nat → ClassId} {dI : Nat → Nat → Nat} {a : Nat → Nat} {k : Nat → ClassId} {A : Nat → Prop} {q : ST} (hC : CxA p s m args meth c dC dI k A cX4_takeList RX4 none 10) {nn : Nat} {r_X4_take : Nat → Nat → Int32 → Int32 → Int32 → Int32 → Int32 → ST → Option (ST)} (hr_X4_take : ∀ {sz : Nat} {p0 : Int32} {p1 : Int32} {p2 : Int32} {p3 : Int32} {p4 : Int32} {σ : ST} {q : ST}, r_X4_take 92 62 p0 p1 p2 p3 p4 σ = some q → Met l yX4_take (.code yX4_take cX4_take 9 none :: pw) ({ frames := 164 + nn, cells := 0, slots := 0, locals := 4412 + 29 * nn } : Room) (va_Pc [.ref (a 92), .int p0, .int p1, .int p2, .int p3, .int p4] (vPre dC dI (wA a k σ) (tA k) sz)) (qAv dC dI a k (va_A (wA a k σ) sz) q) 0 0 (va_A (wA a k σ) sz)) {r_X4_takeField : Nat → Nat → Int32 → Int32 → Int32 → Int32 → Int32 → ST → Option (ST)} (hr_X4_takeField : ∀ {sz : Nat} {p0 : Int32} {p1 : Int32} {p2 : Int32} {p3 : Int32} {p4 : Int32} {σ : ST} {q : ST}, r_X4_takeField 92 62 p0 p1 p2 p3 p4 σ = some q → Met l yX4_takeField (.code yX4_takeField cX4_takeField 9 none :: pw) ({ frames := 164 + nn, cells := 0, slots := 0, locals := 4412 + 29 * nn } : Room) (va_Pc [.ref (a 92), .int p0, .int p1, .int p2, .int p3, .int p4] (vPre dC dI (wA a k σ) (tA k) sz)) (qAv dC dI a k (va_A (wA a k σ) sz) q) 0 0 (va_A (wA a k σ) sz)) {r_X4_takeList : Nat → Nat → Int32 → Int32 → Int32 → Int32 → Int32 → ST → Option (ST)} (hr_X4_takeList : ∀ {sz : Nat} {p0 : Int32} {p1 : Int32} {p2 : Int32} {p3 : Int32} {p4 : Int32} {σ : ST} {q : ST}, r_X4_takeList 92 62 p0 p1 p2 p3 p4 σ = some q → Met l yX4_takeList (.code yX4_takeList cX4_takeList 10 none :: pw) ({ frames := 164 + nn, cells := 0, slots := 0, locals := 4412 + 29 * nn } : Room) (va_Pc [.ref (a 92), .int p0, .int p1, .int p2, .int p3, .int p4] (vPre dC dI (wA a k σ) (tA k) sz)) (qAv dC dI a k (va_A (wA a k σ) sz) q) 0 0 (va_A (wA a k σ) sz)) {r_X4_takeOwn : Nat → Nat → Int32 → Int32 → Int32 → Int32 → Int32 → ST → Option (ST)} (hr_X4_takeOwn : ∀ {sz : Nat} {p0 : Int32} {p1 : Int32} {p2 : Int32} {p3 : Int32} {p4 : Int32} {σ : ST} {q : ST}, r_X4_takeOwn 92 62 p0 p1 p2 p3 p4 σ = some q → Met l yX4_takeOwn (.code yX4_takeOwn cX4_takeOwn 8 none :: pw) ({ frames := 164 + nn, cells := 0, slots := 0, locals := 4412 + 29 * nn } : Room) (va_Pc [.ref (a 92), .int p0, .int p1, .int p2, .int p3, .int p4] (vPre dC dI (wA a k σ) (tA k) sz)) (qAv dC dI a k (va_A (wA a k σ) sz) q) 0 0 (va_A (wA a k σ) sz)) {r_X4_takeRecord : Nat → Nat → Int32 → Int32 → Int32 → Int32 → Int32 → ST → Option (ST)} (hr_X4_takeRecord : ∀ {sz : Nat} {p0 : Int32} {p1 : Int32} {p2 : Int32} {p3 : Int32} {p4 : Int32} {σ : ST} {q : ST}, r_X4_takeRecord 92 62 p0 p1 p2 p3 p4 σ = some q → Met l yX4_takeRecord (.code yX4_takeRecord cX4_takeRecord 9 none :: pw) ({ frames := 164 + nn, cells := 0, slots := 0, locals := 4412 + 29 * nn } : Room) (va_Pc [.ref (a 92), .int p0, .int p1, .int p2, .int p3, .int p4] (vPre dC dI (wA a k σ) (tA k) sz)) (qAv dC dI a k (va_A (wA a k σ) sz) q) 0 0 (va_A (wA a k σ) sz))  {x1 : Int32} {x5 : Int32} {x6 : Int32} {x7 : Int32} {y0 : Int32} {σ : ST} (h : f_X4_takeList_43 r_X4_take r_X4_takeField r_X4_takeList r_X4_takeOwn r_X4_takeRecord 92 62 x1 x5 x6 x7 y0 σ = some q) : GoA p l e ({ frames := 164 + (nn + 1), cells := 0, slots := 0, locals := 4412 + 29 * (nn + 1) } : Room) s m args below meth c (MQ below (qAv dC dI a k A q) args s 0 0 A) dC dI a k A 10 43 σ [(0, .ref (a 92)), (1, .int x1), (5, .int x5), (6, .int x6), (7, .int x7)] [.int y0] := by
  have hC0 := hC
  obtain ⟨hx, hb, hr, hml, hown, hts, hlocks, hA, hN, hK⟩ := hC0
  intro H locs ls hP hD hS hl
  have hD0 : ∀ σ1 : ST, va_D A (wA a k σ1) := fun σ1 => wA_D hD
  unfold f_X4_takeList_43 at h
  refine lv_istore (lv' := [(8, .int y0), (0, .ref (a 92)), (1, .int x1), (5, .int x5), (6, .int x6), (7, .int x7)]) hx hb dX4_takeList_43 hl (by decide) rfl (fun ls hl => ?_)
  refine lv_iconst (v := 0) hx hb dX4_takeList_45 (by decide) ?_
  refine lv_istore (lv' := [(9, .int 0), (8, .int y0), (0, .ref (a 92)), (1, .int x1), (5, .int x5), (6, .int x6), (7, .int x7)]) hx hb dX4_takeList_46 hl (by decide) rfl (fun ls hl => ?_)
  exact b_X4_takeList_48_92_62 hC hr_X4_take hr_X4_takeField hr_X4_takeList hr_X4_takeOwn hr_X4_takeRecord FU _ _ _ _ _ _ _ h _ _ _ hP hD hS (lv_sub hl [2, 3, 4, 5, 6, 1, 0] rfl)

set_option maxRecDepth 100000 in
set_option maxHeartbeats 4000000 in
theorem b_X4_takeList_e_92_62 {p : Program} {l : Launch} {e : Env} {s : State} {m : MethodId} {args : Array Value} {below : List Frame} {meth : Method} {c : Code} {dC : Nat → ClassId} {dI : Nat → Nat → Nat} {a : Nat → Nat} {k : Nat → ClassId} {A : Nat → Prop} {q : ST} (hC : CxA p s m args meth c dC dI k A cX4_takeList RX4 none 10) {nn : Nat} {r_X4_take : Nat → Nat → Int32 → Int32 → Int32 → Int32 → Int32 → ST → Option (ST)} (hr_X4_take : ∀ {sz : Nat} {p0 : Int32} {p1 : Int32} {p2 : Int32} {p3 : Int32} {p4 : Int32} {σ : ST} {q : ST}, r_X4_take 92 62 p0 p1 p2 p3 p4 σ = some q → Met l yX4_take (.code yX4_take cX4_take 9 none :: pw) ({ frames := 164 + nn, cells := 0, slots := 0, locals := 4412 + 29 * nn } : Room) (va_Pc [.ref (a 92), .int p0, .int p1, .int p2, .int p3, .int p4] (vPre dC dI (wA a k σ) (tA k) sz)) (qAv dC dI a k (va_A (wA a k σ) sz) q) 0 0 (va_A (wA a k σ) sz)) {r_X4_takeField : Nat → Nat → Int32 → Int32 → Int32 → Int32 → Int32 → ST → Option (ST)} (hr_X4_takeField : ∀ {sz : Nat} {p0 : Int32} {p1 : Int32} {p2 : Int32} {p3 : Int32} {p4 : Int32} {σ : ST} {q : ST}, r_X4_takeField 92 62 p0 p1 p2 p3 p4 σ = some q → Met l yX4_takeField (.code yX4_takeField cX4_takeField 9 none :: pw) ({ frames := 164 + nn, cells := 0, slots := 0, locals := 4412 + 29 * nn } : Room) (va_Pc [.ref (a 92), .int p0, .int p1, .int p2, .int p3, .int p4] (vPre dC dI (wA a k σ) (tA k) sz)) (qAv dC dI a k (va_A (wA a k σ) sz) q) 0 0 (va_A (wA a k σ) sz)) {r_X4_takeList : Nat → Nat → Int32 → Int32 → Int32 → Int32 → Int32 → ST → Option (ST)} (hr_X4_takeList : ∀ {sz : Nat} {p0 : Int32} {p1 : Int32} {p2 : Int32} {p3 : Int32} {p4 : Int32} {σ : ST} {q : ST}, r_X4_takeList 92 62 p0 p1 p2 p3 p4 σ = some q → Met l yX4_takeList (.code yX4_takeList cX4_takeList 10 none :: pw) ({ frames := 164 + nn, cells := 0, slots := 0, locals := 4412 + 29 * nn } : Room) (va_Pc [.ref (a 92), .int p0, .int p1, .int p2, .int p3, .int p4] (vPre dC dI (wA a k σ) (tA k) sz)) (qAv dC dI a k (va_A (wA a k σ) sz) q) 0 0 (va_A (wA a k σ) sz)) {r_X4_takeOwn : Nat → Nat → Int32 → Int32 → Int32 → Int32 → Int32 → ST → Option (ST)} (hr_X4_takeOwn : ∀ {sz : Nat} {p0 : Int32} {p1 : Int32} {p2 : Int32} {p3 : Int32} {p4 : Int32} {σ : ST} {q : ST}, r_X4_takeOwn 92 62 p0 p1 p2 p3 p4 σ = some q → Met l yX4_takeOwn (.code yX4_takeOwn cX4_takeOwn 8 none :: pw) ({ frames := 164 + nn, cells := 0, slots := 0, locals := 4412 + 29 * nn } : Room) (va_Pc [.ref (a 92), .int p0, .int p1, .int p2, .int p3, .int p4] (vPre dC dI (wA a k σ) (tA k) sz)) (qAv dC dI a k (va_A (wA a k σ) sz) q) 0 0 (va_A (wA a k σ) sz)) {r_X4_takeRecord : Nat → Nat → Int32 → Int32 → Int32 → Int32 → Int32 → ST → Option (ST)} (hr_X4_takeRecord : ∀ {sz : Nat} {p0 : Int32} {p1 : Int32} {p2 : Int32} {p3 : Int32} {p4 : Int32} {σ : ST} {q : ST}, r_X4_takeRecord 92 62 p0 p1 p2 p3 p4 σ = some q → Met l yX4_takeRecord (.code yX4_takeRecord cX4_takeRecord 9 none :: pw) ({ frames := 164 + nn, cells := 0, slots := 0, locals := 4412 + 29 * nn } : Room) (va_Pc [.ref (a 92), .int p0, .int p1, .int p2, .int p3, .int p4] (vPre dC dI (wA a k σ) (tA k) sz)) (qAv dC dI a k (va_A (wA a k σ) sz) q) 0 0 (va_A (wA a k σ) sz))  {p0 : Int32} {p1 : Int32} {p2 : Int32} {p3 : Int32} {p4 : Int32} {σ : ST} (h : f_X4_takeList r_X4_take r_X4_takeField r_X4_takeList r_X4_takeOwn r_X4_takeRecord 92 62 p0 p1 p2 p3 p4 σ = some q) : GoA p l e ({ frames := 164 + (nn + 1), cells := 0, slots := 0, locals := 4412 + 29 * (nn + 1) } : Room) s m args below meth c (MQ below (qAv dC dI a k A q) args s 0 0 A) dC dI a k A 10 0 σ (lv_args 0 [.ref (a 92), .int p0, .int p1, .int p2, .int p3, .int p4]) [] := by
  have hC0 := hC
  obtain ⟨hx, hb, hr, hml, hown, hts, hlocks, hA, hN, hK⟩ := hC0
  intro H locs ls hP hD hS hl
  have hD0 : ∀ σ1 : ST, va_D A (wA a k σ1) := fun σ1 => wA_D hD
  replace hl : lv_has ls 10 [(0, .ref (a 92)), (1, .int p0), (2, .int p1), (3, .int p2), (4, .int p3), (5, .int p4)] := hl
  unfold f_X4_takeList at h
  refine lv_aload_n hx hb dX4_takeList_0 rfl (lv_at hl 0 rfl) ?_
  refine lv_aload_n hx hb dX4_takeList_1 rfl (lv_at hl 0 rfl) ?_
  refine va_get (D := (dC, dI)) (ci := 4) (C := RX4) (T := TX4) (N := 12) hx hb hts inlX4 hown hK hP 92 gA_92 rfl 5 (by decide) (hts (.fieldLink RX4 15 "ShapeReader$Reading" "next" "I") mw_10_21) (fun _ h9 => h9) rfl dX4_takeList_2 ?_
  refine lv_sipush (v := 200) hx hb dX4_takeList_5 (by decide) ?_
  obtain ⟨q1, hc, h⟩ := ib h
  have hF := va_frees hD hS hA
  refine va_calli (va_runV (As := [.int (σ.1 92 5), .int 200]) (rest := []) ⟨hx, hb, hml, hown, hts⟩ (s_X4_takeCount_92_62 hc) (cwV 2 hts (gV mw_12_2 mw_12_3 mw_12_4 mw_0_8 mw_49_18) rfl rfl rfl (by decide +kernel) ⟨by show 3 + 1 ≤ 164 + (nn + 1); omega, by show 8 + (5 + 11) + 69 ≤ 4412 + 29 * (nn + 1); omega⟩) (vV (ci := 4) (q0 := 92) hK hP hD hN rfl gA_92) rfl rfl hl.1 rfl (lv_room (Nat.le_of_ble_eq_true rfl)) dX4_takeList_8 ⟨(Nat.le_of_ble_eq_true rfl), (Nat.le_of_ble_eq_true rfl)⟩) hS (fun q _ h => hF q h) hF (fun r2 u t H locs ht hvm hw hB _ _ hS => ?_)
  obtain rfl : r2 = q1.1 := hw
  replace hP : va_P (dC, dI) vwCl (wA a k q1.2) H := by rw [← ht]; exact hB.1
  replace hD := hD0 (q1.2)
  clear hB hF
  refine lv_istore (lv' := [(6, .int q1.1), (0, .ref (a 92)), (1, .int p0), (2, .int p1), (3, .int p2), (4, .int p3), (5, .int p4)]) hx hb dX4_takeList_11 hl (by decide) rfl (fun ls hl => ?_)
  refine lv_aload_n hx hb dX4_takeList_13 rfl (lv_at hl 1 rfl) ?_
  refine lv_iload_n hx hb dX4_takeList_14 rfl (lv_at hl 3 rfl) ?_
  refine lv_iload_n hx hb dX4_takeList_15 rfl (lv_at hl 4 rfl) ?_
  refine lv_iload hx hb dX4_takeList_16 (lv_at hl 5 rfl) ?_
  refine lv_iload hx hb dX4_takeList_18 (lv_at hl 0 rfl) ?_
  refine lv_lconst (v := 0) hx hb dX4_takeList_20 (by decide) ?_
  obtain ⟨q3, hc, h⟩ := ib h
  have hF := va_frees hD hS hA
  refine va_calli (va_runV (As := [.int p1, .int p2, .int p3, .int q1.1, .long 0]) (rest := []) ⟨hx, hb, hml, hown, hts⟩ (s_X4_addNode_92_62 hc) (cwV 5 hts (gV mw_13_6 mw_13_7 mw_13_8 mw_0_8 mw_49_8) rfl rfl rfl (by decide +kernel) ⟨by show 3 + 1 ≤ 164 + (nn + 1); omega, by show 8 + (8 + 11) + 71 ≤ 4412 + 29 * (nn + 1); omega⟩) (vV (ci := 4) (q0 := 92) hK hP hD hN rfl gA_92) rfl rfl hl.1 rfl (lv_room (Nat.le_of_ble_eq_true rfl)) dX4_takeList_21 ⟨(Nat.le_of_ble_eq_true rfl), (Nat.le_of_ble_eq_true rfl)⟩) hS (fun q _ h => hF q h) hF (fun r4 u t H locs ht hvm hw hB _ _ hS => ?_)
  obtain rfl : r4 = q3.1 := hw
  replace hP : va_P (dC, dI) vwCl (wA a k q3.2) H := by rw [← ht]; exact hB.1
  replace hD := hD0 (q3.2)
  clear hB hF
  refine lv_istore (lv' := [(7, .int q3.1), (6, .int q1.1), (0, .ref (a 92)), (1, .int p0), (2, .int p1), (3, .int p2), (4, .int p3), (5, .int p4)]) hx hb dX4_takeList_24 hl (by decide) rfl (fun ls hl => ?_)
  refine lv_iload_n hx hb dX4_takeList_26 rfl (lv_at hl 4 rfl) ?_
  refine lv_iconst (v := (-1)) hx hb dX4_takeList_27 (by decide) ?_
  refine lv_icmp_ne (tgt := 35) hx hb dX4_takeList_28 (by decide) (fun hc => ?_) (fun hc => ?_)
  · replace h := iq hc h
    refine lv_aload_n hx hb dX4_takeList_35 rfl (lv_at hl 2 rfl) ?_
    refine va_get (D := (dC, dI)) (ci := 4) (C := RX4) (T := TX4) (N := 12) hx hb hts inlX4 hown hK hP 92 gA_92 rfl 0 (by decide) (hts (.fieldLink RX4 37 "ShapeReader$Reading" "shapes" "LShapeReader$Shapes;") mw_10_28) (fun _ h9 => h9) rfl dX4_takeList_36 ?_
    refine lv_iload_n hx hb dX4_takeList_39 rfl (lv_at hl 4 rfl) ?_
    obtain ⟨q5, hc, h⟩ := ib h
    have hF := va_frees hD hS hA
    refine va_calli (va_runV (As := [.int p1]) (rest := []) ⟨hx, hb, hml, hown, hts⟩ (s_X5_innerOf_4 hc) (cwV 1 hts (gV mw_12_19 mw_2_16 mw_2_17 mw_0_9 mw_50_7) rfl rfl rfl (by decide +kernel) ⟨by show 1 + 1 ≤ 164 + (nn + 1); omega, by show 8 + (2 + 11) + 21 ≤ 4412 + 29 * (nn + 1); omega⟩) (vV (ci := 5) (q0 := 4) hK hP hD hN rfl gA_4) rfl rfl hl.1 rfl (lv_room (Nat.le_of_ble_eq_true rfl)) dX4_takeList_40 ⟨(Nat.le_of_ble_eq_true rfl), (Nat.le_of_ble_eq_true rfl)⟩) hS (fun q _ h => hF q h) hF (fun r6 u t H locs ht hvm hw hB _ _ hS => ?_)
    obtain rfl : r6 = q5.1 := hw
    replace hP : va_P (dC, dI) vwCl (wA a k q5.2) H := by rw [← ht]; exact hB.1
    replace hD := hD0 (q5.2)
    clear hB hF
    exact b_X4_takeList_43_92_62 hC hr_X4_take hr_X4_takeField hr_X4_takeList hr_X4_takeOwn hr_X4_takeRecord h _ _ _ hP hD hS (lv_sub hl [2, 3, 7, 1, 0] rfl)
  · replace h := ip hc h
    refine lv_iconst (v := (-1)) hx hb dX4_takeList_31 (by decide) ?_
    refine lv_goto (tgt := 43) hx hb dX4_takeList_32 (by decide) ?_
    exact b_X4_takeList_43_92_62 hC hr_X4_take hr_X4_takeField hr_X4_takeList hr_X4_takeOwn hr_X4_takeRecord h _ _ _ hP hD hS (lv_sub hl [2, 3, 7, 1, 0] rfl)


set_option maxRecDepth 100000 in
set_option maxHeartbeats 4000000 in
theorem b_X4_takeOwn_26_92_62 {p : Program} {l : Launch} {e : Env} {s : State} {m : MethodId} {args : Array Value} {below : List Frame} {meth : Method} {c : Code} {dC : Nat → ClassId} {dI : Nat → Nat → Nat} {a : Nat → Nat} {k : Nat → ClassId} {A : Nat → Prop} {q : ST} (hC : CxA p s m args meth c dC dI k A cX4_takeOwn RX4 none 8) {nn : Nat} {r_X4_take : Nat → Nat → Int32 → Int32 → Int32 → Int32 → Int32 → ST → Option (ST)} (hr_X4_take : ∀ {sz : Nat} {p0 : Int32} {p1 : Int32} {p2 : Int32} {p3 : Int32} {p4 : Int32} {σ : ST} {q : ST}, r_X4_take 92 62 p0 p1 p2 p3 p4 σ = some q → Met l yX4_take (.code yX4_take cX4_take 9 none :: pw) ({ frames := 164 + nn, cells := 0, slots := 0, locals := 4412 + 29 * nn } : Room) (va_Pc [.ref (a 92), .int p0, .int p1, .int p2, .int p3, .int p4] (vPre dC dI (wA a k σ) (tA k) sz)) (qAv dC dI a k (va_A (wA a k σ) sz) q) 0 0 (va_A (wA a k σ) sz)) {r_X4_takeField : Nat → Nat → Int32 → Int32 → Int32 → Int32 → Int32 → ST → Option (ST)} (hr_X4_takeField : ∀ {sz : Nat} {p0 : Int32} {p1 : Int32} {p2 : Int32} {p3 : Int32} {p4 : Int32} {σ : ST} {q : ST}, r_X4_takeField 92 62 p0 p1 p2 p3 p4 σ = some q → Met l yX4_takeField (.code yX4_takeField cX4_takeField 9 none :: pw) ({ frames := 164 + nn, cells := 0, slots := 0, locals := 4412 + 29 * nn } : Room) (va_Pc [.ref (a 92), .int p0, .int p1, .int p2, .int p3, .int p4] (vPre dC dI (wA a k σ) (tA k) sz)) (qAv dC dI a k (va_A (wA a k σ) sz) q) 0 0 (va_A (wA a k σ) sz)) {r_X4_takeList : Nat → Nat → Int32 → Int32 → Int32 → Int32 → Int32 → ST → Option (ST)} (hr_X4_takeList : ∀ {sz : Nat} {p0 : Int32} {p1 : Int32} {p2 : Int32} {p3 : Int32} {p4 : Int32} {σ : ST} {q : ST}, r_X4_takeList 92 62 p0 p1 p2 p3 p4 σ = some q → Met l yX4_takeList (.code yX4_takeList cX4_takeList 10 none :: pw) ({ frames := 164 + nn, cells := 0, slots := 0, locals := 4412 + 29 * nn } : Room) (va_Pc [.ref (a 92), .int p0, .int p1, .int p2, .int p3, .int p4] (vPre dC dI (wA a k σ) (tA k) sz)) (qAv dC dI a k (va_A (wA a k σ) sz) q) 0 0 (va_A (wA a k σ) sz)) {r_X4_takeOwn : Nat → Nat → Int32 → Int32 → Int32 → Int32 → Int32 → ST → Option (ST)} (hr_X4_takeOwn : ∀ {sz : Nat} {p0 : Int32} {p1 : Int32} {p2 : Int32} {p3 : Int32} {p4 : Int32} {σ : ST} {q : ST}, r_X4_takeOwn 92 62 p0 p1 p2 p3 p4 σ = some q → Met l yX4_takeOwn (.code yX4_takeOwn cX4_takeOwn 8 none :: pw) ({ frames := 164 + nn, cells := 0, slots := 0, locals := 4412 + 29 * nn } : Room) (va_Pc [.ref (a 92), .int p0, .int p1, .int p2, .int p3, .int p4] (vPre dC dI (wA a k σ) (tA k) sz)) (qAv dC dI a k (va_A (wA a k σ) sz) q) 0 0 (va_A (wA a k σ) sz)) {r_X4_takeRecord : Nat → Nat → Int32 → Int32 → Int32 → Int32 → Int32 → ST → Option (ST)} (hr_X4_takeRecord : ∀ {sz : Nat} {p0 : Int32} {p1 : Int32} {p2 : Int32} {p3 : Int32} {p4 : Int32} {σ : ST} {q : ST}, r_X4_takeRecord 92 62 p0 p1 p2 p3 p4 σ = some q → Met l yX4_takeRecord (.code yX4_takeRecord cX4_takeRecord 9 none :: pw) ({ frames := 164 + nn, cells := 0, slots := 0, locals := 4412 + 29 * nn } : Room) (va_Pc [.ref (a 92), .int p0, .int p1, .int p2, .int p3, .int p4] (vPre dC dI (wA a k σ) (tA k) sz)) (qAv dC dI a k (va_A (wA a k σ) sz) q) 0 0 (va_A (wA a k σ) sz))  {x1 : Int32} {x3 : Int32} {x4 : Int32} {x5 : Int32} {y0 : Int32} {σ : ST} (h : f_X4_takeOwn_26 r_X4_take r_X4_takeField r_X4_takeList r_X4_takeOwn r_X4_takeRecord 92 62 x1 x3 x4 x5 y0 σ = some q) : GoA p l e ({ frames := 164 + (nn + 1), cells := 0, slots := 0, locals := 4412 + 29 * (nn + 1) } : Room) s m args below meth c (MQ below (qAv dC dI a k A q) args s 0 0 A) dC dI a k A 8 26 σ [(0, .ref (a 92)), (1, .int x1), (3, .int x3), (4, .int x4), (5, .int x5)] [.int y0] := by
  have hC0 := hC
  obtain ⟨hx, hb, hr, hml, hown, hts, hlocks, hA, hN, hK⟩ := hC0
  intro H locs ls hP hD hS hl
  have hD0 : ∀ σ1 : ST, va_D A (wA a k σ1) := fun σ1 => wA_D hD
  unfold f_X4_takeOwn_26 at h
  refine lv_istore (lv' := [(6, .int y0), (0, .ref (a 92)), (1, .int x1), (3, .int x3), (4, .int x4), (5, .int x5)]) hx hb dX4_takeOwn_26 hl (by decide) rfl (fun ls hl => ?_)
  refine lv_aload_n hx hb dX4_takeOwn_28 rfl (lv_at hl 1 rfl) ?_
  refine va_get (D := (dC, dI)) (ci := 4) (C := RX4) (T := TX4) (N := 12) hx hb hts inlX4 hown hK hP 92 gA_92 rfl 0 (by decide) (hts (.fieldLink RX4 37 "ShapeReader$Reading" "shapes" "LShapeReader$Shapes;") mw_10_28) (fun _ h9 => h9) rfl dX4_takeOwn_29 ?_
  refine lv_iload_n hx hb dX4_takeOwn_32 rfl (lv_at hl 2 rfl) ?_
  obtain ⟨q1, hc, h⟩ := ib h
  have hF := va_frees hD hS hA
  refine va_calli (va_runV (As := [.int x1]) (rest := []) ⟨hx, hb, hml, hown, hts⟩ (s_X5_sortOf_4 hc) (cwV 1 hts (gV mw_11_25 mw_2_13 mw_2_14 mw_0_9 mw_50_6) rfl rfl rfl (by decide +kernel) ⟨by show 1 + 1 ≤ 164 + (nn + 1); omega, by show 8 + (2 + 11) + 21 ≤ 4412 + 29 * (nn + 1); omega⟩) (vV (ci := 5) (q0 := 4) hK hP hD hN rfl gA_4) rfl rfl hl.1 rfl (lv_room (Nat.le_of_ble_eq_true rfl)) dX4_takeOwn_33 ⟨(Nat.le_of_ble_eq_true rfl), (Nat.le_of_ble_eq_true rfl)⟩) hS (fun q _ h => hF q h) hF (fun r2 u t H locs ht hvm hw hB _ _ hS => ?_)
  obtain rfl : r2 = q1.1 := hw
  replace hP : va_P (dC, dI) vwCl (wA a k q1.2) H := by rw [← ht]; exact hB.1
  replace hD := hD0 (q1.2)
  clear hB hF
  refine lv_istore (lv' := [(7, .int q1.1), (6, .int y0), (0, .ref (a 92)), (1, .int x1), (3, .int x3), (4, .int x4), (5, .int x5)]) hx hb dX4_takeOwn_36 hl (by decide) rfl (fun ls hl => ?_)
  refine lv_iload hx hb dX4_takeOwn_38 (lv_at hl 0 rfl) ?_
  refine lv_bipush (v := 7) hx hb dX4_takeOwn_40 (by decide) ?_
  refine lv_icmp_ne (tgt := 67) hx hb dX4_takeOwn_42 (by decide) (fun hc => ?_) (fun hc => ?_)
  · replace h := iq hc h
    refine lv_iload hx hb dX4_takeOwn_67 (lv_at hl 0 rfl) ?_
    refine lv_bipush (v := 6) hx hb dX4_takeOwn_69 (by decide) ?_
    refine lv_icmp_ne (tgt := 96) hx hb dX4_takeOwn_71 (by decide) (fun hc => ?_) (fun hc => ?_)
    · replace h := iq hc h
      refine lv_aload_n hx hb dX4_takeOwn_96 rfl (lv_at hl 2 rfl) ?_
      refine lv_iload hx hb dX4_takeOwn_97 (lv_at hl 0 rfl) ?_
      refine lv_iload hx hb dX4_takeOwn_99 (lv_at hl 1 rfl) ?_
      refine lv_iload_n hx hb dX4_takeOwn_101 rfl (lv_at hl 4 rfl) ?_
      refine lv_iload hx hb dX4_takeOwn_102 (lv_at hl 5 rfl) ?_
      obtain ⟨q3, hc, h⟩ := ib h
      have hF := va_frees hD hS hA
      refine va_callv (va_runV (As := [.int q1.1, .int y0, .int x3, .int x4]) (rest := []) ⟨hx, hb, hml, hown, hts⟩ (s_X4_takePlain_92_62 hc) (cwV 4 hts (gV mw_12_26 mw_12_27 mw_12_28 mw_0_8 mw_49_15) rfl rfl rfl (by decide +kernel) ⟨by show 4 + 1 ≤ 164 + (nn + 1); omega, by show 8 + (10 + 11) + 98 ≤ 4412 + 29 * (nn + 1); omega⟩) (vV (ci := 4) (q0 := 92) hK hP hD hN rfl gA_92) rfl rfl hl.1 rfl (lv_room (Nat.le_of_ble_eq_true rfl)) dX4_takeOwn_104 ⟨(Nat.le_of_ble_eq_true rfl), (Nat.le_of_ble_eq_true rfl)⟩) hS (fun q _ h => hF q h) hF (fun u t H locs ht hvm hw hB _ _ hS => ?_)
      replace hP : va_P (dC, dI) vwCl (wA a k q3) H := by rw [← ht]; exact hB.1
      replace hD := hD0 (q3)
      clear hB hF
      obtain rfl := Option.some.inj h
      exact W.vret hx hb hr (fun t ht hW => ⟨⟨(), rfl, trivial, ⟨by rw [ht]; exact hP, va_K.moved hW.alike hK, hD⟩⟩, hS.F ht⟩) hS.2.2 dX4_takeOwn_107
    · replace h := ip hc h
      refine lv_aload_n hx hb dX4_takeOwn_74 rfl (lv_at hl 2 rfl) ?_
      refine lv_aload_n hx hb dX4_takeOwn_75 rfl (lv_at hl 2 rfl) ?_
      refine va_get (D := (dC, dI)) (ci := 4) (C := RX4) (T := TX4) (N := 12) hx hb hts inlX4 hown hK hP 92 gA_92 rfl 0 (by decide) (hts (.fieldLink RX4 37 "ShapeReader$Reading" "shapes" "LShapeReader$Shapes;") mw_10_28) (fun _ h9 => h9) rfl dX4_takeOwn_76 ?_
      refine lv_iload_n hx hb dX4_takeOwn_79 rfl (lv_at hl 3 rfl) ?_
      obtain ⟨q5, hc, h⟩ := ib h
      have hF := va_frees hD hS hA
      refine va_calli (va_runV (As := [.int x1]) (rest := [.ref (a 92)]) ⟨hx, hb, hml, hown, hts⟩ (s_X5_innerOf_4 hc) (cwV 1 hts (gV mw_12_19 mw_2_16 mw_2_17 mw_0_9 mw_50_7) rfl rfl rfl (by decide +kernel) ⟨by show 1 + 1 ≤ 164 + (nn + 1); omega, by show 8 + (2 + 11) + 21 ≤ 4412 + 29 * (nn + 1); omega⟩) (vV (ci := 5) (q0 := 4) hK hP hD hN rfl gA_4) rfl rfl hl.1 rfl (lv_room (Nat.le_of_ble_eq_true rfl)) dX4_takeOwn_80 ⟨(Nat.le_of_ble_eq_true rfl), (Nat.le_of_ble_eq_true rfl)⟩) hS (fun q _ h => hF q h) hF (fun r6 u t H locs ht hvm hw hB _ _ hS => ?_)
      obtain rfl : r6 = q5.1 := hw
      replace hP : va_P (dC, dI) vwCl (wA a k q5.2) H := by rw [← ht]; exact hB.1
      replace hD := hD0 (q5.2)
      clear hB hF
      refine lv_iload hx hb dX4_takeOwn_83 (lv_at hl 1 rfl) ?_
      refine lv_iload_n hx hb dX4_takeOwn_85 rfl (lv_at hl 4 rfl) ?_
      refine lv_iload hx hb dX4_takeOwn_86 (lv_at hl 5 rfl) ?_
      refine lv_iload hx hb dX4_takeOwn_88 (lv_at hl 6 rfl) ?_
      obtain ⟨q7, hc, h⟩ := ib h
      have hF := va_frees hD hS hA
      refine va_callv (va_runV (As := [.int q5.1, .int y0, .int x3, .int x4, .int x5]) (rest := []) ⟨hx, hb, hml, hown, hts⟩ (hr_X4_takeList hc) (cwV 5 hts (gV mw_12_23 mw_12_24 mw_12_25 mw_0_8 mw_49_14) rfl rfl rfl (by decide +kernel) ⟨by show (164 + nn) + 1 ≤ 164 + (nn + 1); omega, by show 8 + (10 + 11) + (4412 + 29 * nn) ≤ 4412 + 29 * (nn + 1); omega⟩) (vV (ci := 4) (q0 := 92) hK hP hD hN rfl gA_92) rfl rfl hl.1 rfl (lv_room (Nat.le_of_ble_eq_true rfl)) dX4_takeOwn_90 ⟨(Nat.le_of_ble_eq_true rfl), (Nat.le_of_ble_eq_true rfl)⟩) hS (fun q _ h => hF q h) hF (fun u t H locs ht hvm hw hB _ _ hS => ?_)
      replace hP : va_P (dC, dI) vwCl (wA a k q7) H := by rw [← ht]; exact hB.1
      replace hD := hD0 (q7)
      clear hB hF
      refine lv_goto (tgt := 107) hx hb dX4_takeOwn_93 (by decide) ?_
      obtain rfl := Option.some.inj h
      exact W.vret hx hb hr (fun t ht hW => ⟨⟨(), rfl, trivial, ⟨by rw [ht]; exact hP, va_K.moved hW.alike hK, hD⟩⟩, hS.F ht⟩) hS.2.2 dX4_takeOwn_107
  · replace h := ip hc h
    refine lv_aload_n hx hb dX4_takeOwn_45 rfl (lv_at hl 2 rfl) ?_
    refine lv_aload_n hx hb dX4_takeOwn_46 rfl (lv_at hl 2 rfl) ?_
    refine va_get (D := (dC, dI)) (ci := 4) (C := RX4) (T := TX4) (N := 12) hx hb hts inlX4 hown hK hP 92 gA_92 rfl 0 (by decide) (hts (.fieldLink RX4 37 "ShapeReader$Reading" "shapes" "LShapeReader$Shapes;") mw_10_28) (fun _ h9 => h9) rfl dX4_takeOwn_47 ?_
    refine lv_iload_n hx hb dX4_takeOwn_50 rfl (lv_at hl 3 rfl) ?_
    obtain ⟨q9, hc, h⟩ := ib h
    have hF := va_frees hD hS hA
    refine va_calli (va_runV (As := [.int x1]) (rest := [.ref (a 92)]) ⟨hx, hb, hml, hown, hts⟩ (s_X5_innerOf_4 hc) (cwV 1 hts (gV mw_12_19 mw_2_16 mw_2_17 mw_0_9 mw_50_7) rfl rfl rfl (by decide +kernel) ⟨by show 1 + 1 ≤ 164 + (nn + 1); omega, by show 8 + (2 + 11) + 21 ≤ 4412 + 29 * (nn + 1); omega⟩) (vV (ci := 5) (q0 := 4) hK hP hD hN rfl gA_4) rfl rfl hl.1 rfl (lv_room (Nat.le_of_ble_eq_true rfl)) dX4_takeOwn_51 ⟨(Nat.le_of_ble_eq_true rfl), (Nat.le_of_ble_eq_true rfl)⟩) hS (fun q _ h => hF q h) hF (fun r10 u t H locs ht hvm hw hB _ _ hS => ?_)
    obtain rfl : r10 = q9.1 := hw
    replace hP : va_P (dC, dI) vwCl (wA a k q9.2) H := by rw [← ht]; exact hB.1
    replace hD := hD0 (q9.2)
    clear hB hF
    refine lv_iload hx hb dX4_takeOwn_54 (lv_at hl 1 rfl) ?_
    refine lv_iload_n hx hb dX4_takeOwn_56 rfl (lv_at hl 4 rfl) ?_
    refine lv_iload hx hb dX4_takeOwn_57 (lv_at hl 5 rfl) ?_
    refine lv_iload hx hb dX4_takeOwn_59 (lv_at hl 6 rfl) ?_
    obtain ⟨q11, hc, h⟩ := ib h
    have hF := va_frees hD hS hA
    refine va_callv (va_runV (As := [.int q9.1, .int y0, .int x3, .int x4, .int x5]) (rest := []) ⟨hx, hb, hml, hown, hts⟩ (hr_X4_takeRecord hc) (cwV 5 hts (gV mw_12_20 mw_12_21 mw_12_22 mw_0_8 mw_49_9) rfl rfl rfl (by decide +kernel) ⟨by show (164 + nn) + 1 ≤ 164 + (nn + 1); omega, by show 8 + (9 + 11) + (4412 + 29 * nn) ≤ 4412 + 29 * (nn + 1); omega⟩) (vV (ci := 4) (q0 := 92) hK hP hD hN rfl gA_92) rfl rfl hl.1 rfl (lv_room (Nat.le_of_ble_eq_true rfl)) dX4_takeOwn_61 ⟨(Nat.le_of_ble_eq_true rfl), (Nat.le_of_ble_eq_true rfl)⟩) hS (fun q _ h => hF q h) hF (fun u t H locs ht hvm hw hB _ _ hS => ?_)
    replace hP : va_P (dC, dI) vwCl (wA a k q11) H := by rw [← ht]; exact hB.1
    replace hD := hD0 (q11)
    clear hB hF
    refine lv_goto (tgt := 107) hx hb dX4_takeOwn_64 (by decide) ?_
    obtain rfl := Option.some.inj h
    exact W.vret hx hb hr (fun t ht hW => ⟨⟨(), rfl, trivial, ⟨by rw [ht]; exact hP, va_K.moved hW.alike hK, hD⟩⟩, hS.F ht⟩) hS.2.2 dX4_takeOwn_107

set_option maxRecDepth 100000 in
set_option maxHeartbeats 4000000 in
theorem b_X4_takeOwn_e_92_62 {p : Program} {l : Launch} {e : Env} {s : State} {m : MethodId} {args : Array Value} {below : List Frame} {meth : Method} {c : Code} {dC : Nat → ClassId} {dI : Nat → Nat → Nat} {a : Nat → Nat} {k : Nat → ClassId} {A : Nat → Prop} {q : ST} (hC : CxA p s m args meth c dC dI k A cX4_takeOwn RX4 none 8) {nn : Nat} {r_X4_take : Nat → Nat → Int32 → Int32 → Int32 → Int32 → Int32 → ST → Option (ST)} (hr_X4_take : ∀ {sz : Nat} {p0 : Int32} {p1 : Int32} {p2 : Int32} {p3 : Int32} {p4 : Int32} {σ : ST} {q : ST}, r_X4_take 92 62 p0 p1 p2 p3 p4 σ = some q → Met l yX4_take (.code yX4_take cX4_take 9 none :: pw) ({ frames := 164 + nn, cells := 0, slots := 0, locals := 4412 + 29 * nn } : Room) (va_Pc [.ref (a 92), .int p0, .int p1, .int p2, .int p3, .int p4] (vPre dC dI (wA a k σ) (tA k) sz)) (qAv dC dI a k (va_A (wA a k σ) sz) q) 0 0 (va_A (wA a k σ) sz)) {r_X4_takeField : Nat → Nat → Int32 → Int32 → Int32 → Int32 → Int32 → ST → Option (ST)} (hr_X4_takeField : ∀ {sz : Nat} {p0 : Int32} {p1 : Int32} {p2 : Int32} {p3 : Int32} {p4 : Int32} {σ : ST} {q : ST}, r_X4_takeField 92 62 p0 p1 p2 p3 p4 σ = some q → Met l yX4_takeField (.code yX4_takeField cX4_takeField 9 none :: pw) ({ frames := 164 + nn, cells := 0, slots := 0, locals := 4412 + 29 * nn } : Room) (va_Pc [.ref (a 92), .int p0, .int p1, .int p2, .int p3, .int p4] (vPre dC dI (wA a k σ) (tA k) sz)) (qAv dC dI a k (va_A (wA a k σ) sz) q) 0 0 (va_A (wA a k σ) sz)) {r_X4_takeList : Nat → Nat → Int32 → Int32 → Int32 → Int32 → Int32 → ST → Option (ST)} (hr_X4_takeList : ∀ {sz : Nat} {p0 : Int32} {p1 : Int32} {p2 : Int32} {p3 : Int32} {p4 : Int32} {σ : ST} {q : ST}, r_X4_takeList 92 62 p0 p1 p2 p3 p4 σ = some q → Met l yX4_takeList (.code yX4_takeList cX4_takeList 10 none :: pw) ({ frames := 164 + nn, cells := 0, slots := 0, locals := 4412 + 29 * nn } : Room) (va_Pc [.ref (a 92), .int p0, .int p1, .int p2, .int p3, .int p4] (vPre dC dI (wA a k σ) (tA k) sz)) (qAv dC dI a k (va_A (wA a k σ) sz) q) 0 0 (va_A (wA a k σ) sz)) {r_X4_takeOwn : Nat → Nat → Int32 → Int32 → Int32 → Int32 → Int32 → ST → Option (ST)} (hr_X4_takeOwn : ∀ {sz : Nat} {p0 : Int32} {p1 : Int32} {p2 : Int32} {p3 : Int32} {p4 : Int32} {σ : ST} {q : ST}, r_X4_takeOwn 92 62 p0 p1 p2 p3 p4 σ = some q → Met l yX4_takeOwn (.code yX4_takeOwn cX4_takeOwn 8 none :: pw) ({ frames := 164 + nn, cells := 0, slots := 0, locals := 4412 + 29 * nn } : Room) (va_Pc [.ref (a 92), .int p0, .int p1, .int p2, .int p3, .int p4] (vPre dC dI (wA a k σ) (tA k) sz)) (qAv dC dI a k (va_A (wA a k σ) sz) q) 0 0 (va_A (wA a k σ) sz)) {r_X4_takeRecord : Nat → Nat → Int32 → Int32 → Int32 → Int32 → Int32 → ST → Option (ST)} (hr_X4_takeRecord : ∀ {sz : Nat} {p0 : Int32} {p1 : Int32} {p2 : Int32} {p3 : Int32} {p4 : Int32} {σ : ST} {q : ST}, r_X4_takeRecord 92 62 p0 p1 p2 p3 p4 σ = some q → Met l yX4_takeRecord (.code yX4_takeRecord cX4_takeRecord 9 none :: pw) ({ frames := 164 + nn, cells := 0, slots := 0, locals := 4412 + 29 * nn } : Room) (va_Pc [.ref (a 92), .int p0, .int p1, .int p2, .int p3, .int p4] (vPre dC dI (wA a k σ) (tA k) sz)) (qAv dC dI a k (va_A (wA a k σ) sz) q) 0 0 (va_A (wA a k σ) sz))  {p0 : Int32} {p1 : Int32} {p2 : Int32} {p3 : Int32} {p4 : Int32} {σ : ST} (h : f_X4_takeOwn r_X4_take r_X4_takeField r_X4_takeList r_X4_takeOwn r_X4_takeRecord 92 62 p0 p1 p2 p3 p4 σ = some q) : GoA p l e ({ frames := 164 + (nn + 1), cells := 0, slots := 0, locals := 4412 + 29 * (nn + 1) } : Room) s m args below meth c (MQ below (qAv dC dI a k A q) args s 0 0 A) dC dI a k A 8 0 σ (lv_args 0 [.ref (a 92), .int p0, .int p1, .int p2, .int p3, .int p4]) [] := by
  have hC0 := hC
  obtain ⟨hx, hb, hr, hml, hown, hts, hlocks, hA, hN, hK⟩ := hC0
  intro H locs ls hP hD hS hl
  have hD0 : ∀ σ1 : ST, va_D A (wA a k σ1) := fun σ1 => wA_D hD
  replace hl : lv_has ls 8 [(0, .ref (a 92)), (1, .int p0), (2, .int p1), (3, .int p2), (4, .int p3), (5, .int p4)] := hl
  unfold f_X4_takeOwn at h
  refine lv_aload_n hx hb dX4_takeOwn_0 rfl (lv_at hl 0 rfl) ?_
  refine va_get (D := (dC, dI)) (ci := 4) (C := RX4) (T := TX4) (N := 12) hx hb hts inlX4 hown hK hP 92 gA_92 rfl 0 (by decide) (hts (.fieldLink RX4 37 "ShapeReader$Reading" "shapes" "LShapeReader$Shapes;") mw_10_28) (fun _ h9 => h9) rfl dX4_takeOwn_1 ?_
  refine lv_iload_n hx hb dX4_takeOwn_4 rfl (lv_at hl 2 rfl) ?_
  obtain ⟨q1, hc, h⟩ := ib h
  have hF := va_frees hD hS hA
  refine va_calli (va_runV (As := [.int p1]) (rest := []) ⟨hx, hb, hml, hown, hts⟩ (s_X5_sortOf_4 hc) (cwV 1 hts (gV mw_11_25 mw_2_13 mw_2_14 mw_0_9 mw_50_6) rfl rfl rfl (by decide +kernel) ⟨by show 1 + 1 ≤ 164 + (nn + 1); omega, by show 8 + (2 + 11) + 21 ≤ 4412 + 29 * (nn + 1); omega⟩) (vV (ci := 5) (q0 := 4) hK hP hD hN rfl gA_4) rfl rfl hl.1 rfl (lv_room (Nat.le_of_ble_eq_true rfl)) dX4_takeOwn_5 ⟨(Nat.le_of_ble_eq_true rfl), (Nat.le_of_ble_eq_true rfl)⟩) hS (fun q _ h => hF q h) hF (fun r2 u t H locs ht hvm hw hB _ _ hS => ?_)
  obtain rfl : r2 = q1.1 := hw
  replace hP : va_P (dC, dI) vwCl (wA a k q1.2) H := by rw [← ht]; exact hB.1
  replace hD := hD0 (q1.2)
  clear hB hF
  refine lv_bipush (v := 8) hx hb dX4_takeOwn_8 (by decide) ?_
  refine lv_icmp_ne (tgt := 25) hx hb dX4_takeOwn_10 (by decide) (fun hc => ?_) (fun hc => ?_)
  · replace h := iq hc h
    refine lv_iload_n hx hb dX4_takeOwn_25 rfl (lv_at hl 2 rfl) ?_
    exact b_X4_takeOwn_26_92_62 hC hr_X4_take hr_X4_takeField hr_X4_takeList hr_X4_takeOwn hr_X4_takeRecord h _ _ _ hP hD hS (lv_sub hl [0, 1, 3, 4, 5] rfl)
  · replace h := ip hc h
    refine lv_aload_n hx hb dX4_takeOwn_13 rfl (lv_at hl 0 rfl) ?_
    refine va_get (D := (dC, dI)) (ci := 4) (C := RX4) (T := TX4) (N := 12) hx hb hts inlX4 hown hK hP 92 gA_92 rfl 2 (by decide) (hts (.fieldLink RX4 45 "ShapeReader$Reading" "matcher" "LShapeReader$Matcher;") mw_11_0) (fun _ h9 => h9) rfl dX4_takeOwn_14 ?_
    refine lv_iload_n hx hb dX4_takeOwn_17 rfl (lv_at hl 1 rfl) ?_
    refine lv_iload_n hx hb dX4_takeOwn_18 rfl (lv_at hl 2 rfl) ?_
    obtain ⟨q3, hc, h⟩ := ib h
    have hF := va_frees hD hS hA
    refine va_calli (va_runV (As := [.int p0, .int p1]) (rest := []) ⟨hx, hb, hml, hown, hts⟩ (s_X0_chosen hc) (cwV 2 hts (gV mw_12_18 mw_3_15 mw_3_16 mw_0_4 mw_47_12) rfl rfl rfl (by decide +kernel) ⟨by show 163 + 1 ≤ 164 + (nn + 1); omega, by show 8 + (3 + 11) + 4389 ≤ 4412 + 29 * (nn + 1); omega⟩) (vV (ci := 0) (q0 := 41) hK hP hD hN rfl gA_41) rfl rfl hl.1 rfl (lv_room (Nat.le_of_ble_eq_true rfl)) dX4_takeOwn_19 ⟨(Nat.le_of_ble_eq_true rfl), (Nat.le_of_ble_eq_true rfl)⟩) hS (fun q _ h => hF q h) hF (fun r4 u t H locs ht hvm hw hB _ _ hS => ?_)
    obtain rfl : r4 = q3.1 := hw
    replace hP : va_P (dC, dI) vwCl (wA a k q3.2) H := by rw [← ht]; exact hB.1
    replace hD := hD0 (q3.2)
    clear hB hF
    refine lv_goto (tgt := 26) hx hb dX4_takeOwn_22 (by decide) ?_
    exact b_X4_takeOwn_26_92_62 hC hr_X4_take hr_X4_takeField hr_X4_takeList hr_X4_takeOwn hr_X4_takeRecord h _ _ _ hP hD hS (lv_sub hl [0, 1, 3, 4, 5] rfl)


set_option maxRecDepth 100000 in
set_option maxHeartbeats 4000000 in
theorem b_X4_takeRecord_155_92_62 {p : Program} {l : Launch} {e : Env} {s : State} {m : MethodId} {args : Array Value} {below : List Frame} {meth : Method} {c : Code} {dC : Nat → ClassId} {dI : Nat → Nat → Nat} {a : Nat → Nat} {k : Nat → ClassId} {A : Nat → Prop} {q : ST} (hC : CxA p s m args meth c dC dI k A cX4_takeRecord RX4 none 9) {nn : Nat} {r_X4_take : Nat → Nat → Int32 → Int32 → Int32 → Int32 → Int32 → ST → Option (ST)} (hr_X4_take : ∀ {sz : Nat} {p0 : Int32} {p1 : Int32} {p2 : Int32} {p3 : Int32} {p4 : Int32} {σ : ST} {q : ST}, r_X4_take 92 62 p0 p1 p2 p3 p4 σ = some q → Met l yX4_take (.code yX4_take cX4_take 9 none :: pw) ({ frames := 164 + nn, cells := 0, slots := 0, locals := 4412 + 29 * nn } : Room) (va_Pc [.ref (a 92), .int p0, .int p1, .int p2, .int p3, .int p4] (vPre dC dI (wA a k σ) (tA k) sz)) (qAv dC dI a k (va_A (wA a k σ) sz) q) 0 0 (va_A (wA a k σ) sz)) {r_X4_takeField : Nat → Nat → Int32 → Int32 → Int32 → Int32 → Int32 → ST → Option (ST)} (hr_X4_takeField : ∀ {sz : Nat} {p0 : Int32} {p1 : Int32} {p2 : Int32} {p3 : Int32} {p4 : Int32} {σ : ST} {q : ST}, r_X4_takeField 92 62 p0 p1 p2 p3 p4 σ = some q → Met l yX4_takeField (.code yX4_takeField cX4_takeField 9 none :: pw) ({ frames := 164 + nn, cells := 0, slots := 0, locals := 4412 + 29 * nn } : Room) (va_Pc [.ref (a 92), .int p0, .int p1, .int p2, .int p3, .int p4] (vPre dC dI (wA a k σ) (tA k) sz)) (qAv dC dI a k (va_A (wA a k σ) sz) q) 0 0 (va_A (wA a k σ) sz)) {r_X4_takeList : Nat → Nat → Int32 → Int32 → Int32 → Int32 → Int32 → ST → Option (ST)} (hr_X4_takeList : ∀ {sz : Nat} {p0 : Int32} {p1 : Int32} {p2 : Int32} {p3 : Int32} {p4 : Int32} {σ : ST} {q : ST}, r_X4_takeList 92 62 p0 p1 p2 p3 p4 σ = some q → Met l yX4_takeList (.code yX4_takeList cX4_takeList 10 none :: pw) ({ frames := 164 + nn, cells := 0, slots := 0, locals := 4412 + 29 * nn } : Room) (va_Pc [.ref (a 92), .int p0, .int p1, .int p2, .int p3, .int p4] (vPre dC dI (wA a k σ) (tA k) sz)) (qAv dC dI a k (va_A (wA a k σ) sz) q) 0 0 (va_A (wA a k σ) sz)) {r_X4_takeOwn : Nat → Nat → Int32 → Int32 → Int32 → Int32 → Int32 → ST → Option (ST)} (hr_X4_takeOwn : ∀ {sz : Nat} {p0 : Int32} {p1 : Int32} {p2 : Int32} {p3 : Int32} {p4 : Int32} {σ : ST} {q : ST}, r_X4_takeOwn 92 62 p0 p1 p2 p3 p4 σ = some q → Met l yX4_takeOwn (.code yX4_takeOwn cX4_takeOwn 8 none :: pw) ({ frames := 164 + nn, cells := 0, slots := 0, locals := 4412 + 29 * nn } : Room) (va_Pc [.ref (a 92), .int p0, .int p1, .int p2, .int p3, .int p4] (vPre dC dI (wA a k σ) (tA k) sz)) (qAv dC dI a k (va_A (wA a k σ) sz) q) 0 0 (va_A (wA a k σ) sz)) {r_X4_takeRecord : Nat → Nat → Int32 → Int32 → Int32 → Int32 → Int32 → ST → Option (ST)} (hr_X4_takeRecord : ∀ {sz : Nat} {p0 : Int32} {p1 : Int32} {p2 : Int32} {p3 : Int32} {p4 : Int32} {σ : ST} {q : ST}, r_X4_takeRecord 92 62 p0 p1 p2 p3 p4 σ = some q → Met l yX4_takeRecord (.code yX4_takeRecord cX4_takeRecord 9 none :: pw) ({ frames := 164 + nn, cells := 0, slots := 0, locals := 4412 + 29 * nn } : Room) (va_Pc [.ref (a 92), .int p0, .int p1, .int p2, .int p3, .int p4] (vPre dC dI (wA a k σ) (tA k) sz)) (qAv dC dI a k (va_A (wA a k σ) sz) q) 0 0 (va_A (wA a k σ) sz)) {k112 : Int32 → Int32 → Int32 → Int32 → ST → Option (ST)} (hk112 : ∀ (x5 : Int32) (x6 : Int32) (x7 : Int32) (x8 : Int32) (σ : ST), k112 x5 x6 x7 x8 σ = some q → GoA p l e ({ frames := 164 + (nn + 1), cells := 0, slots := 0, locals := 4412 + 29 * (nn + 1) } : Room) s m args below meth c (MQ below (qAv dC dI a k A q) args s 0 0 A) dC dI a k A 9 112 σ [(0, .ref (a 92)), (5, .int x5), (6, .int x6), (7, .int x7), (8, .int x8)] []) {x5 : Int32} {x6 : Int32} {x7 : Int32} {x8 : Int32} {σ : ST} (h : f_X4_takeRecord_155 r_X4_take r_X4_takeField r_X4_takeList r_X4_takeOwn r_X4_takeRecord k112 92 62 x5 x6 x7 x8 σ = some q) : GoA p l e ({ frames := 164 + (nn + 1), cells := 0, slots := 0, locals := 4412 + 29 * (nn + 1) } : Room) s m args below meth c (MQ below (qAv dC dI a k A q) args s 0 0 A) dC dI a k A 9 155 σ [(0, .ref (a 92)), (5, .int x5), (6, .int x6), (7, .int x7), (8, .int x8)] [] := by
  have hC0 := hC
  obtain ⟨hx, hb, hr, hml, hown, hts, hlocks, hA, hN, hK⟩ := hC0
  intro H locs ls hP hD hS hl
  have hD0 : ∀ σ1 : ST, va_D A (wA a k σ1) := fun σ1 => wA_D hD
  unfold f_X4_takeRecord_155 at h
  refine lv_iinc (v := (x8 + 1)) (lv' := [(8, .int (x8 + 1)), (0, .ref (a 92)), (5, .int x5), (6, .int x6), (7, .int x7)]) hx hb dX4_takeRecord_155 hl (k := 4) rfl rfl (by decide) rfl (fun ls hl => ?_)
  refine lv_goto (tgt := 112) hx hb dX4_takeRecord_158 (by decide) ?_
  exact hk112 _ _ _ _ _ h _ _ _ hP hD hS (lv_sub hl [1, 2, 3, 4, 0] rfl)

set_option maxRecDepth 100000 in
set_option maxHeartbeats 4000000 in
theorem b_X4_takeRecord_112_92_62 {p : Program} {l : Launch} {e : Env} {s : State} {m : MethodId} {args : Array Value} {below : List Frame} {meth : Method} {c : Code} {dC : Nat → ClassId} {dI : Nat → Nat → Nat} {a : Nat → Nat} {k : Nat → ClassId} {A : Nat → Prop} {q : ST} (hC : CxA p s m args meth c dC dI k A cX4_takeRecord RX4 none 9) {nn : Nat} {r_X4_take : Nat → Nat → Int32 → Int32 → Int32 → Int32 → Int32 → ST → Option (ST)} (hr_X4_take : ∀ {sz : Nat} {p0 : Int32} {p1 : Int32} {p2 : Int32} {p3 : Int32} {p4 : Int32} {σ : ST} {q : ST}, r_X4_take 92 62 p0 p1 p2 p3 p4 σ = some q → Met l yX4_take (.code yX4_take cX4_take 9 none :: pw) ({ frames := 164 + nn, cells := 0, slots := 0, locals := 4412 + 29 * nn } : Room) (va_Pc [.ref (a 92), .int p0, .int p1, .int p2, .int p3, .int p4] (vPre dC dI (wA a k σ) (tA k) sz)) (qAv dC dI a k (va_A (wA a k σ) sz) q) 0 0 (va_A (wA a k σ) sz)) {r_X4_takeField : Nat → Nat → Int32 → Int32 → Int32 → Int32 → Int32 → ST → Option (ST)} (hr_X4_takeField : ∀ {sz : Nat} {p0 : Int32} {p1 : Int32} {p2 : Int32} {p3 : Int32} {p4 : Int32} {σ : ST} {q : ST}, r_X4_takeField 92 62 p0 p1 p2 p3 p4 σ = some q → Met l yX4_takeField (.code yX4_takeField cX4_takeField 9 none :: pw) ({ frames := 164 + nn, cells := 0, slots := 0, locals := 4412 + 29 * nn } : Room) (va_Pc [.ref (a 92), .int p0, .int p1, .int p2, .int p3, .int p4] (vPre dC dI (wA a k σ) (tA k) sz)) (qAv dC dI a k (va_A (wA a k σ) sz) q) 0 0 (va_A (wA a k σ) sz)) {r_X4_takeList : Nat → Nat → Int32 → Int32 → Int32 → Int32 → Int32 → ST → Option (ST)} (hr_X4_takeList : ∀ {sz : Nat} {p0 : Int32} {p1 : Int32} {p2 : Int32} {p3 : Int32} {p4 : Int32} {σ : ST} {q : ST}, r_X4_takeList 92 62 p0 p1 p2 p3 p4 σ = some q → Met l yX4_takeList (.code yX4_takeList cX4_takeList 10 none :: pw) ({ frames := 164 + nn, cells := 0, slots := 0, locals := 4412 + 29 * nn } : Room) (va_Pc [.ref (a 92), .int p0, .int p1, .int p2, .int p3, .int p4] (vPre dC dI (wA a k σ) (tA k) sz)) (qAv dC dI a k (va_A (wA a k σ) sz) q) 0 0 (va_A (wA a k σ) sz)) {r_X4_takeOwn : Nat → Nat → Int32 → Int32 → Int32 → Int32 → Int32 → ST → Option (ST)} (hr_X4_takeOwn : ∀ {sz : Nat} {p0 : Int32} {p1 : Int32} {p2 : Int32} {p3 : Int32} {p4 : Int32} {σ : ST} {q : ST}, r_X4_takeOwn 92 62 p0 p1 p2 p3 p4 σ = some q → Met l yX4_takeOwn (.code yX4_takeOwn cX4_takeOwn 8 none :: pw) ({ frames := 164 + nn, cells := 0, slots := 0, locals := 4412 + 29 * nn } : Room) (va_Pc [.ref (a 92), .int p0, .int p1, .int p2, .int p3, .int p4] (vPre dC dI (wA a k σ) (tA k) sz)) (qAv dC dI a k (va_A (wA a k σ) sz) q) 0 0 (va_A (wA a k σ) sz)) {r_X4_takeRecord : Nat → Nat → Int32 → Int32 → Int32 → Int32 → Int32 → ST → Option (ST)} (hr_X4_takeRecord : ∀ {sz : Nat} {p0 : Int32} {p1 : Int32} {p2 : Int32} {p3 : Int32} {p4 : Int32} {σ : ST} {q : ST}, r_X4_takeRecord 92 62 p0 p1 p2 p3 p4 σ = some q → Met l yX4_takeRecord (.code yX4_takeRecord cX4_takeRecord 9 none :: pw) ({ frames := 164 + nn, cells := 0, slots := 0, locals := 4412 + 29 * nn } : Room) (va_Pc [.ref (a 92), .int p0, .int p1, .int p2, .int p3, .int p4] (vPre dC dI (wA a k σ) (tA k) sz)) (qAv dC dI a k (va_A (wA a k σ) sz) q) 0 0 (va_A (wA a k σ) sz))  : ∀ (n : Nat) (x5 : Int32) (x6 : Int32) (x7 : Int32) (x8 : Int32) (σ : ST), f_X4_takeRecord_112 r_X4_take r_X4_takeField r_X4_takeList r_X4_takeOwn r_X4_takeRecord 92 62 n x5 x6 x7 x8 σ = some q → GoA p l e ({ frames := 164 + (nn + 1), cells := 0, slots := 0, locals := 4412 + 29 * (nn + 1) } : Room) s m args below meth c (MQ below (qAv dC dI a k A q) args s 0 0 A) dC dI a k A 9 112 σ [(0, .ref (a 92)), (5, .int x5), (6, .int x6), (7, .int x7), (8, .int x8)] [] := by
  intro n
  induction n with
  | zero =>
    intro x5 x6 x7 x8 σ h
    rw [f_X4_takeRecord_112] at h
    cases h
  | succ n ih =>
    intro x5 x6 x7 x8 σ h
    have hC0 := hC
    obtain ⟨hx, hb, hr, hml, hown, hts, hlocks, hA, hN, hK⟩ := hC0
    intro H locs ls hP hD hS hl
    have hD0 : ∀ σ1 : ST, va_D A (wA a k σ1) := fun σ1 => wA_D hD
    rw [f_X4_takeRecord_112] at h
    refine lv_iload hx hb dX4_takeRecord_112 (lv_at hl 4 rfl) ?_
    refine lv_aload_n hx hb dX4_takeRecord_114 rfl (lv_at hl 0 rfl) ?_
    refine va_get (D := (dC, dI)) (ci := 4) (C := RX4) (T := TX4) (N := 12) hx hb hts inlX4 hown hK hP 92 gA_92 rfl 0 (by decide) (hts (.fieldLink RX4 37 "ShapeReader$Reading" "shapes" "LShapeReader$Shapes;") mw_10_28) (fun _ h9 => h9) rfl dX4_takeRecord_115 ?_
    refine lv_iload hx hb dX4_takeRecord_118 (lv_at hl 2 rfl) ?_
    obtain ⟨q1, hc, h⟩ := ib h
    have hF := va_frees hD hS hA
    refine va_calli (va_runV (As := [.int x6]) (rest := [.int x8]) ⟨hx, hb, hml, hown, hts⟩ (s_X5_fieldsOf_4 hc) (cwV 1 hts (gV mw_13_5 mw_1_28 mw_1_29 mw_0_9 mw_49_29) rfl rfl rfl (by decide +kernel) ⟨by show 1 + 1 ≤ 164 + (nn + 1); omega, by show 8 + (2 + 11) + 20 ≤ 4412 + 29 * (nn + 1); omega⟩) (vV (ci := 5) (q0 := 4) hK hP hD hN rfl gA_4) rfl rfl hl.1 rfl (lv_room (Nat.le_of_ble_eq_true rfl)) dX4_takeRecord_120 ⟨(Nat.le_of_ble_eq_true rfl), (Nat.le_of_ble_eq_true rfl)⟩) hS (fun q _ h => hF q h) hF (fun r2 u t H locs ht hvm hw hB _ _ hS => ?_)
    obtain rfl : r2 = q1.1 := hw
    replace hP : va_P (dC, dI) vwCl (wA a k q1.2) H := by rw [← ht]; exact hB.1
    replace hD := hD0 (q1.2)
    clear hB hF
    refine lv_icmp_ge (tgt := 161) hx hb dX4_takeRecord_123 (by decide) (fun hc => ?_) (fun hc => ?_)
    · replace h := ip hc h
      obtain rfl := Option.some.inj h
      exact W.vret hx hb hr (fun t ht hW => ⟨⟨(), rfl, trivial, ⟨by rw [ht]; exact hP, va_K.moved hW.alike hK, hD⟩⟩, hS.F ht⟩) hS.2.2 dX4_takeRecord_161
    · replace h := iq hc h
      refine lv_aload_n hx hb dX4_takeRecord_126 rfl (lv_at hl 0 rfl) ?_
      refine va_get (D := (dC, dI)) (ci := 4) (C := RX4) (T := TX4) (N := 12) hx hb hts inlX4 hown hK hP 92 gA_92 rfl 7 (by decide) (hts (.fieldLink RX4 21 "ShapeReader$Reading" "failure" "I") mw_10_23) (fun _ h9 => h9) rfl dX4_takeRecord_127 ?_
      refine lv_if_ne (tgt := 161) hx hb dX4_takeRecord_130 (by decide) (fun hc => ?_) (fun hc => ?_)
      · replace h := iq hc h
        obtain rfl := Option.some.inj h
        exact W.vret hx hb hr (fun t ht hW => ⟨⟨(), rfl, trivial, ⟨by rw [ht]; exact hP, va_K.moved hW.alike hK, hD⟩⟩, hS.F ht⟩) hS.2.2 dX4_takeRecord_161
      · replace h := ip hc h
        refine lv_aload_n hx hb dX4_takeRecord_133 rfl (lv_at hl 0 rfl) ?_
        refine lv_iload hx hb dX4_takeRecord_134 (lv_at hl 1 rfl) ?_
        refine lv_iload hx hb dX4_takeRecord_136 (lv_at hl 4 rfl) ?_
        obtain ⟨q3, hc, h⟩ := ib h
        have hF := va_frees hD hS hA
        refine va_calli (va_runV (As := [.int x5, .int x8]) (rest := []) ⟨hx, hb, hml, hown, hts⟩ (s_X4_sourceAt_92_62 hc) (cwV 2 hts (gV mw_13_16 mw_13_17 mw_13_18 mw_0_8 mw_49_11) rfl rfl rfl (by decide +kernel) ⟨by show 0 + 1 ≤ 164 + (nn + 1); omega, by show 8 + (3 + 11) + 0 ≤ 4412 + 29 * (nn + 1); omega⟩) (vV (ci := 4) (q0 := 92) hK hP hD hN rfl gA_92) rfl rfl hl.1 rfl (lv_room (Nat.le_of_ble_eq_true rfl)) dX4_takeRecord_138 ⟨(Nat.le_of_ble_eq_true rfl), (Nat.le_of_ble_eq_true rfl)⟩) hS (fun q _ h => hF q h) hF (fun r4 u t H locs ht hvm hw hB _ _ hS => ?_)
        obtain rfl : r4 = q3.1 := hw
        replace hP : va_P (dC, dI) vwCl (wA a k q3.2) H := by rw [← ht]; exact hB.1
        replace hD := hD0 (q3.2)
        clear hB hF
        refine lv_iconst (v := (-1)) hx hb dX4_takeRecord_141 (by decide) ?_
        refine lv_icmp_ne (tgt := 155) hx hb dX4_takeRecord_142 (by decide) (fun hc => ?_) (fun hc => ?_)
        · replace h := iq hc h
          exact b_X4_takeRecord_155_92_62 hC hr_X4_take hr_X4_takeField hr_X4_takeList hr_X4_takeOwn hr_X4_takeRecord ih h _ _ _ hP hD hS (lv_sub hl [0, 1, 2, 3, 4] rfl)
        · replace h := ip hc h
          refine lv_aload_n hx hb dX4_takeRecord_145 rfl (lv_at hl 0 rfl) ?_
          refine lv_iload hx hb dX4_takeRecord_146 (lv_at hl 2 rfl) ?_
          refine lv_iload hx hb dX4_takeRecord_148 (lv_at hl 4 rfl) ?_
          refine lv_iload hx hb dX4_takeRecord_150 (lv_at hl 3 rfl) ?_
          obtain ⟨q5, hc, h⟩ := ib h
          have hF := va_frees hD hS hA
          refine va_callv (va_runV (As := [.int x6, .int x8, .int x7]) (rest := []) ⟨hx, hb, hml, hown, hts⟩ (s_X4_fillIn_92_62 hc) (cwV 3 hts (gV mw_13_19 mw_13_20 mw_13_21 mw_0_8 mw_49_13) rfl rfl rfl (by decide +kernel) ⟨by show 4 + 1 ≤ 164 + (nn + 1); omega, by show 8 + (8 + 11) + 98 ≤ 4412 + 29 * (nn + 1); omega⟩) (vV (ci := 4) (q0 := 92) hK hP hD hN rfl gA_92) rfl rfl hl.1 rfl (lv_room (Nat.le_of_ble_eq_true rfl)) dX4_takeRecord_152 ⟨(Nat.le_of_ble_eq_true rfl), (Nat.le_of_ble_eq_true rfl)⟩) hS (fun q _ h => hF q h) hF (fun u t H locs ht hvm hw hB _ _ hS => ?_)
          replace hP : va_P (dC, dI) vwCl (wA a k q5) H := by rw [← ht]; exact hB.1
          replace hD := hD0 (q5)
          clear hB hF
          exact b_X4_takeRecord_155_92_62 hC hr_X4_take hr_X4_takeField hr_X4_takeList hr_X4_takeOwn hr_X4_takeRecord ih h _ _ _ hP hD hS (lv_sub hl [0, 1, 2, 3, 4] rfl)

set_option maxRecDepth 100000 in
set_option maxHeartbeats 4000000 in
theorem b_X4_takeRecord_109_92_62 {p : Program} {l : Launch} {e : Env} {s : State} {m : MethodId} {args : Array Value} {below : List Frame} {meth : Method} {c : Code} {dC : Nat → ClassId} {dI : Nat → Nat → Nat} {a : Nat → Nat} {k : Nat → ClassId} {A : Nat → Prop} {q : ST} (hC : CxA p s m args meth c dC dI k A cX4_takeRecord RX4 none 9) {nn : Nat} {r_X4_take : Nat → Nat → Int32 → Int32 → Int32 → Int32 → Int32 → ST → Option (ST)} (hr_X4_take : ∀ {sz : Nat} {p0 : Int32} {p1 : Int32} {p2 : Int32} {p3 : Int32} {p4 : Int32} {σ : ST} {q : ST}, r_X4_take 92 62 p0 p1 p2 p3 p4 σ = some q → Met l yX4_take (.code yX4_take cX4_take 9 none :: pw) ({ frames := 164 + nn, cells := 0, slots := 0, locals := 4412 + 29 * nn } : Room) (va_Pc [.ref (a 92), .int p0, .int p1, .int p2, .int p3, .int p4] (vPre dC dI (wA a k σ) (tA k) sz)) (qAv dC dI a k (va_A (wA a k σ) sz) q) 0 0 (va_A (wA a k σ) sz)) {r_X4_takeField : Nat → Nat → Int32 → Int32 → Int32 → Int32 → Int32 → ST → Option (ST)} (hr_X4_takeField : ∀ {sz : Nat} {p0 : Int32} {p1 : Int32} {p2 : Int32} {p3 : Int32} {p4 : Int32} {σ : ST} {q : ST}, r_X4_takeField 92 62 p0 p1 p2 p3 p4 σ = some q → Met l yX4_takeField (.code yX4_takeField cX4_takeField 9 none :: pw) ({ frames := 164 + nn, cells := 0, slots := 0, locals := 4412 + 29 * nn } : Room) (va_Pc [.ref (a 92), .int p0, .int p1, .int p2, .int p3, .int p4] (vPre dC dI (wA a k σ) (tA k) sz)) (qAv dC dI a k (va_A (wA a k σ) sz) q) 0 0 (va_A (wA a k σ) sz)) {r_X4_takeList : Nat → Nat → Int32 → Int32 → Int32 → Int32 → Int32 → ST → Option (ST)} (hr_X4_takeList : ∀ {sz : Nat} {p0 : Int32} {p1 : Int32} {p2 : Int32} {p3 : Int32} {p4 : Int32} {σ : ST} {q : ST}, r_X4_takeList 92 62 p0 p1 p2 p3 p4 σ = some q → Met l yX4_takeList (.code yX4_takeList cX4_takeList 10 none :: pw) ({ frames := 164 + nn, cells := 0, slots := 0, locals := 4412 + 29 * nn } : Room) (va_Pc [.ref (a 92), .int p0, .int p1, .int p2, .int p3, .int p4] (vPre dC dI (wA a k σ) (tA k) sz)) (qAv dC dI a k (va_A (wA a k σ) sz) q) 0 0 (va_A (wA a k σ) sz)) {r_X4_takeOwn : Nat → Nat → Int32 → Int32 → Int32 → Int32 → Int32 → ST → Option (ST)} (hr_X4_takeOwn : ∀ {sz : Nat} {p0 : Int32} {p1 : Int32} {p2 : Int32} {p3 : Int32} {p4 : Int32} {σ : ST} {q : ST}, r_X4_takeOwn 92 62 p0 p1 p2 p3 p4 σ = some q → Met l yX4_takeOwn (.code yX4_takeOwn cX4_takeOwn 8 none :: pw) ({ frames := 164 + nn, cells := 0, slots := 0, locals := 4412 + 29 * nn } : Room) (va_Pc [.ref (a 92), .int p0, .int p1, .int p2, .int p3, .int p4] (vPre dC dI (wA a k σ) (tA k) sz)) (qAv dC dI a k (va_A (wA a k σ) sz) q) 0 0 (va_A (wA a k σ) sz)) {r_X4_takeRecord : Nat → Nat → Int32 → Int32 → Int32 → Int32 → Int32 → ST → Option (ST)} (hr_X4_takeRecord : ∀ {sz : Nat} {p0 : Int32} {p1 : Int32} {p2 : Int32} {p3 : Int32} {p4 : Int32} {σ : ST} {q : ST}, r_X4_takeRecord 92 62 p0 p1 p2 p3 p4 σ = some q → Met l yX4_takeRecord (.code yX4_takeRecord cX4_takeRecord 9 none :: pw) ({ frames := 164 + nn, cells := 0, slots := 0, locals := 4412 + 29 * nn } : Room) (va_Pc [.ref (a 92), .int p0, .int p1, .int p2, .int p3, .int p4] (vPre dC dI (wA a k σ) (tA k) sz)) (qAv dC dI a k (va_A (wA a k σ) sz) q) 0 0 (va_A (wA a k σ) sz))  {x5 : Int32} {x6 : Int32} {x7 : Int32} {σ : ST} (h : f_X4_takeRecord_109 r_X4_take r_X4_takeField r_X4_takeList r_X4_takeOwn r_X4_takeRecord 92 62 x5 x6 x7 σ = some q) : GoA p l e ({ frames := 164 + (nn + 1), cells := 0, slots := 0, locals := 4412 + 29 * (nn + 1) } : Room) s m args below meth c (MQ below (qAv dC dI a k A q) args s 0 0 A) dC dI a k A 9 109 σ [(0, .ref (a 92)), (5, .int x5), (6, .int x6), (7, .int x7)] [] := by
  have hC0 := hC
  obtain ⟨hx, hb, hr, hml, hown, hts, hlocks, hA, hN, hK⟩ := hC0
  intro H locs ls hP hD hS hl
  have hD0 : ∀ σ1 : ST, va_D A (wA a k σ1) := fun σ1 => wA_D hD
  unfold f_X4_takeRecord_109 at h
  refine lv_iconst (v := 0) hx hb dX4_takeRecord_109 (by decide) ?_
  refine lv_istore (lv' := [(8, .int 0), (0, .ref (a 92)), (5, .int x5), (6, .int x6), (7, .int x7)]) hx hb dX4_takeRecord_110 hl (by decide) rfl (fun ls hl => ?_)
  exact b_X4_takeRecord_112_92_62 hC hr_X4_take hr_X4_takeField hr_X4_takeList hr_X4_takeOwn hr_X4_takeRecord FU _ _ _ _ _ h _ _ _ hP hD hS (lv_sub hl [1, 2, 3, 4, 0] rfl)

set_option maxRecDepth 100000 in
set_option maxHeartbeats 4000000 in
theorem b_X4_takeRecord_51_92_62 {p : Program} {l : Launch} {e : Env} {s : State} {m : MethodId} {args : Array Value} {below : List Frame} {meth : Method} {c : Code} {dC : Nat → ClassId} {dI : Nat → Nat → Nat} {a : Nat → Nat} {k : Nat → ClassId} {A : Nat → Prop} {q : ST} (hC : CxA p s m args meth c dC dI k A cX4_takeRecord RX4 none 9) {nn : Nat} {r_X4_take : Nat → Nat → Int32 → Int32 → Int32 → Int32 → Int32 → ST → Option (ST)} (hr_X4_take : ∀ {sz : Nat} {p0 : Int32} {p1 : Int32} {p2 : Int32} {p3 : Int32} {p4 : Int32} {σ : ST} {q : ST}, r_X4_take 92 62 p0 p1 p2 p3 p4 σ = some q → Met l yX4_take (.code yX4_take cX4_take 9 none :: pw) ({ frames := 164 + nn, cells := 0, slots := 0, locals := 4412 + 29 * nn } : Room) (va_Pc [.ref (a 92), .int p0, .int p1, .int p2, .int p3, .int p4] (vPre dC dI (wA a k σ) (tA k) sz)) (qAv dC dI a k (va_A (wA a k σ) sz) q) 0 0 (va_A (wA a k σ) sz)) {r_X4_takeField : Nat → Nat → Int32 → Int32 → Int32 → Int32 → Int32 → ST → Option (ST)} (hr_X4_takeField : ∀ {sz : Nat} {p0 : Int32} {p1 : Int32} {p2 : Int32} {p3 : Int32} {p4 : Int32} {σ : ST} {q : ST}, r_X4_takeField 92 62 p0 p1 p2 p3 p4 σ = some q → Met l yX4_takeField (.code yX4_takeField cX4_takeField 9 none :: pw) ({ frames := 164 + nn, cells := 0, slots := 0, locals := 4412 + 29 * nn } : Room) (va_Pc [.ref (a 92), .int p0, .int p1, .int p2, .int p3, .int p4] (vPre dC dI (wA a k σ) (tA k) sz)) (qAv dC dI a k (va_A (wA a k σ) sz) q) 0 0 (va_A (wA a k σ) sz)) {r_X4_takeList : Nat → Nat → Int32 → Int32 → Int32 → Int32 → Int32 → ST → Option (ST)} (hr_X4_takeList : ∀ {sz : Nat} {p0 : Int32} {p1 : Int32} {p2 : Int32} {p3 : Int32} {p4 : Int32} {σ : ST} {q : ST}, r_X4_takeList 92 62 p0 p1 p2 p3 p4 σ = some q → Met l yX4_takeList (.code yX4_takeList cX4_takeList 10 none :: pw) ({ frames := 164 + nn, cells := 0, slots := 0, locals := 4412 + 29 * nn } : Room) (va_Pc [.ref (a 92), .int p0, .int p1, .int p2, .int p3, .int p4] (vPre dC dI (wA a k σ) (tA k) sz)) (qAv dC dI a k (va_A (wA a k σ) sz) q) 0 0 (va_A (wA a k σ) sz)) {r_X4_takeOwn : Nat → Nat → Int32 → Int32 → Int32 → Int32 → Int32 → ST → Option (ST)} (hr_X4_takeOwn : ∀ {sz : Nat} {p0 : Int32} {p1 : Int32} {p2 : Int32} {p3 : Int32} {p4 : Int32} {σ : ST} {q : ST}, r_X4_takeOwn 92 62 p0 p1 p2 p3 p4 σ = some q → Met l yX4_takeOwn (.code yX4_takeOwn cX4_takeOwn 8 none :: pw) ({ frames := 164 + nn, cells := 0, slots := 0, locals := 4412 + 29 * nn } : Room) (va_Pc [.ref (a 92), .int p0, .int p1, .int p2, .int p3, .int p4] (vPre dC dI (wA a k σ) (tA k) sz)) (qAv dC dI a k (va_A (wA a k σ) sz) q) 0 0 (va_A (wA a k σ) sz)) {r_X4_takeRecord : Nat → Nat → Int32 → Int32 → Int32 → Int32 → Int32 → ST → Option (ST)} (hr_X4_takeRecord : ∀ {sz : Nat} {p0 : Int32} {p1 : Int32} {p2 : Int32} {p3 : Int32} {p4 : Int32} {σ : ST} {q : ST}, r_X4_takeRecord 92 62 p0 p1 p2 p3 p4 σ = some q → Met l yX4_takeRecord (.code yX4_takeRecord cX4_takeRecord 9 none :: pw) ({ frames := 164 + nn, cells := 0, slots := 0, locals := 4412 + 29 * nn } : Room) (va_Pc [.ref (a 92), .int p0, .int p1, .int p2, .int p3, .int p4] (vPre dC dI (wA a k σ) (tA k) sz)) (qAv dC dI a k (va_A (wA a k σ) sz) q) 0 0 (va_A (wA a k σ) sz))  : ∀ (n : Nat) (x1 : Int32) (x5 : Int32) (x6 : Int32) (x7 : Int32) (x8 : Int32) (σ : ST), f_X4_takeRecord_51 r_X4_take r_X4_takeField r_X4_takeList r_X4_takeOwn r_X4_takeRecord 92 62 n x1 x5 x6 x7 x8 σ = some q → GoA p l e ({ frames := 164 + (nn + 1), cells := 0, slots := 0, locals := 4412 + 29 * (nn + 1) } : Room) s m args below meth c (MQ below (qAv dC dI a k A q) args s 0 0 A) dC dI a k A 9 51 σ [(0, .ref (a 92)), (1, .int x1), (5, .int x5), (6, .int x6), (7, .int x7), (8, .int x8)] [] := by
  intro n
  induction n with
  | zero =>
    intro x1 x5 x6 x7 x8 σ h
    rw [f_X4_takeRecord_51] at h
    cases h
  | succ n ih =>
    intro x1 x5 x6 x7 x8 σ h
    have hC0 := hC
    obtain ⟨hx, hb, hr, hml, hown, hts, hlocks, hA, hN, hK⟩ := hC0
    intro H locs ls hP hD hS hl
    have hD0 : ∀ σ1 : ST, va_D A (wA a k σ1) := fun σ1 => wA_D hD
    rw [f_X4_takeRecord_51] at h
    refine lv_iload hx hb dX4_takeRecord_51 (lv_at hl 5 rfl) ?_
    refine lv_aload_n hx hb dX4_takeRecord_53 rfl (lv_at hl 0 rfl) ?_
    refine va_get (D := (dC, dI)) (ci := 4) (C := RX4) (T := TX4) (N := 12) hx hb hts inlX4 hown hK hP 92 gA_92 rfl 0 (by decide) (hts (.fieldLink RX4 37 "ShapeReader$Reading" "shapes" "LShapeReader$Shapes;") mw_10_28) (fun _ h9 => h9) rfl dX4_takeRecord_54 ?_
    refine lv_iload_n hx hb dX4_takeRecord_57 rfl (lv_at hl 1 rfl) ?_
    obtain ⟨q1, hc, h⟩ := ib h
    have hF := va_frees hD hS hA
    refine va_calli (va_runV (As := [.int x1]) (rest := [.int x8]) ⟨hx, hb, hml, hown, hts⟩ (s_X5_fieldsOf_4 hc) (cwV 1 hts (gV mw_13_5 mw_1_28 mw_1_29 mw_0_9 mw_49_29) rfl rfl rfl (by decide +kernel) ⟨by show 1 + 1 ≤ 164 + (nn + 1); omega, by show 8 + (2 + 11) + 20 ≤ 4412 + 29 * (nn + 1); omega⟩) (vV (ci := 5) (q0 := 4) hK hP hD hN rfl gA_4) rfl rfl hl.1 rfl (lv_room (Nat.le_of_ble_eq_true rfl)) dX4_takeRecord_58 ⟨(Nat.le_of_ble_eq_true rfl), (Nat.le_of_ble_eq_true rfl)⟩) hS (fun q _ h => hF q h) hF (fun r2 u t H locs ht hvm hw hB _ _ hS => ?_)
    obtain rfl : r2 = q1.1 := hw
    replace hP : va_P (dC, dI) vwCl (wA a k q1.2) H := by rw [← ht]; exact hB.1
    replace hD := hD0 (q1.2)
    clear hB hF
    refine lv_icmp_ge (tgt := 109) hx hb dX4_takeRecord_61 (by decide) (fun hc => ?_) (fun hc => ?_)
    · replace h := ip hc h
      exact b_X4_takeRecord_109_92_62 hC hr_X4_take hr_X4_takeField hr_X4_takeList hr_X4_takeOwn hr_X4_takeRecord h _ _ _ hP hD hS (lv_sub hl [0, 2, 3, 4] rfl)
    · replace h := iq hc h
      refine lv_aload_n hx hb dX4_takeRecord_64 rfl (lv_at hl 0 rfl) ?_
      refine va_get (D := (dC, dI)) (ci := 4) (C := RX4) (T := TX4) (N := 12) hx hb hts inlX4 hown hK hP 92 gA_92 rfl 7 (by decide) (hts (.fieldLink RX4 21 "ShapeReader$Reading" "failure" "I") mw_10_23) (fun _ h9 => h9) rfl dX4_takeRecord_65 ?_
      refine lv_if_ne (tgt := 109) hx hb dX4_takeRecord_68 (by decide) (fun hc => ?_) (fun hc => ?_)
      · replace h := iq hc h
        exact b_X4_takeRecord_109_92_62 hC hr_X4_take hr_X4_takeField hr_X4_takeList hr_X4_takeOwn hr_X4_takeRecord h _ _ _ hP hD hS (lv_sub hl [0, 2, 3, 4] rfl)
      · replace h := ip hc h
        refine lv_aload_n hx hb dX4_takeRecord_71 rfl (lv_at hl 0 rfl) ?_
        refine lv_iload hx hb dX4_takeRecord_72 (lv_at hl 5 rfl) ?_
        obtain ⟨q3, hc, h⟩ := ib h
        have hF := va_frees hD hS hA
        refine va_callv (va_runV (As := [.int x8]) (rest := []) ⟨hx, hb, hml, hown, hts⟩ (s_X4_step_92_62 hc) (cwV 1 hts (gV mw_12_8 mw_12_9 mw_12_10 mw_0_8 mw_49_3) rfl rfl rfl (by decide +kernel) ⟨by show 0 + 1 ≤ 164 + (nn + 1); omega, by show 8 + (2 + 11) + 0 ≤ 4412 + 29 * (nn + 1); omega⟩) (vV (ci := 4) (q0 := 92) hK hP hD hN rfl gA_92) rfl rfl hl.1 rfl (lv_room (Nat.le_of_ble_eq_true rfl)) dX4_takeRecord_74 ⟨(Nat.le_of_ble_eq_true rfl), (Nat.le_of_ble_eq_true rfl)⟩) hS (fun q _ h => hF q h) hF (fun u t H locs ht hvm hw hB _ _ hS => ?_)
        replace hP : va_P (dC, dI) vwCl (wA a k q3) H := by rw [← ht]; exact hB.1
        replace hD := hD0 (q3)
        clear hB hF
        refine lv_aload_n hx hb dX4_takeRecord_77 rfl (lv_at hl 0 rfl) ?_
        refine lv_aload_n hx hb dX4_takeRecord_78 rfl (lv_at hl 0 rfl) ?_
        refine va_get (D := (dC, dI)) (ci := 4) (C := RX4) (T := TX4) (N := 12) hx hb hts inlX4 hown hK hP 92 gA_92 rfl 0 (by decide) (hts (.fieldLink RX4 37 "ShapeReader$Reading" "shapes" "LShapeReader$Shapes;") mw_10_28) (fun _ h9 => h9) rfl dX4_takeRecord_79 ?_
        refine lv_iload_n hx hb dX4_takeRecord_82 rfl (lv_at hl 1 rfl) ?_
        refine lv_iload hx hb dX4_takeRecord_83 (lv_at hl 5 rfl) ?_
        obtain ⟨q5, hc, h⟩ := ib h
        have hF := va_frees hD hS hA
        refine va_calli (va_runV (As := [.int x1, .int x8]) (rest := [.ref (a 92)]) ⟨hx, hb, hml, hown, hts⟩ (s_X5_typeOf_4 hc) (cwV 2 hts (gV mw_13_12 mw_2_7 mw_2_8 mw_0_9 mw_50_3) rfl rfl rfl (by decide +kernel) ⟨by show 1 + 1 ≤ 164 + (nn + 1); omega, by show 8 + (3 + 11) + 21 ≤ 4412 + 29 * (nn + 1); omega⟩) (vV (ci := 5) (q0 := 4) hK hP hD hN rfl gA_4) rfl rfl hl.1 rfl (lv_room (Nat.le_of_ble_eq_true rfl)) dX4_takeRecord_85 ⟨(Nat.le_of_ble_eq_true rfl), (Nat.le_of_ble_eq_true rfl)⟩) hS (fun q _ h => hF q h) hF (fun r6 u t H locs ht hvm hw hB _ _ hS => ?_)
        obtain rfl : r6 = q5.1 := hw
        replace hP : va_P (dC, dI) vwCl (wA a k q5.2) H := by rw [← ht]; exact hB.1
        replace hD := hD0 (q5.2)
        clear hB hF
        refine lv_iload hx hb dX4_takeRecord_88 (lv_at hl 5 rfl) ?_
        refine lv_iload hx hb dX4_takeRecord_90 (lv_at hl 3 rfl) ?_
        refine lv_iload hx hb dX4_takeRecord_92 (lv_at hl 4 rfl) ?_
        refine lv_iload hx hb dX4_takeRecord_94 (lv_at hl 2 rfl) ?_
        obtain ⟨q7, hc, h⟩ := ib h
        have hF := va_frees hD hS hA
        refine va_callv (va_runV (As := [.int q5.1, .int x8, .int x6, .int x7, .int x5]) (rest := []) ⟨hx, hb, hml, hown, hts⟩ (hr_X4_takeField hc) (cwV 5 hts (gV mw_13_13 mw_13_14 mw_13_15 mw_0_8 mw_49_12) rfl rfl rfl (by decide +kernel) ⟨by show (164 + nn) + 1 ≤ 164 + (nn + 1); omega, by show 8 + (9 + 11) + (4412 + 29 * nn) ≤ 4412 + 29 * (nn + 1); omega⟩) (vV (ci := 4) (q0 := 92) hK hP hD hN rfl gA_92) rfl rfl hl.1 rfl (lv_room (Nat.le_of_ble_eq_true rfl)) dX4_takeRecord_96 ⟨(Nat.le_of_ble_eq_true rfl), (Nat.le_of_ble_eq_true rfl)⟩) hS (fun q _ h => hF q h) hF (fun u t H locs ht hvm hw hB _ _ hS => ?_)
        replace hP : va_P (dC, dI) vwCl (wA a k q7) H := by rw [← ht]; exact hB.1
        replace hD := hD0 (q7)
        clear hB hF
        refine lv_aload_n hx hb dX4_takeRecord_99 rfl (lv_at hl 0 rfl) ?_
        obtain ⟨q9, hc, h⟩ := ib h
        have hF := va_frees hD hS hA
        refine va_callv (va_runV (As := []) (rest := []) ⟨hx, hb, hml, hown, hts⟩ (s_X4_stepBack_92_62 hc) (cwV 0 hts (gV mw_12_12 mw_12_13 mw_12_14 mw_0_8 mw_49_4) rfl rfl rfl (by decide +kernel) ⟨by show 0 + 1 ≤ 164 + (nn + 1); omega, by show 8 + (1 + 11) + 0 ≤ 4412 + 29 * (nn + 1); omega⟩) (vV (ci := 4) (q0 := 92) hK hP hD hN rfl gA_92) rfl rfl hl.1 rfl (lv_room (Nat.le_of_ble_eq_true rfl)) dX4_takeRecord_100 ⟨(Nat.le_of_ble_eq_true rfl), (Nat.le_of_ble_eq_true rfl)⟩) hS (fun q _ h => hF q h) hF (fun u t H locs ht hvm hw hB _ _ hS => ?_)
        replace hP : va_P (dC, dI) vwCl (wA a k q9) H := by rw [← ht]; exact hB.1
        replace hD := hD0 (q9)
        clear hB hF
        refine lv_iinc (v := (x8 + 1)) (lv' := [(8, .int (x8 + 1)), (0, .ref (a 92)), (1, .int x1), (5, .int x5), (6, .int x6), (7, .int x7)]) hx hb dX4_takeRecord_103 hl (k := 5) rfl rfl (by decide) rfl (fun ls hl => ?_)
        refine lv_goto (tgt := 51) hx hb dX4_takeRecord_106 (by decide) ?_
        exact ih _ _ _ _ _ _ h _ _ _ hP hD hS (lv_sub hl [1, 2, 3, 4, 5, 0] rfl)

set_option maxRecDepth 100000 in
set_option maxHeartbeats 4000000 in
theorem b_X4_takeRecord_17_92_62 {p : Program} {l : Launch} {e : Env} {s : State} {m : MethodId} {args : Array Value} {below : List Frame} {meth : Method} {c : Code} {dC : Nat → ClassId} {dI : Nat → Nat → Nat} {a : Nat → Nat} {k : Nat → ClassId} {A : Nat → Prop} {q : ST} (hC : CxA p s m args meth c dC dI k A cX4_takeRecord RX4 none 9) {nn : Nat} {r_X4_take : Nat → Nat → Int32 → Int32 → Int32 → Int32 → Int32 → ST → Option (ST)} (hr_X4_take : ∀ {sz : Nat} {p0 : Int32} {p1 : Int32} {p2 : Int32} {p3 : Int32} {p4 : Int32} {σ : ST} {q : ST}, r_X4_take 92 62 p0 p1 p2 p3 p4 σ = some q → Met l yX4_take (.code yX4_take cX4_take 9 none :: pw) ({ frames := 164 + nn, cells := 0, slots := 0, locals := 4412 + 29 * nn } : Room) (va_Pc [.ref (a 92), .int p0, .int p1, .int p2, .int p3, .int p4] (vPre dC dI (wA a k σ) (tA k) sz)) (qAv dC dI a k (va_A (wA a k σ) sz) q) 0 0 (va_A (wA a k σ) sz)) {r_X4_takeField : Nat → Nat → Int32 → Int32 → Int32 → Int32 → Int32 → ST → Option (ST)} (hr_X4_takeField : ∀ {sz : Nat} {p0 : Int32} {p1 : Int32} {p2 : Int32} {p3 : Int32} {p4 : Int32} {σ : ST} {q : ST}, r_X4_takeField 92 62 p0 p1 p2 p3 p4 σ = some q → Met l yX4_takeField (.code yX4_takeField cX4_takeField 9 none :: pw) ({ frames := 164 + nn, cells := 0, slots := 0, locals := 4412 + 29 * nn } : Room) (va_Pc [.ref (a 92), .int p0, .int p1, .int p2, .int p3, .int p4] (vPre dC dI (wA a k σ) (tA k) sz)) (qAv dC dI a k (va_A (wA a k σ) sz) q) 0 0 (va_A (wA a k σ) sz)) {r_X4_takeList : Nat → Nat → Int32 → Int32 → Int32 → Int32 → Int32 → ST → Option (ST)} (hr_X4_takeList : ∀ {sz : Nat} {p0 : Int32} {p1 : Int32} {p2 : Int32} {p3 : Int32} {p4 : Int32} {σ : ST} {q : ST}, r_X4_takeList 92 62 p0 p1 p2 p3 p4 σ = some q → Met l yX4_takeList (.code yX4_takeList cX4_takeList 10 none :: pw) ({ frames := 164 + nn, cells := 0, slots := 0, locals := 4412 + 29 * nn } : Room) (va_Pc [.ref (a 92), .int p0, .int p1, .int p2, .int p3, .int p4] (vPre dC dI (wA a k σ) (tA k) sz)) (qAv dC dI a k (va_A (wA a k σ) sz) q) 0 0 (va_A (wA a k σ) sz)) {r_X4_takeOwn : Nat → Nat → Int32 → Int32 → Int32 → Int32 → Int32 → ST → Option (ST)} (hr_X4_takeOwn : ∀ {sz : Nat} {p0 : Int32} {p1 : Int32} {p2 : Int32} {p3 : Int32} {p4 : Int32} {σ : ST} {q : ST}, r_X4_takeOwn 92 62 p0 p1 p2 p3 p4 σ = some q → Met l yX4_takeOwn (.code yX4_takeOwn cX4_takeOwn 8 none :: pw) ({ frames := 164 + nn, cells := 0, slots := 0, locals := 4412 + 29 * nn } : Room) (va_Pc [.ref (a 92), .int p0, .int p1, .int p2, .int p3, .int p4] (vPre dC dI (wA a k σ) (tA k) sz)) (qAv dC dI a k (va_A (wA a k σ) sz) q) 0 0 (va_A (wA a k σ) sz)) {r_X4_takeRecord : Nat → Nat → Int32 → Int32 → Int32 → Int32 → Int32 → ST → Option (ST)} (hr_X4_takeRecord : ∀ {sz : Nat} {p0 : Int32} {p1 : Int32} {p2 : Int32} {p3 : Int32} {p4 : Int32} {σ : ST} {q : ST}, r_X4_takeRecord 92 62 p0 p1 p2 p3 p4 σ = some q → Met l yX4_takeRecord (.code yX4_takeRecord cX4_takeRecord 9 none :: pw) ({ frames := 164 + nn, cells := 0, slots := 0, locals := 4412 + 29 * nn } : Room) (va_Pc [.ref (a 92), .int p0, .int p1, .int p2, .int p3, .int p4] (vPre dC dI (wA a k σ) (tA k) sz)) (qAv dC dI a k (va_A (wA a k σ) sz) q) 0 0 (va_A (wA a k σ) sz))  {x1 : Int32} {x2 : Int32} {x3 : Int32} {x4 : Int32} {x5 : Int32} {y0 : Int32} {σ : ST} (h : f_X4_takeRecord_17 r_X4_take r_X4_takeField r_X4_takeList r_X4_takeOwn r_X4_takeRecord 92 62 x1 x2 x3 x4 x5 y0 σ = some q) : GoA p l e ({ frames := 164 + (nn + 1), cells := 0, slots := 0, locals := 4412 + 29 * (nn + 1) } : Room) s m args below meth c (MQ below (qAv dC dI a k A q) args s 0 0 A) dC dI a k A 9 17 σ [(0, .ref (a 92)), (1, .int x1), (2, .int x2), (3, .int x3), (4, .int x4), (5, .int x5)] [.int y0] := by
  have hC0 := hC
  obtain ⟨hx, hb, hr, hml, hown, hts, hlocks, hA, hN, hK⟩ := hC0
  intro H locs ls hP hD hS hl
  have hD0 : ∀ σ1 : ST, va_D A (wA a k σ1) := fun σ1 => wA_D hD
  unfold f_X4_takeRecord_17 at h
  refine lv_istore (lv' := [(6, .int y0), (0, .ref (a 92)), (1, .int x1), (2, .int x2), (3, .int x3), (4, .int x4), (5, .int x5)]) hx hb dX4_takeRecord_17 hl (by decide) rfl (fun ls hl => ?_)
  refine lv_aload_n hx hb dX4_takeRecord_19 rfl (lv_at hl 1 rfl) ?_
  refine lv_iload_n hx hb dX4_takeRecord_20 rfl (lv_at hl 3 rfl) ?_
  refine lv_iload_n hx hb dX4_takeRecord_21 rfl (lv_at hl 4 rfl) ?_
  refine lv_iload hx hb dX4_takeRecord_22 (lv_at hl 5 rfl) ?_
  refine lv_aload_n hx hb dX4_takeRecord_24 rfl (lv_at hl 1 rfl) ?_
  refine va_get (D := (dC, dI)) (ci := 4) (C := RX4) (T := TX4) (N := 12) hx hb hts inlX4 hown hK hP 92 gA_92 rfl 0 (by decide) (hts (.fieldLink RX4 37 "ShapeReader$Reading" "shapes" "LShapeReader$Shapes;") mw_10_28) (fun _ h9 => h9) rfl dX4_takeRecord_25 ?_
  refine lv_iload hx hb dX4_takeRecord_28 (lv_at hl 0 rfl) ?_
  obtain ⟨q1, hc, h⟩ := ib h
  have hF := va_frees hD hS hA
  refine va_calli (va_runV (As := [.int y0]) (rest := [.int x4, .int x3, .int x2, .ref (a 92)]) ⟨hx, hb, hml, hown, hts⟩ (s_X5_fieldsOf_4 hc) (cwV 1 hts (gV mw_13_5 mw_1_28 mw_1_29 mw_0_9 mw_49_29) rfl rfl rfl (by decide +kernel) ⟨by show 1 + 1 ≤ 164 + (nn + 1); omega, by show 8 + (2 + 11) + 20 ≤ 4412 + 29 * (nn + 1); omega⟩) (vV (ci := 5) (q0 := 4) hK hP hD hN rfl gA_4) rfl rfl hl.1 rfl (lv_room (Nat.le_of_ble_eq_true rfl)) dX4_takeRecord_30 ⟨(Nat.le_of_ble_eq_true rfl), (Nat.le_of_ble_eq_true rfl)⟩) hS (fun q _ h => hF q h) hF (fun r2 u t H locs ht hvm hw hB _ _ hS => ?_)
  obtain rfl : r2 = q1.1 := hw
  replace hP : va_P (dC, dI) vwCl (wA a k q1.2) H := by rw [← ht]; exact hB.1
  replace hD := hD0 (q1.2)
  clear hB hF
  refine lv_lconst (v := 0) hx hb dX4_takeRecord_33 (by decide) ?_
  obtain ⟨q3, hc, h⟩ := ib h
  have hF := va_frees hD hS hA
  refine va_calli (va_runV (As := [.int x2, .int x3, .int x4, .int q1.1, .long 0]) (rest := []) ⟨hx, hb, hml, hown, hts⟩ (s_X4_addNode_92_62 hc) (cwV 5 hts (gV mw_13_6 mw_13_7 mw_13_8 mw_0_8 mw_49_8) rfl rfl rfl (by decide +kernel) ⟨by show 3 + 1 ≤ 164 + (nn + 1); omega, by show 8 + (8 + 11) + 71 ≤ 4412 + 29 * (nn + 1); omega⟩) (vV (ci := 4) (q0 := 92) hK hP hD hN rfl gA_92) rfl rfl hl.1 rfl (lv_room (Nat.le_of_ble_eq_true rfl)) dX4_takeRecord_34 ⟨(Nat.le_of_ble_eq_true rfl), (Nat.le_of_ble_eq_true rfl)⟩) hS (fun q _ h => hF q h) hF (fun r4 u t H locs ht hvm hw hB _ _ hS => ?_)
  obtain rfl : r4 = q3.1 := hw
  replace hP : va_P (dC, dI) vwCl (wA a k q3.2) H := by rw [← ht]; exact hB.1
  replace hD := hD0 (q3.2)
  clear hB hF
  refine lv_istore (lv' := [(7, .int q3.1), (6, .int y0), (0, .ref (a 92)), (1, .int x1), (2, .int x2), (3, .int x3), (4, .int x4), (5, .int x5)]) hx hb dX4_takeRecord_37 hl (by decide) rfl (fun ls hl => ?_)
  refine lv_aload_n hx hb dX4_takeRecord_39 rfl (lv_at hl 2 rfl) ?_
  refine lv_iload_n hx hb dX4_takeRecord_40 rfl (lv_at hl 3 rfl) ?_
  refine lv_iload hx hb dX4_takeRecord_41 (lv_at hl 1 rfl) ?_
  refine lv_iload hx hb dX4_takeRecord_43 (lv_at hl 7 rfl) ?_
  obtain ⟨q5, hc, h⟩ := ib h
  have hF := va_frees hD hS hA
  refine va_callv (va_runV (As := [.int x1, .int y0, .int x5]) (rest := []) ⟨hx, hb, hml, hown, hts⟩ (s_X4_findSources_92_62 hc) (cwV 3 hts (gV mw_13_9 mw_13_10 mw_13_11 mw_0_8 mw_49_10) rfl rfl rfl (by decide +kernel) ⟨by show 3 + 1 ≤ 164 + (nn + 1); omega, by show 8 + (5 + 11) + 73 ≤ 4412 + 29 * (nn + 1); omega⟩) (vV (ci := 4) (q0 := 92) hK hP hD hN rfl gA_92) rfl rfl hl.1 rfl (lv_room (Nat.le_of_ble_eq_true rfl)) dX4_takeRecord_45 ⟨(Nat.le_of_ble_eq_true rfl), (Nat.le_of_ble_eq_true rfl)⟩) hS (fun q _ h => hF q h) hF (fun u t H locs ht hvm hw hB _ _ hS => ?_)
  replace hP : va_P (dC, dI) vwCl (wA a k q5) H := by rw [← ht]; exact hB.1
  replace hD := hD0 (q5)
  clear hB hF
  refine lv_iconst (v := 0) hx hb dX4_takeRecord_48 (by decide) ?_
  refine lv_istore (lv' := [(8, .int 0), (7, .int q3.1), (6, .int y0), (0, .ref (a 92)), (1, .int x1), (2, .int x2), (3, .int x3), (4, .int x4), (5, .int x5)]) hx hb dX4_takeRecord_49 hl (by decide) rfl (fun ls hl => ?_)
  exact b_X4_takeRecord_51_92_62 hC hr_X4_take hr_X4_takeField hr_X4_takeList hr_X4_takeOwn hr_X4_takeRecord FU _ _ _ _ _ _ h _ _ _ hP hD hS (lv_sub hl [3, 4, 8, 2, 1, 0] rfl)

set_option maxRecDepth 100000 in
set_option maxHeartbeats 4000000 in
theorem b_X4_takeRecord_e_92_62 {p : Program} {l : Launch} {e : Env} {s : State} {m : MethodId} {args : Array Value} {below : List Frame} {meth : Method} {c : Code} {dC : Nat → ClassId} {dI : Nat → Nat → Nat} {a : Nat → Nat} {k : Nat → ClassId} {A : Nat → Prop} {q : ST} (hC : CxA p s m args meth c dC dI k A cX4_takeRecord RX4 none 9) {nn : Nat} {r_X4_take : Nat → Nat → Int32 → Int32 → Int32 → Int32 → Int32 → ST → Option (ST)} (hr_X4_take : ∀ {sz : Nat} {p0 : Int32} {p1 : Int32} {p2 : Int32} {p3 : Int32} {p4 : Int32} {σ : ST} {q : ST}, r_X4_take 92 62 p0 p1 p2 p3 p4 σ = some q → Met l yX4_take (.code yX4_take cX4_take 9 none :: pw) ({ frames := 164 + nn, cells := 0, slots := 0, locals := 4412 + 29 * nn } : Room) (va_Pc [.ref (a 92), .int p0, .int p1, .int p2, .int p3, .int p4] (vPre dC dI (wA a k σ) (tA k) sz)) (qAv dC dI a k (va_A (wA a k σ) sz) q) 0 0 (va_A (wA a k σ) sz)) {r_X4_takeField : Nat → Nat → Int32 → Int32 → Int32 → Int32 → Int32 → ST → Option (ST)} (hr_X4_takeField : ∀ {sz : Nat} {p0 : Int32} {p1 : Int32} {p2 : Int32} {p3 : Int32} {p4 : Int32} {σ : ST} {q : ST}, r_X4_takeField 92 62 p0 p1 p2 p3 p4 σ = some q → Met l yX4_takeField (.code yX4_takeField cX4_takeField 9 none :: pw) ({ frames := 164 + nn, cells := 0, slots := 0, locals := 4412 + 29 * nn } : Room) (va_Pc [.ref (a 92), .int p0, .int p1, .int p2, .int p3, .int p4] (vPre dC dI (wA a k σ) (tA k) sz)) (qAv dC dI a k (va_A (wA a k σ) sz) q) 0 0 (va_A (wA a k σ) sz)) {r_X4_takeList : Nat → Nat → Int32 → Int32 → Int32 → Int32 → Int32 → ST → Option (ST)} (hr_X4_takeList : ∀ {sz : Nat} {p0 : Int32} {p1 : Int32} {p2 : Int32} {p3 : Int32} {p4 : Int32} {σ : ST} {q : ST}, r_X4_takeList 92 62 p0 p1 p2 p3 p4 σ = some q → Met l yX4_takeList (.code yX4_takeList cX4_takeList 10 none :: pw) ({ frames := 164 + nn, cells := 0, slots := 0, locals := 4412 + 29 * nn } : Room) (va_Pc [.ref (a 92), .int p0, .int p1, .int p2, .int p3, .int p4] (vPre dC dI (wA a k σ) (tA k) sz)) (qAv dC dI a k (va_A (wA a k σ) sz) q) 0 0 (va_A (wA a k σ) sz)) {r_X4_takeOwn : Nat → Nat → Int32 → Int32 → Int32 → Int32 → Int32 → ST → Option (ST)} (hr_X4_takeOwn : ∀ {sz : Nat} {p0 : Int32} {p1 : Int32} {p2 : Int32} {p3 : Int32} {p4 : Int32} {σ : ST} {q : ST}, r_X4_takeOwn 92 62 p0 p1 p2 p3 p4 σ = some q → Met l yX4_takeOwn (.code yX4_takeOwn cX4_takeOwn 8 none :: pw) ({ frames := 164 + nn, cells := 0, slots := 0, locals := 4412 + 29 * nn } : Room) (va_Pc [.ref (a 92), .int p0, .int p1, .int p2, .int p3, .int p4] (vPre dC dI (wA a k σ) (tA k) sz)) (qAv dC dI a k (va_A (wA a k σ) sz) q) 0 0 (va_A (wA a k σ) sz)) {r_X4_takeRecord : Nat → Nat → Int32 → Int32 → Int32 → Int32 → Int32 → ST → Option (ST)} (hr_X4_takeRecord : ∀ {sz : Nat} {p0 : Int32} {p1 : Int32} {p2 : Int32} {p3 : Int32} {p4 : Int32} {σ : ST} {q : ST}, r_X4_takeRecord 92 62 p0 p1 p2 p3 p4 σ = some q → Met l yX4_takeRecord (.code yX4_takeRecord cX4_takeRecord 9 none :: pw) ({ frames := 164 + nn, cells := 0, slots := 0, locals := 4412 + 29 * nn } : Room) (va_Pc [.ref (a 92), .int p0, .int p1, .int p2, .int p3, .int p4] (vPre dC dI (wA a k σ) (tA k) sz)) (qAv dC dI a k (va_A (wA a k σ) sz) q) 0 0 (va_A (wA a k σ) sz))  {p0 : Int32} {p1 : Int32} {p2 : Int32} {p3 : Int32} {p4 : Int32} {σ : ST} (h : f_X4_takeRecord r_X4_take r_X4_takeField r_X4_takeList r_X4_takeOwn r_X4_takeRecord 92 62 p0 p1 p2 p3 p4 σ = some q) : GoA p l e ({ frames := 164 + (nn + 1), cells := 0, slots := 0, locals := 4412 + 29 * (nn + 1) } : Room) s m args below meth c (MQ below (qAv dC dI a k A q) args s 0 0 A) dC dI a k A 9 0 σ (lv_args 0 [.ref (a 92), .int p0, .int p1, .int p2, .int p3, .int p4]) [] := by
  have hC0 := hC
  obtain ⟨hx, hb, hr, hml, hown, hts, hlocks, hA, hN, hK⟩ := hC0
  intro H locs ls hP hD hS hl
  have hD0 : ∀ σ1 : ST, va_D A (wA a k σ1) := fun σ1 => wA_D hD
  replace hl : lv_has ls 9 [(0, .ref (a 92)), (1, .int p0), (2, .int p1), (3, .int p2), (4, .int p3), (5, .int p4)] := hl
  unfold f_X4_takeRecord at h
  refine lv_iload_n hx hb dX4_takeRecord_0 rfl (lv_at hl 2 rfl) ?_
  refine lv_iconst (v := (-1)) hx hb dX4_takeRecord_1 (by decide) ?_
  refine lv_icmp_ne (tgt := 9) hx hb dX4_takeRecord_2 (by decide) (fun hc => ?_) (fun hc => ?_)
  · replace h := iq hc h
    refine lv_aload_n hx hb dX4_takeRecord_9 rfl (lv_at hl 0 rfl) ?_
    refine va_get (D := (dC, dI)) (ci := 4) (C := RX4) (T := TX4) (N := 12) hx hb hts inlX4 hown hK hP 92 gA_92 rfl 0 (by decide) (hts (.fieldLink RX4 37 "ShapeReader$Reading" "shapes" "LShapeReader$Shapes;") mw_10_28) (fun _ h9 => h9) rfl dX4_takeRecord_10 ?_
    refine lv_iload_n hx hb dX4_takeRecord_13 rfl (lv_at hl 2 rfl) ?_
    obtain ⟨q1, hc, h⟩ := ib h
    have hF := va_frees hD hS hA
    refine va_calli (va_runV (As := [.int p1]) (rest := []) ⟨hx, hb, hml, hown, hts⟩ (s_X5_innerOf_4 hc) (cwV 1 hts (gV mw_12_19 mw_2_16 mw_2_17 mw_0_9 mw_50_7) rfl rfl rfl (by decide +kernel) ⟨by show 1 + 1 ≤ 164 + (nn + 1); omega, by show 8 + (2 + 11) + 21 ≤ 4412 + 29 * (nn + 1); omega⟩) (vV (ci := 5) (q0 := 4) hK hP hD hN rfl gA_4) rfl rfl hl.1 rfl (lv_room (Nat.le_of_ble_eq_true rfl)) dX4_takeRecord_14 ⟨(Nat.le_of_ble_eq_true rfl), (Nat.le_of_ble_eq_true rfl)⟩) hS (fun q _ h => hF q h) hF (fun r2 u t H locs ht hvm hw hB _ _ hS => ?_)
    obtain rfl : r2 = q1.1 := hw
    replace hP : va_P (dC, dI) vwCl (wA a k q1.2) H := by rw [← ht]; exact hB.1
    replace hD := hD0 (q1.2)
    clear hB hF
    exact b_X4_takeRecord_17_92_62 hC hr_X4_take hr_X4_takeField hr_X4_takeList hr_X4_takeOwn hr_X4_takeRecord h _ _ _ hP hD hS (lv_sub hl [0, 1, 2, 3, 4, 5] rfl)
  · replace h := ip hc h
    refine lv_iconst (v := (-1)) hx hb dX4_takeRecord_5 (by decide) ?_
    refine lv_goto (tgt := 17) hx hb dX4_takeRecord_6 (by decide) ?_
    exact b_X4_takeRecord_17_92_62 hC hr_X4_take hr_X4_takeField hr_X4_takeList hr_X4_takeOwn hr_X4_takeRecord h _ _ _ hP hD hS (lv_sub hl [0, 1, 2, 3, 4, 5] rfl)


set_option maxRecDepth 100000 in
set_option maxHeartbeats 4000000 in
theorem s_R_X4_take_92_62 {l : Launch} {dC : Nat → ClassId} {dI : Nat → Nat → Nat} {a : Nat → Nat} {k : Nat → ClassId} : ∀ n : Nat, (∀ {sz : Nat} {p0 : Int32} {p1 : Int32} {p2 : Int32} {p3 : Int32} {p4 : Int32} {σ : ST} {q : ST}, (R_X4_take n).1 92 62 p0 p1 p2 p3 p4 σ = some q → Met l yX4_take (.code yX4_take cX4_take 9 none :: pw) ({ frames := 164 + n, cells := 0, slots := 0, locals := 4412 + 29 * n } : Room) (va_Pc [.ref (a 92), .int p0, .int p1, .int p2, .int p3, .int p4] (vPre dC dI (wA a k σ) (tA k) sz)) (qAv dC dI a k (va_A (wA a k σ) sz) q) 0 0 (va_A (wA a k σ) sz)) ∧ (∀ {sz : Nat} {p0 : Int32} {p1 : Int32} {p2 : Int32} {p3 : Int32} {p4 : Int32} {σ : ST} {q : ST}, (R_X4_take n).2.1 92 62 p0 p1 p2 p3 p4 σ = some q → Met l yX4_takeField (.code yX4_takeField cX4_takeField 9 none :: pw) ({ frames := 164 + n, cells := 0, slots := 0, locals := 4412 + 29 * n } : Room) (va_Pc [.ref (a 92), .int p0, .int p1, .int p2, .int p3, .int p4] (vPre dC dI (wA a k σ) (tA k) sz)) (qAv dC dI a k (va_A (wA a k σ) sz) q) 0 0 (va_A (wA a k σ) sz)) ∧ (∀ {sz : Nat} {p0 : Int32} {p1 : Int32} {p2 : Int32} {p3 : Int32} {p4 : Int32} {σ : ST} {q : ST}, (R_X4_take n).2.2.1 92 62 p0 p1 p2 p3 p4 σ = some q → Met l yX4_takeList (.code yX4_takeList cX4_takeList 10 none :: pw) ({ frames := 164 + n, cells := 0, slots := 0, locals := 4412 + 29 * n } : Room) (va_Pc [.ref (a 92), .int p0, .int p1, .int p2, .int p3, .int p4] (vPre dC dI (wA a k σ) (tA k) sz)) (qAv dC dI a k (va_A (wA a k σ) sz) q) 0 0 (va_A (wA a k σ) sz)) ∧ (∀ {sz : Nat} {p0 : Int32} {p1 : Int32} {p2 : Int32} {p3 : Int32} {p4 : Int32} {σ : ST} {q : ST}, (R_X4_take n).2.2.2.1 92 62 p0 p1 p2 p3 p4 σ = some q → Met l yX4_takeOwn (.code yX4_takeOwn cX4_takeOwn 8 none :: pw) ({ frames := 164 + n, cells := 0, slots := 0, locals := 4412 + 29 * n } : Room) (va_Pc [.ref (a 92), .int p0, .int p1, .int p2, .int p3, .int p4] (vPre dC dI (wA a k σ) (tA k) sz)) (qAv dC dI a k (va_A (wA a k σ) sz) q) 0 0 (va_A (wA a k σ) sz)) ∧ (∀ {sz : Nat} {p0 : Int32} {p1 : Int32} {p2 : Int32} {p3 : Int32} {p4 : Int32} {σ : ST} {q : ST}, (R_X4_take n).2.2.2.2 92 62 p0 p1 p2 p3 p4 σ = some q → Met l yX4_takeRecord (.code yX4_takeRecord cX4_takeRecord 9 none :: pw) ({ frames := 164 + n, cells := 0, slots := 0, locals := 4412 + 29 * n } : Room) (va_Pc [.ref (a 92), .int p0, .int p1, .int p2, .int p3, .int p4] (vPre dC dI (wA a k σ) (tA k) sz)) (qAv dC dI a k (va_A (wA a k σ) sz) q) 0 0 (va_A (wA a k σ) sz)) := by
  intro n
  induction n with
  | zero => exact ⟨(fun h => nomatch h), (fun h => nomatch h), (fun h => nomatch h), (fun h => nomatch h), (fun h => nomatch h)⟩
  | succ n ih => exact ⟨(fun h => metA (fun A => qAv dC dI a k A _) (plainFor_of_name (by decide)) (Nat.le_of_ble_eq_true rfl) (fun _ _ _ _ _ _ _ _ hC => b_X4_take_e_92_62 hC ih.1 ih.2.1 ih.2.2.1 ih.2.2.2.1 ih.2.2.2.2 h)), (fun h => metA (fun A => qAv dC dI a k A _) (plainFor_of_name (by decide)) (Nat.le_of_ble_eq_true rfl) (fun _ _ _ _ _ _ _ _ hC => b_X4_takeField_e_92_62 hC ih.1 ih.2.1 ih.2.2.1 ih.2.2.2.1 ih.2.2.2.2 h)), (fun h => metA (fun A => qAv dC dI a k A _) (plainFor_of_name (by decide)) (Nat.le_of_ble_eq_true rfl) (fun _ _ _ _ _ _ _ _ hC => b_X4_takeList_e_92_62 hC ih.1 ih.2.1 ih.2.2.1 ih.2.2.2.1 ih.2.2.2.2 h)), (fun h => metA (fun A => qAv dC dI a k A _) (plainFor_of_name (by decide)) (Nat.le_of_ble_eq_true rfl) (fun _ _ _ _ _ _ _ _ hC => b_X4_takeOwn_e_92_62 hC ih.1 ih.2.1 ih.2.2.1 ih.2.2.2.1 ih.2.2.2.2 h)), (fun h => metA (fun A => qAv dC dI a k A _) (plainFor_of_name (by decide)) (Nat.le_of_ble_eq_true rfl) (fun _ _ _ _ _ _ _ _ hC => b_X4_takeRecord_e_92_62 hC ih.1 ih.2.1 ih.2.2.1 ih.2.2.2.1 ih.2.2.2.2 h))⟩
theorem s_X4_take_92_62 {l : Launch} {dC : Nat → ClassId} {dI : Nat → Nat → Nat} {a : Nat → Nat} {k : Nat → ClassId} {sz : Nat} {p0 : Int32} {p1 : Int32} {p2 : Int32} {p3 : Int32} {p4 : Int32} {σ : ST} {q : ST} (h : f_T_X4_take 92 62 p0 p1 p2 p3 p4 σ = some q) : Met l yX4_take (.code yX4_take cX4_take 9 none :: pw) ({ frames := 324, cells := 0, slots := 0, locals := 9052 } : Room) (va_Pc [.ref (a 92), .int p0, .int p1, .int p2, .int p3, .int p4] (vPre dC dI (wA a k σ) (tA k) sz)) (qAv dC dI a k (va_A (wA a k σ) sz) q) 0 0 (va_A (wA a k σ) sz) := (s_R_X4_take_92_62 FR).1 h
theorem s_X4_takeField_92_62 {l : Launch} {dC : Nat → ClassId} {dI : Nat → Nat → Nat} {a : Nat → Nat} {k : Nat → ClassId} {sz : Nat} {p0 : Int32} {p1 : Int32} {p2 : Int32} {p3 : Int32} {p4 : Int32} {σ : ST} {q : ST} (h : f_T_X4_takeField 92 62 p0 p1 p2 p3 p4 σ = some q) : Met l yX4_takeField (.code yX4_takeField cX4_takeField 9 none :: pw) ({ frames := 324, cells := 0, slots := 0, locals := 9052 } : Room) (va_Pc [.ref (a 92), .int p0, .int p1, .int p2, .int p3, .int p4] (vPre dC dI (wA a k σ) (tA k) sz)) (qAv dC dI a k (va_A (wA a k σ) sz) q) 0 0 (va_A (wA a k σ) sz) := (s_R_X4_take_92_62 FR).2.1 h
theorem s_X4_takeList_92_62 {l : Launch} {dC : Nat → ClassId} {dI : Nat → Nat → Nat} {a : Nat → Nat} {k : Nat → ClassId} {sz : Nat} {p0 : Int32} {p1 : Int32} {p2 : Int32} {p3 : Int32} {p4 : Int32} {σ : ST} {q : ST} (h : f_T_X4_takeList 92 62 p0 p1 p2 p3 p4 σ = some q) : Met l yX4_takeList (.code yX4_takeList cX4_takeList 10 none :: pw) ({ frames := 324, cells := 0, slots := 0, locals := 9052 } : Room) (va_Pc [.ref (a 92), .int p0, .int p1, .int p2, .int p3, .int p4] (vPre dC dI (wA a k σ) (tA k) sz)) (qAv dC dI a k (va_A (wA a k σ) sz) q) 0 0 (va_A (wA a k σ) sz) := (s_R_X4_take_92_62 FR).2.2.1 h
theorem s_X4_takeOwn_92_62 {l : Launch} {dC : Nat → ClassId} {dI : Nat → Nat → Nat} {a : Nat → Nat} {k : Nat → ClassId} {sz : Nat} {p0 : Int32} {p1 : Int32} {p2 : Int32} {p3 : Int32} {p4 : Int32} {σ : ST} {q : ST} (h : f_T_X4_takeOwn 92 62 p0 p1 p2 p3 p4 σ = some q) : Met l yX4_takeOwn (.code yX4_takeOwn cX4_takeOwn 8 none :: pw) ({ frames := 324, cells := 0, slots := 0, locals := 9052 } : Room) (va_Pc [.ref (a 92), .int p0, .int p1, .int p2, .int p3, .int p4] (vPre dC dI (wA a k σ) (tA k) sz)) (qAv dC dI a k (va_A (wA a k σ) sz) q) 0 0 (va_A (wA a k σ) sz) := (s_R_X4_take_92_62 FR).2.2.2.1 h
theorem s_X4_takeRecord_92_62 {l : Launch} {dC : Nat → ClassId} {dI : Nat → Nat → Nat} {a : Nat → Nat} {k : Nat → ClassId} {sz : Nat} {p0 : Int32} {p1 : Int32} {p2 : Int32} {p3 : Int32} {p4 : Int32} {σ : ST} {q : ST} (h : f_T_X4_takeRecord 92 62 p0 p1 p2 p3 p4 σ = some q) : Met l yX4_takeRecord (.code yX4_takeRecord cX4_takeRecord 9 none :: pw) ({ frames := 324, cells := 0, slots := 0, locals := 9052 } : Room) (va_Pc [.ref (a 92), .int p0, .int p1, .int p2, .int p3, .int p4] (vPre dC dI (wA a k σ) (tA k) sz)) (qAv dC dI a k (va_A (wA a k σ) sz) q) 0 0 (va_A (wA a k σ) sz) := (s_R_X4_take_92_62 FR).2.2.2.2 h

set_option maxRecDepth 100000 in
set_option maxHeartbeats 4000000 in
theorem b_X4_take_140_92_74 {p : Program} {l : Launch} {e : Env} {s : State} {m : MethodId} {args : Array Value} {below : List Frame} {meth : Method} {c : Code} {dC : Nat → ClassId} {dI : Nat → Nat → Nat} {a : Nat → Nat} {k : Nat → ClassId} {A : Nat → Prop} {q : ST} (hC : CxA p s m args meth c dC dI k A cX4_take RX4 none 9) {nn : Nat} {r_X4_take : Nat → Nat → Int32 → Int32 → Int32 → Int32 → Int32 → ST → Option (ST)} (hr_X4_take : ∀ {sz : Nat} {p0 : Int32} {p1 : Int32} {p2 : Int32} {p3 : Int32} {p4 : Int32} {σ : ST} {q : ST}, r_X4_take 92 74 p0 p1 p2 p3 p4 σ = some q → Met l yX4_take (.code yX4_take cX4_take 9 none :: pw) ({ frames := 164 + nn, cells := 0, slots := 0, locals := 4412 + 29 * nn } : Room) (va_Pc [.ref (a 92), .int p0, .int p1, .int p2, .int p3, .int p4] (vPre dC dI (wA a k σ) (tA k) sz)) (qAv dC dI a k (va_A (wA a k σ) sz) q) 0 0 (va_A (wA a k σ) sz)) {r_X4_takeField : Nat → Nat → Int32 → Int32 → Int32 → Int32 → Int32 → ST → Option (ST)} (hr_X4_takeField : ∀ {sz : Nat} {p0 : Int32} {p1 : Int32} {p2 : Int32} {p3 : Int32} {p4 : Int32} {σ : ST} {q : ST}, r_X4_takeField 92 74 p0 p1 p2 p3 p4 σ = some q → Met l yX4_takeField (.code yX4_takeField cX4_takeField 9 none :: pw) ({ frames := 164 + nn, cells := 0, slots := 0, locals := 4412 + 29 * nn } : Room) (va_Pc [.ref (a 92), .int p0, .int p1, .int p2, .int p3, .int p4] (vPre dC dI (wA a k σ) (tA k) sz)) (qAv dC dI a k (va_A (wA a k σ) sz) q) 0 0 (va_A (wA a k σ) sz)) {r_X4_takeList : Nat → Nat → Int32 → Int32 → Int32 → Int32 → Int32 → ST → Option (ST)} (hr_X4_takeList : ∀ {sz : Nat} {p0 : Int32} {p1 : Int32} {p2 : Int32} {p3 : Int32} {p4 : Int32} {σ : ST} {q : ST}, r_X4_takeList 92 74 p0 p1 p2 p3 p4 σ = some q → Met l yX4_takeList (.code yX4_takeList cX4_takeList 10 none :: pw) ({ frames := 164 + nn, cells := 0, slots := 0, locals := 4412 + 29 * nn } : Room) (va_Pc [.ref (a 92), .int p0, .int p1, .int p2, .int p3, .int p4] (vPre dC dI (wA a k σ) (tA k) sz)) (qAv dC dI a k (va_A (wA a k σ) sz) q) 0 0 (va_A (wA a k σ) sz)) {r_X4_takeOwn : Nat → Nat → Int32 → Int32 → Int32 → Int32 → Int32 → ST → Option (ST)} (hr_X4_takeOwn : ∀ {sz : Nat} {p0 : Int32} {p1 : Int32} {p2 : Int32} {p3 : Int32} {p4 : Int32} {σ : ST} {q : ST}, r_X4_takeOwn 92 74 p0 p1 p2 p3 p4 σ = some q → Met l yX4_takeOwn (.code yX4_takeOwn cX4_takeOwn 8 none :: pw) ({ frames := 164 + nn, cells := 0, slots := 0, locals := 4412 + 29 * nn } : Room) (va_Pc [.ref (a 92), .int p0, .int p1, .int p2, .int p3, .int p4] (vPre dC dI (wA a k σ) (tA k) sz)) (qAv dC dI a k (va_A (wA a k σ) sz) q) 0 0 (va_A (wA a k σ) sz)) {r_X4_takeRecord : Nat → Nat → Int32 → Int32 → Int32 → Int32 → Int32 → ST → Option (ST)} (hr_X4_takeRecord : ∀ {sz : Nat} {p0 : Int32} {p1 : Int32} {p2 : Int32} {p3 : Int32} {p4 : Int32} {σ : ST} {q : ST}, r_X4_takeRecord 92 74 p0 p1 p2 p3 p4 σ = some q → Met l yX4_takeRecord (.code yX4_takeRecord cX4_takeRecord 9 none :: pw) ({ frames := 164 + nn, cells := 0, slots := 0, locals := 4412 + 29 * nn } : Room) (va_Pc [.ref (a 92), .int p0, .int p1, .int p2, .int p3, .int p4] (vPre dC dI (wA a k σ) (tA k) sz)) (qAv dC dI a k (va_A (wA a k σ) sz) q) 0 0 (va_A (wA a k σ) sz))  {x2 : Int32} {x3 : Int32} {x4 : Int32} {x5 : Int32} {x8 : Int32} {σ : ST} (h : f_X4_take_140 r_X4_take r_X4_takeField r_X4_takeList r_X4_takeOwn r_X4_takeRecord 92 74 x2 x3 x4 x5 x8 σ = some q) : GoA p l e ({ frames := 164 + (nn + 1), cells := 0, slots := 0, locals := 4412 + 29 * (nn + 1) } : Room) s m args below meth c (MQ below (qAv dC dI a k A q) args s 0 0 A) dC dI a k A 9 140 σ [(0, .ref (a 92)), (2, .int x2), (3, .int x3), (4, .int x4), (5, .int x5), (8, .int x8)] [] := by
  have hC0 := hC
  obtain ⟨hx, hb, hr, hml, hown, hts, hlocks, hA, hN, hK⟩ := hC0
  intro H locs ls hP hD hS hl
  have hD0 : ∀ σ1 : ST, va_D A (wA a k σ1) := fun σ1 => wA_D hD
  unfold f_X4_take_140 at h
  refine lv_aload_n hx hb dX4_take_140 rfl (lv_at hl 0 rfl) ?_
  refine lv_iload hx hb dX4_take_141 (lv_at hl 5 rfl) ?_
  refine lv_iload_n hx hb dX4_take_143 rfl (lv_at hl 1 rfl) ?_
  refine lv_iload_n hx hb dX4_take_144 rfl (lv_at hl 2 rfl) ?_
  refine lv_iload hx hb dX4_take_145 (lv_at hl 3 rfl) ?_
  refine lv_iload hx hb dX4_take_147 (lv_at hl 4 rfl) ?_
  obtain ⟨q1, hc, h⟩ := ib h
  have hF := va_frees hD hS hA
  refine va_callv (va_runV (As := [.int x8, .int x2, .int x3, .int x4, .int x5]) (rest := []) ⟨hx, hb, hml, hown, hts⟩ (hr_X4_takeOwn hc) (cwV 5 hts (gV mw_11_26 mw_11_27 mw_11_28 mw_0_8 mw_49_7) rfl rfl rfl (by decide +kernel) ⟨by show (164 + nn) + 1 ≤ 164 + (nn + 1); omega, by show 8 + (8 + 11) + (4412 + 29 * nn) ≤ 4412 + 29 * (nn + 1); omega⟩) (vV (ci := 4) (q0 := 92) hK hP hD hN rfl gA_92) rfl rfl hl.1 rfl (lv_room (Nat.le_of_ble_eq_true rfl)) dX4_take_149 ⟨(Nat.le_of_ble_eq_true rfl), (Nat.le_of_ble_eq_true rfl)⟩) hS (fun q _ h => hF q h) hF (fun u t H locs ht hvm hw hB _ _ hS => ?_)
  replace hP : va_P (dC, dI) vwCl (wA a k q1) H := by rw [← ht]; exact hB.1
  replace hD := hD0 (q1)
  clear hB hF
  refine lv_aload_n hx hb dX4_take_152 rfl (lv_at hl 0 rfl) ?_
  obtain ⟨q3, hc, h⟩ := ib h
  have hF := va_frees hD hS hA
  refine va_callv (va_runV (As := []) (rest := []) ⟨hx, hb, hml, hown, hts⟩ (s_X4_stepBack_92_74 hc) (cwV 0 hts (gV mw_12_12 mw_12_13 mw_12_14 mw_0_8 mw_49_4) rfl rfl rfl (by decide +kernel) ⟨by show 0 + 1 ≤ 164 + (nn + 1); omega, by show 8 + (1 + 11) + 0 ≤ 4412 + 29 * (nn + 1); omega⟩) (vV (ci := 4) (q0 := 92) hK hP hD hN rfl gA_92) rfl rfl hl.1 rfl (lv_room (Nat.le_of_ble_eq_true rfl)) dX4_take_153 ⟨(Nat.le_of_ble_eq_true rfl), (Nat.le_of_ble_eq_true rfl)⟩) hS (fun q _ h => hF q h) hF (fun u t H locs ht hvm hw hB _ _ hS => ?_)
  replace hP : va_P (dC, dI) vwCl (wA a k q3) H := by rw [← ht]; exact hB.1
  replace hD := hD0 (q3)
  clear hB hF
  obtain rfl := Option.some.inj h
  exact W.vret hx hb hr (fun t ht hW => ⟨⟨(), rfl, trivial, ⟨by rw [ht]; exact hP, va_K.moved hW.alike hK, hD⟩⟩, hS.F ht⟩) hS.2.2 dX4_take_156

set_option maxRecDepth 100000 in
set_option maxHeartbeats 4000000 in
theorem b_X4_take_34_92_74 {p : Program} {l : Launch} {e : Env} {s : State} {m : MethodId} {args : Array Value} {below : List Frame} {meth : Method} {c : Code} {dC : Nat → ClassId} {dI : Nat → Nat → Nat} {a : Nat → Nat} {k : Nat → ClassId} {A : Nat → Prop} {q : ST} (hC : CxA p s m args meth c dC dI k A cX4_take RX4 none 9) {nn : Nat} {r_X4_take : Nat → Nat → Int32 → Int32 → Int32 → Int32 → Int32 → ST → Option (ST)} (hr_X4_take : ∀ {sz : Nat} {p0 : Int32} {p1 : Int32} {p2 : Int32} {p3 : Int32} {p4 : Int32} {σ : ST} {q : ST}, r_X4_take 92 74 p0 p1 p2 p3 p4 σ = some q → Met l yX4_take (.code yX4_take cX4_take 9 none :: pw) ({ frames := 164 + nn, cells := 0, slots := 0, locals := 4412 + 29 * nn } : Room) (va_Pc [.ref (a 92), .int p0, .int p1, .int p2, .int p3, .int p4] (vPre dC dI (wA a k σ) (tA k) sz)) (qAv dC dI a k (va_A (wA a k σ) sz) q) 0 0 (va_A (wA a k σ) sz)) {r_X4_takeField : Nat → Nat → Int32 → Int32 → Int32 → Int32 → Int32 → ST → Option (ST)} (hr_X4_takeField : ∀ {sz : Nat} {p0 : Int32} {p1 : Int32} {p2 : Int32} {p3 : Int32} {p4 : Int32} {σ : ST} {q : ST}, r_X4_takeField 92 74 p0 p1 p2 p3 p4 σ = some q → Met l yX4_takeField (.code yX4_takeField cX4_takeField 9 none :: pw) ({ frames := 164 + nn, cells := 0, slots := 0, locals := 4412 + 29 * nn } : Room) (va_Pc [.ref (a 92), .int p0, .int p1, .int p2, .int p3, .int p4] (vPre dC dI (wA a k σ) (tA k) sz)) (qAv dC dI a k (va_A (wA a k σ) sz) q) 0 0 (va_A (wA a k σ) sz)) {r_X4_takeList : Nat → Nat → Int32 → Int32 → Int32 → Int32 → Int32 → ST → Option (ST)} (hr_X4_takeList : ∀ {sz : Nat} {p0 : Int32} {p1 : Int32} {p2 : Int32} {p3 : Int32} {p4 : Int32} {σ : ST} {q : ST}, r_X4_takeList 92 74 p0 p1 p2 p3 p4 σ = some q → Met l yX4_takeList (.code yX4_takeList cX4_takeList 10 none :: pw) ({ frames := 164 + nn, cells := 0, slots := 0, locals := 4412 + 29 * nn } : Room) (va_Pc [.ref (a 92), .int p0, .int p1, .int p2, .int p3, .int p4] (vPre dC dI (wA a k σ) (tA k) sz)) (qAv dC dI a k (va_A (wA a k σ) sz) q) 0 0 (va_A (wA a k σ) sz)) {r_X4_takeOwn : Nat → Nat → Int32 → Int32 → Int32 → Int32 → Int32 → ST → Option (ST)} (hr_X4_takeOwn : ∀ {sz : Nat} {p0 : Int32} {p1 : Int32} {p2 : Int32} {p3 : Int32} {p4 : Int32} {σ : ST} {q : ST}, r_X4_takeOwn 92 74 p0 p1 p2 p3 p4 σ = some q → Met l yX4_takeOwn (.code yX4_takeOwn cX4_takeOwn 8 none :: pw) ({ frames := 164 + nn, cells := 0, slots := 0, locals := 4412 + 29 * nn } : Room) (va_Pc [.ref (a 92), .int p0, .int p1, .int p2, .int p3, .int p4] (vPre dC dI (wA a k σ) (tA k) sz)) (qAv dC dI a k (va_A (wA a k σ) sz) q) 0 0 (va_A (wA a k σ) sz)) {r_X4_takeRecord : Nat → Nat → Int32 → Int32 → Int32 → Int32 → Int32 → ST → Option (ST)} (hr_X4_takeRecord : ∀ {sz : Nat} {p0 : Int32} {p1 : Int32} {p2 : Int32} {p3 : Int32} {p4 : Int32} {σ : ST} {q : ST}, r_X4_takeRecord 92 74 p0 p1 p2 p3 p4 σ = some q → Met l yX4_takeRecord (.code yX4_takeRecord cX4_takeRecord 9 none :: pw) ({ frames := 164 + nn, cells := 0, slots := 0, locals := 4412 + 29 * nn } : Room) (va_Pc [.ref (a 92), .int p0, .int p1, .int p2, .int p3, .int p4] (vPre dC dI (wA a k σ) (tA k) sz)) (qAv dC dI a k (va_A (wA a k σ) sz) q) 0 0 (va_A (wA a k σ) sz))  {x1 : Int32} {x2 : Int32} {x3 : Int32} {x4 : Int32} {x5 : Int32} {σ : ST} (h : f_X4_take_34 r_X4_take r_X4_takeField r_X4_takeList r_X4_takeOwn r_X4_takeRecord 92 74 x1 x2 x3 x4 x5 σ = some q) : GoA p l e ({ frames := 164 + (nn + 1), cells := 0, slots := 0, locals := 4412 + 29 * (nn + 1) } : Room) s m args below meth c (MQ below (qAv dC dI a k A q) args s 0 0 A) dC dI a k A 9 34 σ [(0, .ref (a 92)), (1, .int x1), (2, .int x2), (3, .int x3), (4, .int x4), (5, .int x5)] [] := by
  have hC0 := hC
  obtain ⟨hx, hb, hr, hml, hown, hts, hlocks, hA, hN, hK⟩ := hC0
  intro H locs ls hP hD hS hl
  have hD0 : ∀ σ1 : ST, va_D A (wA a k σ1) := fun σ1 => wA_D hD
  unfold f_X4_take_34 at h
  refine lv_aload_n hx hb dX4_take_34 rfl (lv_at hl 0 rfl) ?_
  refine va_get (D := (dC, dI)) (ci := 4) (C := RX4) (T := TX4) (N := 12) hx hb hts inlX4 hown hK hP 92 gA_92 rfl 0 (by decide) (hts (.fieldLink RX4 37 "ShapeReader$Reading" "shapes" "LShapeReader$Shapes;") mw_10_28) (fun _ h9 => h9) rfl dX4_take_35 ?_
  refine lv_iload_n hx hb dX4_take_38 rfl (lv_at hl 1 rfl) ?_
  obtain ⟨q1, hc, h⟩ := ib h
  have hF := va_frees hD hS hA
  refine va_calli (va_runV (As := [.int x1]) (rest := []) ⟨hx, hb, hml, hown, hts⟩ (s_X5_sortOf_4 hc) (cwV 1 hts (gV mw_11_25 mw_2_13 mw_2_14 mw_0_9 mw_50_6) rfl rfl rfl (by decide +kernel) ⟨by show 1 + 1 ≤ 164 + (nn + 1); omega, by show 8 + (2 + 11) + 21 ≤ 4412 + 29 * (nn + 1); omega⟩) (vV (ci := 5) (q0 := 4) hK hP hD hN rfl gA_4) rfl rfl hl.1 rfl (lv_room (Nat.le_of_ble_eq_true rfl)) dX4_take_39 ⟨(Nat.le_of_ble_eq_true rfl), (Nat.le_of_ble_eq_true rfl)⟩) hS (fun q _ h => hF q h) hF (fun r2 u t H locs ht hvm hw hB _ _ hS => ?_)
  obtain rfl : r2 = q1.1 := hw
  replace hP : va_P (dC, dI) vwCl (wA a k q1.2) H := by rw [← ht]; exact hB.1
  replace hD := hD0 (q1.2)
  clear hB hF
  refine lv_bipush (v := 8) hx hb dX4_take_42 (by decide) ?_
  refine lv_icmp_eq (tgt := 59) hx hb dX4_take_44 (by decide) (fun hc => ?_) (fun hc => ?_)
  · replace h := ip hc h
    refine lv_aload_n hx hb dX4_take_59 rfl (lv_at hl 0 rfl) ?_
    refine va_get (D := (dC, dI)) (ci := 4) (C := RX4) (T := TX4) (N := 12) hx hb hts inlX4 hown hK hP 92 gA_92 rfl 5 (by decide) (hts (.fieldLink RX4 15 "ShapeReader$Reading" "next" "I") mw_10_21) (fun _ h9 => h9) rfl dX4_take_60 ?_
    refine lv_istore (lv' := [(6, .int (q1.2.1 92 5)), (0, .ref (a 92)), (1, .int x1), (2, .int x2), (3, .int x3), (4, .int x4), (5, .int x5)]) hx hb dX4_take_63 hl (by decide) rfl (fun ls hl => ?_)
    refine lv_aload_n hx hb dX4_take_65 rfl (lv_at hl 1 rfl) ?_
    refine lv_iload hx hb dX4_take_66 (lv_at hl 0 rfl) ?_
    refine lv_aload_n hx hb dX4_take_68 rfl (lv_at hl 1 rfl) ?_
    refine va_get (D := (dC, dI)) (ci := 4) (C := RX4) (T := TX4) (N := 12) hx hb hts inlX4 hown hK hP 92 gA_92 rfl 0 (by decide) (hts (.fieldLink RX4 37 "ShapeReader$Reading" "shapes" "LShapeReader$Shapes;") mw_10_28) (fun _ h9 => h9) rfl dX4_take_69 ?_
    refine lv_iload_n hx hb dX4_take_72 rfl (lv_at hl 2 rfl) ?_
    obtain ⟨q3, hc, h⟩ := ib h
    have hF := va_frees hD hS hA
    refine va_calli (va_runV (As := [.int x1]) (rest := [.int (q1.2.1 92 5), .ref (a 92)]) ⟨hx, hb, hml, hown, hts⟩ (s_X5_branchesOf_4 hc) (cwV 1 hts (gV mw_11_29 mw_12_0 mw_12_1 mw_0_9 mw_50_9) rfl rfl rfl (by decide +kernel) ⟨by show 2 + 1 ≤ 164 + (nn + 1); omega, by show 8 + (4 + 11) + 42 ≤ 4412 + 29 * (nn + 1); omega⟩) (vV (ci := 5) (q0 := 4) hK hP hD hN rfl gA_4) rfl rfl hl.1 rfl (lv_room (Nat.le_of_ble_eq_true rfl)) dX4_take_73 ⟨(Nat.le_of_ble_eq_true rfl), (Nat.le_of_ble_eq_true rfl)⟩) hS (fun q _ h => hF q h) hF (fun r4 u t H locs ht hvm hw hB _ _ hS => ?_)
    obtain rfl : r4 = q3.1 := hw
    replace hP : va_P (dC, dI) vwCl (wA a k q3.2) H := by rw [← ht]; exact hB.1
    replace hD := hD0 (q3.2)
    clear hB hF
    refine lv_iconst (v := 1) hx hb dX4_take_76 (by decide) ?_
    refine lv_isub hx hb dX4_take_77 ?_
    obtain ⟨q5, hc, h⟩ := ib h
    have hF := va_frees hD hS hA
    refine va_calli (va_runV (As := [.int (q1.2.1 92 5), .int (q3.1 - 1)]) (rest := []) ⟨hx, hb, hml, hown, hts⟩ (s_X4_takeCount_92_74 hc) (cwV 2 hts (gV mw_12_2 mw_12_3 mw_12_4 mw_0_8 mw_49_18) rfl rfl rfl (by decide +kernel) ⟨by show 3 + 1 ≤ 164 + (nn + 1); omega, by show 8 + (5 + 11) + 69 ≤ 4412 + 29 * (nn + 1); omega⟩) (vV (ci := 4) (q0 := 92) hK hP hD hN rfl gA_92) rfl rfl hl.1 rfl (lv_room (Nat.le_of_ble_eq_true rfl)) dX4_take_78 ⟨(Nat.le_of_ble_eq_true rfl), (Nat.le_of_ble_eq_true rfl)⟩) hS (fun q _ h => hF q h) hF (fun r6 u t H locs ht hvm hw hB _ _ hS => ?_)
    obtain rfl : r6 = q5.1 := hw
    replace hP : va_P (dC, dI) vwCl (wA a k q5.2) H := by rw [← ht]; exact hB.1
    replace hD := hD0 (q5.2)
    clear hB hF
    refine lv_istore (lv' := [(7, .int q5.1), (6, .int (q1.2.1 92 5)), (0, .ref (a 92)), (1, .int x1), (2, .int x2), (3, .int x3), (4, .int x4), (5, .int x5)]) hx hb dX4_take_81 hl (by decide) rfl (fun ls hl => ?_)
    refine lv_aload_n hx hb dX4_take_83 rfl (lv_at hl 2 rfl) ?_
    refine va_get (D := (dC, dI)) (ci := 4) (C := RX4) (T := TX4) (N := 12) hx hb hts inlX4 hown hK hP 92 gA_92 rfl 7 (by decide) (hts (.fieldLink RX4 21 "ShapeReader$Reading" "failure" "I") mw_10_23) (fun _ h9 => h9) rfl dX4_take_84 ?_
    refine lv_if_eq (tgt := 91) hx hb dX4_take_87 (by decide) (fun hc => ?_) (fun hc => ?_)
    · replace h := ip hc h
      refine lv_aload_n hx hb dX4_take_91 rfl (lv_at hl 2 rfl) ?_
      refine va_get (D := (dC, dI)) (ci := 4) (C := RX4) (T := TX4) (N := 12) hx hb hts inlX4 hown hK hP 92 gA_92 rfl 0 (by decide) (hts (.fieldLink RX4 37 "ShapeReader$Reading" "shapes" "LShapeReader$Shapes;") mw_10_28) (fun _ h9 => h9) rfl dX4_take_92 ?_
      refine lv_iload_n hx hb dX4_take_95 rfl (lv_at hl 3 rfl) ?_
      refine lv_iload hx hb dX4_take_96 (lv_at hl 0 rfl) ?_
      obtain ⟨q7, hc, h⟩ := ib h
      have hF := va_frees hD hS hA
      refine va_calli (va_runV (As := [.int x1, .int q5.1]) (rest := []) ⟨hx, hb, hml, hown, hts⟩ (s_X5_branchOf_4 hc) (cwV 2 hts (gV mw_12_5 mw_12_6 mw_12_7 mw_0_9 mw_50_10) rfl rfl rfl (by decide +kernel) ⟨by show 2 + 1 ≤ 164 + (nn + 1); omega, by show 8 + (5 + 11) + 42 ≤ 4412 + 29 * (nn + 1); omega⟩) (vV (ci := 5) (q0 := 4) hK hP hD hN rfl gA_4) rfl rfl hl.1 rfl (lv_room (Nat.le_of_ble_eq_true rfl)) dX4_take_98 ⟨(Nat.le_of_ble_eq_true rfl), (Nat.le_of_ble_eq_true rfl)⟩) hS (fun q _ h => hF q h) hF (fun r8 u t H locs ht hvm hw hB _ _ hS => ?_)
      obtain rfl : r8 = q7.1 := hw
      replace hP : va_P (dC, dI) vwCl (wA a k q7.2) H := by rw [← ht]; exact hB.1
      replace hD := hD0 (q7.2)
      clear hB hF
      refine lv_istore (lv' := [(8, .int q7.1), (7, .int q5.1), (6, .int (q1.2.1 92 5)), (0, .ref (a 92)), (1, .int x1), (2, .int x2), (3, .int x3), (4, .int x4), (5, .int x5)]) hx hb dX4_take_101 hl (by decide) rfl (fun ls hl => ?_)
      refine lv_aload_n hx hb dX4_take_103 rfl (lv_at hl 3 rfl) ?_
      refine lv_sipush (v := 200) hx hb dX4_take_104 (by decide) ?_
      refine lv_iload hx hb dX4_take_107 (lv_at hl 1 rfl) ?_
      refine lv_iadd hx hb dX4_take_109 ?_
      obtain ⟨q9, hc, h⟩ := ib h
      have hF := va_frees hD hS hA
      refine va_callv (va_runV (As := [.int (200 + q5.1)]) (rest := []) ⟨hx, hb, hml, hown, hts⟩ (s_X4_step_92_74 hc) (cwV 1 hts (gV mw_12_8 mw_12_9 mw_12_10 mw_0_8 mw_49_3) rfl rfl rfl (by decide +kernel) ⟨by show 0 + 1 ≤ 164 + (nn + 1); omega, by show 8 + (2 + 11) + 0 ≤ 4412 + 29 * (nn + 1); omega⟩) (vV (ci := 4) (q0 := 92) hK hP hD hN rfl gA_92) rfl rfl hl.1 rfl (lv_room (Nat.le_of_ble_eq_true rfl)) dX4_take_110 ⟨(Nat.le_of_ble_eq_true rfl), (Nat.le_of_ble_eq_true rfl)⟩) hS (fun q _ h => hF q h) hF (fun u t H locs ht hvm hw hB _ _ hS => ?_)
      replace hP : va_P (dC, dI) vwCl (wA a k q9) H := by rw [← ht]; exact hB.1
      replace hD := hD0 (q9)
      clear hB hF
      refine lv_iload_n hx hb dX4_take_113 rfl (lv_at hl 5 rfl) ?_
      refine lv_iconst (v := (-1)) hx hb dX4_take_114 (by decide) ?_
      refine lv_icmp_eq (tgt := 140) hx hb dX4_take_115 (by decide) (fun hc => ?_) (fun hc => ?_)
      · replace h := ip hc h
        exact b_X4_take_140_92_74 hC hr_X4_take hr_X4_takeField hr_X4_takeList hr_X4_takeOwn hr_X4_takeRecord h _ _ _ hP hD hS (lv_sub hl [3, 5, 6, 7, 8, 0] rfl)
      · replace h := iq hc h
        refine lv_aload_n hx hb dX4_take_118 rfl (lv_at hl 3 rfl) ?_
        refine va_get (D := (dC, dI)) (ci := 4) (C := RX4) (T := TX4) (N := 12) hx hb hts inlX4 hown hK hP 92 gA_92 rfl 2 (by decide) (hts (.fieldLink RX4 45 "ShapeReader$Reading" "matcher" "LShapeReader$Matcher;") mw_11_0) (fun _ h9 => h9) rfl dX4_take_119 ?_
        refine lv_iload hx hb dX4_take_122 (lv_at hl 0 rfl) ?_
        refine lv_iload_n hx hb dX4_take_124 rfl (lv_at hl 5 rfl) ?_
        obtain ⟨q11, hc, h⟩ := ib h
        have hF := va_frees hD hS hA
        refine va_calli (va_runV (As := [.int q7.1, .int x2]) (rest := []) ⟨hx, hb, hml, hown, hts⟩ (s_X0_fits hc) (cwV 2 hts (gV mw_12_11 mw_3_27 mw_3_28 mw_0_4 mw_47_9) rfl rfl rfl (by decide +kernel) ⟨by show 163 + 1 ≤ 164 + (nn + 1); omega, by show 8 + (3 + 11) + 4390 ≤ 4412 + 29 * (nn + 1); omega⟩) (vV (ci := 0) (q0 := 41) hK hP hD hN rfl gA_41) rfl rfl hl.1 rfl (lv_room (Nat.le_of_ble_eq_true rfl)) dX4_take_125 ⟨(Nat.le_of_ble_eq_true rfl), (Nat.le_of_ble_eq_true rfl)⟩) hS (fun q _ h => hF q h) hF (fun r12 u t H locs ht hvm hw hB _ _ hS => ?_)
        obtain rfl : r12 = q11.1 := hw
        replace hP : va_P (dC, dI) vwCl (wA a k q11.2) H := by rw [← ht]; exact hB.1
        replace hD := hD0 (q11.2)
        clear hB hF
        refine lv_if_ne (tgt := 140) hx hb dX4_take_128 (by decide) (fun hc => ?_) (fun hc => ?_)
        · replace h := iq hc h
          exact b_X4_take_140_92_74 hC hr_X4_take hr_X4_takeField hr_X4_takeList hr_X4_takeOwn hr_X4_takeRecord h _ _ _ hP hD hS (lv_sub hl [3, 5, 6, 7, 8, 0] rfl)
        · replace h := ip hc h
          refine lv_aload_n hx hb dX4_take_131 rfl (lv_at hl 3 rfl) ?_
          refine lv_bipush (v := 13) hx hb dX4_take_132 (by decide) ?_
          refine lv_iload hx hb dX4_take_134 (lv_at hl 2 rfl) ?_
          obtain ⟨q13, hc, h⟩ := ib h
          have hF := va_frees hD hS hA
          refine va_callv (va_runV (As := [.int 13, .int (q1.2.1 92 5)]) (rest := []) ⟨hx, hb, hml, hown, hts⟩ (s_X4_fail_92_74 hc) (cwV 2 hts (gV mw_11_15 mw_11_16 mw_11_17 mw_0_8 mw_49_2) rfl rfl rfl (by decide +kernel) ⟨by show 0 + 1 ≤ 164 + (nn + 1); omega, by show 8 + (3 + 11) + 0 ≤ 4412 + 29 * (nn + 1); omega⟩) (vV (ci := 4) (q0 := 92) hK hP hD hN rfl gA_92) rfl rfl hl.1 rfl (lv_room (Nat.le_of_ble_eq_true rfl)) dX4_take_136 ⟨(Nat.le_of_ble_eq_true rfl), (Nat.le_of_ble_eq_true rfl)⟩) hS (fun q _ h => hF q h) hF (fun u t H locs ht hvm hw hB _ _ hS => ?_)
          replace hP : va_P (dC, dI) vwCl (wA a k q13) H := by rw [← ht]; exact hB.1
          replace hD := hD0 (q13)
          clear hB hF
          obtain rfl := Option.some.inj h
          exact W.vret hx hb hr (fun t ht hW => ⟨⟨(), rfl, trivial, ⟨by rw [ht]; exact hP, va_K.moved hW.alike hK, hD⟩⟩, hS.F ht⟩) hS.2.2 dX4_take_139
    · replace h := iq hc h
      obtain rfl := Option.some.inj h
      exact W.vret hx hb hr (fun t ht hW => ⟨⟨(), rfl, trivial, ⟨by rw [ht]; exact hP, va_K.moved hW.alike hK, hD⟩⟩, hS.F ht⟩) hS.2.2 dX4_take_90
  · replace h := iq hc h
    refine lv_aload_n hx hb dX4_take_47 rfl (lv_at hl 0 rfl) ?_
    refine lv_iload_n hx hb dX4_take_48 rfl (lv_at hl 1 rfl) ?_
    refine lv_iload_n hx hb dX4_take_49 rfl (lv_at hl 2 rfl) ?_
    refine lv_iload_n hx hb dX4_take_50 rfl (lv_at hl 3 rfl) ?_
    refine lv_iload hx hb dX4_take_51 (lv_at hl 4 rfl) ?_
    refine lv_iload hx hb dX4_take_53 (lv_at hl 5 rfl) ?_
    obtain ⟨q15, hc, h⟩ := ib h
    have hF := va_frees hD hS hA
    refine va_callv (va_runV (As := [.int x1, .int x2, .int x3, .int x4, .int x5]) (rest := []) ⟨hx, hb, hml, hown, hts⟩ (hr_X4_takeOwn hc) (cwV 5 hts (gV mw_11_26 mw_11_27 mw_11_28 mw_0_8 mw_49_7) rfl rfl rfl (by decide +kernel) ⟨by show (164 + nn) + 1 ≤ 164 + (nn + 1); omega, by show 8 + (8 + 11) + (4412 + 29 * nn) ≤ 4412 + 29 * (nn + 1); omega⟩) (vV (ci := 4) (q0 := 92) hK hP hD hN rfl gA_92) rfl rfl hl.1 rfl (lv_room (Nat.le_of_ble_eq_true rfl)) dX4_take_55 ⟨(Nat.le_of_ble_eq_true rfl), (Nat.le_of_ble_eq_true rfl)⟩) hS (fun q _ h => hF q h) hF (fun u t H locs ht hvm hw hB _ _ hS => ?_)
    replace hP : va_P (dC, dI) vwCl (wA a k q15) H := by rw [← ht]; exact hB.1
    replace hD := hD0 (q15)
    clear hB hF
    obtain rfl := Option.some.inj h
    exact W.vret hx hb hr (fun t ht hW => ⟨⟨(), rfl, trivial, ⟨by rw [ht]; exact hP, va_K.moved hW.alike hK, hD⟩⟩, hS.F ht⟩) hS.2.2 dX4_take_58

set_option maxRecDepth 100000 in
set_option maxHeartbeats 4000000 in
theorem b_X4_take_e_92_74 {p : Program} {l : Launch} {e : Env} {s : State} {m : MethodId} {args : Array Value} {below : List Frame} {meth : Method} {c : Code} {dC : Nat → ClassId} {dI : Nat → Nat → Nat} {a : Nat → Nat} {k : Nat → ClassId} {A : Nat → Prop} {q : ST} (hC : CxA p s m args meth c dC dI k A cX4_take RX4 none 9) {nn : Nat} {r_X4_take : Nat → Nat → Int32 → Int32 → Int32 → Int32 → Int32 → ST → Option (ST)} (hr_X4_take : ∀ {sz : Nat} {p0 : Int32} {p1 : Int32} {p2 : Int32} {p3 : Int32} {p4 : Int32} {σ : ST} {q : ST}, r_X4_take 92 74 p0 p1 p2 p3 p4 σ = some q → Met l yX4_take (.code yX4_take cX4_take 9 none :: pw) ({ frames := 164 + nn, cells := 0, slots := 0, locals := 4412 + 29 * nn } : Room) (va_Pc [.ref (a 92), .int p0, .int p1, .int p2, .int p3, .int p4] (vPre dC dI (wA a k σ) (tA k) sz)) (qAv dC dI a k (va_A (wA a k σ) sz) q) 0 0 (va_A (wA a k σ) sz)) {r_X4_takeField : Nat → Nat → Int32 → Int32 → Int32 → Int32 → Int32 → ST → Option (ST)} (hr_X4_takeField : ∀ {sz : Nat} {p0 : Int32} {p1 : Int32} {p2 : Int32} {p3 : Int32} {p4 : Int32} {σ : ST} {q : ST}, r_X4_takeField 92 74 p0 p1 p2 p3 p4 σ = some q → Met l yX4_takeField (.code yX4_takeField cX4_takeField 9 none :: pw) ({ frames := 164 + nn, cells := 0, slots := 0, locals := 4412 + 29 * nn } : Room) (va_Pc [.ref (a 92), .int p0, .int p1, .int p2, .int p3, .int p4] (vPre dC dI (wA a k σ) (tA k) sz)) (qAv dC dI a k (va_A (wA a k σ) sz) q) 0 0 (va_A (wA a k σ) sz)) {r_X4_takeList : Nat → Nat → Int32 → Int32 → Int32 → Int32 → Int32 → ST → Option (ST)} (hr_X4_takeList : ∀ {sz : Nat} {p0 : Int32} {p1 : Int32} {p2 : Int32} {p3 : Int32} {p4 : Int32} {σ : ST} {q : ST}, r_X4_takeList 92 74 p0 p1 p2 p3 p4 σ = some q → Met l yX4_takeList (.code yX4_takeList cX4_takeList 10 none :: pw) ({ frames := 164 + nn, cells := 0, slots := 0, locals := 4412 + 29 * nn } : Room) (va_Pc [.ref (a 92), .int p0, .int p1, .int p2, .int p3, .int p4] (vPre dC dI (wA a k σ) (tA k) sz)) (qAv dC dI a k (va_A (wA a k σ) sz) q) 0 0 (va_A (wA a k σ) sz)) {r_X4_takeOwn : Nat → Nat → Int32 → Int32 → Int32 → Int32 → Int32 → ST → Option (ST)} (hr_X4_takeOwn : ∀ {sz : Nat} {p0 : Int32} {p1 : Int32} {p2 : Int32} {p3 : Int32} {p4 : Int32} {σ : ST} {q : ST}, r_X4_takeOwn 92 74 p0 p1 p2 p3 p4 σ = some q → Met l yX4_takeOwn (.code yX4_takeOwn cX4_takeOwn 8 none :: pw) ({ frames := 164 + nn, cells := 0, slots := 0, locals := 4412 + 29 * nn } : Room) (va_Pc [.ref (a 92), .int p0, .int p1, .int p2, .int p3, .int p4] (vPre dC dI (wA a k σ) (tA k) sz)) (qAv dC dI a k (va_A (wA a k σ) sz) q) 0 0 (va_A (wA a k σ) sz)) {r_X4_takeRecord : Nat → Nat → Int32 → Int32 → Int32 → Int32 → Int32 → ST → Option (ST)} (hr_X4_takeRecord : ∀ {sz : Nat} {p0 : Int32} {p1 : Int32} {p2 : Int32} {p3 : Int32} {p4 : Int32} {σ : ST} {q : ST}, r_X4_takeRecord 92 74 p0 p1 p2 p3 p4 σ = some q → Met l yX4_takeRecord (.code yX4_takeRecord cX4_takeRecord 9 none :: pw) ({ frames := 164 + nn, cells := 0, slots := 0, locals := 4412 + 29 * nn } : Room) (va_Pc [.ref (a 92), .int p0, .int p1, .int p2, .int p3, .int p4] (vPre dC dI (wA a k σ) (tA k) sz)) (qAv dC dI a k (va_A (wA a k σ) sz) q) 0 0 (va_A (wA a k σ) sz))  {p0 : Int32} {p1 : Int32} {p2 : Int32} {p3 : Int32} {p4 : Int32} {σ : ST} (h : f_X4_take r_X4_take r_X4_takeField r_X4_takeList r_X4_takeOwn r_X4_takeRecord 92 74 p0 p1 p2 p3 p4 σ = some q) : GoA p l e ({ frames := 164 + (nn + 1), cells := 0, slots := 0, locals := 4412 + 29 * (nn + 1) } : Room) s m args below meth c (MQ below (qAv dC dI a k A q) args s 0 0 A) dC dI a k A 9 0 σ (lv_args 0 [.ref (a 92), .int p0, .int p1, .int p2, .int p3, .int p4]) [] := by
  have hC0 := hC
  obtain ⟨hx, hb, hr, hml, hown, hts, hlocks, hA, hN, hK⟩ := hC0
  intro H locs ls hP hD hS hl
  have hD0 : ∀ σ1 : ST, va_D A (wA a k σ1) := fun σ1 => wA_D hD
  replace hl : lv_has ls 9 [(0, .ref (a 92)), (1, .int p0), (2, .int p1), (3, .int p2), (4, .int p3), (5, .int p4)] := hl
  unfold f_X4_take at h
  refine lv_iload hx hb dX4_take_0 (lv_at hl 5 rfl) ?_
  refine lv_bipush (v := 31) hx hb dX4_take_2 (by decide) ?_
  refine lv_icmp_lt (tgt := 18) hx hb dX4_take_4 (by decide) (fun hc => ?_) (fun hc => ?_)
  · replace h := ip hc h
    refine lv_iload_n hx hb dX4_take_18 rfl (lv_at hl 2 rfl) ?_
    refine lv_iconst (v := (-1)) hx hb dX4_take_19 (by decide) ?_
    refine lv_icmp_ne (tgt := 34) hx hb dX4_take_20 (by decide) (fun hc => ?_) (fun hc => ?_)
    · replace h := iq hc h
      exact b_X4_take_34_92_74 hC hr_X4_take hr_X4_takeField hr_X4_takeList hr_X4_takeOwn hr_X4_takeRecord h _ _ _ hP hD hS (lv_sub hl [0, 1, 2, 3, 4, 5] rfl)
    · replace h := ip hc h
      refine lv_aload_n hx hb dX4_take_23 rfl (lv_at hl 0 rfl) ?_
      refine lv_iload_n hx hb dX4_take_24 rfl (lv_at hl 1 rfl) ?_
      refine lv_iload hx hb dX4_take_25 (lv_at hl 5 rfl) ?_
      obtain ⟨q1, hc, h⟩ := ib h
      have hF := va_frees hD hS hA
      refine va_calli (va_runV (As := [.int p0, .int p4]) (rest := []) ⟨hx, hb, hml, hown, hts⟩ (s_X4_isEmptyThere_92_74 hc) (cwV 2 hts (gV mw_11_22 mw_11_23 mw_11_24 mw_0_8 mw_49_6) rfl rfl rfl (by decide +kernel) ⟨by show 3 + 1 ≤ 164 + (nn + 1); omega, by show 8 + (4 + 11) + 64 ≤ 4412 + 29 * (nn + 1); omega⟩) (vV (ci := 4) (q0 := 92) hK hP hD hN rfl gA_92) rfl rfl hl.1 rfl (lv_room (Nat.le_of_ble_eq_true rfl)) dX4_take_27 ⟨(Nat.le_of_ble_eq_true rfl), (Nat.le_of_ble_eq_true rfl)⟩) hS (fun q _ h => hF q h) hF (fun r2 u t H locs ht hvm hw hB _ _ hS => ?_)
      obtain rfl : r2 = q1.1 := hw
      replace hP : va_P (dC, dI) vwCl (wA a k q1.2) H := by rw [← ht]; exact hB.1
      replace hD := hD0 (q1.2)
      clear hB hF
      refine lv_if_eq (tgt := 34) hx hb dX4_take_30 (by decide) (fun hc => ?_) (fun hc => ?_)
      · replace h := ip hc h
        exact b_X4_take_34_92_74 hC hr_X4_take hr_X4_takeField hr_X4_takeList hr_X4_takeOwn hr_X4_takeRecord h _ _ _ hP hD hS (lv_sub hl [0, 1, 2, 3, 4, 5] rfl)
      · replace h := iq hc h
        obtain rfl := Option.some.inj h
        exact W.vret hx hb hr (fun t ht hW => ⟨⟨(), rfl, trivial, ⟨by rw [ht]; exact hP, va_K.moved hW.alike hK, hD⟩⟩, hS.F ht⟩) hS.2.2 dX4_take_33
  · replace h := iq hc h
    refine lv_aload_n hx hb dX4_take_7 rfl (lv_at hl 0 rfl) ?_
    refine lv_bipush (v := 16) hx hb dX4_take_8 (by decide) ?_
    refine lv_aload_n hx hb dX4_take_10 rfl (lv_at hl 0 rfl) ?_
    refine va_get (D := (dC, dI)) (ci := 4) (C := RX4) (T := TX4) (N := 12) hx hb hts inlX4 hown hK hP 92 gA_92 rfl 5 (by decide) (hts (.fieldLink RX4 15 "ShapeReader$Reading" "next" "I") mw_10_21) (fun _ h9 => h9) rfl dX4_take_11 ?_
    obtain ⟨q3, hc, h⟩ := ib h
    have hF := va_frees hD hS hA
    refine va_callv (va_runV (As := [.int 16, .int (σ.1 92 5)]) (rest := []) ⟨hx, hb, hml, hown, hts⟩ (s_X4_fail_92_74 hc) (cwV 2 hts (gV mw_11_15 mw_11_16 mw_11_17 mw_0_8 mw_49_2) rfl rfl rfl (by decide +kernel) ⟨by show 0 + 1 ≤ 164 + (nn + 1); omega, by show 8 + (3 + 11) + 0 ≤ 4412 + 29 * (nn + 1); omega⟩) (vV (ci := 4) (q0 := 92) hK hP hD hN rfl gA_92) rfl rfl hl.1 rfl (lv_room (Nat.le_of_ble_eq_true rfl)) dX4_take_14 ⟨(Nat.le_of_ble_eq_true rfl), (Nat.le_of_ble_eq_true rfl)⟩) hS (fun q _ h => hF q h) hF (fun u t H locs ht hvm hw hB _ _ hS => ?_)
    replace hP : va_P (dC, dI) vwCl (wA a k q3) H := by rw [← ht]; exact hB.1
    replace hD := hD0 (q3)
    clear hB hF
    obtain rfl := Option.some.inj h
    exact W.vret hx hb hr (fun t ht hW => ⟨⟨(), rfl, trivial, ⟨by rw [ht]; exact hP, va_K.moved hW.alike hK, hD⟩⟩, hS.F ht⟩) hS.2.2 dX4_take_17


set_option maxRecDepth 100000 in
set_option maxHeartbeats 4000000 in
theorem b_X4_takeField_76_92_74 {p : Program} {l : Launch} {e : Env} {s : State} {m : MethodId} {args : Array Value} {below : List Frame} {meth : Method} {c : Code} {dC : Nat → ClassId} {dI : Nat → Nat → Nat} {a : Nat → Nat} {k : Nat → ClassId} {A : Nat → Prop} {q : ST} (hC : CxA p s m args meth c dC dI k A cX4_takeField RX4 none 9) {nn : Nat} {r_X4_take : Nat → Nat → Int32 → Int32 → Int32 → Int32 → Int32 → ST → Option (ST)} (hr_X4_take : ∀ {sz : Nat} {p0 : Int32} {p1 : Int32} {p2 : Int32} {p3 : Int32} {p4 : Int32} {σ : ST} {q : ST}, r_X4_take 92 74 p0 p1 p2 p3 p4 σ = some q → Met l yX4_take (.code yX4_take cX4_take 9 none :: pw) ({ frames := 164 + nn, cells := 0, slots := 0, locals := 4412 + 29 * nn } : Room) (va_Pc [.ref (a 92), .int p0, .int p1, .int p2, .int p3, .int p4] (vPre dC dI (wA a k σ) (tA k) sz)) (qAv dC dI a k (va_A (wA a k σ) sz) q) 0 0 (va_A (wA a k σ) sz)) {r_X4_takeField : Nat → Nat → Int32 → Int32 → Int32 → Int32 → Int32 → ST → Option (ST)} (hr_X4_takeField : ∀ {sz : Nat} {p0 : Int32} {p1 : Int32} {p2 : Int32} {p3 : Int32} {p4 : Int32} {σ : ST} {q : ST}, r_X4_takeField 92 74 p0 p1 p2 p3 p4 σ = some q → Met l yX4_takeField (.code yX4_takeField cX4_takeField 9 none :: pw) ({ frames := 164 + nn, cells := 0, slots := 0, locals := 4412 + 29 * nn } : Room) (va_Pc [.ref (a 92), .int p0, .int p1, .int p2, .int p3, .int p4] (vPre dC dI (wA a k σ) (tA k) sz)) (qAv dC dI a k (va_A (wA a k σ) sz) q) 0 0 (va_A (wA a k σ) sz)) {r_X4_takeList : Nat → Nat → Int32 → Int32 → Int32 → Int32 → Int32 → ST → Option (ST)} (hr_X4_takeList : ∀ {sz : Nat} {p0 : Int32} {p1 : Int32} {p2 : Int32} {p3 : Int32} {p4 : Int32} {σ : ST} {q : ST}, r_X4_takeList 92 74 p0 p1 p2 p3 p4 σ = some q → Met l yX4_takeList (.code yX4_takeList cX4_takeList 10 none :: pw) ({ frames := 164 + nn, cells := 0, slots := 0, locals := 4412 + 29 * nn } : Room) (va_Pc [.ref (a 92), .int p0, .int p1, .int p2, .int p3, .int p4] (vPre dC dI (wA a k σ) (tA k) sz)) (qAv dC dI a k (va_A (wA a k σ) sz) q) 0 0 (va_A (wA a k σ) sz)) {r_X4_takeOwn : Nat → Nat → Int32 → Int32 → Int32 → Int32 → Int32 → ST → Option (ST)} (hr_X4_takeOwn : ∀ {sz : Nat} {p0 : Int32} {p1 : Int32} {p2 : Int32} {p3 : Int32} {p4 : Int32} {σ : ST} {q : ST}, r_X4_takeOwn 92 74 p0 p1 p2 p3 p4 σ = some q → Met l yX4_takeOwn (.code yX4_takeOwn cX4_takeOwn 8 none :: pw) ({ frames := 164 + nn, cells := 0, slots := 0, locals := 4412 + 29 * nn } : Room) (va_Pc [.ref (a 92), .int p0, .int p1, .int p2, .int p3, .int p4] (vPre dC dI (wA a k σ) (tA k) sz)) (qAv dC dI a k (va_A (wA a k σ) sz) q) 0 0 (va_A (wA a k σ) sz)) {r_X4_takeRecord : Nat → Nat → Int32 → Int32 → Int32 → Int32 → Int32 → ST → Option (ST)} (hr_X4_takeRecord : ∀ {sz : Nat} {p0 : Int32} {p1 : Int32} {p2 : Int32} {p3 : Int32} {p4 : Int32} {σ : ST} {q : ST}, r_X4_takeRecord 92 74 p0 p1 p2 p3 p4 σ = some q → Met l yX4_takeRecord (.code yX4_takeRecord cX4_takeRecord 9 none :: pw) ({ frames := 164 + nn, cells := 0, slots := 0, locals := 4412 + 29 * nn } : Room) (va_Pc [.ref (a 92), .int p0, .int p1, .int p2, .int p3, .int p4] (vPre dC dI (wA a k σ) (tA k) sz)) (qAv dC dI a k (va_A (wA a k σ) sz) q) 0 0 (va_A (wA a k σ) sz)) {k12 : Int32 → Int32 → Int32 → Int32 → Int32 → Int32 → Int32 → Int32 → ST → Option (ST)} (hk12 : ∀ (x1 : Int32) (x2 : Int32) (x3 : Int32) (x4 : Int32) (x5 : Int32) (x6 : Int32) (x7 : Int32) (x8 : Int32) (σ : ST), k12 x1 x2 x3 x4 x5 x6 x7 x8 σ = some q → GoA p l e ({ frames := 164 + (nn + 1), cells := 0, slots := 0, locals := 4412 + 29 * (nn + 1) } : Room) s m args below meth c (MQ below (qAv dC dI a k A q) args s 0 0 A) dC dI a k A 9 12 σ [(0, .ref (a 92)), (1, .int x1), (2, .int x2), (3, .int x3), (4, .int x4), (5, .int x5), (6, .int x6), (7, .int x7), (8, .int x8)] []) {x1 : Int32} {x2 : Int32} {x3 : Int32} {x4 : Int32} {x5 : Int32} {x6 : Int32} {x7 : Int32} {x8 : Int32} {σ : ST} (h : f_X4_takeField_76 r_X4_take r_X4_takeField r_X4_takeList r_X4_takeOwn r_X4_takeRecord k12 92 74 x1 x2 x3 x4 x5 x6 x7 x8 σ = some q) : GoA p l e ({ frames := 164 + (nn + 1), cells := 0, slots := 0, locals := 4412 + 29 * (nn + 1) } : Room) s m args below meth c (MQ below (qAv dC dI a k A q) args s 0 0 A) dC dI a k A 9 76 σ [(0, .ref (a 92)), (1, .int x1), (2, .int x2), (3, .int x3), (4, .int x4), (5, .int x5), (6, .int x6), (7, .int x7), (8, .int x8)] [] := by
  have hC0 := hC
  obtain ⟨hx, hb, hr, hml, hown, hts, hlocks, hA, hN, hK⟩ := hC0
  intro H locs ls hP hD hS hl
  have hD0 : ∀ σ1 : ST, va_D A (wA a k σ1) := fun σ1 => wA_D hD
  unfold f_X4_takeField_76 at h
  refine lv_iinc (v := (x8 + 1)) (lv' := [(8, .int (x8 + 1)), (0, .ref (a 92)), (1, .int x1), (2, .int x2), (3, .int x3), (4, .int x4), (5, .int x5), (6, .int x6), (7, .int x7)]) hx hb dX4_takeField_76 hl (k := 8) rfl rfl (by decide) rfl (fun ls hl => ?_)
  refine lv_goto (tgt := 12) hx hb dX4_takeField_79 (by decide) ?_
  exact hk12 _ _ _ _ _ _ _ _ _ h _ _ _ hP hD hS (lv_sub hl [1, 2, 3, 4, 5, 6, 7, 8, 0] rfl)

set_option maxRecDepth 100000 in
set_option maxHeartbeats 4000000 in
theorem b_X4_takeField_82_92_74 {p : Program} {l : Launch} {e : Env} {s : State} {m : MethodId} {args : Array Value} {below : List Frame} {meth : Method} {c : Code} {dC : Nat → ClassId} {dI : Nat → Nat → Nat} {a : Nat → Nat} {k : Nat → ClassId} {A : Nat → Prop} {q : ST} (hC : CxA p s m args meth c dC dI k A cX4_takeField RX4 none 9) {nn : Nat} {r_X4_take : Nat → Nat → Int32 → Int32 → Int32 → Int32 → Int32 → ST → Option (ST)} (hr_X4_take : ∀ {sz : Nat} {p0 : Int32} {p1 : Int32} {p2 : Int32} {p3 : Int32} {p4 : Int32} {σ : ST} {q : ST}, r_X4_take 92 74 p0 p1 p2 p3 p4 σ = some q → Met l yX4_take (.code yX4_take cX4_take 9 none :: pw) ({ frames := 164 + nn, cells := 0, slots := 0, locals := 4412 + 29 * nn } : Room) (va_Pc [.ref (a 92), .int p0, .int p1, .int p2, .int p3, .int p4] (vPre dC dI (wA a k σ) (tA k) sz)) (qAv dC dI a k (va_A (wA a k σ) sz) q) 0 0 (va_A (wA a k σ) sz)) {r_X4_takeField : Nat → Nat → Int32 → Int32 → Int32 → Int32 → Int32 → ST → Option (ST)} (hr_X4_takeField : ∀ {sz : Nat} {p0 : Int32} {p1 : Int32} {p2 : Int32} {p3 : Int32} {p4 : Int32} {σ : ST} {q : ST}, r_X4_takeField 92 74 p0 p1 p2 p3 p4 σ = some q → Met l yX4_takeField (.code yX4_takeField cX4_takeField 9 none :: pw) ({ frames := 164 + nn, cells := 0, slots := 0, locals := 4412 + 29 * nn } : Room) (va_Pc [.ref (a 92), .int p0, .int p1, .int p2, .int p3, .int p4] (vPre dC dI (wA a k σ) (tA k) sz)) (qAv dC dI a k (va_A (wA a k σ) sz) q) 0 0 (va_A (wA a k σ) sz)) {r_X4_takeList : Nat → Nat → Int32 → Int32 → Int32 → Int32 → Int32 → ST → Option (ST)} (hr_X4_takeList : ∀ {sz : Nat} {p0 : Int32} {p1 : Int32} {p2 : Int32} {p3 : Int32} {p4 : Int32} {σ : ST} {q : ST}, r_X4_takeList 92 74 p0 p1 p2 p3 p4 σ = some q → Met l yX4_takeList (.code yX4_takeList cX4_takeList 10 none :: pw) ({ frames := 164 + nn, cells := 0, slots := 0, locals := 4412 + 29 * nn } : Room) (va_Pc [.ref (a 92), .int p0, .int p1, .int p2, .int p3, .int p4] (vPre dC dI (wA a k σ) (tA k) sz)) (qAv dC dI a k (va_A (wA a k σ) sz) q) 0 0 (va_A (wA a k σ) sz)) {r_X4_takeOwn : Nat → Nat → Int32 → Int32 → Int32 → Int32 → Int32 → ST → Option (ST)} (hr_X4_takeOwn : ∀ {sz : Nat} {p0 : Int32} {p1 : Int32} {p2 : Int32} {p3 : Int32} {p4 : Int32} {σ : ST} {q : ST}, r_X4_takeOwn 92 74 p0 p1 p2 p3 p4 σ = some q → Met l yX4_takeOwn (.code yX4_takeOwn cX4_takeOwn 8 none :: pw) ({ frames := 164 + nn, cells := 0, slots := 0, locals := 4412 + 29 * nn } : Room) (va_Pc [.ref (a 92), .int p0, .int p1, .int p2, .int p3, .int p4] (vPre dC dI (wA a k σ) (tA k) sz)) (qAv dC dI a k (va_A (wA a k σ) sz) q) 0 0 (va_A (wA a k σ) sz)) {r_X4_takeRecord : Nat → Nat → Int32 → Int32 → Int32 → Int32 → Int32 → ST → Option (ST)} (hr_X4_takeRecord : ∀ {sz : Nat} {p0 : Int32} {p1 : Int32} {p2 : Int32} {p3 : Int32} {p4 : Int32} {σ : ST} {q : ST}, r_X4_takeRecord 92 74 p0 p1 p2 p3 p4 σ = some q → Met l yX4_takeRecord (.code yX4_takeRecord cX4_takeRecord 9 none :: pw) ({ frames := 164 + nn, cells := 0, slots := 0, locals := 4412 + 29 * nn } : Room) (va_Pc [.ref (a 92), .int p0, .int p1, .int p2, .int p3, .int p4] (vPre dC dI (wA a k σ) (tA k) sz)) (qAv dC dI a k (va_A (wA a k σ) sz) q) 0 0 (va_A (wA a k σ) sz))  {x1 : Int32} {x5 : Int32} {x7 : Int32} {σ : ST} (h : f_X4_takeField_82 r_X4_take r_X4_takeField r_X4_takeList r_X4_takeOwn r_X4_takeRecord 92 74 x1 x5 x7 σ = some q) : GoA p l e ({ frames := 164 + (nn + 1), cells := 0, slots := 0, locals := 4412 + 29 * (nn + 1) } : Room) s m args below meth c (MQ below (qAv dC dI a k A q) args s 0 0 A) dC dI a k A 9 82 σ [(0, .ref (a 92)), (1, .int x1), (5, .int x5), (7, .int x7)] [] := by
  have hC0 := hC
  obtain ⟨hx, hb, hr, hml, hown, hts, hlocks, hA, hN, hK⟩ := hC0
  intro H locs ls hP hD hS hl
  have hD0 : ∀ σ1 : ST, va_D A (wA a k σ1) := fun σ1 => wA_D hD
  unfold f_X4_takeField_82 at h
  refine lv_iload hx hb dX4_takeField_82 (lv_at hl 3 rfl) ?_
  refine lv_if_ne (tgt := 99) hx hb dX4_takeField_84 (by decide) (fun hc => ?_) (fun hc => ?_)
  · replace h := iq hc h
    obtain rfl := Option.some.inj h
    exact W.vret hx hb hr (fun t ht hW => ⟨⟨(), rfl, trivial, ⟨by rw [ht]; exact hP, va_K.moved hW.alike hK, hD⟩⟩, hS.F ht⟩) hS.2.2 dX4_takeField_99
  · replace h := ip hc h
    refine lv_aload_n hx hb dX4_takeField_87 rfl (lv_at hl 0 rfl) ?_
    refine lv_iload_n hx hb dX4_takeField_88 rfl (lv_at hl 1 rfl) ?_
    refine lv_iconst (v := (-1)) hx hb dX4_takeField_89 (by decide) ?_
    refine lv_iconst (v := (-1)) hx hb dX4_takeField_90 (by decide) ?_
    refine lv_iconst (v := 0) hx hb dX4_takeField_91 (by decide) ?_
    refine lv_iload hx hb dX4_takeField_92 (lv_at hl 2 rfl) ?_
    refine lv_iconst (v := 1) hx hb dX4_takeField_94 (by decide) ?_
    refine lv_iadd hx hb dX4_takeField_95 ?_
    obtain ⟨q1, hc, h⟩ := ib h
    have hF := va_frees hD hS hA
    refine va_callv (va_runV (As := [.int x1, .int (-1), .int (-1), .int 0, .int (x5 + 1)]) (rest := []) ⟨hx, hb, hml, hown, hts⟩ (hr_X4_take hc) (cwV 5 hts (gV mw_11_12 mw_11_13 mw_11_14 mw_0_8 mw_49_5) rfl rfl rfl (by decide +kernel) ⟨by show (164 + nn) + 1 ≤ 164 + (nn + 1); omega, by show 8 + (9 + 11) + (4412 + 29 * nn) ≤ 4412 + 29 * (nn + 1); omega⟩) (vV (ci := 4) (q0 := 92) hK hP hD hN rfl gA_92) rfl rfl hl.1 rfl (lv_room (Nat.le_of_ble_eq_true rfl)) dX4_takeField_96 ⟨(Nat.le_of_ble_eq_true rfl), (Nat.le_of_ble_eq_true rfl)⟩) hS (fun q _ h => hF q h) hF (fun u t H locs ht hvm hw hB _ _ hS => ?_)
    replace hP : va_P (dC, dI) vwCl (wA a k q1) H := by rw [← ht]; exact hB.1
    replace hD := hD0 (q1)
    clear hB hF
    obtain rfl := Option.some.inj h
    exact W.vret hx hb hr (fun t ht hW => ⟨⟨(), rfl, trivial, ⟨by rw [ht]; exact hP, va_K.moved hW.alike hK, hD⟩⟩, hS.F ht⟩) hS.2.2 dX4_takeField_99

set_option maxRecDepth 100000 in
set_option maxHeartbeats 4000000 in
theorem b_X4_takeField_12_92_74 {p : Program} {l : Launch} {e : Env} {s : State} {m : MethodId} {args : Array Value} {below : List Frame} {meth : Method} {c : Code} {dC : Nat → ClassId} {dI : Nat → Nat → Nat} {a : Nat → Nat} {k : Nat → ClassId} {A : Nat → Prop} {q : ST} (hC : CxA p s m args meth c dC dI k A cX4_takeField RX4 none 9) {nn : Nat} {r_X4_take : Nat → Nat → Int32 → Int32 → Int32 → Int32 → Int32 → ST → Option (ST)} (hr_X4_take : ∀ {sz : Nat} {p0 : Int32} {p1 : Int32} {p2 : Int32} {p3 : Int32} {p4 : Int32} {σ : ST} {q : ST}, r_X4_take 92 74 p0 p1 p2 p3 p4 σ = some q → Met l yX4_take (.code yX4_take cX4_take 9 none :: pw) ({ frames := 164 + nn, cells := 0, slots := 0, locals := 4412 + 29 * nn } : Room) (va_Pc [.ref (a 92), .int p0, .int p1, .int p2, .int p3, .int p4] (vPre dC dI (wA a k σ) (tA k) sz)) (qAv dC dI a k (va_A (wA a k σ) sz) q) 0 0 (va_A (wA a k σ) sz)) {r_X4_takeField : Nat → Nat → Int32 → Int32 → Int32 → Int32 → Int32 → ST → Option (ST)} (hr_X4_takeField : ∀ {sz : Nat} {p0 : Int32} {p1 : Int32} {p2 : Int32} {p3 : Int32} {p4 : Int32} {σ : ST} {q : ST}, r_X4_takeField 92 74 p0 p1 p2 p3 p4 σ = some q → Met l yX4_takeField (.code yX4_takeField cX4_takeField 9 none :: pw) ({ frames := 164 + nn, cells := 0, slots := 0, locals := 4412 + 29 * nn } : Room) (va_Pc [.ref (a 92), .int p0, .int p1, .int p2, .int p3, .int p4] (vPre dC dI (wA a k σ) (tA k) sz)) (qAv dC dI a k (va_A (wA a k σ) sz) q) 0 0 (va_A (wA a k σ) sz)) {r_X4_takeList : Nat → Nat → Int32 → Int32 → Int32 → Int32 → Int32 → ST → Option (ST)} (hr_X4_takeList : ∀ {sz : Nat} {p0 : Int32} {p1 : Int32} {p2 : Int32} {p3 : Int32} {p4 : Int32} {σ : ST} {q : ST}, r_X4_takeList 92 74 p0 p1 p2 p3 p4 σ = some q → Met l yX4_takeList (.code yX4_takeList cX4_takeList 10 none :: pw) ({ frames := 164 + nn, cells := 0, slots := 0, locals := 4412 + 29 * nn } : Room) (va_Pc [.ref (a 92), .int p0, .int p1, .int p2, .int p3, .int p4] (vPre dC dI (wA a k σ) (tA k) sz)) (qAv dC dI a k (va_A (wA a k σ) sz) q) 0 0 (va_A (wA a k σ) sz)) {r_X4_takeOwn : Nat → Nat → Int32 → Int32 → Int32 → Int32 → Int32 → ST → Option (ST)} (hr_X4_takeOwn : ∀ {sz : Nat} {p0 : Int32} {p1 : Int32} {p2 : Int32} {p3 : Int32} {p4 : Int32} {σ : ST} {q : ST}, r_X4_takeOwn 92 74 p0 p1 p2 p3 p4 σ = some q → Met l yX4_takeOwn (.code yX4_takeOwn cX4_takeOwn 8 none :: pw) ({ frames := 164 + nn, cells := 0, slots := 0, locals := 4412 + 29 * nn } : Room) (va_Pc [.ref (a 92), .int p0, .int p1, .int p2, .int p3, .int p4] (vPre dC dI (wA a k σ) (tA k) sz)) (qAv dC dI a k (va_A (wA a k σ) sz) q) 0 0 (va_A (wA a k σ) sz)) {r_X4_takeRecord : Nat → Nat → Int32 → Int32 → Int32 → Int32 → Int32 → ST → Option (ST)} (hr_X4_takeRecord : ∀ {sz : Nat} {p0 : Int32} {p1 : Int32} {p2 : Int32} {p3 : Int32} {p4 : Int32} {σ : ST} {q : ST}, r_X4_takeRecord 92 74 p0 p1 p2 p3 p4 σ = some q → Met l yX4_takeRecord (.code yX4_takeRecord cX4_takeRecord 9 none :: pw) ({ frames := 164 + nn, cells := 0, slots := 0, locals := 4412 + 29 * nn } : Room) (va_Pc [.ref (a 92), .int p0, .int p1, .int p2, .int p3, .int p4] (vPre dC dI (wA a k σ) (tA k) sz)) (qAv dC dI a k (va_A (wA a k σ) sz) q) 0 0 (va_A (wA a k σ) sz))  : ∀ (n : Nat) (x1 : Int32) (x2 : Int32) (x3 : Int32) (x4 : Int32) (x5 : Int32) (x6 : Int32) (x7 : Int32) (x8 : Int32) (σ : ST), f_X4_takeField_12 r_X4_take r_X4_takeField r_X4_takeList r_X4_takeOwn r_X4_takeRecord 92 74 n x1 x2 x3 x4 x5 x6 x7 x8 σ = some q → GoA p l e ({ frames := 164 + (nn + 1), cells := 0, slots := 0, locals := 4412 + 29 * (nn + 1) } : Room) s m args below meth c (MQ below (qAv dC dI a k A q) args s 0 0 A) dC dI a k A 9 12 σ [(0, .ref (a 92)), (1, .int x1), (2, .int x2), (3, .int x3), (4, .int x4), (5, .int x5), (6, .int x6), (7, .int x7), (8, .int x8)] [] := by
  intro n
  induction n with
  | zero =>
    intro x1 x2 x3 x4 x5 x6 x7 x8 σ h
    rw [f_X4_takeField_12] at h
    cases h
  | succ n ih =>
    intro x1 x2 x3 x4 x5 x6 x7 x8 σ h
    have hC0 := hC
    obtain ⟨hx, hb, hr, hml, hown, hts, hlocks, hA, hN, hK⟩ := hC0
    intro H locs ls hP hD hS hl
    have hD0 : ∀ σ1 : ST, va_D A (wA a k σ1) := fun σ1 => wA_D hD
    rw [f_X4_takeField_12] at h
    refine lv_iload hx hb dX4_takeField_12 (lv_at hl 8 rfl) ?_
    refine lv_aload_n hx hb dX4_takeField_14 rfl (lv_at hl 0 rfl) ?_
    refine va_get (D := (dC, dI)) (ci := 4) (C := RX4) (T := TX4) (N := 12) hx hb hts inlX4 hown hK hP 92 gA_92 rfl 0 (by decide) (hts (.fieldLink RX4 37 "ShapeReader$Reading" "shapes" "LShapeReader$Shapes;") mw_10_28) (fun _ h9 => h9) rfl dX4_takeField_15 ?_
    refine lv_iload_n hx hb dX4_takeField_18 rfl (lv_at hl 3 rfl) ?_
    obtain ⟨q1, hc, h⟩ := ib h
    have hF := va_frees hD hS hA
    refine va_calli (va_runV (As := [.int x3]) (rest := [.int x8]) ⟨hx, hb, hml, hown, hts⟩ (s_X5_fieldsOf_4 hc) (cwV 1 hts (gV mw_13_5 mw_1_28 mw_1_29 mw_0_9 mw_49_29) rfl rfl rfl (by decide +kernel) ⟨by show 1 + 1 ≤ 164 + (nn + 1); omega, by show 8 + (2 + 11) + 20 ≤ 4412 + 29 * (nn + 1); omega⟩) (vV (ci := 5) (q0 := 4) hK hP hD hN rfl gA_4) rfl rfl hl.1 rfl (lv_room (Nat.le_of_ble_eq_true rfl)) dX4_takeField_19 ⟨(Nat.le_of_ble_eq_true rfl), (Nat.le_of_ble_eq_true rfl)⟩) hS (fun q _ h => hF q h) hF (fun r2 u t H locs ht hvm hw hB _ _ hS => ?_)
    obtain rfl : r2 = q1.1 := hw
    replace hP : va_P (dC, dI) vwCl (wA a k q1.2) H := by rw [← ht]; exact hB.1
    replace hD := hD0 (q1.2)
    clear hB hF
    refine lv_icmp_ge (tgt := 82) hx hb dX4_takeField_22 (by decide) (fun hc => ?_) (fun hc => ?_)
    · replace h := ip hc h
      exact b_X4_takeField_82_92_74 hC hr_X4_take hr_X4_takeField hr_X4_takeList hr_X4_takeOwn hr_X4_takeRecord h _ _ _ hP hD hS (lv_sub hl [0, 1, 5, 7] rfl)
    · replace h := iq hc h
      refine lv_aload_n hx hb dX4_takeField_25 rfl (lv_at hl 0 rfl) ?_
      refine va_get (D := (dC, dI)) (ci := 4) (C := RX4) (T := TX4) (N := 12) hx hb hts inlX4 hown hK hP 92 gA_92 rfl 7 (by decide) (hts (.fieldLink RX4 21 "ShapeReader$Reading" "failure" "I") mw_10_23) (fun _ h9 => h9) rfl dX4_takeField_26 ?_
      refine lv_if_ne (tgt := 82) hx hb dX4_takeField_29 (by decide) (fun hc => ?_) (fun hc => ?_)
      · replace h := iq hc h
        exact b_X4_takeField_82_92_74 hC hr_X4_take hr_X4_takeField hr_X4_takeList hr_X4_takeOwn hr_X4_takeRecord h _ _ _ hP hD hS (lv_sub hl [0, 1, 5, 7] rfl)
      · replace h := ip hc h
        refine lv_aload_n hx hb dX4_takeField_32 rfl (lv_at hl 0 rfl) ?_
        refine lv_iload hx hb dX4_takeField_33 (lv_at hl 5 rfl) ?_
        refine lv_iload hx hb dX4_takeField_35 (lv_at hl 8 rfl) ?_
        obtain ⟨q3, hc, h⟩ := ib h
        have hF := va_frees hD hS hA
        refine va_calli (va_runV (As := [.int x5, .int x8]) (rest := []) ⟨hx, hb, hml, hown, hts⟩ (s_X4_sourceAt_92_74 hc) (cwV 2 hts (gV mw_13_16 mw_13_17 mw_13_18 mw_0_8 mw_49_11) rfl rfl rfl (by decide +kernel) ⟨by show 0 + 1 ≤ 164 + (nn + 1); omega, by show 8 + (3 + 11) + 0 ≤ 4412 + 29 * (nn + 1); omega⟩) (vV (ci := 4) (q0 := 92) hK hP hD hN rfl gA_92) rfl rfl hl.1 rfl (lv_room (Nat.le_of_ble_eq_true rfl)) dX4_takeField_37 ⟨(Nat.le_of_ble_eq_true rfl), (Nat.le_of_ble_eq_true rfl)⟩) hS (fun q _ h => hF q h) hF (fun r4 u t H locs ht hvm hw hB _ _ hS => ?_)
        obtain rfl : r4 = q3.1 := hw
        replace hP : va_P (dC, dI) vwCl (wA a k q3.2) H := by rw [← ht]; exact hB.1
        replace hD := hD0 (q3.2)
        clear hB hF
        refine lv_iload_n hx hb dX4_takeField_40 rfl (lv_at hl 2 rfl) ?_
        refine lv_icmp_ne (tgt := 76) hx hb dX4_takeField_41 (by decide) (fun hc => ?_) (fun hc => ?_)
        · replace h := iq hc h
          exact b_X4_takeField_76_92_74 hC hr_X4_take hr_X4_takeField hr_X4_takeList hr_X4_takeOwn hr_X4_takeRecord ih h _ _ _ hP hD hS (lv_sub hl [0, 1, 2, 3, 4, 5, 6, 7, 8] rfl)
        · replace h := ip hc h
          refine lv_aload_n hx hb dX4_takeField_44 rfl (lv_at hl 0 rfl) ?_
          refine lv_iload hx hb dX4_takeField_45 (lv_at hl 6 rfl) ?_
          refine va_put (D := (dC, dI)) (ci := 4) (ty := .int) (C := RX4) (T := TX4) (N := 12) hx hb hts inlX4 tyX4 tyX4_ok nmX4 hown hK hP hD hS 92 gA_92 rfl 5 (by decide) (hts (.fieldLink RX4 15 "ShapeReader$Reading" "next" "I") mw_10_21) (fun _ h9 => h9) rfl (by decide +kernel) rfl rfl (Nat.le_of_ble_eq_true rfl) dX4_takeField_47 (fun H locs hP hD hS => ?_)
          replace hP := uA_92_5 hP
          replace hD := hD0 ((stI q3.2 92 5 x6))
          refine lv_iconst (v := 1) hx hb dX4_takeField_50 (by decide) ?_
          refine lv_istore (lv' := [(7, .int 1), (0, .ref (a 92)), (1, .int x1), (2, .int x2), (3, .int x3), (4, .int x4), (5, .int x5), (6, .int x6), (8, .int x8)]) hx hb dX4_takeField_51 hl (by decide) rfl (fun ls hl => ?_)
          refine lv_aload_n hx hb dX4_takeField_53 rfl (lv_at hl 1 rfl) ?_
          refine lv_iload_n hx hb dX4_takeField_54 rfl (lv_at hl 2 rfl) ?_
          refine lv_aload_n hx hb dX4_takeField_55 rfl (lv_at hl 1 rfl) ?_
          refine va_get (D := (dC, dI)) (ci := 4) (C := RX4) (T := TX4) (N := 12) hx hb hts inlX4 hown hK hP 92 gA_92 rfl 0 (by decide) (hts (.fieldLink RX4 37 "ShapeReader$Reading" "shapes" "LShapeReader$Shapes;") mw_10_28) (fun _ h9 => h9) rfl dX4_takeField_56 ?_
          refine lv_iload_n hx hb dX4_takeField_59 rfl (lv_at hl 4 rfl) ?_
          refine lv_iload hx hb dX4_takeField_60 (lv_at hl 8 rfl) ?_
          obtain ⟨q5, hc, h⟩ := ib h
          have hF := va_frees hD hS hA
          refine va_calli (va_runV (As := [.int x3, .int x8]) (rest := [.int x1, .ref (a 92)]) ⟨hx, hb, hml, hown, hts⟩ (s_X5_typeOf_4 hc) (cwV 2 hts (gV mw_13_12 mw_2_7 mw_2_8 mw_0_9 mw_50_3) rfl rfl rfl (by decide +kernel) ⟨by show 1 + 1 ≤ 164 + (nn + 1); omega, by show 8 + (3 + 11) + 21 ≤ 4412 + 29 * (nn + 1); omega⟩) (vV (ci := 5) (q0 := 4) hK hP hD hN rfl gA_4) rfl rfl hl.1 rfl (lv_room (Nat.le_of_ble_eq_true rfl)) dX4_takeField_62 ⟨(Nat.le_of_ble_eq_true rfl), (Nat.le_of_ble_eq_true rfl)⟩) hS (fun q _ h => hF q h) hF (fun r6 u t H locs ht hvm hw hB _ _ hS => ?_)
          obtain rfl : r6 = q5.1 := hw
          replace hP : va_P (dC, dI) vwCl (wA a k q5.2) H := by rw [← ht]; exact hB.1
          replace hD := hD0 (q5.2)
          clear hB hF
          refine lv_iload hx hb dX4_takeField_65 (lv_at hl 5 rfl) ?_
          refine lv_iload hx hb dX4_takeField_67 (lv_at hl 8 rfl) ?_
          refine lv_iload hx hb dX4_takeField_69 (lv_at hl 6 rfl) ?_
          refine lv_iconst (v := 1) hx hb dX4_takeField_71 (by decide) ?_
          refine lv_iadd hx hb dX4_takeField_72 ?_
          obtain ⟨q7, hc, h⟩ := ib h
          have hF := va_frees hD hS hA
          refine va_callv (va_runV (As := [.int x1, .int q5.1, .int x4, .int x8, .int (x5 + 1)]) (rest := []) ⟨hx, hb, hml, hown, hts⟩ (hr_X4_take hc) (cwV 5 hts (gV mw_11_12 mw_11_13 mw_11_14 mw_0_8 mw_49_5) rfl rfl rfl (by decide +kernel) ⟨by show (164 + nn) + 1 ≤ 164 + (nn + 1); omega, by show 8 + (9 + 11) + (4412 + 29 * nn) ≤ 4412 + 29 * (nn + 1); omega⟩) (vV (ci := 4) (q0 := 92) hK hP hD hN rfl gA_92) rfl rfl hl.1 rfl (lv_room (Nat.le_of_ble_eq_true rfl)) dX4_takeField_73 ⟨(Nat.le_of_ble_eq_true rfl), (Nat.le_of_ble_eq_true rfl)⟩) hS (fun q _ h => hF q h) hF (fun u t H locs ht hvm hw hB _ _ hS => ?_)
          replace hP : va_P (dC, dI) vwCl (wA a k q7) H := by rw [← ht]; exact hB.1
          replace hD := hD0 (q7)
          clear hB hF
          exact b_X4_takeField_76_92_74 hC hr_X4_take hr_X4_takeField hr_X4_takeList hr_X4_takeOwn hr_X4_takeRecord ih h _ _ _ hP hD hS (lv_sub hl [1, 2, 3, 4, 5, 6, 7, 0, 8] rfl)

set_option maxRecDepth 100000 in
set_option maxHeartbeats 4000000 in
theorem b_X4_takeField_e_92_74 {p : Program} {l : Launch} {e : Env} {s : State} {m : MethodId} {args : Array Value} {below : List Frame} {meth : Method} {c : Code} {dC : Nat → ClassId} {dI : Nat → Nat → Nat} {a : Nat → Nat} {k : Nat → ClassId} {A : Nat → Prop} {q : ST} (hC : CxA p s m args meth c dC dI k A cX4_takeField RX4 none 9) {nn : Nat} {r_X4_take : Nat → Nat → Int32 → Int32 → Int32 → Int32 → Int32 → ST → Option (ST)} (hr_X4_take : ∀ {sz : Nat} {p0 : Int32} {p1 : Int32} {p2 : Int32} {p3 : Int32} {p4 : Int32} {σ : ST} {q : ST}, r_X4_take 92 74 p0 p1 p2 p3 p4 σ = some q → Met l yX4_take (.code yX4_take cX4_take 9 none :: pw) ({ frames := 164 + nn, cells := 0, slots := 0, locals := 4412 + 29 * nn } : Room) (va_Pc [.ref (a 92), .int p0, .int p1, .int p2, .int p3, .int p4] (vPre dC dI (wA a k σ) (tA k) sz)) (qAv dC dI a k (va_A (wA a k σ) sz) q) 0 0 (va_A (wA a k σ) sz)) {r_X4_takeField : Nat → Nat → Int32 → Int32 → Int32 → Int32 → Int32 → ST → Option (ST)} (hr_X4_takeField : ∀ {sz : Nat} {p0 : Int32} {p1 : Int32} {p2 : Int32} {p3 : Int32} {p4 : Int32} {σ : ST} {q : ST}, r_X4_takeField 92 74 p0 p1 p2 p3 p4 σ = some q → Met l yX4_takeField (.code yX4_takeField cX4_takeField 9 none :: pw) ({ frames := 164 + nn, cells := 0, slots := 0, locals := 4412 + 29 * nn } : Room) (va_Pc [.ref (a 92), .int p0, .int p1, .int p2, .int p3, .int p4] (vPre dC dI (wA a k σ) (tA k) sz)) (qAv dC dI a k (va_A (wA a k σ) sz) q) 0 0 (va_A (wA a k σ) sz)) {r_X4_takeList : Nat → Nat → Int32 → Int32 → Int32 → Int32 → Int32 → ST → Option (ST)} (hr_X4_takeList : ∀ {sz : Nat} {p0 : Int32} {p1 : Int32} {p2 : Int32} {p3 : Int32} {p4 : Int32} {σ : ST} {q : ST}, r_X4_takeList 92 74 p0 p1 p2 p3 p4 σ = some q → Met l yX4_takeList (.code yX4_takeList cX4_takeList 10 none :: pw) ({ frames := 164 + nn, cells := 0, slots := 0, locals := 4412 + 29 * nn } : Room) (va_Pc [.ref (a 92), .int p0, .int p1, .int p2, .int p3, .int p4] (vPre dC dI (wA a k σ) (tA k) sz)) (qAv dC dI a k (va_A (wA a k σ) sz) q) 0 0 (va_A (wA a k σ) sz)) {r_X4_takeOwn : Nat → Nat → Int32 → Int32 → Int32 → Int32 → Int32 → ST → Option (ST)} (hr_X4_takeOwn : ∀ {sz : Nat} {p0 : Int32} {p1 : Int32} {p2 : Int32} {p3 : Int32} {p4 : Int32} {σ : ST} {q : ST}, r_X4_takeOwn 92 74 p0 p1 p2 p3 p4 σ = some q → Met l yX4_takeOwn (.code yX4_takeOwn cX4_takeOwn 8 none :: pw) ({ frames := 164 + nn, cells := 0, slots := 0, locals := 4412 + 29 * nn } : Room) (va_Pc [.ref (a 92), .int p0, .int p1, .int p2, .int p3, .int p4] (vPre dC dI (wA a k σ) (tA k) sz)) (qAv dC dI a k (va_A (wA a k σ) sz) q) 0 0 (va_A (wA a k σ) sz)) {r_X4_takeRecord : Nat → Nat → Int32 → Int32 → Int32 → Int32 → Int32 → ST → Option (ST)} (hr_X4_takeRecord : ∀ {sz : Nat} {p0 : Int32} {p1 : Int32} {p2 : Int32} {p3 : Int32} {p4 : Int32} {σ : ST} {q : ST}, r_X4_takeRecord 92 74 p0 p1 p2 p3 p4 σ = some q → Met l yX4_takeRecord (.code yX4_takeRecord cX4_takeRecord 9 none :: pw) ({ frames := 164 + nn, cells := 0, slots := 0, locals := 4412 + 29 * nn } : Room) (va_Pc [.ref (a 92), .int p0, .int p1, .int p2, .int p3, .int p4] (vPre dC dI (wA a k σ) (tA k) sz)) (qAv dC dI a k (va_A (wA a k σ) sz) q) 0 0 (va_A (wA a k σ) sz))  {p0 : Int32} {p1 : Int32} {p2 : Int32} {p3 : Int32} {p4 : Int32} {σ : ST} (h : f_X4_takeField r_X4_take r_X4_takeField r_X4_takeList r_X4_takeOwn r_X4_takeRecord 92 74 p0 p1 p2 p3 p4 σ = some q) : GoA p l e ({ frames := 164 + (nn + 1), cells := 0, slots := 0, locals := 4412 + 29 * (nn + 1) } : Room) s m args below meth c (MQ below (qAv dC dI a k A q) args s 0 0 A) dC dI a k A 9 0 σ (lv_args 0 [.ref (a 92), .int p0, .int p1, .int p2, .int p3, .int p4]) [] := by
  have hC0 := hC
  obtain ⟨hx, hb, hr, hml, hown, hts, hlocks, hA, hN, hK⟩ := hC0
  intro H locs ls hP hD hS hl
  have hD0 : ∀ σ1 : ST, va_D A (wA a k σ1) := fun σ1 => wA_D hD
  replace hl : lv_has ls 9 [(0, .ref (a 92)), (1, .int p0), (2, .int p1), (3, .int p2), (4, .int p3), (5, .int p4)] := hl
  unfold f_X4_takeField at h
  refine lv_aload_n hx hb dX4_takeField_0 rfl (lv_at hl 0 rfl) ?_
  refine va_get (D := (dC, dI)) (ci := 4) (C := RX4) (T := TX4) (N := 12) hx hb hts inlX4 hown hK hP 92 gA_92 rfl 5 (by decide) (hts (.fieldLink RX4 15 "ShapeReader$Reading" "next" "I") mw_10_21) (fun _ h9 => h9) rfl dX4_takeField_1 ?_
  refine lv_istore (lv' := [(6, .int (σ.1 92 5)), (0, .ref (a 92)), (1, .int p0), (2, .int p1), (3, .int p2), (4, .int p3), (5, .int p4)]) hx hb dX4_takeField_4 hl (by decide) rfl (fun ls hl => ?_)
  refine lv_iconst (v := 0) hx hb dX4_takeField_6 (by decide) ?_
  refine lv_istore (lv' := [(7, .int 0), (6, .int (σ.1 92 5)), (0, .ref (a 92)), (1, .int p0), (2, .int p1), (3, .int p2), (4, .int p3), (5, .int p4)]) hx hb dX4_takeField_7 hl (by decide) rfl (fun ls hl => ?_)
  refine lv_iconst (v := 0) hx hb dX4_takeField_9 (by decide) ?_
  refine lv_istore (lv' := [(8, .int 0), (7, .int 0), (6, .int (σ.1 92 5)), (0, .ref (a 92)), (1, .int p0), (2, .int p1), (3, .int p2), (4, .int p3), (5, .int p4)]) hx hb dX4_takeField_10 hl (by decide) rfl (fun ls hl => ?_)
  exact b_X4_takeField_12_92_74 hC hr_X4_take hr_X4_takeField hr_X4_takeList hr_X4_takeOwn hr_X4_takeRecord FU _ _ _ _ _ _ _ _ _ h _ _ _ hP hD hS (lv_sub hl [3, 4, 5, 6, 7, 8, 2, 1, 0] rfl)


set_option maxRecDepth 100000 in
set_option maxHeartbeats 4000000 in
theorem b_X4_takeList_48_92_74 {p : Program} {l : Launch} {e : Env} {s : State} {m : MethodId} {args : Array Value} {below : List Frame} {meth : Method} {c : Code} {dC : Nat → ClassId} {dI : Nat → Nat → Nat} {a : Nat → Nat} {k : Nat → ClassId} {A : Nat → Prop} {q : ST} (hC : CxA p s m args meth c dC dI k A cX4_takeList RX4 none 10) {nn : Nat} {r_X4_take : Nat → Nat → Int32 → Int32 → Int32 → Int32 → Int32 → ST → Option (ST)} (hr_X4_take : ∀ {sz : Nat} {p0 : Int32} {p1 : Int32} {p2 : Int32} {p3 : Int32} {p4 : Int32} {σ : ST} {q : ST}, r_X4_take 92 74 p0 p1 p2 p3 p4 σ = some q → Met l yX4_take (.code yX4_take cX4_take 9 none :: pw) ({ frames := 164 + nn, cells := 0, slots := 0, locals := 4412 + 29 * nn } : Room) (va_Pc [.ref (a 92), .int p0, .int p1, .int p2, .int p3, .int p4] (vPre dC dI (wA a k σ) (tA k) sz)) (qAv dC dI a k (va_A (wA a k σ) sz) q) 0 0 (va_A (wA a k σ) sz)) {r_X4_takeField : Nat → Nat → Int32 → Int32 → Int32 → Int32 → Int32 → ST → Option (ST)} (hr_X4_takeField : ∀ {sz : Nat} {p0 : Int32} {p1 : Int32} {p2 : Int32} {p3 : Int32} {p4 : Int32} {σ : ST} {q : ST}, r_X4_takeField 92 74 p0 p1 p2 p3 p4 σ = some q → Met l yX4_takeField (.code yX4_takeField cX4_takeField 9 none :: pw) ({ frames := 164 + nn, cells := 0, slots := 0, locals := 4412 + 29 * nn } : Room) (va_Pc [.ref (a 92), .int p0, .int p1, .int p2, .int p3, .int p4] (vPre dC dI (wA a k σ) (tA k) sz)) (qAv dC dI a k (va_A (wA a k σ) sz) q) 0 0 (va_A (wA a k σ) sz)) {r_X4_takeList : Nat → Nat → Int32 → Int32 → Int32 → Int32 → Int32 → ST → Option (ST)} (hr_X4_takeList : ∀ {sz : Nat} {p0 : Int32} {p1 : Int32} {p2 : Int32} {p3 : Int32} {p4 : Int32} {σ : ST} {q : ST}, r_X4_takeList 92 74 p0 p1 p2 p3 p4 σ = some q → Met l yX4_takeList (.code yX4_takeList cX4_takeList 10 none :: pw) ({ frames := 164 + nn, cells := 0, slots := 0, locals := 4412 + 29 * nn } : Room) (va_Pc [.ref (a 92), .int p0, .int p1, .int p2, .int p3, .int p4] (vPre dC dI (wA a k σ) (tA k) sz)) (qAv dC dI a k (va_A (wA a k σ) sz) q) 0 0 (va_A (wA a k σ) sz)) {r_X4_takeOwn : Nat → Nat → Int32 → Int32 → Int32 → Int32 → Int32 → ST → Option (ST)} (hr_X4_takeOwn : ∀ {sz : Nat} {p0 : Int32} {p1 : Int32} {p2 : Int32} {p3 : Int32} {p4 : Int32} {σ : ST} {q : ST}, r_X4_takeOwn 92 74 p0 p1 p2 p3 p4 σ = some q → Met l yX4_takeOwn (.code yX4_takeOwn cX4_takeOwn 8 none :: pw) ({ frames := 164 + nn, cells := 0, slots := 0, locals := 4412 + 29 * nn } : Room) (va_Pc [.ref (a 92), .int p0, .int p1, .int p2, .int p3, .int p4] (vPre dC dI (wA a k σ) (tA k) sz)) (qAv dC dI a k (va_A (wA a k σ) sz) q) 0 0 (va_A (wA a k σ) sz)) {r_X4_takeRecord : Nat → Nat → Int32 → Int32 → Int32 → Int32 → Int32 → ST → Option (ST)} (hr_X4_takeRecord : ∀ {sz : Nat} {p0 : Int32} {p1 : Int32} {p2 : Int32} {p3 : Int32} {p4 : Int32} {σ : ST} {q : ST}, r_X4_takeRecord 92 74 p0 p1 p2 p3 p4 σ = some q → Met l yX4_takeRecord (.code yX4_takeRecord cX4_takeRecord 9 none :: pw) ({ frames := 164 + nn, cells := 0, slots := 0, locals := 4412 + 29 * nn } : Room) (va_Pc [.ref (a 92), .int p0, .int p1, .int p2, .int p3, .int p4] (vPre dC dI (wA a k σ) (tA k) sz)) (qAv dC dI a k (va_A (wA a k σ) sz) q) 0 0 (va_A (wA a k σ) sz))  : ∀ (n : Nat) (x1 : Int32) (x5 : Int32) (x6 : Int32) (x7 : Int32) (x8 : Int32) (x9 : Int32) (σ : ST), f_X4_takeList_48 r_X4_take r_X4_takeField r_X4_takeList r_X4_takeOwn r_X4_takeRecord 92 74 n x1 x5 x6 x7 x8 x9 σ = some q → GoA p l e ({ frames := 164 + (nn + 1), cells := 0, slots := 0, locals := 4412 + 29 * (nn + 1) } : Room) s m args below meth c (MQ below (qAv dC dI a k A q) args s 0 0 A) dC dI a k A 10 48 σ [(0, .ref (a 92)), (1, .int x1), (5, .int x5), (6, .int x6), (7, .int x7), (8, .int x8), (9, .int x9)] [] := by
  intro n
  induction n with
  | zero =>
    intro x1 x5 x6 x7 x8 x9 σ h
    rw [f_X4_takeList_48] at h
    cases h
  | succ n ih =>
    intro x1 x5 x6 x7 x8 x9 σ h
    have hC0 := hC
    obtain ⟨hx, hb, hr, hml, hown, hts, hlocks, hA, hN, hK⟩ := hC0
    intro H locs ls hP hD hS hl
    have hD0 : ∀ σ1 : ST, va_D A (wA a k σ1) := fun σ1 => wA_D hD
    rw [f_X4_takeList_48] at h
    refine lv_iload hx hb dX4_takeList_48 (lv_at hl 6 rfl) ?_
    refine lv_iload hx hb dX4_takeList_50 (lv_at hl 3 rfl) ?_
    refine lv_icmp_ge (tgt := 96) hx hb dX4_takeList_52 (by decide) (fun hc => ?_) (fun hc => ?_)
    · replace h := ip hc h
      obtain rfl := Option.some.inj h
      exact W.vret hx hb hr (fun t ht hW => ⟨⟨(), rfl, trivial, ⟨by rw [ht]; exact hP, va_K.moved hW.alike hK, hD⟩⟩, hS.F ht⟩) hS.2.2 dX4_takeList_96
    · replace h := iq hc h
      refine lv_aload_n hx hb dX4_takeList_55 rfl (lv_at hl 0 rfl) ?_
      refine va_get (D := (dC, dI)) (ci := 4) (C := RX4) (T := TX4) (N := 12) hx hb hts inlX4 hown hK hP 92 gA_92 rfl 7 (by decide) (hts (.fieldLink RX4 21 "ShapeReader$Reading" "failure" "I") mw_10_23) (fun _ h9 => h9) rfl dX4_takeList_56 ?_
      refine lv_if_ne (tgt := 96) hx hb dX4_takeList_59 (by decide) (fun hc => ?_) (fun hc => ?_)
      · replace h := iq hc h
        obtain rfl := Option.some.inj h
        exact W.vret hx hb hr (fun t ht hW => ⟨⟨(), rfl, trivial, ⟨by rw [ht]; exact hP, va_K.moved hW.alike hK, hD⟩⟩, hS.F ht⟩) hS.2.2 dX4_takeList_96
      · replace h := ip hc h
        refine lv_aload_n hx hb dX4_takeList_62 rfl (lv_at hl 0 rfl) ?_
        refine lv_bipush (v := 100) hx hb dX4_takeList_63 (by decide) ?_
        refine lv_iload hx hb dX4_takeList_65 (lv_at hl 6 rfl) ?_
        refine lv_iadd hx hb dX4_takeList_67 ?_
        obtain ⟨q1, hc, h⟩ := ib h
        have hF := va_frees hD hS hA
        refine va_callv (va_runV (As := [.int (100 + x9)]) (rest := []) ⟨hx, hb, hml, hown, hts⟩ (s_X4_step_92_74 hc) (cwV 1 hts (gV mw_12_8 mw_12_9 mw_12_10 mw_0_8 mw_49_3) rfl rfl rfl (by decide +kernel) ⟨by show 0 + 1 ≤ 164 + (nn + 1); omega, by show 8 + (2 + 11) + 0 ≤ 4412 + 29 * (nn + 1); omega⟩) (vV (ci := 4) (q0 := 92) hK hP hD hN rfl gA_92) rfl rfl hl.1 rfl (lv_room (Nat.le_of_ble_eq_true rfl)) dX4_takeList_68 ⟨(Nat.le_of_ble_eq_true rfl), (Nat.le_of_ble_eq_true rfl)⟩) hS (fun q _ h => hF q h) hF (fun u t H locs ht hvm hw hB _ _ hS => ?_)
        replace hP : va_P (dC, dI) vwCl (wA a k q1) H := by rw [← ht]; exact hB.1
        replace hD := hD0 (q1)
        clear hB hF
        refine lv_aload_n hx hb dX4_takeList_71 rfl (lv_at hl 0 rfl) ?_
        refine lv_iload_n hx hb dX4_takeList_72 rfl (lv_at hl 1 rfl) ?_
        refine lv_iload hx hb dX4_takeList_73 (lv_at hl 5 rfl) ?_
        refine lv_iload hx hb dX4_takeList_75 (lv_at hl 4 rfl) ?_
        refine lv_iload hx hb dX4_takeList_77 (lv_at hl 6 rfl) ?_
        refine lv_iload hx hb dX4_takeList_79 (lv_at hl 2 rfl) ?_
        refine lv_iconst (v := 1) hx hb dX4_takeList_81 (by decide) ?_
        refine lv_iadd hx hb dX4_takeList_82 ?_
        obtain ⟨q3, hc, h⟩ := ib h
        have hF := va_frees hD hS hA
        refine va_callv (va_runV (As := [.int x1, .int x8, .int x7, .int x9, .int (x5 + 1)]) (rest := []) ⟨hx, hb, hml, hown, hts⟩ (hr_X4_take hc) (cwV 5 hts (gV mw_11_12 mw_11_13 mw_11_14 mw_0_8 mw_49_5) rfl rfl rfl (by decide +kernel) ⟨by show (164 + nn) + 1 ≤ 164 + (nn + 1); omega, by show 8 + (9 + 11) + (4412 + 29 * nn) ≤ 4412 + 29 * (nn + 1); omega⟩) (vV (ci := 4) (q0 := 92) hK hP hD hN rfl gA_92) rfl rfl hl.1 rfl (lv_room (Nat.le_of_ble_eq_true rfl)) dX4_takeList_83 ⟨(Nat.le_of_ble_eq_true rfl), (Nat.le_of_ble_eq_true rfl)⟩) hS (fun q _ h => hF q h) hF (fun u t H locs ht hvm hw hB _ _ hS => ?_)
        replace hP : va_P (dC, dI) vwCl (wA a k q3) H := by rw [← ht]; exact hB.1
        replace hD := hD0 (q3)
        clear hB hF
        refine lv_aload_n hx hb dX4_takeList_86 rfl (lv_at hl 0 rfl) ?_
        obtain ⟨q5, hc, h⟩ := ib h
        have hF := va_frees hD hS hA
        refine va_callv (va_runV (As := []) (rest := []) ⟨hx, hb, hml, hown, hts⟩ (s_X4_stepBack_92_74 hc) (cwV 0 hts (gV mw_12_12 mw_12_13 mw_12_14 mw_0_8 mw_49_4) rfl rfl rfl (by decide +kernel) ⟨by show 0 + 1 ≤ 164 + (nn + 1); omega, by show 8 + (1 + 11) + 0 ≤ 4412 + 29 * (nn + 1); omega⟩) (vV (ci := 4) (q0 := 92) hK hP hD hN rfl gA_92) rfl rfl hl.1 rfl (lv_room (Nat.le_of_ble_eq_true rfl)) dX4_takeList_87 ⟨(Nat.le_of_ble_eq_true rfl), (Nat.le_of_ble_eq_true rfl)⟩) hS (fun q _ h => hF q h) hF (fun u t H locs ht hvm hw hB _ _ hS => ?_)
        replace hP : va_P (dC, dI) vwCl (wA a k q5) H := by rw [← ht]; exact hB.1
        replace hD := hD0 (q5)
        clear hB hF
        refine lv_iinc (v := (x9 + 1)) (lv' := [(9, .int (x9 + 1)), (0, .ref (a 92)), (1, .int x1), (5, .int x5), (6, .int x6), (7, .int x7), (8, .int x8)]) hx hb dX4_takeList_90 hl (k := 6) rfl rfl (by decide) rfl (fun ls hl => ?_)
        refine lv_goto (tgt := 48) hx hb dX4_takeList_93 (by decide) ?_
        exact ih _ _ _ _ _ _ _ h _ _ _ hP hD hS (lv_sub hl [1, 2, 3, 4, 5, 6, 0] rfl)

set_option maxRecDepth 100000 in
set_option maxHeartbeats 4000000 in
theorem b_X4_takeList_43_92_74 {p : Program} {l : Launch} {e : Env} {s : State} {m : MethodId} {args : Array Value} {below : List Frame} {meth : Method} {c : Code} {dC : Nat → ClassId} {dI : Nat → Nat → Nat} {a : Nat → Nat} {k : Nat → ClassId} {A : Nat → Prop} {q : ST} (hC : CxA p s m args meth c dC dI k A cX4_takeList RX4 none 10) {nn : Nat} {r_X4_take : Nat → Nat → Int32 → Int32 → Int32 → Int32 → Int32 → ST → Option (ST)} (hr_X4_take : ∀ {sz : Nat} {p0 : Int32} {p1 : Int32} {p2 : Int32} {p3 : Int32} {p4 : Int32} {σ : ST} {q : ST}, r_X4_take 92 74 p0 p1 p2 p3 p4 σ = some q → Met l yX4_take (.code yX4_take cX4_take 9 none :: pw) ({ frames := 164 + nn, cells := 0, slots := 0, locals := 4412 + 29 * nn } : Room) (va_Pc [.ref (a 92), .int p0, .int p1, .int p2, .int p3, .int p4] (vPre dC dI (wA a k σ) (tA k) sz)) (qAv dC dI a k (va_A (wA a k σ) sz) q) 0 0 (va_A (wA a k σ) sz)) {r_X4_takeField : Nat → Nat → Int32 → Int32 → Int32 → Int32 → Int32 → ST → Option (ST)} (hr_X4_takeField : ∀ {sz : Nat} {p0 : Int32} {p1 : Int32} {p2 : Int32} {p3 : Int32} {p4 : Int32} {σ : ST} {q : ST}, r_X4_takeField 92 74 p0 p1 p2 p3 p4 σ = some q → Met l yX4_takeField (.code yX4_takeField cX4_takeField 9 none :: pw) ({ frames := 164 + nn, cells := 0, slots := 0, locals := 4412 + 29 * nn } : Room) (va_Pc [.ref (a 92), .int p0, .int p1, .int p2, .int p3, .int p4] (vPre dC dI (wA a k σ) (tA k) sz)) (qAv dC dI a k (va_A (wA a k σ) sz) q) 0 0 (va_A (wA a k σ) sz)) {r_X4_takeList : Nat → Nat → Int32 → Int32 → Int32 → Int32 → Int32 → ST → Option (ST)} (hr_X4_takeList : ∀ {sz : Nat} {p0 : Int32} {p1 : Int32} {p2 : Int32} {p3 : Int32} {p4 : Int32} {σ : ST} {q : ST}, r_X4_takeList 92 74 p0 p1 p2 p3 p4 σ = some q → Met l yX4_takeList (.code yX4_takeList cX4_takeList 10 none :: pw) ({ frames := 164 + nn, cells := 0, slots := 0, locals := 4412 + 29 * nn } : Room) (va_Pc [.ref (a 92), .int p0, .int p1, .int p2, .int p3, .int p4] (vPre dC dI (wA a k σ) (tA k) sz)) (qAv dC dI a k (va_A (wA a k σ) sz) q) 0 0 (va_A (wA a k σ) sz)) {r_X4_takeOwn : Nat → Nat → Int32 → Int32 → Int32 → Int32 → Int32 → ST → Option (ST)} (hr_X4_takeOwn : ∀ {sz : Nat} {p0 : Int32} {p1 : Int32} {p2 : Int32} {p3 : Int32} {p4 : Int32} {σ : ST} {q : ST}, r_X4_takeOwn 92 74 p0 p1 p2 p3 p4 σ = some q → Met l yX4_takeOwn (.code yX4_takeOwn cX4_takeOwn 8 none :: pw) ({ frames := 164 + nn, cells := 0, slots := 0, locals := 4412 + 29 * nn } : Room) (va_Pc [.ref (a 92), .int p0, .int p1, .int p2, .int p3, .int p4] (vPre dC dI (wA a k σ) (tA k) sz)) (qAv dC dI a k (va_A (wA a k σ) sz) q) 0 0 (va_A (wA a k σ) sz)) {r_X4_takeRecord : Nat → Nat → Int32 → Int32 → Int32 → Int32 → Int32 → ST → Option (ST)} (hr_X4_takeRecord : ∀ {sz : Nat} {p0 : Int32} {p1 : Int32} {p2 : Int32} {p3 : Int32} {p4 : Int32} {σ : ST} {q : ST}, r_X4_takeRecord 92 74 p0 p1 p2 p3 p4 σ = some q → Met l yX4_takeRecord (.code yX4_takeRecord cX4_takeRecord 9 none :: pw) ({ frames := 164 + nn, cells := 0, slots := 0, locals := 4412 + 29 * nn } : Room) (va_Pc [.ref (a 92), .int p0, .int p1, .int p2, .int p3, .int p4] (vPre dC dI (wA a k σ) (tA k) sz)) (qAv dC dI a k (va_A (wA a k σ) sz) q) 0 0 (va_A (wA a k σ) sz))  {x1 : Int32} {x5 : Int32} {x6 : Int32} {x7 : Int32} {y0 : Int32} {σ : ST} (h : f_X4_takeList_43 r_X4_take r_X4_takeField r_X4_takeList r_X4_takeOwn r_X4_takeRecord 92 74 x1 x5 x6 x7 y0 σ = some q) : GoA p l e ({ frames := 164 + (nn + 1), cells := 0, slots := 0, locals := 4412 + 29 * (nn + 1) } : Room) s m args below meth c (MQ below (qAv dC dI a k A q) args s 0 0 A) dC dI a k A 10 43 σ [(0, .ref (a 92)), (1, .int x1), (5, .int x5), (6, .int x6), (7, .int x7)] [.int y0] := by
  have hC0 := hC
  obtain ⟨hx, hb, hr, hml, hown, hts, hlocks, hA, hN, hK⟩ := hC0
  intro H locs ls hP hD hS hl
  have hD0 : ∀ σ1 : ST, va_D A (wA a k σ1) := fun σ1 => wA_D hD
  unfold f_X4_takeList_43 at h
  refine lv_istore (lv' := [(8, .int y0), (0, .ref (a 92)), (1, .int x1), (5, .int x5), (6, .int x6), (7, .int x7)]) hx hb dX4_takeList_43 hl (by decide) rfl (fun ls hl => ?_)
  refine lv_iconst (v := 0) hx hb dX4_takeList_45 (by decide) ?_
  refine lv_istore (lv' := [(9, .int 0), (8, .int y0), (0, .ref (a 92)), (1, .int x1), (5, .int x5), (6, .int x6), (7, .int x7)]) hx hb dX4_takeList_46 hl (by decide) rfl (fun ls hl => ?_)
  exact b_X4_takeList_48_92_74 hC hr_X4_take hr_X4_takeField hr_X4_takeList hr_X4_takeOwn hr_X4_takeRecord FU _ _ _ _ _ _ _ h _ _ _ hP hD hS (lv_sub hl [2, 3, 4, 5, 6, 1, 0] rfl)

set_option maxRecDepth 100000 in
set_option maxHeartbeats 4000000 in
theorem b_X4_takeList_e_92_74 {p : Program} {l : Launch} {e : Env} {s : State} {m : MethodId} {args : Array Value} {below : List Frame} {meth : Method} {c : Code} {dC : Nat → ClassId} {dI : Nat → Nat → Nat} {a : Nat → Nat} {k : Nat → ClassId} {A : Nat → Prop} {q : ST} (hC : CxA p s m args meth c dC dI k A cX4_takeList RX4 none 10) {nn : Nat} {r_X4_take : Nat → Nat → Int32 → Int32 → Int32 → Int32 → Int32 → ST → Option (ST)} (hr_X4_take : ∀ {sz : Nat} {p0 : Int32} {p1 : Int32} {p2 : Int32} {p3 : Int32} {p4 : Int32} {σ : ST} {q : ST}, r_X4_take 92 74 p0 p1 p2 p3 p4 σ = some q → Met l yX4_take (.code yX4_take cX4_take 9 none :: pw) ({ frames := 164 + nn, cells := 0, slots := 0, locals := 4412 + 29 * nn } : Room) (va_Pc [.ref (a 92), .int p0, .int p1, .int p2, .int p3, .int p4] (vPre dC dI (wA a k σ) (tA k) sz)) (qAv dC dI a k (va_A (wA a k σ) sz) q) 0 0 (va_A (wA a k σ) sz)) {r_X4_takeField : Nat → Nat → Int32 → Int32 → Int32 → Int32 → Int32 → ST → Option (ST)} (hr_X4_takeField : ∀ {sz : Nat} {p0 : Int32} {p1 : Int32} {p2 : Int32} {p3 : Int32} {p4 : Int32} {σ : ST} {q : ST}, r_X4_takeField 92 74 p0 p1 p2 p3 p4 σ = some q → Met l yX4_takeField (.code yX4_takeField cX4_takeField 9 none :: pw) ({ frames := 164 + nn, cells := 0, slots := 0, locals := 4412 + 29 * nn } : Room) (va_Pc [.ref (a 92), .int p0, .int p1, .int p2, .int p3, .int p4] (vPre dC dI (wA a k σ) (tA k) sz)) (qAv dC dI a k (va_A (wA a k σ) sz) q) 0 0 (va_A (wA a k σ) sz)) {r_X4_takeList : Nat → Nat → Int32 → Int32 → Int32 → Int32 → Int32 → ST → Option (ST)} (hr_X4_takeList : ∀ {sz : Nat} {p0 : Int32} {p1 : Int32} {p2 : Int32} {p3 : Int32} {p4 : Int32} {σ : ST} {q : ST}, r_X4_takeList 92 74 p0 p1 p2 p3 p4 σ = some q → Met l yX4_takeList (.code yX4_takeList cX4_takeList 10 none :: pw) ({ frames := 164 + nn, cells := 0, slots := 0, locals := 4412 + 29 * nn } : Room) (va_Pc [.ref (a 92), .int p0, .int p1, .int p2, .int p3, .int p4] (vPre dC dI (wA a k σ) (tA k) sz)) (qAv dC dI a k (va_A (wA a k σ) sz) q) 0 0 (va_A (wA a k σ) sz)) {r_X4_takeOwn : Nat → Nat → Int32 → Int32 → Int32 → Int32 → Int32 → ST → Option (ST)} (hr_X4_takeOwn : ∀ {sz : Nat} {p0 : Int32} {p1 : Int32} {p2 : Int32} {p3 : Int32} {p4 : Int32} {σ : ST} {q : ST}, r_X4_takeOwn 92 74 p0 p1 p2 p3 p4 σ = some q → Met l yX4_takeOwn (.code yX4_takeOwn cX4_takeOwn 8 none :: pw) ({ frames := 164 + nn, cells := 0, slots := 0, locals := 4412 + 29 * nn } : Room) (va_Pc [.ref (a 92), .int p0, .int p1, .int p2, .int p3, .int p4] (vPre dC dI (wA a k σ) (tA k) sz)) (qAv dC dI a k (va_A (wA a k σ) sz) q) 0 0 (va_A (wA a k σ) sz)) {r_X4_takeRecord : Nat → Nat → Int32 → Int32 → Int32 → Int32 → Int32 → ST → Option (ST)} (hr_X4_takeRecord : ∀ {sz : Nat} {p0 : Int32} {p1 : Int32} {p2 : Int32} {p3 : Int32} {p4 : Int32} {σ : ST} {q : ST}, r_X4_takeRecord 92 74 p0 p1 p2 p3 p4 σ = some q → Met l yX4_takeRecord (.code yX4_takeRecord cX4_takeRecord 9 none :: pw) ({ frames := 164 + nn, cells := 0, slots := 0, locals := 4412 + 29 * nn } : Room) (va_Pc [.ref (a 92), .int p0, .int p1, .int p2, .int p3, .int p4] (vPre dC dI (wA a k σ) (tA k) sz)) (qAv dC dI a k (va_A (wA a k σ) sz) q) 0 0 (va_A (wA a k σ) sz))  {p0 : Int32} {p1 : Int32} {p2 : Int32} {p3 : Int32} {p4 : Int32} {σ : ST} (h : f_X4_takeList r_X4_take r_X4_takeField r_X4_takeList r_X4_takeOwn r_X4_takeRecord 92 74 p0 p1 p2 p3 p4 σ = some q) : GoA p l e ({ frames := 164 + (nn + 1), cells := 0, slots := 0, locals := 4412 + 29 * (nn + 1) } : Room) s m args below meth c (MQ below (qAv dC dI a k A q) args s 0 0 A) dC dI a k A 10 0 σ (lv_args 0 [.ref (a 92), .int p0, .int p1, .int p2, .int p3, .int p4]) [] := by
  have hC0 := hC
  obtain ⟨hx, hb, hr, hml, hown, hts, hlocks, hA, hN, hK⟩ := hC0
  intro H locs ls hP hD hS hl
  have hD0 : ∀ σ1 : ST, va_D A (wA a k σ1) := fun σ1 => wA_D hD
  replace hl : lv_has ls 10 [(0, .ref (a 92)), (1, .int p0), (2, .int p1), (3, .int p2), (4, .int p3), (5, .int p4)] := hl
  unfold f_X4_takeList at h
  refine lv_aload_n hx hb dX4_takeList_0 rfl (lv_at hl 0 rfl) ?_
  refine lv_aload_n hx hb dX4_takeList_1 rfl (lv_at hl 0 rfl) ?_
  refine va_get (D := (dC, dI)) (ci := 4) (C := RX4) (T := TX4) (N := 12) hx hb hts inlX4 hown hK hP 92 gA_92 rfl 5 (by decide) (hts (.fieldLink RX4 15 "ShapeReader$Reading" "next" "I") mw_10_21) (fun _ h9 => h9) rfl dX4_takeList_2 ?_
  refine lv_sipush (v := 200) hx hb dX4_takeList_5 (by decide) ?_
  obtain ⟨q1, hc, h⟩ := ib h
  have hF := va_frees hD hS hA
  refine va_calli (va_runV (As := [.int (σ.1 92 5), .int 200]) (rest := []) ⟨hx, hb, hml, hown, hts⟩ (s_X4_takeCount_92_74 hc) (cwV 2 hts (gV mw_12_2 mw_12_3 mw_12_4 mw_0_8 mw_49_18) rfl rfl rfl (by decide +kernel) ⟨by show 3 + 1 ≤ 164 + (nn + 1); omega, by show 8 + (5 + 11) + 69 ≤ 4412 + 29 * (nn + 1); omega⟩) (vV (ci := 4) (q0 := 92) hK hP hD hN rfl gA_92) rfl rfl hl.1 rfl (lv_room (Nat.le_of_ble_eq_true rfl)) dX4_takeList_8 ⟨(Nat.le_of_ble_eq_true rfl), (Nat.le_of_ble_eq_true rfl)⟩) hS (fun q _ h => hF q h) hF (fun r2 u t H locs ht hvm hw hB _ _ hS => ?_)
  obtain rfl : r2 = q1.1 := hw
  replace hP : va_P (dC, dI) vwCl (wA a k q1.2) H := by rw [← ht]; exact hB.1
  replace hD := hD0 (q1.2)
  clear hB hF
  refine lv_istore (lv' := [(6, .int q1.1), (0, .ref (a 92)), (1, .int p0), (2, .int p1), (3, .int p2), (4, .int p3), (5, .int p4)]) hx hb dX4_takeList_11 hl (by decide) rfl (fun ls hl => ?_)
  refine lv_aload_n hx hb dX4_takeList_13 rfl (lv_at hl 1 rfl) ?_
  refine lv_iload_n hx hb dX4_takeList_14 rfl (lv_at hl 3 rfl) ?_
  refine lv_iload_n hx hb dX4_takeList_15 rfl (lv_at hl 4 rfl) ?_
  refine lv_iload hx hb dX4_takeList_16 (lv_at hl 5 rfl) ?_
  refine lv_iload hx hb dX4_takeList_18 (lv_at hl 0 rfl) ?_
  refine lv_lconst (v := 0) hx hb dX4_takeList_20 (by decide) ?_
  obtain ⟨q3, hc, h⟩ := ib h
  have hF := va_frees hD hS hA
  refine va_calli (va_runV (As := [.int p1, .int p2, .int p3, .int q1.1, .long 0]) (rest := []) ⟨hx, hb, hml, hown, hts⟩ (s_X4_addNode_92_74 hc) (cwV 5 hts (gV mw_13_6 mw_13_7 mw_13_8 mw_0_8 mw_49_8) rfl rfl rfl (by decide +kernel) ⟨by show 3 + 1 ≤ 164 + (nn + 1); omega, by show 8 + (8 + 11) + 71 ≤ 4412 + 29 * (nn + 1); omega⟩) (vV (ci := 4) (q0 := 92) hK hP hD hN rfl gA_92) rfl rfl hl.1 rfl (lv_room (Nat.le_of_ble_eq_true rfl)) dX4_takeList_21 ⟨(Nat.le_of_ble_eq_true rfl), (Nat.le_of_ble_eq_true rfl)⟩) hS (fun q _ h => hF q h) hF (fun r4 u t H locs ht hvm hw hB _ _ hS => ?_)
  obtain rfl : r4 = q3.1 := hw
  replace hP : va_P (dC, dI) vwCl (wA a k q3.2) H := by rw [← ht]; exact hB.1
  replace hD := hD0 (q3.2)
  clear hB hF
  refine lv_istore (lv' := [(7, .int q3.1), (6, .int q1.1), (0, .ref (a 92)), (1, .int p0), (2, .int p1), (3, .int p2), (4, .int p3), (5, .int p4)]) hx hb dX4_takeList_24 hl (by decide) rfl (fun ls hl => ?_)
  refine lv_iload_n hx hb dX4_takeList_26 rfl (lv_at hl 4 rfl) ?_
  refine lv_iconst (v := (-1)) hx hb dX4_takeList_27 (by decide) ?_
  refine lv_icmp_ne (tgt := 35) hx hb dX4_takeList_28 (by decide) (fun hc => ?_) (fun hc => ?_)
  · replace h := iq hc h
    refine lv_aload_n hx hb dX4_takeList_35 rfl (lv_at hl 2 rfl) ?_
    refine va_get (D := (dC, dI)) (ci := 4) (C := RX4) (T := TX4) (N := 12) hx hb hts inlX4 hown hK hP 92 gA_92 rfl 0 (by decide) (hts (.fieldLink RX4 37 "ShapeReader$Reading" "shapes" "LShapeReader$Shapes;") mw_10_28) (fun _ h9 => h9) rfl dX4_takeList_36 ?_
    refine lv_iload_n hx hb dX4_takeList_39 rfl (lv_at hl 4 rfl) ?_
    obtain ⟨q5, hc, h⟩ := ib h
    have hF := va_frees hD hS hA
    refine va_calli (va_runV (As := [.int p1]) (rest := []) ⟨hx, hb, hml, hown, hts⟩ (s_X5_innerOf_4 hc) (cwV 1 hts (gV mw_12_19 mw_2_16 mw_2_17 mw_0_9 mw_50_7) rfl rfl rfl (by decide +kernel) ⟨by show 1 + 1 ≤ 164 + (nn + 1); omega, by show 8 + (2 + 11) + 21 ≤ 4412 + 29 * (nn + 1); omega⟩) (vV (ci := 5) (q0 := 4) hK hP hD hN rfl gA_4) rfl rfl hl.1 rfl (lv_room (Nat.le_of_ble_eq_true rfl)) dX4_takeList_40 ⟨(Nat.le_of_ble_eq_true rfl), (Nat.le_of_ble_eq_true rfl)⟩) hS (fun q _ h => hF q h) hF (fun r6 u t H locs ht hvm hw hB _ _ hS => ?_)
    obtain rfl : r6 = q5.1 := hw
    replace hP : va_P (dC, dI) vwCl (wA a k q5.2) H := by rw [← ht]; exact hB.1
    replace hD := hD0 (q5.2)
    clear hB hF
    exact b_X4_takeList_43_92_74 hC hr_X4_take hr_X4_takeField hr_X4_takeList hr_X4_takeOwn hr_X4_takeRecord h _ _ _ hP hD hS (lv_sub hl [2, 3, 7, 1, 0] rfl)
  · replace h := ip hc h
    refine lv_iconst (v := (-1)) hx hb dX4_takeList_31 (by decide) ?_
    refine lv_goto (tgt := 43) hx hb dX4_takeList_32 (by decide) ?_
    exact b_X4_takeList_43_92_74 hC hr_X4_take hr_X4_takeField hr_X4_takeList hr_X4_takeOwn hr_X4_takeRecord h _ _ _ hP hD hS (lv_sub hl [2, 3, 7, 1, 0] rfl)


set_option maxRecDepth 100000 in
set_option maxHeartbeats 4000000 in
theorem b_X4_takeOwn_26_92_74 {p : Program} {l : Launch} {e : Env} {s : State} {m : MethodId} {args : Array Value} {below : List Frame} {meth : Method} {c : Code} {dC : Nat → ClassId} {dI : Nat → Nat → Nat} {a : Nat → Nat} {k : Nat → ClassId} {A : Nat → Prop} {q : ST} (hC : CxA p s m args meth c dC dI k A cX4_takeOwn RX4 none 8) {nn : Nat} {r_X4_take : Nat → Nat → Int32 → Int32 → Int32 → Int32 → Int32 → ST → Option (ST)} (hr_X4_take : ∀ {sz : Nat} {p0 : Int32} {p1 : Int32} {p2 : Int32} {p3 : Int32} {p4 : Int32} {σ : ST} {q : ST}, r_X4_take 92 74 p0 p1 p2 p3 p4 σ = some q → Met l yX4_take (.code yX4_take cX4_take 9 none :: pw) ({ frames := 164 + nn, cells := 0, slots := 0, locals := 4412 + 29 * nn } : Room) (va_Pc [.ref (a 92), .int p0, .int p1, .int p2, .int p3, .int p4] (vPre dC dI (wA a k σ) (tA k) sz)) (qAv dC dI a k (va_A (wA a k σ) sz) q) 0 0 (va_A (wA a k σ) sz)) {r_X4_takeField : Nat → Nat → Int32 → Int32 → Int32 → Int32 → Int32 → ST → Option (ST)} (hr_X4_takeField : ∀ {sz : Nat} {p0 : Int32} {p1 : Int32} {p2 : Int32} {p3 : Int32} {p4 : Int32} {σ : ST} {q : ST}, r_X4_takeField 92 74 p0 p1 p2 p3 p4 σ = some q → Met l yX4_takeField (.code yX4_takeField cX4_takeField 9 none :: pw) ({ frames := 164 + nn, cells := 0, slots := 0, locals := 4412 + 29 * nn } : Room) (va_Pc [.ref (a 92), .int p0, .int p1, .int p2, .int p3, .int p4] (vPre dC dI (wA a k σ) (tA k) sz)) (qAv dC dI a k (va_A (wA a k σ) sz) q) 0 0 (va_A (wA a k σ) sz)) {r_X4_takeList : Nat → Nat → Int32 → Int32 → Int32 → Int32 → Int32 → ST → Option (ST)} (hr_X4_takeList : ∀ {sz : Nat} {p0 : Int32} {p1 : Int32} {p2 : Int32} {p3 : Int32} {p4 : Int32} {σ : ST} {q : ST}, r_X4_takeList 92 74 p0 p1 p2 p3 p4 σ = some q → Met l yX4_takeList (.code yX4_takeList cX4_takeList 10 none :: pw) ({ frames := 164 + nn, cells := 0, slots := 0, locals := 4412 + 29 * nn } : Room) (va_Pc [.ref (a 92), .int p0, .int p1, .int p2, .int p3, .int p4] (vPre dC dI (wA a k σ) (tA k) sz)) (qAv dC dI a k (va_A (wA a k σ) sz) q) 0 0 (va_A (wA a k σ) sz)) {r_X4_takeOwn : Nat → Nat → Int32 → Int32 → Int32 → Int32 → Int32 → ST → Option (ST)} (hr_X4_takeOwn : ∀ {sz : Nat} {p0 : Int32} {p1 : Int32} {p2 : Int32} {p3 : Int32} {p4 : Int32} {σ : ST} {q : ST}, r_X4_takeOwn 92 74 p0 p1 p2 p3 p4 σ = some q → Met l yX4_takeOwn (.code yX4_takeOwn cX4_takeOwn 8 none :: pw) ({ frames := 164 + nn, cells := 0, slots := 0, locals := 4412 + 29 * nn } : Room) (va_Pc [.ref (a 92), .int p0, .int p1, .int p2, .int p3, .int p4] (vPre dC dI (wA a k σ) (tA k) sz)) (qAv dC dI a k (va_A (wA a k σ) sz) q) 0 0 (va_A (wA a k σ) sz)) {r_X4_takeRecord : Nat → Nat → Int32 → Int32 → Int32 → Int32 → Int32 → ST → Option (ST)} (hr_X4_takeRecord : ∀ {sz : Nat} {p0 : Int32} {p1 : Int32} {p2 : Int32} {p3 : Int32} {p4 : Int32} {σ : ST} {q : ST}, r_X4_takeRecord 92 74 p0 p1 p2 p3 p4 σ = some q → Met l yX4_takeRecord (.code yX4_takeRecord cX4_takeRecord 9 none :: pw) ({ frames := 164 + nn, cells := 0, slots := 0, locals := 4412 + 29 * nn } : Room) (va_Pc [.ref (a 92), .int p0, .int p1, .int p2, .int p3, .int p4] (vPre dC dI (wA a k σ) (tA k) sz)) (qAv dC dI a k (va_A (wA a k σ) sz) q) 0 0 (va_A (wA a k σ) sz))  {x1 : Int32} {x3 : Int32} {x4 : Int32} {x5 : Int32} {y0 : Int32} {σ : ST} (h : f_X4_takeOwn_26 r_X4_take r_X4_takeField r_X4_takeList r_X4_takeOwn r_X4_takeRecord 92 74 x1 x3 x4 x5 y0 σ = some q) : GoA p l e ({ frames := 164 + (nn + 1), cells := 0, slots := 0, locals := 4412 + 29 * (nn + 1) } : Room) s m args below meth c (MQ below (qAv dC dI a k A q) args s 0 0 A) dC dI a k A 8 26 σ [(0, .ref (a 92)), (1, .int x1), (3, .int x3), (4, .int x4), (5, .int x5)] [.int y0] := by
  have hC0 := hC
  obtain ⟨hx, hb, hr, hml, hown, hts, hlocks, hA, hN, hK⟩ := hC0
  intro H locs ls hP hD hS hl
  have hD0 : ∀ σ1 : ST, va_D A (wA a k σ1) := fun σ1 => wA_D hD
  unfold f_X4_takeOwn_26 at h
  refine lv_istore (lv' := [(6, .int y0), (0, .ref (a 92)), (1, .int x1), (3, .int x3), (4, .int x4), (5, .int x5)]) hx hb dX4_takeOwn_26 hl (by decide) rfl (fun ls hl => ?_)
  refine lv_aload_n hx hb dX4_takeOwn_28 rfl (lv_at hl 1 rfl) ?_
  refine va_get (D := (dC, dI)) (ci := 4) (C := RX4) (T := TX4) (N := 12) hx hb hts inlX4 hown hK hP 92 gA_92 rfl 0 (by decide) (hts (.fieldLink RX4 37 "ShapeReader$Reading" "shapes" "LShapeReader$Shapes;") mw_10_28) (fun _ h9 => h9) rfl dX4_takeOwn_29 ?_
  refine lv_iload_n hx hb dX4_takeOwn_32 rfl (lv_at hl 2 rfl) ?_
  obtain ⟨q1, hc, h⟩ := ib h
  have hF := va_frees hD hS hA
  refine va_calli (va_runV (As := [.int x1]) (rest := []) ⟨hx, hb, hml, hown, hts⟩ (s_X5_sortOf_4 hc) (cwV 1 hts (gV mw_11_25 mw_2_13 mw_2_14 mw_0_9 mw_50_6) rfl rfl rfl (by decide +kernel) ⟨by show 1 + 1 ≤ 164 + (nn + 1); omega, by show 8 + (2 + 11) + 21 ≤ 4412 + 29 * (nn + 1); omega⟩) (vV (ci := 5) (q0 := 4) hK hP hD hN rfl gA_4) rfl rfl hl.1 rfl (lv_room (Nat.le_of_ble_eq_true rfl)) dX4_takeOwn_33 ⟨(Nat.le_of_ble_eq_true rfl), (Nat.le_of_ble_eq_true rfl)⟩) hS (fun q _ h => hF q h) hF (fun r2 u t H locs ht hvm hw hB _ _ hS => ?_)
  obtain rfl : r2 = q1.1 := hw
  replace hP : va_P (dC, dI) vwCl (wA a k q1.2) H := by rw [← ht]; exact hB.1
  replace hD := hD0 (q1.2)
  clear hB hF
  refine lv_istore (lv' := [(7, .int q1.1), (6, .int y0), (0, .ref (a 92)), (1, .int x1), (3, .int x3), (4, .int x4), (5, .int x5)]) hx hb dX4_takeOwn_36 hl (by decide) rfl (fun ls hl => ?_)
  refine lv_iload hx hb dX4_takeOwn_38 (lv_at hl 0 rfl) ?_
  refine lv_bipush (v := 7) hx hb dX4_takeOwn_40 (by decide) ?_
  refine lv_icmp_ne (tgt := 67) hx hb dX4_takeOwn_42 (by decide) (fun hc => ?_) (fun hc => ?_)
  · replace h := iq hc h
    refine lv_iload hx hb dX4_takeOwn_67 (lv_at hl 0 rfl) ?_
    refine lv_bipush (v := 6) hx hb dX4_takeOwn_69 (by decide) ?_
    refine lv_icmp_ne (tgt := 96) hx hb dX4_takeOwn_71 (by decide) (fun hc => ?_) (fun hc => ?_)
    · replace h := iq hc h
      refine lv_aload_n hx hb dX4_takeOwn_96 rfl (lv_at hl 2 rfl) ?_
      refine lv_iload hx hb dX4_takeOwn_97 (lv_at hl 0 rfl) ?_
      refine lv_iload hx hb dX4_takeOwn_99 (lv_at hl 1 rfl) ?_
      refine lv_iload_n hx hb dX4_takeOwn_101 rfl (lv_at hl 4 rfl) ?_
      refine lv_iload hx hb dX4_takeOwn_102 (lv_at hl 5 rfl) ?_
      obtain ⟨q3, hc, h⟩ := ib h
      have hF := va_frees hD hS hA
      refine va_callv (va_runV (As := [.int q1.1, .int y0, .int x3, .int x4]) (rest := []) ⟨hx, hb, hml, hown, hts⟩ (s_X4_takePlain_92_74 hc) (cwV 4 hts (gV mw_12_26 mw_12_27 mw_12_28 mw_0_8 mw_49_15) rfl rfl rfl (by decide +kernel) ⟨by show 4 + 1 ≤ 164 + (nn + 1); omega, by show 8 + (10 + 11) + 98 ≤ 4412 + 29 * (nn + 1); omega⟩) (vV (ci := 4) (q0 := 92) hK hP hD hN rfl gA_92) rfl rfl hl.1 rfl (lv_room (Nat.le_of_ble_eq_true rfl)) dX4_takeOwn_104 ⟨(Nat.le_of_ble_eq_true rfl), (Nat.le_of_ble_eq_true rfl)⟩) hS (fun q _ h => hF q h) hF (fun u t H locs ht hvm hw hB _ _ hS => ?_)
      replace hP : va_P (dC, dI) vwCl (wA a k q3) H := by rw [← ht]; exact hB.1
      replace hD := hD0 (q3)
      clear hB hF
      obtain rfl := Option.some.inj h
      exact W.vret hx hb hr (fun t ht hW => ⟨⟨(), rfl, trivial, ⟨by rw [ht]; exact hP, va_K.moved hW.alike hK, hD⟩⟩, hS.F ht⟩) hS.2.2 dX4_takeOwn_107
    · replace h := ip hc h
      refine lv_aload_n hx hb dX4_takeOwn_74 rfl (lv_at hl 2 rfl) ?_
      refine lv_aload_n hx hb dX4_takeOwn_75 rfl (lv_at hl 2 rfl) ?_
      refine va_get (D := (dC, dI)) (ci := 4) (C := RX4) (T := TX4) (N := 12) hx hb hts inlX4 hown hK hP 92 gA_92 rfl 0 (by decide) (hts (.fieldLink RX4 37 "ShapeReader$Reading" "shapes" "LShapeReader$Shapes;") mw_10_28) (fun _ h9 => h9) rfl dX4_takeOwn_76 ?_
      refine lv_iload_n hx hb dX4_takeOwn_79 rfl (lv_at hl 3 rfl) ?_
      obtain ⟨q5, hc, h⟩ := ib h
      have hF := va_frees hD hS hA
      refine va_calli (va_runV (As := [.int x1]) (rest := [.ref (a 92)]) ⟨hx, hb, hml, hown, hts⟩ (s_X5_innerOf_4 hc) (cwV 1 hts (gV mw_12_19 mw_2_16 mw_2_17 mw_0_9 mw_50_7) rfl rfl rfl (by decide +kernel) ⟨by show 1 + 1 ≤ 164 + (nn + 1); omega, by show 8 + (2 + 11) + 21 ≤ 4412 + 29 * (nn + 1); omega⟩) (vV (ci := 5) (q0 := 4) hK hP hD hN rfl gA_4) rfl rfl hl.1 rfl (lv_room (Nat.le_of_ble_eq_true rfl)) dX4_takeOwn_80 ⟨(Nat.le_of_ble_eq_true rfl), (Nat.le_of_ble_eq_true rfl)⟩) hS (fun q _ h => hF q h) hF (fun r6 u t H locs ht hvm hw hB _ _ hS => ?_)
      obtain rfl : r6 = q5.1 := hw
      replace hP : va_P (dC, dI) vwCl (wA a k q5.2) H := by rw [← ht]; exact hB.1
      replace hD := hD0 (q5.2)
      clear hB hF
      refine lv_iload hx hb dX4_takeOwn_83 (lv_at hl 1 rfl) ?_
      refine lv_iload_n hx hb dX4_takeOwn_85 rfl (lv_at hl 4 rfl) ?_
      refine lv_iload hx hb dX4_takeOwn_86 (lv_at hl 5 rfl) ?_
      refine lv_iload hx hb dX4_takeOwn_88 (lv_at hl 6 rfl) ?_
      obtain ⟨q7, hc, h⟩ := ib h
      have hF := va_frees hD hS hA
      refine va_callv (va_runV (As := [.int q5.1, .int y0, .int x3, .int x4, .int x5]) (rest := []) ⟨hx, hb, hml, hown, hts⟩ (hr_X4_takeList hc) (cwV 5 hts (gV mw_12_23 mw_12_24 mw_12_25 mw_0_8 mw_49_14) rfl rfl rfl (by decide +kernel) ⟨by show (164 + nn) + 1 ≤ 164 + (nn + 1); omega, by show 8 + (10 + 11) + (4412 + 29 * nn) ≤ 4412 + 29 * (nn + 1); omega⟩) (vV (ci := 4) (q0 := 92) hK hP hD hN rfl gA_92) rfl rfl hl.1 rfl (lv_room (Nat.le_of_ble_eq_true rfl)) dX4_takeOwn_90 ⟨(Nat.le_of_ble_eq_true rfl), (Nat.le_of_ble_eq_true rfl)⟩) hS (fun q _ h => hF q h) hF (fun u t H locs ht hvm hw hB _ _ hS => ?_)
      replace hP : va_P (dC, dI) vwCl (wA a k q7) H := by rw [← ht]; exact hB.1
      replace hD := hD0 (q7)
      clear hB hF
      refine lv_goto (tgt := 107) hx hb dX4_takeOwn_93 (by decide) ?_
      obtain rfl := Option.some.inj h
      exact W.vret hx hb hr (fun t ht hW => ⟨⟨(), rfl, trivial, ⟨by rw [ht]; exact hP, va_K.moved hW.alike hK, hD⟩⟩, hS.F ht⟩) hS.2.2 dX4_takeOwn_107
  · replace h := ip hc h
    refine lv_aload_n hx hb dX4_takeOwn_45 rfl (lv_at hl 2 rfl) ?_
    refine lv_aload_n hx hb dX4_takeOwn_46 rfl (lv_at hl 2 rfl) ?_
    refine va_get (D := (dC, dI)) (ci := 4) (C := RX4) (T := TX4) (N := 12) hx hb hts inlX4 hown hK hP 92 gA_92 rfl 0 (by decide) (hts (.fieldLink RX4 37 "ShapeReader$Reading" "shapes" "LShapeReader$Shapes;") mw_10_28) (fun _ h9 => h9) rfl dX4_takeOwn_47 ?_
    refine lv_iload_n hx hb dX4_takeOwn_50 rfl (lv_at hl 3 rfl) ?_
    obtain ⟨q9, hc, h⟩ := ib h
    have hF := va_frees hD hS hA
    refine va_calli (va_runV (As := [.int x1]) (rest := [.ref (a 92)]) ⟨hx, hb, hml, hown, hts⟩ (s_X5_innerOf_4 hc) (cwV 1 hts (gV mw_12_19 mw_2_16 mw_2_17 mw_0_9 mw_50_7) rfl rfl rfl (by decide +kernel) ⟨by show 1 + 1 ≤ 164 + (nn + 1); omega, by show 8 + (2 + 11) + 21 ≤ 4412 + 29 * (nn + 1); omega⟩) (vV (ci := 5) (q0 := 4) hK hP hD hN rfl gA_4) rfl rfl hl.1 rfl (lv_room (Nat.le_of_ble_eq_true rfl)) dX4_takeOwn_51 ⟨(Nat.le_of_ble_eq_true rfl), (Nat.le_of_ble_eq_true rfl)⟩) hS (fun q _ h => hF q h) hF (fun r10 u t H locs ht hvm hw hB _ _ hS => ?_)
    obtain rfl : r10 = q9.1 := hw
    replace hP : va_P (dC, dI) vwCl (wA a k q9.2) H := by rw [← ht]; exact hB.1
    replace hD := hD0 (q9.2)
    clear hB hF
    refine lv_iload hx hb dX4_takeOwn_54 (lv_at hl 1 rfl) ?_
    refine lv_iload_n hx hb dX4_takeOwn_56 rfl (lv_at hl 4 rfl) ?_
    refine lv_iload hx hb dX4_takeOwn_57 (lv_at hl 5 rfl) ?_
    refine lv_iload hx hb dX4_takeOwn_59 (lv_at hl 6 rfl) ?_
    obtain ⟨q11, hc, h⟩ := ib h
    have hF := va_frees hD hS hA
    refine va_callv (va_runV (As := [.int q9.1, .int y0, .int x3, .int x4, .int x5]) (rest := []) ⟨hx, hb, hml, hown, hts⟩ (hr_X4_takeRecord hc) (cwV 5 hts (gV mw_12_20 mw_12_21 mw_12_22 mw_0_8 mw_49_9) rfl rfl rfl (by decide +kernel) ⟨by show (164 + nn) + 1 ≤ 164 + (nn + 1); omega, by show 8 + (9 + 11) + (4412 + 29 * nn) ≤ 4412 + 29 * (nn + 1); omega⟩) (vV (ci := 4) (q0 := 92) hK hP hD hN rfl gA_92) rfl rfl hl.1 rfl (lv_room (Nat.le_of_ble_eq_true rfl)) dX4_takeOwn_61 ⟨(Nat.le_of_ble_eq_true rfl), (Nat.le_of_ble_eq_true rfl)⟩) hS (fun q _ h => hF q h) hF (fun u t H locs ht hvm hw hB _ _ hS => ?_)
    replace hP : va_P (dC, dI) vwCl (wA a k q11) H := by rw [← ht]; exact hB.1
    replace hD := hD0 (q11)
    clear hB hF
    refine lv_goto (tgt := 107) hx hb dX4_takeOwn_64 (by decide) ?_
    obtain rfl := Option.some.inj h
    exact W.vret hx hb hr (fun t ht hW => ⟨⟨(), rfl, trivial, ⟨by rw [ht]; exact hP, va_K.moved hW.alike hK, hD⟩⟩, hS.F ht⟩) hS.2.2 dX4_takeOwn_107

set_option maxRecDepth 100000 in
set_option maxHeartbeats 4000000 in
theorem b_X4_takeOwn_e_92_74 {p : Program} {l : Launch} {e : Env} {s : State} {m : MethodId} {args : Array Value} {below : List Frame} {meth : Method} {c : Code} {dC : Nat → ClassId} {dI : Nat → Nat → Nat} {a : Nat → Nat} {k : Nat → ClassId} {A : Nat → Prop} {q : ST} (hC : CxA p s m args meth c dC dI k A cX4_takeOwn RX4 none 8) {nn : Nat} {r_X4_take : Nat → Nat → Int32 → Int32 → Int32 → Int32 → Int32 → ST → Option (ST)} (hr_X4_take : ∀ {sz : Nat} {p0 : Int32} {p1 : Int32} {p2 : Int32} {p3 : Int32} {p4 : Int32} {σ : ST} {q : ST}, r_X4_take 92 74 p0 p1 p2 p3 p4 σ = some q → Met l yX4_take (.code yX4_take cX4_take 9 none :: pw) ({ frames := 164 + nn, cells := 0, slots := 0, locals := 4412 + 29 * nn } : Room) (va_Pc [.ref (a 92), .int p0, .int p1, .int p2, .int p3, .int p4] (vPre dC dI (wA a k σ) (tA k) sz)) (qAv dC dI a k (va_A (wA a k σ) sz) q) 0 0 (va_A (wA a k σ) sz)) {r_X4_takeField : Nat → Nat → Int32 → Int32 → Int32 → Int32 → Int32 → ST → Option (ST)} (hr_X4_takeField : ∀ {sz : Nat} {p0 : Int32} {p1 : Int32} {p2 : Int32} {p3 : Int32} {p4 : Int32} {σ : ST} {q : ST}, r_X4_takeField 92 74 p0 p1 p2 p3 p4 σ = some q → Met l yX4_takeField (.code yX4_takeField cX4_takeField 9 none :: pw) ({ frames := 164 + nn, cells := 0, slots := 0, locals := 4412 + 29 * nn } : Room) (va_Pc [.ref (a 92), .int p0, .int p1, .int p2, .int p3, .int p4] (vPre dC dI (wA a k σ) (tA k) sz)) (qAv dC dI a k (va_A (wA a k σ) sz) q) 0 0 (va_A (wA a k σ) sz)) {r_X4_takeList : Nat → Nat → Int32 → Int32 → Int32 → Int32 → Int32 → ST → Option (ST)} (hr_X4_takeList : ∀ {sz : Nat} {p0 : Int32} {p1 : Int32} {p2 : Int32} {p3 : Int32} {p4 : Int32} {σ : ST} {q : ST}, r_X4_takeList 92 74 p0 p1 p2 p3 p4 σ = some q → Met l yX4_takeList (.code yX4_takeList cX4_takeList 10 none :: pw) ({ frames := 164 + nn, cells := 0, slots := 0, locals := 4412 + 29 * nn } : Room) (va_Pc [.ref (a 92), .int p0, .int p1, .int p2, .int p3, .int p4] (vPre dC dI (wA a k σ) (tA k) sz)) (qAv dC dI a k (va_A (wA a k σ) sz) q) 0 0 (va_A (wA a k σ) sz)) {r_X4_takeOwn : Nat → Nat → Int32 → Int32 → Int32 → Int32 → Int32 → ST → Option (ST)} (hr_X4_takeOwn : ∀ {sz : Nat} {p0 : Int32} {p1 : Int32} {p2 : Int32} {p3 : Int32} {p4 : Int32} {σ : ST} {q : ST}, r_X4_takeOwn 92 74 p0 p1 p2 p3 p4 σ = some q → Met l yX4_takeOwn (.code yX4_takeOwn cX4_takeOwn 8 none :: pw) ({ frames := 164 + nn, cells := 0, slots := 0, locals := 4412 + 29 * nn } : Room) (va_Pc [.ref (a 92), .int p0, .int p1, .int p2, .int p3, .int p4] (vPre dC dI (wA a k σ) (tA k) sz)) (qAv dC dI a k (va_A (wA a k σ) sz) q) 0 0 (va_A (wA a k σ) sz)) {r_X4_takeRecord : Nat → Nat → Int32 → Int32 → Int32 → Int32 → Int32 → ST → Option (ST)} (hr_X4_takeRecord : ∀ {sz : Nat} {p0 : Int32} {p1 : Int32} {p2 : Int32} {p3 : Int32} {p4 : Int32} {σ : ST} {q : ST}, r_X4_takeRecord 92 74 p0 p1 p2 p3 p4 σ = some q → Met l yX4_takeRecord (.code yX4_takeRecord cX4_takeRecord 9 none :: pw) ({ frames := 164 + nn, cells := 0, slots := 0, locals := 4412 + 29 * nn } : Room) (va_Pc [.ref (a 92), .int p0, .int p1, .int p2, .int p3, .int p4] (vPre dC dI (wA a k σ) (tA k) sz)) (qAv dC dI a k (va_A (wA a k σ) sz) q) 0 0 (va_A (wA a k σ) sz))  {p0 : Int32} {p1 : Int32} {p2 : Int32} {p3 : Int32} {p4 : Int32} {σ : ST} (h : f_X4_takeOwn r_X4_take r_X4_takeField r_X4_takeList r_X4_takeOwn r_X4_takeRecord 92 74 p0 p1 p2 p3 p4 σ = some q) : GoA p l e ({ frames := 164 + (nn + 1), cells := 0, slots := 0, locals := 4412 + 29 * (nn + 1) } : Room) s m args below meth c (MQ below (qAv dC dI a k A q) args s 0 0 A) dC dI a k A 8 0 σ (lv_args 0 [.ref (a 92), .int p0, .int p1, .int p2, .int p3, .int p4]) [] := by
  have hC0 := hC
  obtain ⟨hx, hb, hr, hml, hown, hts, hlocks, hA, hN, hK⟩ := hC0
  intro H locs ls hP hD hS hl
  have hD0 : ∀ σ1 : ST, va_D A (wA a k σ1) := fun σ1 => wA_D hD
  replace hl : lv_has ls 8 [(0, .ref (a 92)), (1, .int p0), (2, .int p1), (3, .int p2), (4, .int p3), (5, .int p4)] := hl
  unfold f_X4_takeOwn at h
  refine lv_aload_n hx hb dX4_takeOwn_0 rfl (lv_at hl 0 rfl) ?_
  refine va_get (D := (dC, dI)) (ci := 4) (C := RX4) (T := TX4) (N := 12) hx hb hts inlX4 hown hK hP 92 gA_92 rfl 0 (by decide) (hts (.fieldLink RX4 37 "ShapeReader$Reading" "shapes" "LShapeReader$Shapes;") mw_10_28) (fun _ h9 => h9) rfl dX4_takeOwn_1 ?_
  refine lv_iload_n hx hb dX4_takeOwn_4 rfl (lv_at hl 2 rfl) ?_
  obtain ⟨q1, hc, h⟩ := ib h
  have hF := va_frees hD hS hA
  refine va_calli (va_runV (As := [.int p1]) (rest := []) ⟨hx, hb, hml, hown, hts⟩ (s_X5_sortOf_4 hc) (cwV 1 hts (gV mw_11_25 mw_2_13 mw_2_14 mw_0_9 mw_50_6) rfl rfl rfl (by decide +kernel) ⟨by show 1 + 1 ≤ 164 + (nn + 1); omega, by show 8 + (2 + 11) + 21 ≤ 4412 + 29 * (nn + 1); omega⟩) (vV (ci := 5) (q0 := 4) hK hP hD hN rfl gA_4) rfl rfl hl.1 rfl (lv_room (Nat.le_of_ble_eq_true rfl)) dX4_takeOwn_5 ⟨(Nat.le_of_ble_eq_true rfl), (Nat.le_of_ble_eq_true rfl)⟩) hS (fun q _ h => hF q h) hF (fun r2 u t H locs ht hvm hw hB _ _ hS => ?_)
  obtain rfl : r2 = q1.1 := hw
  replace hP : va_P (dC, dI) vwCl (wA a k q1.2) H := by rw [← ht]; exact hB.1
  replace hD := hD0 (q1.2)
  clear hB hF
  refine lv_bipush (v := 8) hx hb dX4_takeOwn_8 (by decide) ?_
  refine lv_icmp_ne (tgt := 25) hx hb dX4_takeOwn_10 (by decide) (fun hc => ?_) (fun hc => ?_)
  · replace h := iq hc h
    refine lv_iload_n hx hb dX4_takeOwn_25 rfl (lv_at hl 2 rfl) ?_
    exact b_X4_takeOwn_26_92_74 hC hr_X4_take hr_X4_takeField hr_X4_takeList hr_X4_takeOwn hr_X4_takeRecord h _ _ _ hP hD hS (lv_sub hl [0, 1, 3, 4, 5] rfl)
  · replace h := ip hc h
    refine lv_aload_n hx hb dX4_takeOwn_13 rfl (lv_at hl 0 rfl) ?_
    refine va_get (D := (dC, dI)) (ci := 4) (C := RX4) (T := TX4) (N := 12) hx hb hts inlX4 hown hK hP 92 gA_92 rfl 2 (by decide) (hts (.fieldLink RX4 45 "ShapeReader$Reading" "matcher" "LShapeReader$Matcher;") mw_11_0) (fun _ h9 => h9) rfl dX4_takeOwn_14 ?_
    refine lv_iload_n hx hb dX4_takeOwn_17 rfl (lv_at hl 1 rfl) ?_
    refine lv_iload_n hx hb dX4_takeOwn_18 rfl (lv_at hl 2 rfl) ?_
    obtain ⟨q3, hc, h⟩ := ib h
    have hF := va_frees hD hS hA
    refine va_calli (va_runV (As := [.int p0, .int p1]) (rest := []) ⟨hx, hb, hml, hown, hts⟩ (s_X0_chosen hc) (cwV 2 hts (gV mw_12_18 mw_3_15 mw_3_16 mw_0_4 mw_47_12) rfl rfl rfl (by decide +kernel) ⟨by show 163 + 1 ≤ 164 + (nn + 1); omega, by show 8 + (3 + 11) + 4389 ≤ 4412 + 29 * (nn + 1); omega⟩) (vV (ci := 0) (q0 := 41) hK hP hD hN rfl gA_41) rfl rfl hl.1 rfl (lv_room (Nat.le_of_ble_eq_true rfl)) dX4_takeOwn_19 ⟨(Nat.le_of_ble_eq_true rfl), (Nat.le_of_ble_eq_true rfl)⟩) hS (fun q _ h => hF q h) hF (fun r4 u t H locs ht hvm hw hB _ _ hS => ?_)
    obtain rfl : r4 = q3.1 := hw
    replace hP : va_P (dC, dI) vwCl (wA a k q3.2) H := by rw [← ht]; exact hB.1
    replace hD := hD0 (q3.2)
    clear hB hF
    refine lv_goto (tgt := 26) hx hb dX4_takeOwn_22 (by decide) ?_
    exact b_X4_takeOwn_26_92_74 hC hr_X4_take hr_X4_takeField hr_X4_takeList hr_X4_takeOwn hr_X4_takeRecord h _ _ _ hP hD hS (lv_sub hl [0, 1, 3, 4, 5] rfl)


set_option maxRecDepth 100000 in
set_option maxHeartbeats 4000000 in
theorem b_X4_takeRecord_155_92_74 {p : Program} {l : Launch} {e : Env} {s : State} {m : MethodId} {args : Array Value} {below : List Frame} {meth : Method} {c : Code} {dC : Nat → ClassId} {dI : Nat → Nat → Nat} {a : Nat → Nat} {k : Nat → ClassId} {A : Nat → Prop} {q : ST} (hC : CxA p s m args meth c dC dI k A cX4_takeRecord RX4 none 9) {nn : Nat} {r_X4_take : Nat → Nat → Int32 → Int32 → Int32 → Int32 → Int32 → ST → Option (ST)} (hr_X4_take : ∀ {sz : Nat} {p0 : Int32} {p1 : Int32} {p2 : Int32} {p3 : Int32} {p4 : Int32} {σ : ST} {q : ST}, r_X4_take 92 74 p0 p1 p2 p3 p4 σ = some q → Met l yX4_take (.code yX4_take cX4_take 9 none :: pw) ({ frames := 164 + nn, cells := 0, slots := 0, locals := 4412 + 29 * nn } : Room) (va_Pc [.ref (a 92), .int p0, .int p1, .int p2, .int p3, .int p4] (vPre dC dI (wA a k σ) (tA k) sz)) (qAv dC dI a k (va_A (wA a k σ) sz) q) 0 0 (va_A (wA a k σ) sz)) {r_X4_takeField : Nat → Nat → Int32 → Int32 → Int32 → Int32 → Int32 → ST → Option (ST)} (hr_X4_takeField : ∀ {sz : Nat} {p0 : Int32} {p1 : Int32} {p2 : Int32} {p3 : Int32} {p4 : Int32} {σ : ST} {q : ST}, r_X4_takeField 92 74 p0 p1 p2 p3 p4 σ = some q → Met l yX4_takeField (.code yX4_takeField cX4_takeField 9 none :: pw) ({ frames := 164 + nn, cells := 0, slots := 0, locals := 4412 + 29 * nn } : Room) (va_Pc [.ref (a 92), .int p0, .int p1, .int p2, .int p3, .int p4] (vPre dC dI (wA a k σ) (tA k) sz)) (qAv dC dI a k (va_A (wA a k σ) sz) q) 0 0 (va_A (wA a k σ) sz)) {r_X4_takeList : Nat → Nat → Int32 → Int32 → Int32 → Int32 → Int32 → ST → Option (ST)} (hr_X4_takeList : ∀ {sz : Nat} {p0 : Int32} {p1 : Int32} {p2 : Int32} {p3 : Int32} {p4 : Int32} {σ : ST} {q : ST}, r_X4_takeList 92 74 p0 p1 p2 p3 p4 σ = some q → Met l yX4_takeList (.code yX4_takeList cX4_takeList 10 none :: pw) ({ frames := 164 + nn, cells := 0, slots := 0, locals := 4412 + 29 * nn } : Room) (va_Pc [.ref (a 92), .int p0, .int p1, .int p2, .int p3, .int p4] (vPre dC dI (wA a k σ) (tA k) sz)) (qAv dC dI a k (va_A (wA a k σ) sz) q) 0 0 (va_A (wA a k σ) sz)) {r_X4_takeOwn : Nat → Nat → Int32 → Int32 → Int32 → Int32 → Int32 → ST → Option (ST)} (hr_X4_takeOwn : ∀ {sz : Nat} {p0 : Int32} {p1 : Int32} {p2 : Int32} {p3 : Int32} {p4 : Int32} {σ : ST} {q : ST}, r_X4_takeOwn 92 74 p0 p1 p2 p3 p4 σ = some q → Met l yX4_takeOwn (.code yX4_takeOwn cX4_takeOwn 8 none :: pw) ({ frames := 164 + nn, cells := 0, slots := 0, locals := 4412 + 29 * nn } : Room) (va_Pc [.ref (a 92), .int p0, .int p1, .int p2, .int p3, .int p4] (vPre dC dI (wA a k σ) (tA k) sz)) (qAv dC dI a k (va_A (wA a k σ) sz) q) 0 0 (va_A (wA a k σ) sz)) {r_X4_takeRecord : Nat → Nat → Int32 → Int32 → Int32 → Int32 → Int32 → ST → Option (ST)} (hr_X4_takeRecord : ∀ {sz : Nat} {p0 : Int32} {p1 : Int32} {p2 : Int32} {p3 : Int32} {p4 : Int32} {σ : ST} {q : ST}, r_X4_takeRecord 92 74 p0 p1 p2 p3 p4 σ = some q → Met l yX4_takeRecord (.code yX4_takeRecord cX4_takeRecord 9 none :: pw) ({ frames := 164 + nn, cells := 0, slots := 0, locals := 4412 + 29 * nn } : Room) (va_Pc [.ref (a 92), .int p0, .int p1, .int p2, .int p3, .int p4] (vPre dC dI (wA a k σ) (tA k) sz)) (qAv dC dI a k (va_A (wA a k σ) sz) q) 0 0 (va_A (wA a k σ) sz)) {k112 : Int32 → Int32 → Int32 → Int32 → ST → Option (ST)} (hk112 : ∀ (x5 : Int32) (x6 : Int32) (x7 : Int32) (x8 : Int32) (σ : ST), k112 x5 x6 x7 x8 σ = some q → GoA p l e ({ frames := 164 + (nn + 1), cells := 0, slots := 0, locals := 4412 + 29 * (nn + 1) } : Room) s m args below meth c (MQ below (qAv dC dI a k A q) args s 0 0 A) dC dI a k A 9 112 σ [(0, .ref (a 92)), (5, .int x5), (6, .int x6), (7, .int x7), (8, .int x8)] []) {x5 : Int32} {x6 : Int32} {x7 : Int32} {x8 : Int32} {σ : ST} (h : f_X4_takeRecord_155 r_X4_take r_X4_takeField r_X4_takeList r_X4_takeOwn r_X4_takeRecord k112 92 74 x5 x6 x7 x8 σ = some q) : GoA p l e ({ frames := 164 + (nn + 1), cells := 0, slots := 0, locals := 4412 + 29 * (nn + 1) } : Room) s m args below meth c (MQ below (qAv dC dI a k A q) args s 0 0 A) dC dI a k A 9 155 σ [(0, .ref (a 92)), (5, .int x5), (6, .int x6), (7, .int x7), (8, .int x8)] [] := by
  have hC0 := hC
  obtain ⟨hx, hb, hr, hml, hown, hts, hlocks, hA, hN, hK⟩ := hC0
  intro H locs ls hP hD hS hl
  have hD0 : ∀ σ1 : ST, va_D A (wA a k σ1) := fun σ1 => wA_D hD
  unfold f_X4_takeRecord_155 at h
  refine lv_iinc (v := (x8 + 1)) (lv' := [(8, .int (x8 + 1)), (0, .ref (a 92)), (5, .int x5), (6, .int x6), (7, .int x7)]) hx hb dX4_takeRecord_155 hl (k := 4) rfl rfl (by decide) rfl (fun ls hl => ?_)
  refine lv_goto (tgt := 112) hx hb dX4_takeRecord_158 (by decide) ?_
  exact hk112 _ _ _ _ _ h _ _ _ hP hD hS (lv_sub hl [1, 2, 3, 4, 0] rfl)

set_option maxRecDepth 100000 in
set_option maxHeartbeats 4000000 in
theorem b_X4_takeRecord_112_92_74 {p : Program} {l : Launch} {e : Env} {s : State} {m : MethodId} {args : Array Value} {below : List Frame} {meth : Method} {c : Code} {dC : Nat → ClassId} {dI : Nat → Nat → Nat} {a : Nat → Nat} {k : Nat → ClassId} {A : Nat → Prop} {q : ST} (hC : CxA p s m args meth c dC dI k A cX4_takeRecord RX4 none 9) {nn : Nat} {r_X4_take : Nat → Nat → Int32 → Int32 → Int32 → Int32 → Int32 → ST → Option (ST)} (hr_X4_take : ∀ {sz : Nat} {p0 : Int32} {p1 : Int32} {p2 : Int32} {p3 : Int32} {p4 : Int32} {σ : ST} {q : ST}, r_X4_take 92 74 p0 p1 p2 p3 p4 σ = some q → Met l yX4_take (.code yX4_take cX4_take 9 none :: pw) ({ frames := 164 + nn, cells := 0, slots := 0, locals := 4412 + 29 * nn } : Room) (va_Pc [.ref (a 92), .int p0, .int p1, .int p2, .int p3, .int p4] (vPre dC dI (wA a k σ) (tA k) sz)) (qAv dC dI a k (va_A (wA a k σ) sz) q) 0 0 (va_A (wA a k σ) sz)) {r_X4_takeField : Nat → Nat → Int32 → Int32 → Int32 → Int32 → Int32 → ST → Option (ST)} (hr_X4_takeField : ∀ {sz : Nat} {p0 : Int32} {p1 : Int32} {p2 : Int32} {p3 : Int32} {p4 : Int32} {σ : ST} {q : ST}, r_X4_takeField 92 74 p0 p1 p2 p3 p4 σ = some q → Met l yX4_takeField (.code yX4_takeField cX4_takeField 9 none :: pw) ({ frames := 164 + nn, cells := 0, slots := 0, locals := 4412 + 29 * nn } : Room) (va_Pc [.ref (a 92), .int p0, .int p1, .int p2, .int p3, .int p4] (vPre dC dI (wA a k σ) (tA k) sz)) (qAv dC dI a k (va_A (wA a k σ) sz) q) 0 0 (va_A (wA a k σ) sz)) {r_X4_takeList : Nat → Nat → Int32 → Int32 → Int32 → Int32 → Int32 → ST → Option (ST)} (hr_X4_takeList : ∀ {sz : Nat} {p0 : Int32} {p1 : Int32} {p2 : Int32} {p3 : Int32} {p4 : Int32} {σ : ST} {q : ST}, r_X4_takeList 92 74 p0 p1 p2 p3 p4 σ = some q → Met l yX4_takeList (.code yX4_takeList cX4_takeList 10 none :: pw) ({ frames := 164 + nn, cells := 0, slots := 0, locals := 4412 + 29 * nn } : Room) (va_Pc [.ref (a 92), .int p0, .int p1, .int p2, .int p3, .int p4] (vPre dC dI (wA a k σ) (tA k) sz)) (qAv dC dI a k (va_A (wA a k σ) sz) q) 0 0 (va_A (wA a k σ) sz)) {r_X4_takeOwn : Nat → Nat → Int32 → Int32 → Int32 → Int32 → Int32 → ST → Option (ST)} (hr_X4_takeOwn : ∀ {sz : Nat} {p0 : Int32} {p1 : Int32} {p2 : Int32} {p3 : Int32} {p4 : Int32} {σ : ST} {q : ST}, r_X4_takeOwn 92 74 p0 p1 p2 p3 p4 σ = some q → Met l yX4_takeOwn (.code yX4_takeOwn cX4_takeOwn 8 none :: pw) ({ frames := 164 + nn, cells := 0, slots := 0, locals := 4412 + 29 * nn } : Room) (va_Pc [.ref (a 92), .int p0, .int p1, .int p2, .int p3, .int p4] (vPre dC dI (wA a k σ) (tA k) sz)) (qAv dC dI a k (va_A (wA a k σ) sz) q) 0 0 (va_A (wA a k σ) sz)) {r_X4_takeRecord : Nat → Nat → Int32 → Int32 → Int32 → Int32 → Int32 → ST → Option (ST)} (hr_X4_takeRecord : ∀ {sz : Nat} {p0 : Int32} {p1 : Int32} {p2 : Int32} {p3 : Int32} {p4 : Int32} {σ : ST} {q : ST}, r_X4_takeRecord 92 74 p0 p1 p2 p3 p4 σ = some q → Met l yX4_takeRecord (.code yX4_takeRecord cX4_takeRecord 9 none :: pw) ({ frames := 164 + nn, cells := 0, slots := 0, locals := 4412 + 29 * nn } : Room) (va_Pc [.ref (a 92), .int p0, .int p1, .int p2, .int p3, .int p4] (vPre dC dI (wA a k σ) (tA k) sz)) (qAv dC dI a k (va_A (wA a k σ) sz) q) 0 0 (va_A (wA a k σ) sz))  : ∀ (n : Nat) (x5 : Int32) (x6 : Int32) (x7 : Int32) (x8 : Int32) (σ : ST), f_X4_takeRecord_112 r_X4_take r_X4_takeField r_X4_takeList r_X4_takeOwn r_X4_takeRecord 92 74 n x5 x6 x7 x8 σ = some q → GoA p l e ({ frames := 164 + (nn + 1), cells := 0, slots := 0, locals := 4412 + 29 * (nn + 1) } : Room) s m args below meth c (MQ below (qAv dC dI a k A q) args s 0 0 A) dC dI a k A 9 112 σ [(0, .ref (a 92)), (5, .int x5), (6, .int x6), (7, .int x7), (8, .int x8)] [] := by
  intro n
  induction n with
  | zero =>
    intro x5 x6 x7 x8 σ h
    rw [f_X4_takeRecord_112] at h
    cases h
  | succ n ih =>
    intro x5 x6 x7 x8 σ h
    have hC0 := hC
    obtain ⟨hx, hb, hr, hml, hown, hts, hlocks, hA, hN, hK⟩ := hC0
    intro H locs ls hP hD hS hl
    have hD0 : ∀ σ1 : ST, va_D A (wA a k σ1) := fun σ1 => wA_D hD
    rw [f_X4_takeRecord_112] at h
    refine lv_iload hx hb dX4_takeRecord_112 (lv_at hl 4 rfl) ?_
    refine lv_aload_n hx hb dX4_takeRecord_114 rfl (lv_at hl 0 rfl) ?_
    refine va_get (D := (dC, dI)) (ci := 4) (C := RX4) (T := TX4) (N := 12) hx hb hts inlX4 hown hK hP 92 gA_92 rfl 0 (by decide) (hts (.fieldLink RX4 37 "ShapeReader$Reading" "shapes" "LShapeReader$Shapes;") mw_10_28) (fun _ h9 => h9) rfl dX4_takeRecord_115 ?_
    refine lv_iload hx hb dX4_takeRecord_118 (lv_at hl 2 rfl) ?_
    obtain ⟨q1, hc, h⟩ := ib h
    have hF := va_frees hD hS hA
    refine va_calli (va_runV (As := [.int x6]) (rest := [.int x8]) ⟨hx, hb, hml, hown, hts⟩ (s_X5_fieldsOf_4 hc) (cwV 1 hts (gV mw_13_5 mw_1_28 mw_1_29 mw_0_9 mw_49_29) rfl rfl rfl (by decide +kernel) ⟨by show 1 + 1 ≤ 164 + (nn + 1); omega, by show 8 + (2 + 11) + 20 ≤ 4412 + 29 * (nn + 1); omega⟩) (vV (ci := 5) (q0 := 4) hK hP hD hN rfl gA_4) rfl rfl hl.1 rfl (lv_room (Nat.le_of_ble_eq_true rfl)) dX4_takeRecord_120 ⟨(Nat.le_of_ble_eq_true rfl), (Nat.le_of_ble_eq_true rfl)⟩) hS (fun q _ h => hF q h) hF (fun r2 u t H locs ht hvm hw hB _ _ hS => ?_)
    obtain rfl : r2 = q1.1 := hw
    replace hP : va_P (dC, dI) vwCl (wA a k q1.2) H := by rw [← ht]; exact hB.1
    replace hD := hD0 (q1.2)
    clear hB hF
    refine lv_icmp_ge (tgt := 161) hx hb dX4_takeRecord_123 (by decide) (fun hc => ?_) (fun hc => ?_)
    · replace h := ip hc h
      obtain rfl := Option.some.inj h
      exact W.vret hx hb hr (fun t ht hW => ⟨⟨(), rfl, trivial, ⟨by rw [ht]; exact hP, va_K.moved hW.alike hK, hD⟩⟩, hS.F ht⟩) hS.2.2 dX4_takeRecord_161
    · replace h := iq hc h
      refine lv_aload_n hx hb dX4_takeRecord_126 rfl (lv_at hl 0 rfl) ?_
      refine va_get (D := (dC, dI)) (ci := 4) (C := RX4) (T := TX4) (N := 12) hx hb hts inlX4 hown hK hP 92 gA_92 rfl 7 (by decide) (hts (.fieldLink RX4 21 "ShapeReader$Reading" "failure" "I") mw_10_23) (fun _ h9 => h9) rfl dX4_takeRecord_127 ?_
      refine lv_if_ne (tgt := 161) hx hb dX4_takeRecord_130 (by decide) (fun hc => ?_) (fun hc => ?_)
      · replace h := iq hc h
        obtain rfl := Option.some.inj h
        exact W.vret hx hb hr (fun t ht hW => ⟨⟨(), rfl, trivial, ⟨by rw [ht]; exact hP, va_K.moved hW.alike hK, hD⟩⟩, hS.F ht⟩) hS.2.2 dX4_takeRecord_161
      · replace h := ip hc h
        refine lv_aload_n hx hb dX4_takeRecord_133 rfl (lv_at hl 0 rfl) ?_
        refine lv_iload hx hb dX4_takeRecord_134 (lv_at hl 1 rfl) ?_
        refine lv_iload hx hb dX4_takeRecord_136 (lv_at hl 4 rfl) ?_
        obtain ⟨q3, hc, h⟩ := ib h
        have hF := va_frees hD hS hA
        refine va_calli (va_runV (As := [.int x5, .int x8]) (rest := []) ⟨hx, hb, hml, hown, hts⟩ (s_X4_sourceAt_92_74 hc) (cwV 2 hts (gV mw_13_16 mw_13_17 mw_13_18 mw_0_8 mw_49_11) rfl rfl rfl (by decide +kernel) ⟨by show 0 + 1 ≤ 164 + (nn + 1); omega, by show 8 + (3 + 11) + 0 ≤ 4412 + 29 * (nn + 1); omega⟩) (vV (ci := 4) (q0 := 92) hK hP hD hN rfl gA_92) rfl rfl hl.1 rfl (lv_room (Nat.le_of_ble_eq_true rfl)) dX4_takeRecord_138 ⟨(Nat.le_of_ble_eq_true rfl), (Nat.le_of_ble_eq_true rfl)⟩) hS (fun q _ h => hF q h) hF (fun r4 u t H locs ht hvm hw hB _ _ hS => ?_)
        obtain rfl : r4 = q3.1 := hw
        replace hP : va_P (dC, dI) vwCl (wA a k q3.2) H := by rw [← ht]; exact hB.1
        replace hD := hD0 (q3.2)
        clear hB hF
        refine lv_iconst (v := (-1)) hx hb dX4_takeRecord_141 (by decide) ?_
        refine lv_icmp_ne (tgt := 155) hx hb dX4_takeRecord_142 (by decide) (fun hc => ?_) (fun hc => ?_)
        · replace h := iq hc h
          exact b_X4_takeRecord_155_92_74 hC hr_X4_take hr_X4_takeField hr_X4_takeList hr_X4_takeOwn hr_X4_takeRecord ih h _ _ _ hP hD hS (lv_sub hl [0, 1, 2, 3, 4] rfl)
        · replace h := ip hc h
          refine lv_aload_n hx hb dX4_takeRecord_145 rfl (lv_at hl 0 rfl) ?_
          refine lv_iload hx hb dX4_takeRecord_146 (lv_at hl 2 rfl) ?_
          refine lv_iload hx hb dX4_takeRecord_148 (lv_at hl 4 rfl) ?_
          refine lv_iload hx hb dX4_takeRecord_150 (lv_at hl 3 rfl) ?_
          obtain ⟨q5, hc, h⟩ := ib h
          have hF := va_frees hD hS hA
          refine va_callv (va_runV (As := [.int x6, .int x8, .int x7]) (rest := []) ⟨hx, hb, hml, hown, hts⟩ (s_X4_fillIn_92_74 hc) (cwV 3 hts (gV mw_13_19 mw_13_20 mw_13_21 mw_0_8 mw_49_13) rfl rfl rfl (by decide +kernel) ⟨by show 4 + 1 ≤ 164 + (nn + 1); omega, by show 8 + (8 + 11) + 98 ≤ 4412 + 29 * (nn + 1); omega⟩) (vV (ci := 4) (q0 := 92) hK hP hD hN rfl gA_92) rfl rfl hl.1 rfl (lv_room (Nat.le_of_ble_eq_true rfl)) dX4_takeRecord_152 ⟨(Nat.le_of_ble_eq_true rfl), (Nat.le_of_ble_eq_true rfl)⟩) hS (fun q _ h => hF q h) hF (fun u t H locs ht hvm hw hB _ _ hS => ?_)
          replace hP : va_P (dC, dI) vwCl (wA a k q5) H := by rw [← ht]; exact hB.1
          replace hD := hD0 (q5)
          clear hB hF
          exact b_X4_takeRecord_155_92_74 hC hr_X4_take hr_X4_takeField hr_X4_takeList hr_X4_takeOwn hr_X4_takeRecord ih h _ _ _ hP hD hS (lv_sub hl [0, 1, 2, 3, 4] rfl)

set_option maxRecDepth 100000 in
set_option maxHeartbeats 4000000 in
theorem b_X4_takeRecord_109_92_74 {p : Program} {l : Launch} {e : Env} {s : State} {m : MethodId} {args : Array Value} {below : List Frame} {meth : Method} {c : Code} {dC : Nat → ClassId} {dI : Nat → Nat → Nat} {a : Nat → Nat} {k : Nat → ClassId} {A : Nat → Prop} {q : ST} (hC : CxA p s m args meth c dC dI k A cX4_takeRecord RX4 none 9) {nn : Nat} {r_X4_take : Nat → Nat → Int32 → Int32 → Int32 → Int32 → Int32 → ST → Option (ST)} (hr_X4_take : ∀ {sz : Nat} {p0 : Int32} {p1 : Int32} {p2 : Int32} {p3 : Int32} {p4 : Int32} {σ : ST} {q : ST}, r_X4_take 92 74 p0 p1 p2 p3 p4 σ = some q → Met l yX4_take (.code yX4_take cX4_take 9 none :: pw) ({ frames := 164 + nn, cells := 0, slots := 0, locals := 4412 + 29 * nn } : Room) (va_Pc [.ref (a 92), .int p0, .int p1, .int p2, .int p3, .int p4] (vPre dC dI (wA a k σ) (tA k) sz)) (qAv dC dI a k (va_A (wA a k σ) sz) q) 0 0 (va_A (wA a k σ) sz)) {r_X4_takeField : Nat → Nat → Int32 → Int32 → Int32 → Int32 → Int32 → ST → Option (ST)} (hr_X4_takeField : ∀ {sz : Nat} {p0 : Int32} {p1 : Int32} {p2 : Int32} {p3 : Int32} {p4 : Int32} {σ : ST} {q : ST}, r_X4_takeField 92 74 p0 p1 p2 p3 p4 σ = some q → Met l yX4_takeField (.code yX4_takeField cX4_takeField 9 none :: pw) ({ frames := 164 + nn, cells := 0, slots := 0, locals := 4412 + 29 * nn } : Room) (va_Pc [.ref (a 92), .int p0, .int p1, .int p2, .int p3, .int p4] (vPre dC dI (wA a k σ) (tA k) sz)) (qAv dC dI a k (va_A (wA a k σ) sz) q) 0 0 (va_A (wA a k σ) sz)) {r_X4_takeList : Nat → Nat → Int32 → Int32 → Int32 → Int32 → Int32 → ST → Option (ST)} (hr_X4_takeList : ∀ {sz : Nat} {p0 : Int32} {p1 : Int32} {p2 : Int32} {p3 : Int32} {p4 : Int32} {σ : ST} {q : ST}, r_X4_takeList 92 74 p0 p1 p2 p3 p4 σ = some q → Met l yX4_takeList (.code yX4_takeList cX4_takeList 10 none :: pw) ({ frames := 164 + nn, cells := 0, slots := 0, locals := 4412 + 29 * nn } : Room) (va_Pc [.ref (a 92), .int p0, .int p1, .int p2, .int p3, .int p4] (vPre dC dI (wA a k σ) (tA k) sz)) (qAv dC dI a k (va_A (wA a k σ) sz) q) 0 0 (va_A (wA a k σ) sz)) {r_X4_takeOwn : Nat → Nat → Int32 → Int32 → Int32 → Int32 → Int32 → ST → Option (ST)} (hr_X4_takeOwn : ∀ {sz : Nat} {p0 : Int32} {p1 : Int32} {p2 : Int32} {p3 : Int32} {p4 : Int32} {σ : ST} {q : ST}, r_X4_takeOwn 92 74 p0 p1 p2 p3 p4 σ = some q → Met l yX4_takeOwn (.code yX4_takeOwn cX4_takeOwn 8 none :: pw) ({ frames := 164 + nn, cells := 0, slots := 0, locals := 4412 + 29 * nn } : Room) (va_Pc [.ref (a 92), .int p0, .int p1, .int p2, .int p3, .int p4] (vPre dC dI (wA a k σ) (tA k) sz)) (qAv dC dI a k (va_A (wA a k σ) sz) q) 0 0 (va_A (wA a k σ) sz)) {r_X4_takeRecord : Nat → Nat → Int32 → Int32 → Int32 → Int32 → Int32 → ST → Option (ST)} (hr_X4_takeRecord : ∀ {sz : Nat} {p0 : Int32} {p1 : Int32} {p2 : Int32} {p3 : Int32} {p4 : Int32} {σ : ST} {q : ST}, r_X4_takeRecord 92 74 p0 p1 p2 p3 p4 σ = some q → Met l yX4_takeRecord (.code yX4_takeRecord cX4_takeRecord 9 none :: pw) ({ frames := 164 + nn, cells := 0, slots := 0, locals := 4412 + 29 * nn } : Room) (va_Pc [.ref (a 92), .int p0, .int p1, .int p2, .int p3, .int p4] (vPre dC dI (wA a k σ) (tA k) sz)) (qAv dC dI a k (va_A (wA a k σ) sz) q) 0 0 (va_A (wA a k σ) sz))  {x5 : Int32} {x6 : Int32} {x7 : Int32} {σ : ST} (h : f_X4_takeRecord_109 r_X4_take r_X4_takeField r_X4_takeList r_X4_takeOwn r_X4_takeRecord 92 74 x5 x6 x7 σ = some q) : GoA p l e ({ frames := 164 + (nn + 1), cells := 0, slots := 0, locals := 4412 + 29 * (nn + 1) } : Room) s m args below meth c (MQ below (qAv dC dI a k A q) args s 0 0 A) dC dI a k A 9 109 σ [(0, .ref (a 92)), (5, .int x5), (6, .int x6), (7, .int x7)] [] := by
  have hC0 := hC
  obtain ⟨hx, hb, hr, hml, hown, hts, hlocks, hA, hN, hK⟩ := hC0
  intro H locs ls hP hD hS hl
  have hD0 : ∀ σ1 : ST, va_D A (wA a k σ1) := fun σ1 => wA_D hD
  unfold f_X4_takeRecord_109 at h
  refine lv_iconst (v := 0) hx hb dX4_takeRecord_109 (by decide) ?_
  refine lv_istore (lv' := [(8, .int 0), (0, .ref (a 92)), (5, .int x5), (6, .int x6), (7, .int x7)]) hx hb dX4_takeRecord_110 hl (by decide) rfl (fun ls hl => ?_)
  exact b_X4_takeRecord_112_92_74 hC hr_X4_take hr_X4_takeField hr_X4_takeList hr_X4_takeOwn hr_X4_takeRecord FU _ _ _ _ _ h _ _ _ hP hD hS (lv_sub hl [1, 2, 3, 4, 0] rfl)

set_option maxRecDepth 100000 in
set_option maxHeartbeats 4000000 in
theorem b_X4_takeRecord_51_92_74 {p : Program} {l : Launch} {e : Env} {s : State} {m : MethodId} {args : Array Value} {below : List Frame} {meth : Method} {c : Code} {dC : Nat → ClassId} {dI : Nat → Nat → Nat} {a : Nat → Nat} {k : Nat → ClassId} {A : Nat → Prop} {q : ST} (hC : CxA p s m args meth c dC dI k A cX4_takeRecord RX4 none 9) {nn : Nat} {r_X4_take : Nat → Nat → Int32 → Int32 → Int32 → Int32 → Int32 → ST → Option (ST)} (hr_X4_take : ∀ {sz : Nat} {p0 : Int32} {p1 : Int32} {p2 : Int32} {p3 : Int32} {p4 : Int32} {σ : ST} {q : ST}, r_X4_take 92 74 p0 p1 p2 p3 p4 σ = some q → Met l yX4_take (.code yX4_take cX4_take 9 none :: pw) ({ frames := 164 + nn, cells := 0, slots := 0, locals := 4412 + 29 * nn } : Room) (va_Pc [.ref (a 92), .int p0, .int p1, .int p2, .int p3, .int p4] (vPre dC dI (wA a k σ) (tA k) sz)) (qAv dC dI a k (va_A (wA a k σ) sz) q) 0 0 (va_A (wA a k σ) sz)) {r_X4_takeField : Nat → Nat → Int32 → Int32 → Int32 → Int32 → Int32 → ST → Option (ST)} (hr_X4_takeField : ∀ {sz : Nat} {p0 : Int32} {p1 : Int32} {p2 : Int32} {p3 : Int32} {p4 : Int32} {σ : ST} {q : ST}, r_X4_takeField 92 74 p0 p1 p2 p3 p4 σ = some q → Met l yX4_takeField (.code yX4_takeField cX4_takeField 9 none :: pw) ({ frames := 164 + nn, cells := 0, slots := 0, locals := 4412 + 29 * nn } : Room) (va_Pc [.ref (a 92), .int p0, .int p1, .int p2, .int p3, .int p4] (vPre dC dI (wA a k σ) (tA k) sz)) (qAv dC dI a k (va_A (wA a k σ) sz) q) 0 0 (va_A (wA a k σ) sz)) {r_X4_takeList : Nat → Nat → Int32 → Int32 → Int32 → Int32 → Int32 → ST → Option (ST)} (hr_X4_takeList : ∀ {sz : Nat} {p0 : Int32} {p1 : Int32} {p2 : Int32} {p3 : Int32} {p4 : Int32} {σ : ST} {q : ST}, r_X4_takeList 92 74 p0 p1 p2 p3 p4 σ = some q → Met l yX4_takeList (.code yX4_takeList cX4_takeList 10 none :: pw) ({ frames := 164 + nn, cells := 0, slots := 0, locals := 4412 + 29 * nn } : Room) (va_Pc [.ref (a 92), .int p0, .int p1, .int p2, .int p3, .int p4] (vPre dC dI (wA a k σ) (tA k) sz)) (qAv dC dI a k (va_A (wA a k σ) sz) q) 0 0 (va_A (wA a k σ) sz)) {r_X4_takeOwn : Nat → Nat → Int32 → Int32 → Int32 → Int32 → Int32 → ST → Option (ST)} (hr_X4_takeOwn : ∀ {sz : Nat} {p0 : Int32} {p1 : Int32} {p2 : Int32} {p3 : Int32} {p4 : Int32} {σ : ST} {q : ST}, r_X4_takeOwn 92 74 p0 p1 p2 p3 p4 σ = some q → Met l yX4_takeOwn (.code yX4_takeOwn cX4_takeOwn 8 none :: pw) ({ frames := 164 + nn, cells := 0, slots := 0, locals := 4412 + 29 * nn } : Room) (va_Pc [.ref (a 92), .int p0, .int p1, .int p2, .int p3, .int p4] (vPre dC dI (wA a k σ) (tA k) sz)) (qAv dC dI a k (va_A (wA a k σ) sz) q) 0 0 (va_A (wA a k σ) sz)) {r_X4_takeRecord : Nat → Nat → Int32 → Int32 → Int32 → Int32 → Int32 → ST → Option (ST)} (hr_X4_takeRecord : ∀ {sz : Nat} {p0 : Int32} {p1 : Int32} {p2 : Int32} {p3 : Int32} {p4 : Int32} {σ : ST} {q : ST}, r_X4_takeRecord 92 74 p0 p1 p2 p3 p4 σ = some q → Met l yX4_takeRecord (.code yX4_takeRecord cX4_takeRecord 9 none :: pw) ({ frames := 164 + nn, cells := 0, slots := 0, locals := 4412 + 29 * nn } : Room) (va_Pc [.ref (a 92), .int p0, .int p1, .int p2, .int p3, .int p4] (vPre dC dI (wA a k σ) (tA k) sz)) (qAv dC dI a k (va_A (wA a k σ) sz) q) 0 0 (va_A (wA a k σ) sz))  : ∀ (n : Nat) (x1 : Int32) (x5 : Int32) (x6 : Int32) (x7 : Int32) (x8 : Int32) (σ : ST), f_X4_takeRecord_51 r_X4_take r_X4_takeField r_X4_takeList r_X4_takeOwn r_X4_takeRecord 92 74 n x1 x5 x6 x7 x8 σ = some q → GoA p l e ({ frames := 164 + (nn + 1), cells := 0, slots := 0, locals := 4412 + 29 * (nn + 1) } : Room) s m args below meth c (MQ below (qAv dC dI a k A q) args s 0 0 A) dC dI a k A 9 51 σ [(0, .ref (a 92)), (1, .int x1), (5, .int x5), (6, .int x6), (7, .int x7), (8, .int x8)] [] := by
  intro n
  induction n with
  | zero =>
    intro x1 x5 x6 x7 x8 σ h
    rw [f_X4_takeRecord_51] at h
    cases h
  | succ n ih =>
    intro x1 x5 x6 x7 x8 σ h
    have hC0 := hC
    obtain ⟨hx, hb, hr, hml, hown, hts, hlocks, hA, hN, hK⟩ := hC0
    intro H locs ls hP hD hS hl
    have hD0 : ∀ σ1 : ST, va_D A (wA a k σ1) := fun σ1 => wA_D hD
    rw [f_X4_takeRecord_51] at h
    refine lv_iload hx hb dX4_takeRecord_51 (lv_at hl 5 rfl) ?_
    refine lv_aload_n hx hb dX4_takeRecord_53 rfl (lv_at hl 0 rfl) ?_
    refine va_get (D := (dC, dI)) (ci := 4) (C := RX4) (T := TX4) (N := 12) hx hb hts inlX4 hown hK hP 92 gA_92 rfl 0 (by decide) (hts (.fieldLink RX4 37 "ShapeReader$Reading" "shapes" "LShapeReader$Shapes;") mw_10_28) (fun _ h9 => h9) rfl dX4_takeRecord_54 ?_
    refine lv_iload_n hx hb dX4_takeRecord_57 rfl (lv_at hl 1 rfl) ?_
    obtain ⟨q1, hc, h⟩ := ib h
    have hF := va_frees hD hS hA
    refine va_calli (va_runV (As := [.int x1]) (rest := [.int x8]) ⟨hx, hb, hml, hown, hts⟩ (s_X5_fieldsOf_4 hc) (cwV 1 hts (gV mw_13_5 mw_1_28 mw_1_29 mw_0_9 mw_49_29) rfl rfl rfl (by decide +kernel) ⟨by show 1 + 1 ≤ 164 + (nn + 1); omega, by show 8 + (2 + 11) + 20 ≤ 4412 + 29 * (nn + 1); omega⟩) (vV (ci := 5) (q0 := 4) hK hP hD hN rfl gA_4) rfl rfl hl.1 rfl (lv_room (Nat.le_of_ble_eq_true rfl)) dX4_takeRecord_58 ⟨(Nat.le_of_ble_eq_true rfl), (Nat.le_of_ble_eq_true rfl)⟩) hS (fun q _ h => hF q h) hF (fun r2 u t H locs ht hvm hw hB _ _ hS => ?_)
    obtain rfl : r2 = q1.1 := hw
    replace hP : va_P (dC, dI) vwCl (wA a k q1.2) H := by rw [← ht]; exact hB.1
    replace hD := hD0 (q1.2)
    clear hB hF
    refine lv_icmp_ge (tgt := 109) hx hb dX4_takeRecord_61 (by decide) (fun hc => ?_) (fun hc => ?_)
    · replace h := ip hc h
      exact b_X4_takeRecord_109_92_74 hC hr_X4_take hr_X4_takeField hr_X4_takeList hr_X4_takeOwn hr_X4_takeRecord h _ _ _ hP hD hS (lv_sub hl [0, 2, 3, 4] rfl)
    · replace h := iq hc h
      refine lv_aload_n hx hb dX4_takeRecord_64 rfl (lv_at hl 0 rfl) ?_
      refine va_get (D := (dC, dI)) (ci := 4) (C := RX4) (T := TX4) (N := 12) hx hb hts inlX4 hown hK hP 92 gA_92 rfl 7 (by decide) (hts (.fieldLink RX4 21 "ShapeReader$Reading" "failure" "I") mw_10_23) (fun _ h9 => h9) rfl dX4_takeRecord_65 ?_
      refine lv_if_ne (tgt := 109) hx hb dX4_takeRecord_68 (by decide) (fun hc => ?_) (fun hc => ?_)
      · replace h := iq hc h
        exact b_X4_takeRecord_109_92_74 hC hr_X4_take hr_X4_takeField hr_X4_takeList hr_X4_takeOwn hr_X4_takeRecord h _ _ _ hP hD hS (lv_sub hl [0, 2, 3, 4] rfl)
      · replace h := ip hc h
        refine lv_aload_n hx hb dX4_takeRecord_71 rfl (lv_at hl 0 rfl) ?_
        refine lv_iload hx hb dX4_takeRecord_72 (lv_at hl 5 rfl) ?_
        obtain ⟨q3, hc, h⟩ := ib h
        have hF := va_frees hD hS hA
        refine va_callv (va_runV (As := [.int x8]) (rest := []) ⟨hx, hb, hml, hown, hts⟩ (s_X4_step_92_74 hc) (cwV 1 hts (gV mw_12_8 mw_12_9 mw_12_10 mw_0_8 mw_49_3) rfl rfl rfl (by decide +kernel) ⟨by show 0 + 1 ≤ 164 + (nn + 1); omega, by show 8 + (2 + 11) + 0 ≤ 4412 + 29 * (nn + 1); omega⟩) (vV (ci := 4) (q0 := 92) hK hP hD hN rfl gA_92) rfl rfl hl.1 rfl (lv_room (Nat.le_of_ble_eq_true rfl)) dX4_takeRecord_74 ⟨(Nat.le_of_ble_eq_true rfl), (Nat.le_of_ble_eq_true rfl)⟩) hS (fun q _ h => hF q h) hF (fun u t H locs ht hvm hw hB _ _ hS => ?_)
        replace hP : va_P (dC, dI) vwCl (wA a k q3) H := by rw [← ht]; exact hB.1
        replace hD := hD0 (q3)
        clear hB hF
        refine lv_aload_n hx hb dX4_takeRecord_77 rfl (lv_at hl 0 rfl) ?_
        refine lv_aload_n hx hb dX4_takeRecord_78 rfl (lv_at hl 0 rfl) ?_
        refine va_get (D := (dC, dI)) (ci := 4) (C := RX4) (T := TX4) (N := 12) hx hb hts inlX4 hown hK hP 92 gA_92 rfl 0 (by decide) (hts (.fieldLink RX4 37 "ShapeReader$Reading" "shapes" "LShapeReader$Shapes;") mw_10_28) (fun _ h9 => h9) rfl dX4_takeRecord_79 ?_
        refine lv_iload_n hx hb dX4_takeRecord_82 rfl (lv_at hl 1 rfl) ?_
        refine lv_iload hx hb dX4_takeRecord_83 (lv_at hl 5 rfl) ?_
        obtain ⟨q5, hc, h⟩ := ib h
        have hF := va_frees hD hS hA
        refine va_calli (va_runV (As := [.int x1, .int x8]) (rest := [.ref (a 92)]) ⟨hx, hb, hml, hown, hts⟩ (s_X5_typeOf_4 hc) (cwV 2 hts (gV mw_13_12 mw_2_7 mw_2_8 mw_0_9 mw_50_3) rfl rfl rfl (by decide +kernel) ⟨by show 1 + 1 ≤ 164 + (nn + 1); omega, by show 8 + (3 + 11) + 21 ≤ 4412 + 29 * (nn + 1); omega⟩) (vV (ci := 5) (q0 := 4) hK hP hD hN rfl gA_4) rfl rfl hl.1 rfl (lv_room (Nat.le_of_ble_eq_true rfl)) dX4_takeRecord_85 ⟨(Nat.le_of_ble_eq_true rfl), (Nat.le_of_ble_eq_true rfl)⟩) hS (fun q _ h => hF q h) hF (fun r6 u t H locs ht hvm hw hB _ _ hS => ?_)
        obtain rfl : r6 = q5.1 := hw
        replace hP : va_P (dC, dI) vwCl (wA a k q5.2) H := by rw [← ht]; exact hB.1
        replace hD := hD0 (q5.2)
        clear hB hF
        refine lv_iload hx hb dX4_takeRecord_88 (lv_at hl 5 rfl) ?_
        refine lv_iload hx hb dX4_takeRecord_90 (lv_at hl 3 rfl) ?_
        refine lv_iload hx hb dX4_takeRecord_92 (lv_at hl 4 rfl) ?_
        refine lv_iload hx hb dX4_takeRecord_94 (lv_at hl 2 rfl) ?_
        obtain ⟨q7, hc, h⟩ := ib h
        have hF := va_frees hD hS hA
        refine va_callv (va_runV (As := [.int q5.1, .int x8, .int x6, .int x7, .int x5]) (rest := []) ⟨hx, hb, hml, hown, hts⟩ (hr_X4_takeField hc) (cwV 5 hts (gV mw_13_13 mw_13_14 mw_13_15 mw_0_8 mw_49_12) rfl rfl rfl (by decide +kernel) ⟨by show (164 + nn) + 1 ≤ 164 + (nn + 1); omega, by show 8 + (9 + 11) + (4412 + 29 * nn) ≤ 4412 + 29 * (nn + 1); omega⟩) (vV (ci := 4) (q0 := 92) hK hP hD hN rfl gA_92) rfl rfl hl.1 rfl (lv_room (Nat.le_of_ble_eq_true rfl)) dX4_takeRecord_96 ⟨(Nat.le_of_ble_eq_true rfl), (Nat.le_of_ble_eq_true rfl)⟩) hS (fun q _ h => hF q h) hF (fun u t H locs ht hvm hw hB _ _ hS => ?_)
        replace hP : va_P (dC, dI) vwCl (wA a k q7) H := by rw [← ht]; exact hB.1
        replace hD := hD0 (q7)
        clear hB hF
        refine lv_aload_n hx hb dX4_takeRecord_99 rfl (lv_at hl 0 rfl) ?_
        obtain ⟨q9, hc, h⟩ := ib h
        have hF := va_frees hD hS hA
        refine va_callv (va_runV (As := []) (rest := []) ⟨hx, hb, hml, hown, hts⟩ (s_X4_stepBack_92_74 hc) (cwV 0 hts (gV mw_12_12 mw_12_13 mw_12_14 mw_0_8 mw_49_4) rfl rfl rfl (by decide +kernel) ⟨by show 0 + 1 ≤ 164 + (nn + 1); omega, by show 8 + (1 + 11) + 0 ≤ 4412 + 29 * (nn + 1); omega⟩) (vV (ci := 4) (q0 := 92) hK hP hD hN rfl gA_92) rfl rfl hl.1 rfl (lv_room (Nat.le_of_ble_eq_true rfl)) dX4_takeRecord_100 ⟨(Nat.le_of_ble_eq_true rfl), (Nat.le_of_ble_eq_true rfl)⟩) hS (fun q _ h => hF q h) hF (fun u t H locs ht hvm hw hB _ _ hS => ?_)
        replace hP : va_P (dC, dI) vwCl (wA a k q9) H := by rw [← ht]; exact hB.1
        replace hD := hD0 (q9)
        clear hB hF
        refine lv_iinc (v := (x8 + 1)) (lv' := [(8, .int (x8 + 1)), (0, .ref (a 92)), (1, .int x1), (5, .int x5), (6, .int x6), (7, .int x7)]) hx hb dX4_takeRecord_103 hl (k := 5) rfl rfl (by decide) rfl (fun ls hl => ?_)
        refine lv_goto (tgt := 51) hx hb dX4_takeRecord_106 (by decide) ?_
        exact ih _ _ _ _ _ _ h _ _ _ hP hD hS (lv_sub hl [1, 2, 3, 4, 5, 0] rfl)

set_option maxRecDepth 100000 in
set_option maxHeartbeats 4000000 in
theorem b_X4_takeRecord_17_92_74 {p : Program} {l : Launch} {e : Env} {s : State} {m : MethodId} {args : Array Value} {below : List Frame} {meth : Method} {c : Code} {dC : Nat → ClassId} {dI : Nat → Nat → Nat} {a : Nat → Nat} {k : Nat → ClassId} {A : Nat → Prop} {q : ST} (hC : CxA p s m args meth c dC dI k A cX4_takeRecord RX4 none 9) {nn : Nat} {r_X4_take : Nat → Nat → Int32 → Int32 → Int32 → Int32 → Int32 → ST → Option (ST)} (hr_X4_take : ∀ {sz : Nat} {p0 : Int32} {p1 : Int32} {p2 : Int32} {p3 : Int32} {p4 : Int32} {σ : ST} {q : ST}, r_X4_take 92 74 p0 p1 p2 p3 p4 σ = some q → Met l yX4_take (.code yX4_take cX4_take 9 none :: pw) ({ frames := 164 + nn, cells := 0, slots := 0, locals := 4412 + 29 * nn } : Room) (va_Pc [.ref (a 92), .int p0, .int p1, .int p2, .int p3, .int p4] (vPre dC dI (wA a k σ) (tA k) sz)) (qAv dC dI a k (va_A (wA a k σ) sz) q) 0 0 (va_A (wA a k σ) sz)) {r_X4_takeField : Nat → Nat → Int32 → Int32 → Int32 → Int32 → Int32 → ST → Option (ST)} (hr_X4_takeField : ∀ {sz : Nat} {p0 : Int32} {p1 : Int32} {p2 : Int32} {p3 : Int32} {p4 : Int32} {σ : ST} {q : ST}, r_X4_takeField 92 74 p0 p1 p2 p3 p4 σ = some q → Met l yX4_takeField (.code yX4_takeField cX4_takeField 9 none :: pw) ({ frames := 164 + nn, cells := 0, slots := 0, locals := 4412 + 29 * nn } : Room) (va_Pc [.ref (a 92), .int p0, .int p1, .int p2, .int p3, .int p4] (vPre dC dI (wA a k σ) (tA k) sz)) (qAv dC dI a k (va_A (wA a k σ) sz) q) 0 0 (va_A (wA a k σ) sz)) {r_X4_takeList : Nat → Nat → Int32 → Int32 → Int32 → Int32 → Int32 → ST → Option (ST)} (hr_X4_takeList : ∀ {sz : Nat} {p0 : Int32} {p1 : Int32} {p2 : Int32} {p3 : Int32} {p4 : Int32} {σ : ST} {q : ST}, r_X4_takeList 92 74 p0 p1 p2 p3 p4 σ = some q → Met l yX4_takeList (.code yX4_takeList cX4_takeList 10 none :: pw) ({ frames := 164 + nn, cells := 0, slots := 0, locals := 4412 + 29 * nn } : Room) (va_Pc [.ref (a 92), .int p0, .int p1, .int p2, .int p3, .int p4] (vPre dC dI (wA a k σ) (tA k) sz)) (qAv dC dI a k (va_A (wA a k σ) sz) q) 0 0 (va_A (wA a k σ) sz)) {r_X4_takeOwn : Nat → Nat → Int32 → Int32 → Int32 → Int32 → Int32 → ST → Option (ST)} (hr_X4_takeOwn : ∀ {sz : Nat} {p0 : Int32} {p1 : Int32} {p2 : Int32} {p3 : Int32} {p4 : Int32} {σ : ST} {q : ST}, r_X4_takeOwn 92 74 p0 p1 p2 p3 p4 σ = some q → Met l yX4_takeOwn (.code yX4_takeOwn cX4_takeOwn 8 none :: pw) ({ frames := 164 + nn, cells := 0, slots := 0, locals := 4412 + 29 * nn } : Room) (va_Pc [.ref (a 92), .int p0, .int p1, .int p2, .int p3, .int p4] (vPre dC dI (wA a k σ) (tA k) sz)) (qAv dC dI a k (va_A (wA a k σ) sz) q) 0 0 (va_A (wA a k σ) sz)) {r_X4_takeRecord : Nat → Nat → Int32 → Int32 → Int32 → Int32 → Int32 → ST → Option (ST)} (hr_X4_takeRecord : ∀ {sz : Nat} {p0 : Int32} {p1 : Int32} {p2 : Int32} {p3 : Int32} {p4 : Int32} {σ : ST} {q : ST}, r_X4_takeRecord 92 74 p0 p1 p2 p3 p4 σ = some q → Met l yX4_takeRecord (.code yX4_takeRecord cX4_takeRecord 9 none :: pw) ({ frames := 164 + nn, cells := 0, slots := 0, locals := 4412 + 29 * nn } : Room) (va_Pc [.ref (a 92), .int p0, .int p1, .int p2, .int p3, .int p4] (vPre dC dI (wA a k σ) (tA k) sz)) (qAv dC dI a k (va_A (wA a k σ) sz) q) 0 0 (va_A (wA a k σ) sz))  {x1 : Int32} {x2 : Int32} {x3 : Int32} {x4 : Int32} {x5 : Int32} {y0 : Int32} {σ : ST} (h : f_X4_takeRecord_17 r_X4_take r_X4_takeField r_X4_takeList r_X4_takeOwn r_X4_takeRecord 92 74 x1 x2 x3 x4 x5 y0 σ = some q) : GoA p l e ({ frames := 164 + (nn + 1), cells := 0, slots := 0, locals := 4412 + 29 * (nn + 1) } : Room) s m args below meth c (MQ below (qAv dC dI a k A q) args s 0 0 A) dC dI a k A 9 17 σ [(0, .ref (a 92)), (1, .int x1), (2, .int x2), (3, .int x3), (4, .int x4), (5, .int x5)] [.int y0] := by
  have hC0 := hC
  obtain ⟨hx, hb, hr, hml, hown, hts, hlocks, hA, hN, hK⟩ := hC0
  intro H locs ls hP hD hS hl
  have hD0 : ∀ σ1 : ST, va_D A (wA a k σ1) := fun σ1 => wA_D hD
  unfold f_X4_takeRecord_17 at h
  refine lv_istore (lv' := [(6, .int y0), (0, .ref (a 92)), (1, .int x1), (2, .int x2), (3, .int x3), (4, .int x4), (5, .int x5)]) hx hb dX4_takeRecord_17 hl (by decide) rfl (fun ls hl => ?_)
  refine lv_aload_n hx hb dX4_takeRecord_19 rfl (lv_at hl 1 rfl) ?_
  refine lv_iload_n hx hb dX4_takeRecord_20 rfl (lv_at hl 3 rfl) ?_
  refine lv_iload_n hx hb dX4_takeRecord_21 rfl (lv_at hl 4 rfl) ?_
  refine lv_iload hx hb dX4_takeRecord_22 (lv_at hl 5 rfl) ?_
  refine lv_aload_n hx hb dX4_takeRecord_24 rfl (lv_at hl 1 rfl) ?_
  refine va_get (D := (dC, dI)) (ci := 4) (C := RX4) (T := TX4) (N := 12) hx hb hts inlX4 hown hK hP 92 gA_92 rfl 0 (by decide) (hts (.fieldLink RX4 37 "ShapeReader$Reading" "shapes" "LShapeReader$Shapes;") mw_10_28) (fun _ h9 => h9) rfl dX4_takeRecord_25 ?_
  refine lv_iload hx hb dX4_takeRecord_28 (lv_at hl 0 rfl) ?_
  obtain ⟨q1, hc, h⟩ := ib h
  have hF := va_frees hD hS hA
  refine va_calli (va_runV (As := [.int y0]) (rest := [.int x4, .int x3, .int x2, .ref (a 92)]) ⟨hx, hb, hml, hown, hts⟩ (s_X5_fieldsOf_4 hc) (cwV 1 hts (gV mw_13_5 mw_1_28 mw_1_29 mw_0_9 mw_49_29) rfl rfl rfl (by decide +kernel) ⟨by show 1 + 1 ≤ 164 + (nn + 1); omega, by show 8 + (2 + 11) + 20 ≤ 4412 + 29 * (nn + 1); omega⟩) (vV (ci := 5) (q0 := 4) hK hP hD hN rfl gA_4) rfl rfl hl.1 rfl (lv_room (Nat.le_of_ble_eq_true rfl)) dX4_takeRecord_30 ⟨(Nat.le_of_ble_eq_true rfl), (Nat.le_of_ble_eq_true rfl)⟩) hS (fun q _ h => hF q h) hF (fun r2 u t H locs ht hvm hw hB _ _ hS => ?_)
  obtain rfl : r2 = q1.1 := hw
  replace hP : va_P (dC, dI) vwCl (wA a k q1.2) H := by rw [← ht]; exact hB.1
  replace hD := hD0 (q1.2)
  clear hB hF
  refine lv_lconst (v := 0) hx hb dX4_takeRecord_33 (by decide) ?_
  obtain ⟨q3, hc, h⟩ := ib h
  have hF := va_frees hD hS hA
  refine va_calli (va_runV (As := [.int x2, .int x3, .int x4, .int q1.1, .long 0]) (rest := []) ⟨hx, hb, hml, hown, hts⟩ (s_X4_addNode_92_74 hc) (cwV 5 hts (gV mw_13_6 mw_13_7 mw_13_8 mw_0_8 mw_49_8) rfl rfl rfl (by decide +kernel) ⟨by show 3 + 1 ≤ 164 + (nn + 1); omega, by show 8 + (8 + 11) + 71 ≤ 4412 + 29 * (nn + 1); omega⟩) (vV (ci := 4) (q0 := 92) hK hP hD hN rfl gA_92) rfl rfl hl.1 rfl (lv_room (Nat.le_of_ble_eq_true rfl)) dX4_takeRecord_34 ⟨(Nat.le_of_ble_eq_true rfl), (Nat.le_of_ble_eq_true rfl)⟩) hS (fun q _ h => hF q h) hF (fun r4 u t H locs ht hvm hw hB _ _ hS => ?_)
  obtain rfl : r4 = q3.1 := hw
  replace hP : va_P (dC, dI) vwCl (wA a k q3.2) H := by rw [← ht]; exact hB.1
  replace hD := hD0 (q3.2)
  clear hB hF
  refine lv_istore (lv' := [(7, .int q3.1), (6, .int y0), (0, .ref (a 92)), (1, .int x1), (2, .int x2), (3, .int x3), (4, .int x4), (5, .int x5)]) hx hb dX4_takeRecord_37 hl (by decide) rfl (fun ls hl => ?_)
  refine lv_aload_n hx hb dX4_takeRecord_39 rfl (lv_at hl 2 rfl) ?_
  refine lv_iload_n hx hb dX4_takeRecord_40 rfl (lv_at hl 3 rfl) ?_
  refine lv_iload hx hb dX4_takeRecord_41 (lv_at hl 1 rfl) ?_
  refine lv_iload hx hb dX4_takeRecord_43 (lv_at hl 7 rfl) ?_
  obtain ⟨q5, hc, h⟩ := ib h
  have hF := va_frees hD hS hA
  refine va_callv (va_runV (As := [.int x1, .int y0, .int x5]) (rest := []) ⟨hx, hb, hml, hown, hts⟩ (s_X4_findSources_92_74 hc) (cwV 3 hts (gV mw_13_9 mw_13_10 mw_13_11 mw_0_8 mw_49_10) rfl rfl rfl (by decide +kernel) ⟨by show 3 + 1 ≤ 164 + (nn + 1); omega, by show 8 + (5 + 11) + 73 ≤ 4412 + 29 * (nn + 1); omega⟩) (vV (ci := 4) (q0 := 92) hK hP hD hN rfl gA_92) rfl rfl hl.1 rfl (lv_room (Nat.le_of_ble_eq_true rfl)) dX4_takeRecord_45 ⟨(Nat.le_of_ble_eq_true rfl), (Nat.le_of_ble_eq_true rfl)⟩) hS (fun q _ h => hF q h) hF (fun u t H locs ht hvm hw hB _ _ hS => ?_)
  replace hP : va_P (dC, dI) vwCl (wA a k q5) H := by rw [← ht]; exact hB.1
  replace hD := hD0 (q5)
  clear hB hF
  refine lv_iconst (v := 0) hx hb dX4_takeRecord_48 (by decide) ?_
  refine lv_istore (lv' := [(8, .int 0), (7, .int q3.1), (6, .int y0), (0, .ref (a 92)), (1, .int x1), (2, .int x2), (3, .int x3), (4, .int x4), (5, .int x5)]) hx hb dX4_takeRecord_49 hl (by decide) rfl (fun ls hl => ?_)
  exact b_X4_takeRecord_51_92_74 hC hr_X4_take hr_X4_takeField hr_X4_takeList hr_X4_takeOwn hr_X4_takeRecord FU _ _ _ _ _ _ h _ _ _ hP hD hS (lv_sub hl [3, 4, 8, 2, 1, 0] rfl)

set_option maxRecDepth 100000 in
set_option maxHeartbeats 4000000 in
theorem b_X4_takeRecord_e_92_74 {p : Program} {l : Launch} {e : Env} {s : State} {m : MethodId} {args : Array Value} {below : List Frame} {meth : Method} {c : Code} {dC : Nat → ClassId} {dI : Nat → Nat → Nat} {a : Nat → Nat} {k : Nat → ClassId} {A : Nat → Prop} {q : ST} (hC : CxA p s m args meth c dC dI k A cX4_takeRecord RX4 none 9) {nn : Nat} {r_X4_take : Nat → Nat → Int32 → Int32 → Int32 → Int32 → Int32 → ST → Option (ST)} (hr_X4_take : ∀ {sz : Nat} {p0 : Int32} {p1 : Int32} {p2 : Int32} {p3 : Int32} {p4 : Int32} {σ : ST} {q : ST}, r_X4_take 92 74 p0 p1 p2 p3 p4 σ = some q → Met l yX4_take (.code yX4_take cX4_take 9 none :: pw) ({ frames := 164 + nn, cells := 0, slots := 0, locals := 4412 + 29 * nn } : Room) (va_Pc [.ref (a 92), .int p0, .int p1, .int p2, .int p3, .int p4] (vPre dC dI (wA a k σ) (tA k) sz)) (qAv dC dI a k (va_A (wA a k σ) sz) q) 0 0 (va_A (wA a k σ) sz)) {r_X4_takeField : Nat → Nat → Int32 → Int32 → Int32 → Int32 → Int32 → ST → Option (ST)} (hr_X4_takeField : ∀ {sz : Nat} {p0 : Int32} {p1 : Int32} {p2 : Int32} {p3 : Int32} {p4 : Int32} {σ : ST} {q : ST}, r_X4_takeField 92 74 p0 p1 p2 p3 p4 σ = some q → Met l yX4_takeField (.code yX4_takeField cX4_takeField 9 none :: pw) ({ frames := 164 + nn, cells := 0, slots := 0, locals := 4412 + 29 * nn } : Room) (va_Pc [.ref (a 92), .int p0, .int p1, .int p2, .int p3, .int p4] (vPre dC dI (wA a k σ) (tA k) sz)) (qAv dC dI a k (va_A (wA a k σ) sz) q) 0 0 (va_A (wA a k σ) sz)) {r_X4_takeList : Nat → Nat → Int32 → Int32 → Int32 → Int32 → Int32 → ST → Option (ST)} (hr_X4_takeList : ∀ {sz : Nat} {p0 : Int32} {p1 : Int32} {p2 : Int32} {p3 : Int32} {p4 : Int32} {σ : ST} {q : ST}, r_X4_takeList 92 74 p0 p1 p2 p3 p4 σ = some q → Met l yX4_takeList (.code yX4_takeList cX4_takeList 10 none :: pw) ({ frames := 164 + nn, cells := 0, slots := 0, locals := 4412 + 29 * nn } : Room) (va_Pc [.ref (a 92), .int p0, .int p1, .int p2, .int p3, .int p4] (vPre dC dI (wA a k σ) (tA k) sz)) (qAv dC dI a k (va_A (wA a k σ) sz) q) 0 0 (va_A (wA a k σ) sz)) {r_X4_takeOwn : Nat → Nat → Int32 → Int32 → Int32 → Int32 → Int32 → ST → Option (ST)} (hr_X4_takeOwn : ∀ {sz : Nat} {p0 : Int32} {p1 : Int32} {p2 : Int32} {p3 : Int32} {p4 : Int32} {σ : ST} {q : ST}, r_X4_takeOwn 92 74 p0 p1 p2 p3 p4 σ = some q → Met l yX4_takeOwn (.code yX4_takeOwn cX4_takeOwn 8 none :: pw) ({ frames := 164 + nn, cells := 0, slots := 0, locals := 4412 + 29 * nn } : Room) (va_Pc [.ref (a 92), .int p0, .int p1, .int p2, .int p3, .int p4] (vPre dC dI (wA a k σ) (tA k) sz)) (qAv dC dI a k (va_A (wA a k σ) sz) q) 0 0 (va_A (wA a k σ) sz)) {r_X4_takeRecord : Nat → Nat → Int32 → Int32 → Int32 → Int32 → Int32 → ST → Option (ST)} (hr_X4_takeRecord : ∀ {sz : Nat} {p0 : Int32} {p1 : Int32} {p2 : Int32} {p3 : Int32} {p4 : Int32} {σ : ST} {q : ST}, r_X4_takeRecord 92 74 p0 p1 p2 p3 p4 σ = some q → Met l yX4_takeRecord (.code yX4_takeRecord cX4_takeRecord 9 none :: pw) ({ frames := 164 + nn, cells := 0, slots := 0, locals := 4412 + 29 * nn } : Room) (va_Pc [.ref (a 92), .int p0, .int p1, .int p2, .int p3, .int p4] (vPre dC dI (wA a k σ) (tA k) sz)) (qAv dC dI a k (va_A (wA a k σ) sz) q) 0 0 (va_A (wA a k σ) sz))  {p0 : Int32} {p1 : Int32} {p2 : Int32} {p3 : Int32} {p4 : Int32} {σ : ST} (h : f_X4_takeRecord r_X4_take r_X4_takeField r_X4_takeList r_X4_takeOwn r_X4_takeRecord 92 74 p0 p1 p2 p3 p4 σ = some q) : GoA p l e ({ frames := 164 + (nn + 1), cells := 0, slots := 0, locals := 4412 + 29 * (nn + 1) } : Room) s m args below meth c (MQ below (qAv dC dI a k A q) args s 0 0 A) dC dI a k A 9 0 σ (lv_args 0 [.ref (a 92), .int p0, .int p1, .int p2, .int p3, .int p4]) [] := by
  have hC0 := hC
  obtain ⟨hx, hb, hr, hml, hown, hts, hlocks, hA, hN, hK⟩ := hC0
  intro H locs ls hP hD hS hl
  have hD0 : ∀ σ1 : ST, va_D A (wA a k σ1) := fun σ1 => wA_D hD
  replace hl : lv_has ls 9 [(0, .ref (a 92)), (1, .int p0), (2, .int p1), (3, .int p2), (4, .int p3), (5, .int p4)] := hl
  unfold f_X4_takeRecord at h
  refine lv_iload_n hx hb dX4_takeRecord_0 rfl (lv_at hl 2 rfl) ?_
  refine lv_iconst (v := (-1)) hx hb dX4_takeRecord_1 (by decide) ?_
  refine lv_icmp_ne (tgt := 9) hx hb dX4_takeRecord_2 (by decide) (fun hc => ?_) (fun hc => ?_)
  · replace h := iq hc h
    refine lv_aload_n hx hb dX4_takeRecord_9 rfl (lv_at hl 0 rfl) ?_
    refine va_get (D := (dC, dI)) (ci := 4) (C := RX4) (T := TX4) (N := 12) hx hb hts inlX4 hown hK hP 92 gA_92 rfl 0 (by decide) (hts (.fieldLink RX4 37 "ShapeReader$Reading" "shapes" "LShapeReader$Shapes;") mw_10_28) (fun _ h9 => h9) rfl dX4_takeRecord_10 ?_
    refine lv_iload_n hx hb dX4_takeRecord_13 rfl (lv_at hl 2 rfl) ?_
    obtain ⟨q1, hc, h⟩ := ib h
    have hF := va_frees hD hS hA
    refine va_calli (va_runV (As := [.int p1]) (rest := []) ⟨hx, hb, hml, hown, hts⟩ (s_X5_innerOf_4 hc) (cwV 1 hts (gV mw_12_19 mw_2_16 mw_2_17 mw_0_9 mw_50_7) rfl rfl rfl (by decide +kernel) ⟨by show 1 + 1 ≤ 164 + (nn + 1); omega, by show 8 + (2 + 11) + 21 ≤ 4412 + 29 * (nn + 1); omega⟩) (vV (ci := 5) (q0 := 4) hK hP hD hN rfl gA_4) rfl rfl hl.1 rfl (lv_room (Nat.le_of_ble_eq_true rfl)) dX4_takeRecord_14 ⟨(Nat.le_of_ble_eq_true rfl), (Nat.le_of_ble_eq_true rfl)⟩) hS (fun q _ h => hF q h) hF (fun r2 u t H locs ht hvm hw hB _ _ hS => ?_)
    obtain rfl : r2 = q1.1 := hw
    replace hP : va_P (dC, dI) vwCl (wA a k q1.2) H := by rw [← ht]; exact hB.1
    replace hD := hD0 (q1.2)
    clear hB hF
    exact b_X4_takeRecord_17_92_74 hC hr_X4_take hr_X4_takeField hr_X4_takeList hr_X4_takeOwn hr_X4_takeRecord h _ _ _ hP hD hS (lv_sub hl [0, 1, 2, 3, 4, 5] rfl)
  · replace h := ip hc h
    refine lv_iconst (v := (-1)) hx hb dX4_takeRecord_5 (by decide) ?_
    refine lv_goto (tgt := 17) hx hb dX4_takeRecord_6 (by decide) ?_
    exact b_X4_takeRecord_17_92_74 hC hr_X4_take hr_X4_takeField hr_X4_takeList hr_X4_takeOwn hr_X4_takeRecord h _ _ _ hP hD hS (lv_sub hl [0, 1, 2, 3, 4, 5] rfl)


set_option maxRecDepth 100000 in
set_option maxHeartbeats 4000000 in
theorem s_R_X4_take_92_74 {l : Launch} {dC : Nat → ClassId} {dI : Nat → Nat → Nat} {a : Nat → Nat} {k : Nat → ClassId} : ∀ n : Nat, (∀ {sz : Nat} {p0 : Int32} {p1 : Int32} {p2 : Int32} {p3 : Int32} {p4 : Int32} {σ : ST} {q : ST}, (R_X4_take n).1 92 74 p0 p1 p2 p3 p4 σ = some q → Met l yX4_take (.code yX4_take cX4_take 9 none :: pw) ({ frames := 164 + n, cells := 0, slots := 0, locals := 4412 + 29 * n } : Room) (va_Pc [.ref (a 92), .int p0, .int p1, .int p2, .int p3, .int p4] (vPre dC dI (wA a k σ) (tA k) sz)) (qAv dC dI a k (va_A (wA a k σ) sz) q) 0 0 (va_A (wA a k σ) sz)) ∧ (∀ {sz : Nat} {p0 : Int32} {p1 : Int32} {p2 : Int32} {p3 : Int32} {p4 : Int32} {σ : ST} {q : ST}, (R_X4_take n).2.1 92 74 p0 p1 p2 p3 p4 σ = some q → Met l yX4_takeField (.code yX4_takeField cX4_takeField 9 none :: pw) ({ frames := 164 + n, cells := 0, slots := 0, locals := 4412 + 29 * n } : Room) (va_Pc [.ref (a 92), .int p0, .int p1, .int p2, .int p3, .int p4] (vPre dC dI (wA a k σ) (tA k) sz)) (qAv dC dI a k (va_A (wA a k σ) sz) q) 0 0 (va_A (wA a k σ) sz)) ∧ (∀ {sz : Nat} {p0 : Int32} {p1 : Int32} {p2 : Int32} {p3 : Int32} {p4 : Int32} {σ : ST} {q : ST}, (R_X4_take n).2.2.1 92 74 p0 p1 p2 p3 p4 σ = some q → Met l yX4_takeList (.code yX4_takeList cX4_takeList 10 none :: pw) ({ frames := 164 + n, cells := 0, slots := 0, locals := 4412 + 29 * n } : Room) (va_Pc [.ref (a 92), .int p0, .int p1, .int p2, .int p3, .int p4] (vPre dC dI (wA a k σ) (tA k) sz)) (qAv dC dI a k (va_A (wA a k σ) sz) q) 0 0 (va_A (wA a k σ) sz)) ∧ (∀ {sz : Nat} {p0 : Int32} {p1 : Int32} {p2 : Int32} {p3 : Int32} {p4 : Int32} {σ : ST} {q : ST}, (R_X4_take n).2.2.2.1 92 74 p0 p1 p2 p3 p4 σ = some q → Met l yX4_takeOwn (.code yX4_takeOwn cX4_takeOwn 8 none :: pw) ({ frames := 164 + n, cells := 0, slots := 0, locals := 4412 + 29 * n } : Room) (va_Pc [.ref (a 92), .int p0, .int p1, .int p2, .int p3, .int p4] (vPre dC dI (wA a k σ) (tA k) sz)) (qAv dC dI a k (va_A (wA a k σ) sz) q) 0 0 (va_A (wA a k σ) sz)) ∧ (∀ {sz : Nat} {p0 : Int32} {p1 : Int32} {p2 : Int32} {p3 : Int32} {p4 : Int32} {σ : ST} {q : ST}, (R_X4_take n).2.2.2.2 92 74 p0 p1 p2 p3 p4 σ = some q → Met l yX4_takeRecord (.code yX4_takeRecord cX4_takeRecord 9 none :: pw) ({ frames := 164 + n, cells := 0, slots := 0, locals := 4412 + 29 * n } : Room) (va_Pc [.ref (a 92), .int p0, .int p1, .int p2, .int p3, .int p4] (vPre dC dI (wA a k σ) (tA k) sz)) (qAv dC dI a k (va_A (wA a k σ) sz) q) 0 0 (va_A (wA a k σ) sz)) := by
  intro n
  induction n with
  | zero => exact ⟨(fun h => nomatch h), (fun h => nomatch h), (fun h => nomatch h), (fun h => nomatch h), (fun h => nomatch h)⟩
  | succ n ih => exact ⟨(fun h => metA (fun A => qAv dC dI a k A _) (plainFor_of_name (by decide)) (Nat.le_of_ble_eq_true rfl) (fun _ _ _ _ _ _ _ _ hC => b_X4_take_e_92_74 hC ih.1 ih.2.1 ih.2.2.1 ih.2.2.2.1 ih.2.2.2.2 h)), (fun h => metA (fun A => qAv dC dI a k A _) (plainFor_of_name (by decide)) (Nat.le_of_ble_eq_true rfl) (fun _ _ _ _ _ _ _ _ hC => b_X4_takeField_e_92_74 hC ih.1 ih.2.1 ih.2.2.1 ih.2.2.2.1 ih.2.2.2.2 h)), (fun h => metA (fun A => qAv dC dI a k A _) (plainFor_of_name (by decide)) (Nat.le_of_ble_eq_true rfl) (fun _ _ _ _ _ _ _ _ hC => b_X4_takeList_e_92_74 hC ih.1 ih.2.1 ih.2.2.1 ih.2.2.2.1 ih.2.2.2.2 h)), (fun h => metA (fun A => qAv dC dI a k A _) (plainFor_of_name (by decide)) (Nat.le_of_ble_eq_true rfl) (fun _ _ _ _ _ _ _ _ hC => b_X4_takeOwn_e_92_74 hC ih.1 ih.2.1 ih.2.2.1 ih.2.2.2.1 ih.2.2.2.2 h)), (fun h => metA (fun A => qAv dC dI a k A _) (plainFor_of_name (by decide)) (Nat.le_of_ble_eq_true rfl) (fun _ _ _ _ _ _ _ _ hC => b_X4_takeRecord_e_92_74 hC ih.1 ih.2.1 ih.2.2.1 ih.2.2.2.1 ih.2.2.2.2 h))⟩
theorem s_X4_take_92_74 {l : Launch} {dC : Nat → ClassId} {dI : Nat → Nat → Nat} {a : Nat → Nat} {k : Nat → ClassId} {sz : Nat} {p0 : Int32} {p1 : Int32} {p2 : Int32} {p3 : Int32} {p4 : Int32} {σ : ST} {q : ST} (h : f_T_X4_take 92 74 p0 p1 p2 p3 p4 σ = some q) : Met l yX4_take (.code yX4_take cX4_take 9 none :: pw) ({ frames := 324, cells := 0, slots := 0, locals := 9052 } : Room) (va_Pc [.ref (a 92), .int p0, .int p1, .int p2, .int p3, .int p4] (vPre dC dI (wA a k σ) (tA k) sz)) (qAv dC dI a k (va_A (wA a k σ) sz) q) 0 0 (va_A (wA a k σ) sz) := (s_R_X4_take_92_74 FR).1 h
theorem s_X4_takeField_92_74 {l : Launch} {dC : Nat → ClassId} {dI : Nat → Nat → Nat} {a : Nat → Nat} {k : Nat → ClassId} {sz : Nat} {p0 : Int32} {p1 : Int32} {p2 : Int32} {p3 : Int32} {p4 : Int32} {σ : ST} {q : ST} (h : f_T_X4_takeField 92 74 p0 p1 p2 p3 p4 σ = some q) : Met l yX4_takeField (.code yX4_takeField cX4_takeField 9 none :: pw) ({ frames := 324, cells := 0, slots := 0, locals := 9052 } : Room) (va_Pc [.ref (a 92), .int p0, .int p1, .int p2, .int p3, .int p4] (vPre dC dI (wA a k σ) (tA k) sz)) (qAv dC dI a k (va_A (wA a k σ) sz) q) 0 0 (va_A (wA a k σ) sz) := (s_R_X4_take_92_74 FR).2.1 h
theorem s_X4_takeList_92_74 {l : Launch} {dC : Nat → ClassId} {dI : Nat → Nat → Nat} {a : Nat → Nat} {k : Nat → ClassId} {sz : Nat} {p0 : Int32} {p1 : Int32} {p2 : Int32} {p3 : Int32} {p4 : Int32} {σ : ST} {q : ST} (h : f_T_X4_takeList 92 74 p0 p1 p2 p3 p4 σ = some q) : Met l yX4_takeList (.code yX4_takeList cX4_takeList 10 none :: pw) ({ frames := 324, cells := 0, slots := 0, locals := 9052 } : Room) (va_Pc [.ref (a 92), .int p0, .int p1, .int p2, .int p3, .int p4] (vPre dC dI (wA a k σ) (tA k) sz)) (qAv dC dI a k (va_A (wA a k σ) sz) q) 0 0 (va_A (wA a k σ) sz) := (s_R_X4_take_92_74 FR).2.2.1 h
theorem s_X4_takeOwn_92_74 {l : Launch} {dC : Nat → ClassId} {dI : Nat → Nat → Nat} {a : Nat → Nat} {k : Nat → ClassId} {sz : Nat} {p0 : Int32} {p1 : Int32} {p2 : Int32} {p3 : Int32} {p4 : Int32} {σ : ST} {q : ST} (h : f_T_X4_takeOwn 92 74 p0 p1 p2 p3 p4 σ = some q) : Met l yX4_takeOwn (.code yX4_takeOwn cX4_takeOwn 8 none :: pw) ({ frames := 324, cells := 0, slots := 0, locals := 9052 } : Room) (va_Pc [.ref (a 92), .int p0, .int p1, .int p2, .int p3, .int p4] (vPre dC dI (wA a k σ) (tA k) sz)) (qAv dC dI a k (va_A (wA a k σ) sz) q) 0 0 (va_A (wA a k σ) sz) := (s_R_X4_take_92_74 FR).2.2.2.1 h
theorem s_X4_takeRecord_92_74 {l : Launch} {dC : Nat → ClassId} {dI : Nat → Nat → Nat} {a : Nat → Nat} {k : Nat → ClassId} {sz : Nat} {p0 : Int32} {p1 : Int32} {p2 : Int32} {p3 : Int32} {p4 : Int32} {σ : ST} {q : ST} (h : f_T_X4_takeRecord 92 74 p0 p1 p2 p3 p4 σ = some q) : Met l yX4_takeRecord (.code yX4_takeRecord cX4_takeRecord 9 none :: pw) ({ frames := 324, cells := 0, slots := 0, locals := 9052 } : Room) (va_Pc [.ref (a 92), .int p0, .int p1, .int p2, .int p3, .int p4] (vPre dC dI (wA a k σ) (tA k) sz)) (qAv dC dI a k (va_A (wA a k σ) sz) q) 0 0 (va_A (wA a k σ) sz) := (s_R_X4_take_92_74 FR).2.2.2.2 h
