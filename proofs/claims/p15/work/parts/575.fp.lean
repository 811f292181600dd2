/-! the class's bits of a double: those that the machine tells -/
theorem fp_2 : FP.Core.val64 4611686018427387904 = .fin false (4503599627370496) (-51) := by decide +kernel
theorem fp_53 : FP.Core.val64 4845873199050653696 = .fin false (4503599627370496) 1 := by decide +kernel
theorem fp_52 : FP.Core.val64 4841369599423283200 = .fin false (4503599627370496) 0 := by decide +kernel
theorem fp_qmin : FP.Core.b64.qmin = -1074 := by decide
theorem fp_qmax : FP.Core.b64.qmax = 971 := by decide
theorem fp_p : FP.Core.b64.p = 53 := rfl
theorem fp_tails : FP.Core.b64.tails = 4503599627370496 := by decide +kernel
/-- a number above nothing, as it is kept -/
def FPN (x : UInt64) (c : Nat) (q : Int) : Prop := FP.Core.val64 x = .fin false c q ∧ (4503599627370496 ≤ c ∧ c < 9007199254740992) ∧ -1000 ≤ q ∧ q ≤ 900
theorem FPN.num {x : UInt64} {c : Nat} {q : Int} (h : FPN x c q) : x &&& 0x7fffffffffffffff ≤ 0x7ff0000000000000 := by
  refine fl_num ?_
  have h1 : FP.Core.val64 x = .fin false c q := h.1
  show decide (FP.Core.decode FP.Core.b64 x.toNat = .nan) = false
  have h2 : FP.Core.decode FP.Core.b64 x.toNat = .fin false c q := h1
  rw [h2]
  rfl
theorem fp_two53 : (2 : Nat) ^ 53 = 9007199254740992 := by decide
theorem fpn_fits {c : Nat} {q : Int} (hc : 4503599627370496 ≤ c ∧ c < 9007199254740992) (hq : -1000 ≤ q ∧ q ≤ 900) (s : Bool) : FP.Core.fits FP.Core.b64 (FP.Core.Datum.fin s c q) := by
  refine ⟨by rw [fp_p, fp_two53]; exact hc.2, by rw [fp_qmin]; omega, by rw [fp_qmax]; omega, .inr (by rw [fp_tails]; exact hc.1)⟩
theorem FPN.half {x : UInt64} {c : Nat} {q : Int} (h : FPN x c q) (hq : -990 ≤ q) : FPN (FP.ddiv x 4611686018427387904) c (q - 1) := by
  obtain ⟨h1, h2, h3⟩ := h
  refine ⟨?_, h2, by omega⟩
  have e : FP.Core.val64 (FP.ddiv x 4611686018427387904) = FP.Core.quotient FP.Core.b64 (FP.Core.val64 x) (FP.Core.val64 4611686018427387904) := FP.Core.val64_ddiv _ _
  rw [e, h1, fp_2]
  show (if (4503599627370496 : Nat) = 0 then (if c = 0 then FP.Core.Datum.nan else FP.Core.Datum.inf (false != false)) else FP.Core.roundRatio FP.Core.b64 (false != false) c 4503599627370496 (q - -51)) = _
  rw [if_neg (by decide)]
  show FP.Core.roundRatio FP.Core.b64 false c 4503599627370496 (q - -51) = _
  refine FP.Core.roundRatio_exact FP.Core.good_b64 (by decide) (fpn_fits h2 ⟨by omega, by omega⟩ false) ?_
  have a1 : (q - -51 - (q - 1)).toNat = 52 := by omega
  have a2 : (q - 1 - (q - -51)).toNat = 0 := by omega
  have a3 : (2 : Nat) ^ 52 = 4503599627370496 := by decide
  rw [a1, a2, a3, Nat.pow_zero, Nat.mul_one]
theorem FPN.dbl {x : UInt64} {c : Nat} {q : Int} (h : FPN x c q) (hq : q ≤ 890) : FPN (FP.dmul x 4611686018427387904) c (q + 1) := by
  obtain ⟨h1, h2, h3⟩ := h
  refine ⟨?_, h2, by omega⟩
  have e : FP.Core.val64 (FP.dmul x 4611686018427387904) = FP.Core.round FP.Core.b64 (FP.Core.exactProduct (FP.Core.val64 x) (FP.Core.val64 4611686018427387904)) := FP.Core.val64_dmul _ _
  rw [e, h1, fp_2]
  show FP.Core.roundRatio FP.Core.b64 false (c * 4503599627370496) 1 (q + -51) = _
  refine FP.Core.roundRatio_exact FP.Core.good_b64 (by decide) (fpn_fits h2 ⟨by omega, by omega⟩ false) ?_
  have a1 : (q + -51 - (q + 1)).toNat = 0 := by omega
  have a2 : (q + 1 - (q + -51)).toNat = 52 := by omega
  have a3 : (2 : Nat) ^ 52 = 4503599627370496 := by decide
  rw [a1, a2, a3, Nat.pow_zero, Nat.mul_one, Nat.mul_one]
theorem FPN.ord {x y : UInt64} {c : Nat} {q r : Int} (h : FPN x c q) (hy : FP.Core.val64 y = .fin false (4503599627370496) r) (hr : r = 0 ∨ r = 1) : FP.dcmp x y = some (compare ((c * 2 ^ (q - min q r).toNat : Nat) : Int) ((4503599627370496 * 2 ^ (r - min q r).toNat : Nat) : Int)) := by
  have e : FP.dcmp x y = FP.Core.order (FP.Core.val64 x) (FP.Core.val64 y) := rfl
  rw [e, h.1, hy]
  rfl
theorem pow_ge {k : Nat} (h : 1 ≤ k) : 2 ≤ 2 ^ k := Nat.pow_le_pow_right (by omega : 0 < 2) h
theorem FPN.ge {x y : UInt64} {c : Nat} {q r : Int} (h : FPN x c q) (hy : FP.Core.val64 y = .fin false (4503599627370496) r) (hr : r = 0 ∨ r = 1) (hq : r ≤ q) : FP.dcmp x y = some .gt ∨ FP.dcmp x y = some .eq := by
  rw [h.ord hy hr]
  have h2 := h.2.1
  have a1 : (r - min q r).toNat = 0 := by omega
  rw [a1, Nat.pow_zero, Nat.mul_one]
  have h3 : 4503599627370496 ≤ c * 2 ^ (q - min q r).toNat := Nat.le_trans h2.1 (Nat.le_mul_of_pos_right c (Nat.two_pow_pos _))
  rcases Nat.lt_or_eq_of_le h3 with h4 | h4
  · exact .inl (by rw [Int.compare_eq_gt.mpr (by omega)])
  · exact .inr (by rw [Int.compare_eq_eq.mpr (by omega)])
theorem FPN.lt {x y : UInt64} {c : Nat} {q r : Int} (h : FPN x c q) (hy : FP.Core.val64 y = .fin false (4503599627370496) r) (hr : r = 0 ∨ r = 1) (hq : q < r) : FP.dcmp x y = some .lt := by
  rw [h.ord hy hr]
  have h2 := h.2.1
  have a1 : (q - min q r).toNat = 0 := by omega
  rw [a1, Nat.pow_zero, Nat.mul_one]
  have h3 : 2 ≤ 2 ^ (r - min q r).toNat := pow_ge (by omega)
  have h4 : 4503599627370496 * 2 ≤ 4503599627370496 * 2 ^ (r - min q r).toNat := Nat.mul_le_mul_left _ h3
  have h5 : (9007199254740992 : Nat) = 4503599627370496 * 2 := by decide
  rw [Int.compare_eq_lt.mpr (by omega)]
theorem d2l_fpn {x : UInt64} {c : Nat} (h : FPN x c 0) : (FP.d2l x).toInt = c := by
  have h1 : FP.Core.decode FP.Core.b64 x.toNat = .fin false c 0 := h.1
  have h2 := h.2.1
  have e : FP.d2l x = Int64.ofInt (FP.Core.toInt (-2 ^ 63) (2 ^ 63 - 1) (FP.Core.decode FP.Core.b64 x.toNat)) := rfl
  rw [e, h1]
  have e2 : FP.Core.toInt (-2 ^ 63) (2 ^ 63 - 1) (.fin false c 0) = (c : Int) := by
    show max (-2 ^ 63) (min (2 ^ 63 - 1) ((c * 2 ^ (0 : Int).toNat / 2 ^ (-(0 : Int)).toNat : Nat) : Int)) = (c : Int)
    have a1 : c * 2 ^ (0 : Int).toNat / 2 ^ (-(0 : Int)).toNat = c := by simp
    rw [a1]
    have h5 : (9007199254740992 : Nat) = 9007199254740992 := by decide
    omega
  rw [e2]
  have h5 : (9007199254740992 : Nat) = 9007199254740992 := by decide
  exact Int64.toInt_ofInt_of_le (by omega) (by omega)
/-- the bits of such a number -/
theorem FPN.bits {x : UInt64} {c : Nat} {q : Int} (h : FPN x c q) : (x.toNat : Int) = (q + 1075) * 4503599627370496 + ((c : Int) - 4503599627370496) := by
  obtain ⟨h1, h2, h3⟩ := h
  have h4 : FP.Core.of64 (FP.Core.val64 x) = x := FP.Core.of64_val64 (by rw [h1]; exact fun h => by cases h)
  rw [h1] at h4
  have e : FP.Core.encode FP.Core.b64 (.fin false c q) = ((q - -1074).toNat + 1) * 4503599627370496 + (c - 4503599627370496) := by
    show (if c < FP.Core.b64.tails then _ else FP.Core.assemble FP.Core.b64 false ((q - FP.Core.b64.qmin).toNat + 1) (c - FP.Core.b64.tails)) = _
    rw [fp_tails, fp_qmin, if_neg (by omega)]
    show (0 * _ + ((q - -1074).toNat + 1)) * FP.Core.b64.tails + (c - 4503599627370496) = _
    rw [fp_tails, Nat.zero_mul, Nat.zero_add]
  have e2 : x.toNat = ((q - -1074).toNat + 1) * 4503599627370496 + (c - 4503599627370496) := by
    rw [← h4]
    show (UInt64.ofNat (FP.Core.encode FP.Core.b64 (.fin false c q))).toNat = _
    rw [e]
    refine UInt64.toNat_ofNat_of_lt' ?_
    have hsz : UInt64.size = 18446744073709551616 := rfl
    rw [hsz]
    have h5 : (9007199254740992 : Nat) = 9007199254740992 := by decide
    have h6 : (4503599627370496 : Nat) = 4503599627370496 := by decide
    have h7 : (2 : Nat) ^ 64 = 18446744073709551616 := by decide
    omega
  rw [e2]
  have h6 : (4503599627370496 : Nat) = 4503599627370496 := by decide
  have h7 : (4503599627370496 : Int) = 4503599627370496 := by decide
  rw [h6] at h2 ⊢
  rw [h7]
  omega
theorem cv_gt {o : Option Ordering} (h : o = some .gt) : Op.cmpValue o .l = 1 ∧ Op.cmpValue o .g = 1 := by
  rw [h]
  exact ⟨rfl, rfl⟩
theorem cv_eq {o : Option Ordering} (h : o = some .eq) : Op.cmpValue o .l = 0 ∧ Op.cmpValue o .g = 0 := by
  rw [h]
  exact ⟨rfl, rfl⟩
theorem cv_lt {o : Option Ordering} (h : o = some .lt) : Op.cmpValue o .l = -1 ∧ Op.cmpValue o .g = -1 := by
  rw [h]
  exact ⟨rfl, rfl⟩
theorem sh52 (x : Int32) (h0 : 0 ≤ x.toInt) (h1 : x.toInt ≤ 2046) : ((x.toInt64) <<< ((52 : Int32).toInt64 &&& 63)).toInt = x.toInt * 4503599627370496 := by
  obtain ⟨k, ek⟩ : ∃ k : Nat, x.toInt = k := ⟨_, (Int.toNat_of_nonneg h0).symm⟩
  have hb : ((x.toInt64) <<< ((52 : Int32).toInt64 &&& 63)).toBitVec = x.toInt64.toBitVec <<< 52 := rfl
  have hn : x.toInt64.toBitVec.toNat = k := nat64 (by rw [i64]; exact ek)
  have e2 : ((x.toInt64) <<< ((52 : Int32).toInt64 &&& 63)).toBitVec.toNat = k * 4503599627370496 := by
    rw [hb, BitVec.toNat_shiftLeft, hn, Nat.shiftLeft_eq]
    have a3 : (2 : Nat) ^ 52 = 4503599627370496 := by decide
    have a4 : (2 : Nat) ^ 64 = 18446744073709551616 := by decide
    rw [a3, a4]
    exact Nat.mod_eq_of_lt (by omega)
  show ((x.toInt64) <<< ((52 : Int32).toInt64 &&& 63)).toBitVec.toInt = _
  have a4 : (2 : Nat) ^ 64 = 18446744073709551616 := by decide
  rw [BitVec.toInt_eq_toNat_of_lt (by rw [e2]; omega), e2, ek]
  omega
theorem fp_81 (x : UInt64) (x4 : Int32) (σ : ST) {c : Nat} (h : FPN x c 0) (h4 : 0 ≤ x4.toInt ∧ x4.toInt ≤ 2046) : OK (f_X10_bitsOfPositive_81 x x4 σ) (RO σ fun v => v.toInt = x4.toInt * 4503599627370496 + ((c : Int) - 4503599627370496)) := by
  unfold f_X10_bitsOfPositive_81
  refine OK.roret ?_
  have h2 := h.2.1
  have e1 := d2l_fpn h
  have e2 := sh52 x4 h4.1 h4.2
  have h5 : (9007199254740992 : Nat) = 9007199254740992 := by decide
  have h6 : (4503599627370496 : Nat) = 4503599627370496 := by decide
  have h7 : (4503599627370496 : Int) = 4503599627370496 := by decide
  have k1 : (4503599627370496 : Int64).toInt = 4503599627370496 := by decide
  rw [h7] at e2 ⊢
  have s1 : (FP.d2l x - 4503599627370496).toInt = (c : Int) - 4503599627370496 := by
    rw [Int64.toInt_sub, e1, k1]
    exact Int.bmod_eq_of_le (by omega) (by omega)
  rw [Int64.toInt_add, e2, s1]
  exact Int.bmod_eq_of_le (by omega) (by omega)
theorem fp_51 (c : Nat) (σ : ST) : ∀ (f k : Nat) (x : UInt64) (x4 x5 : Int32) (q : Int), FPN x c q → x5.toInt = k → (k : Int) - q ≤ 64 → q ≤ 0 → (64 : Int) - k < f → 0 ≤ x4.toInt + q → x4.toInt ≤ 2046 → OK (f_X10_bitsOfPositive_51 f x x4 x5 σ) (RO σ fun v => v.toInt = (x4.toInt + q) * 4503599627370496 + ((c : Int) - 4503599627370496)) := by
  intro f
  have l1 := li_1
  have l0 := li_0
  have lm := li_m1
  have l64 := li_64
  induction f with
  | zero => intro k x x4 x5 q h h5 h6 h7 h8; omega
  | succ f ih =>
    intro k x x4 x5 q h h5 h6 h7 h8 h9 h10
    rw [f_X10_bitsOfPositive_51]
    have fin : q = 0 → OK (f_X10_bitsOfPositive_81 x x4 σ) (RO σ fun v => v.toInt = (x4.toInt + q) * 4503599627370496 + ((c : Int) - 4503599627370496)) := fun e => by
      subst e
      rw [Int.add_zero]
      exact fp_81 x x4 σ h ⟨by omega, h10⟩
    refine OK.ile (fun hh => fin (by omega)) (fun hh => ?_)
    by_cases e : q = 0
    · have hc : 0 ≤ (Op.cmpValue (FP.dcmp x 4841369599423283200) .g) := by
        rcases h.ge fp_52 (.inl rfl) (by omega) with hg | hg
        · rw [(cv_gt hg).2]; decide
        · rw [(cv_eq hg).2]; decide
      rw [if_pos hc]
      exact fin e
    · have hl := h.lt fp_52 (.inl rfl) (by omega)
      rw [if_neg (by rw [(cv_lt hl).2]; decide)]
      have h' := h.dbl (by omega)
      have a4 := il_addE (x := x4) (y := -1) (by omega) (by omega)
      have a5 := il_addE (x := x5) (y := 1) (by omega) (by omega)
      refine OK.grd h'.num ?_
      refine (ih (k + 1) _ (x4 + -1) (x5 + 1) (q + 1) h' (by omega) (by omega) (by omega) (by omega) (by omega) (by omega)).roq (fun v hv => ?_)
      have e9 : x4.toInt + -1 + (q + 1) = x4.toInt + q := by omega
      rw [hv, a4, lm, e9]
theorem fp_18 (c : Nat) (σ : ST) : ∀ (f k : Nat) (x : UInt64) (x4 x5 : Int32) (q : Int), FPN x c q → x5.toInt = k → (k : Int) + q ≤ 64 → -64 ≤ q → (64 : Int) - k < f → 1075 ≤ x4.toInt → x4.toInt ≤ 1075 + k → k ≤ 64 → OK (f_X10_bitsOfPositive_18 f x x4 x5 σ) (RO σ fun v => v.toInt = (x4.toInt + q) * 4503599627370496 + ((c : Int) - 4503599627370496)) := by
  intro f
  have l1 := li_1
  have l0 := li_0
  have l64 := li_64
  have lu := FUi
  induction f with
  | zero => intro k x x4 x5 q h h5 h6 h7 h8; omega
  | succ f ih =>
    intro k x x4 x5 q h h5 h6 h7 h8 h9 h10 h11
    rw [f_X10_bitsOfPositive_18]
    unfold f_X10_bitsOfPositive_48
    have fin : q ≤ 0 → OK (f_X10_bitsOfPositive_51 FU x x4 0 σ) (RO σ fun v => v.toInt = (x4.toInt + q) * 4503599627370496 + ((c : Int) - 4503599627370496)) := fun e => fp_51 c σ FU 0 x x4 0 q h l0 (by omega) e (by omega) (by omega) (by omega)
    refine OK.ile (fun hh => fin (by omega)) (fun hh => ?_)
    by_cases e : q ≤ 0
    · have hl := h.lt fp_53 (.inr rfl) (by omega)
      rw [if_pos (by rw [(cv_lt hl).1]; decide)]
      exact fin e
    · have hc : ¬ (Op.cmpValue (FP.dcmp x 4845873199050653696) .l) < 0 := by
        rcases h.ge fp_53 (.inr rfl) (by omega) with hg | hg
        · rw [(cv_gt hg).1]; decide
        · rw [(cv_eq hg).1]; decide
      rw [if_neg hc]
      have h' := h.half (by omega)
      have a4 := il_addE (x := x4) (y := 1) (by omega) (by omega)
      have a5 := il_addE (x := x5) (y := 1) (by omega) (by omega)
      refine OK.grd h'.num ?_
      refine (ih (k + 1) _ (x4 + 1) (x5 + 1) (q - 1) h' (by omega) (by omega) (by omega) (by omega) (by omega) (by omega) (by omega)).roq (fun v hv => ?_)
      have e9 : x4.toInt + 1 + (q - 1) = x4.toInt + q := by omega
      rw [hv, a4, l1, e9]
/-- what the class takes for the bits -/
theorem fp_pos (x : UInt64) (σ : ST) {c : Nat} {q : Int} (h : FPN x c q) (hq : -64 ≤ q ∧ q ≤ 64) : OK (f_X10_bitsOfPositive x σ) (RO σ fun v => v = x.toInt64) := by
  unfold f_X10_bitsOfPositive
  have lu := FUi
  have l0 := li_0
  have l1075 : (1075 : Int32).toInt = 1075 := by decide
  have hpos : FP.dcmp x FP.dconst0 = some .gt := by
    have e : FP.dcmp x FP.dconst0 = FP.Core.order (FP.Core.val64 x) (FP.Core.val64 FP.dconst0) := rfl
    have ez : FP.Core.val64 FP.dconst0 = .fin false 0 FP.Core.b64.qmin := FP.Core.val64_dconst0
    rw [e, h.1, ez]
    show some (compare ((c * 2 ^ (q - min q FP.Core.b64.qmin).toNat : Nat) : Int) ((0 * 2 ^ (FP.Core.b64.qmin - min q FP.Core.b64.qmin).toNat : Nat) : Int)) = _
    have h2 := h.2.1
    have h3 : 0 < c * 2 ^ (q - min q FP.Core.b64.qmin).toNat := Nat.mul_pos (by have : (0 : Nat) < 4503599627370496 := by decide
                                                                                omega) (Nat.two_pow_pos _)
    rw [Nat.zero_mul, Int.compare_eq_gt.mpr (by omega)]
  rw [if_pos (by rw [(cv_gt hpos).1]; decide)]
  refine (fp_18 c σ FU 0 x 1075 0 q h l0 (by omega) (by omega) (by omega) (by omega) (by omega) (by omega)).roq (fun v hv => ?_)
  have hb := h.bits
  have h2 := h.2.1
  have h5 : (9007199254740992 : Nat) = 9007199254740992 := by decide
  have h6 : (4503599627370496 : Nat) = 4503599627370496 := by decide
  have h7 : (4503599627370496 : Int) = 4503599627370496 := by decide
  refine Int64.toInt_inj.mp ?_
  have e : x.toInt64.toInt = (x.toNat : Int) := by
    show x.toBitVec.toInt = _
    have e2 : x.toBitVec.toNat = x.toNat := rfl
    rw [BitVec.toInt_eq_toNat_of_lt (by rw [e2]; omega), e2]
  have e9 : (1075 : Int) + q = q + 1075 := by omega
  rw [e, hb, hv, l1075, e9]
theorem fp_zero (σ : ST) : f_X10_bitsOfPositive 0 σ = some (0, σ) := by
  unfold f_X10_bitsOfPositive
  rw [if_neg (by decide +kernel)]
