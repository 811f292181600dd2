/-! the class's bits of a double: those that the machine tells -/
theorem fp_2 : FP.Core.val64 4611686018427387904 = .fin false (4503599627370496) (-51) := by decide +kernel
theorem fp_53 : FP.Core.val64 4845873199050653696 = .fin false (4503599627370496) 1 := by decide +kernel
theorem fp_52 : FP.Core.val64 4841369599423283200 = .fin false (4503599627370496) 0 := by decide +kernel
theorem fp_qmin : FP.Core.b64.qmin = -1074 := by decide
theorem fp_qmax : FP.Core.b64.qmax = 971 := by decide
theorem fp_p : FP.Core.b64.p = 53 := rfl
theorem fp_tails : FP.Core.b64.tails = 4503599627370496 := by decide +kernel
/-- a number above nothing, as it is kept -/
def FPN (x : UInt64) (c : Nat) (q : Int) : Prop := FP.Core.val64 x = .fin false c q ∧ (4503599627370496 ≤ c ∧ c < 9007199254740992) ∧ -1000 ≤ q ∧ q ≤ 900
theorem FPN.num {x : UInt64} {c : Nat} {q : Int} (h : FPN x c q) : x &&& 0x7fffffffffffffff ≤ 0x7ff0000000000000 := by
  refine fl_num ?_
  have h1 : FP.Core.val64 x = .fin false c q := h.1
  show decide (FP.Core.decode FP.Core.b64 x.toNat = .nan) = false
  have h2 : FP.Core.decode FP.Core.b64 x.toNat = .fin false c q := h1
  rw [h2]
  rfl
theorem fp_two53 : (2 : Nat) ^ 53 = 9007199254740992 := by decide
theorem fpn_fits {c : Nat} {q : Int} (hc : 4503599627370496 ≤ c ∧ c < 9007199254740992) (hq : -1000 ≤ q ∧ q ≤ 900) (s : Bool) : FP.Core.fits FP.Core.b64 (FP.Core.Datum.fin s c q) := by
  refine ⟨by rw [fp_p, fp_two53]; exact hc.2, by rw [fp_qmin]; omega, by rw [fp_qmax]; omega, .inr (by rw [fp_tails]; exact hc.1)⟩
theorem FPN.half {x : UInt64} {c : Nat} {q : Int} (h : FPN x c q) (hq : -990 ≤ q) : FPN (FP.ddiv x 4611686018427387904) c (q - 1) := by
  obtain ⟨h1, h2, h3⟩ := h
  refine ⟨?_, h2, by omega⟩
  have e : FP.Core.val64 (FP.ddiv x 4611686018427387904) = FP.Core.quotient FP.Core.b64 (FP.Core.val64 x) (FP.Core.val64 4611686018427387904) := FP.Core.val64_ddiv _ _
  rw [e, h1, fp_2]
  show (if (4503599627370496 : Nat) = 0 then (if c = 0 then FP.Core.Datum.nan else FP.Core.Datum.inf (false != false)) else FP.Core.roundRatio FP.Core.b64 (false != false) c 4503599627370496 (q - -51)) = _
  rw [if_neg (by decide)]
  show FP.Core.roundRatio FP.Core.b64 false c 4503599627370496 (q - -51) = _
  refine FP.Core.roundRatio_exact FP.Core.good_b64 (by decide) (fpn_fits h2 ⟨by omega, by omega⟩ false) ?_
  have a1 : (q - -51 - (q - 1)).toNat = 52 := by omega
  have a2 : (q - 1 - (q - -51)).toNat = 0 := by omega
  have a3 : (2 : Nat) ^ 52 = 4503599627370496 := by decide
  rw [a1, a2, a3, Nat.pow_zero, Nat.mul_one]
theorem FPN.dbl {x : UInt64} {c : Nat} {q : Int} (h : FPN x c q) (hq : q ≤ 890) : FPN (FP.dmul x 4611686018427387904) c (q + 1) := by
  obtain ⟨h1, h2, h3⟩ := h
  refine ⟨?_, h2, by omega⟩
  have e : FP.Core.val64 (FP.dmul x 4611686018427387904) = FP.Core.round FP.Core.b64 (FP.Core.exactProduct (FP.Core.val64 x) (FP.Core.val64 4611686018427387904)) := FP.Core.val64_dmul _ _
  rw [e, h1, fp_2]
  show FP.Core.roundRatio FP.Core.b64 false (c * 4503599627370496) 1 (q + -51) = _
  refine FP.Core.roundRatio_exact FP.Core.good_b64 (by decide) (fpn_fits h2 ⟨by omega, by omega⟩ false) ?_
  have a1 : (q + -51 - (q + 1)).toNat = 0 := by omega
  have a2 : (q + 1 - (q + -51)).toNat = 52 := by omega
  have a3 : (2 : Nat) ^ 52 = 4503599627370496 := by decide
  rw [a1, a2, a3, Nat.pow_zero, Nat.mul_one, Nat.mul_one]
theorem FPN.ord {x y : UInt64} {c : Nat} {q r : Int} (h : FPN x c q) (hy : FP.Core.val64 y = .fin false (4503599627370496) r) (hr : r = 0 ∨ r = 1) : FP.dcmp x y = some (compare ((c * 2 ^ (q - min q r).toNat : Nat) : Int) ((4503599627370496 * 2 ^ (r - min q r).toNat : Nat) : Int)) := by
  have e : FP.dcmp x y = FP.Core.order (FP.Core.val64 x) (FP.Core.val64 y) := rfl
  rw [e, h.1, hy]
  rfl
theorem pow_ge {k : Nat} (h : 1 ≤ k) : 2 ≤ 2 ^ k := Nat.pow_le_pow_right (by omega : 0 < 2) h
theorem FPN.ge {x y : UInt64} {c : Nat} {q r : Int} (h : FPN x c q) (hy : FP.Core.val64 y = .fin false (4503599627370496) r) (hr : r = 0 ∨ r = 1) (hq : r ≤ q) : FP.dcmp x y = some .gt ∨ FP.dcmp x y = some .eq := by
  rw [h.ord hy hr]
  have h2 := h.2.1
  have a1 : (r - min q r).toNat = 0 := by omega
  rw [a1, Nat.pow_zero, Nat.mul_one]
  have h3 : 4503599627370496 ≤ c * 2 ^ (q - min q r).toNat := Nat.le_trans h2.1 (Nat.le_mul_of_pos_right c (Nat.two_pow_pos _))
  rcases Nat.lt_or_eq_of_le h3 with h4 | h4
  · exact .inl (by rw [Int.compare_eq_gt.mpr (by omega)])
  · exact .inr (by rw [Int.compare_eq_eq.mpr (by omega)])
theorem FPN.lt {x y : UInt64} {c : Nat} {q r : Int} (h : FPN x c q) (hy : FP.Core.val64 y = .fin false (4503599627370496) r) (hr : r = 0 ∨ r = 1) (hq : q < r) : FP.dcmp x y = some .lt := by
  rw [h.ord hy hr]
  have h2 := h.2.1
  have a1 : (q - min q r).toNat = 0 := by omega
  rw [a1, Nat.pow_zero, Nat.mul_one]
  have h3 : 2 ≤ 2 ^ (r - min q r).toNat := pow_ge (by omega)
  have h4 : 4503599627370496 * 2 ≤ 4503599627370496 * 2 ^ (r - min q r).toNat := Nat.mul_le_mul_left _ h3
  have h5 : (9007199254740992 : Nat) = 4503599627370496 * 2 := by decide
  rw [Int.compare_eq_lt.mpr (by omega)]
theorem d2l_fpn {x : UInt64} {c : Nat} (h : FPN x c 0) : (FP.d2l x).toInt = c := by
  have h1 : FP.Core.decode FP.Core.b64 x.toNat = .fin false c 0 := h.1
  have h2 := h.2.1
  have e : FP.d2l x = Int64.ofInt (FP.Core.toInt (-2 ^ 63) (2 ^ 63 - 1) (FP.Core.decode FP.Core.b64 x.toNat)) := rfl
  rw [e, h1]
  have e2 : FP.Core.toInt (-2 ^ 63) (2 ^ 63 - 1) (.fin false c 0) = (c : Int) := by
    show max (-2 ^ 63) (min (2 ^ 63 - 1) ((c * 2 ^ (0 : Int).toNat / 2 ^ (-(0 : Int)).toNat : Nat) : Int)) = (c : Int)
    have a1 : c * 2 ^ (0 : Int).toNat / 2 ^ (-(0 : Int)).toNat = c := by simp
    rw [a1]
    have h5 : (9007199254740992 : Nat) = 9007199254740992 := by decide
    omega
  rw [e2]
  have h5 : (9007199254740992 : Nat) = 9007199254740992 := by decide
  exact Int64.toInt_ofInt_of_le (by omega) (by omega)
/-- the bits of such a number -/
theorem FPN.bits {x : UInt64} {c : Nat} {q : Int} (h : FPN x c q) : (x.toNat : Int) = (q + 1075) * 4503599627370496 + ((c : Int) - 4503599627370496) := by
  obtain ⟨h1, h2, h3⟩ := h
  have h4 : FP.Core.of64 (FP.Core.val64 x) = x := FP.Core.of64_val64 (by rw [h1]; exact fun h => by cases h)
  rw [h1] at h4
  have e : FP.Core.encode FP.Core.b64 (.fin false c q) = ((q - -1074).toNat + 1) * 4503599627370496 + (c - 4503599627370496) := by
    show (if c < FP.Core.b64.tails then _ else FP.Core.assemble FP.Core.b64 false ((q - FP.Core.b64.qmin).toNat + 1) (c - FP.Core.b64.tails)) = _
    rw [fp_tails, fp_qmin, if_neg (by omega)]
    show (0 * _ + ((q - -1074).toNat + 1)) * FP.Core.b64.tails + (c - 4503599627370496) = _
    rw [fp_tails, Nat.zero_mul, Nat.zero_add]
  have e2 : x.toNat = ((q - -1074).toNat + 1) * 4503599627370496 + (c - 4503599627370496) := by
    rw [← h4]
    show (UInt64.ofNat (FP.Core.encode FP.Core.b64 (.fin false c q))).toNat = _
    rw [e]
    refine UInt64.toNat_ofNat_of_lt' ?_
    have hsz : UInt64.size = 18446744073709551616 := rfl
    rw [hsz]
    have h5 : (9007199254740992 : Nat) = 9007199254740992 := by decide
    have h6 : (4503599627370496 : Nat) = 4503599627370496 := by decide
    have h7 : (2 : Nat) ^ 64 = 18446744073709551616 := by decide
    omega
  rw [e2]
  have h6 : (4503599627370496 : Nat) = 4503599627370496 := by decide
  have h7 : (4503599627370496 : Int) = 4503599627370496 := by decide
  rw [h6] at h2 ⊢
  rw [h7]
  omega
theorem cv_gt {o : Option Ordering} (h : o = some .gt) : Op.cmpValue o .l = 1 ∧ Op.cmpValue o .g = 1 := by
  rw [h]
  exact ⟨rfl, rfl⟩
theorem cv_eq {o : Option Ordering} (h : o = some .eq) : Op.cmpValue o .l = 0 ∧ Op.cmpValue o .g = 0 := by
  rw [h]
  exact ⟨rfl, rfl⟩
theorem cv_lt {o : Option Ordering} (h : o = some .lt) : Op.cmpValue o .l = -1 ∧ Op.cmpValue o .g = -1 := by
  rw [h]
  exact ⟨rfl, rfl⟩
theorem sh52 (x : Int32) (h0 : 0 ≤ x.toInt) (h1 : x.toInt ≤ 2046) : ((x.toInt64) <<< ((52 : Int32).toInt64 &&& 63)).toInt = x.toInt * 4503599627370496 := by
  obtain ⟨k, ek⟩ : ∃ k : Nat, x.toInt = k := ⟨_, (Int.toNat_of_nonneg h0).symm⟩
  have hb : ((x.toInt64) <<< ((52 : Int32).toInt64 &&& 63)).toBitVec = x.toInt64.toBitVec <<< 52 := rfl
  have hn : x.toInt64.toBitVec.toNat = k := nat64 (by rw [i64]; exact ek)
  have e2 : ((x.toInt64) <<< ((52 : Int32).toInt64 &&& 63)).toBitVec.toNat = k * 4503599627370496 := by
    rw [hb, BitVec.toNat_shiftLeft, hn, Nat.shiftLeft_eq]
    have a3 : (2 : Nat) ^ 52 = 4503599627370496 := by decide
    have a4 : (2 : Nat) ^ 64 = 18446744073709551616 := by decide
    rw [a3, a4]
    exact Nat.mod_eq_of_lt (by omega)
  show ((x.toInt64) <<< ((52 : Int32).toInt64 &&& 63)).toBitVec.toInt = _
  have a4 : (2 : Nat) ^ 64 = 18446744073709551616 := by decide
  rw [BitVec.toInt_eq_toNat_of_lt (by rw [e2]; omega), e2, ek]
  omega
theorem fp_81 (x : UInt64) (x4 : Int32) (σ : ST) {c : Nat} (h : FPN x c 0) (h4 : 0 ≤ x4.toInt ∧ x4.toInt ≤ 2046) : OK (f_X10_bitsOfPositive_81 x x4 σ) (RO σ fun v => v.toInt = x4.toInt * 4503599627370496 + ((c : Int) - 4503599627370496)) := by
  unfold f_X10_bitsOfPositive_81
  refine OK.roret ?_
  have h2 := h.2.1
  have e1 := d2l_fpn h
  have e2 := sh52 x4 h4.1 h4.2
  have h5 : (9007199254740992 : Nat) = 9007199254740992 := by decide
  have h6 : (4503599627370496 : Nat) = 4503599627370496 := by decide
  have h7 : (4503599627370496 : Int) = 4503599627370496 := by decide
  have k1 : (4503599627370496 : Int64).toInt = 4503599627370496 := by decide
  rw [h7] at e2 ⊢
  have s1 : (FP.d2l x - 4503599627370496).toInt = (c : Int) - 4503599627370496 := by
    rw [Int64.toInt_sub, e1, k1]
    exact Int.bmod_eq_of_le (by omega) (by omega)
  rw [Int64.toInt_add, e2, s1]
  exact Int.bmod_eq_of_le (by omega) (by omega)
theorem fp_51 (c : Nat) (σ : ST) : ∀ (f k : Nat) (x : UInt64) (x4 x5 : Int32) (q : Int), FPN x c q → x5.toInt = k → (k : Int) - q ≤ 64 → q ≤ 0 → (64 : Int) - k < f → 0 ≤ x4.toInt + q → x4.toInt ≤ 2046 → OK (f_X10_bitsOfPositive_51 f x x4 x5 σ) (RO σ fun v => v.toInt = (x4.toInt + q) * 4503599627370496 + ((c : Int) - 4503599627370496)) := by
  intro f
  have l1 := li_1
  have l0 := li_0
  have lm := li_m1
  have l64 := li_64
  induction f with
  | zero => intro k x x4 x5 q h h5 h6 h7 h8; omega
  | succ f ih =>
    intro k x x4 x5 q h h5 h6 h7 h8 h9 h10
    rw [f_X10_bitsOfPositive_51]
    have fin : q = 0 → OK (f_X10_bitsOfPositive_81 x x4 σ) (RO σ fun v => v.toInt = (x4.toInt + q) * 4503599627370496 + ((c : Int) - 4503599627370496)) := fun e => by
      subst e
      rw [Int.add_zero]
      exact fp_81 x x4 σ h ⟨by omega, h10⟩
    refine OK.ile (fun hh => fin (by omega)) (fun hh => ?_)
    by_cases e : q = 0
    · have hc : 0 ≤ (Op.cmpValue (FP.dcmp x 4841369599423283200) .g) := by
        rcases h.ge fp_52 (.inl rfl) (by omega) with hg | hg
        · rw [(cv_gt hg).2]; decide
        · rw [(cv_eq hg).2]; decide
      rw [if_pos hc]
      exact fin e
    · have hl := h.lt fp_52 (.inl rfl) (by omega)
      rw [if_neg (by rw [(cv_lt hl).2]; decide)]
      have h' := h.dbl (by omega)
      have a4 := il_addE (x := x4) (y := -1) (by omega) (by omega)
      have a5 := il_addE (x := x5) (y := 1) (by omega) (by omega)
      refine OK.grd h'.num ?_
      refine (ih (k + 1) _ (x4 + -1) (x5 + 1) (q + 1) h' (by omega) (by omega) (by omega) (by omega) (by omega) (by omega)).roq (fun v hv => ?_)
      have e9 : x4.toInt + -1 + (q + 1) = x4.toInt + q := by omega
      rw [hv, a4, lm, e9]
theorem fp_18 (c : Nat) (σ : ST) : ∀ (f k : Nat) (x : UInt64) (x4 x5 : Int32) (q : Int), FPN x c q → x5.toInt = k → (k : Int) + q ≤ 64 → -64 ≤ q → (64 : Int) - k < f → 1075 ≤ x4.toInt → x4.toInt ≤ 1075 + k → k ≤ 64 → OK (f_X10_bitsOfPositive_18 f x x4 x5 σ) (RO σ fun v => v.toInt = (x4.toInt + q) * 4503599627370496 + ((c : Int) - 4503599627370496)) := by
  intro f
  have l1 := li_1
  have l0 := li_0
  have l64 := li_64
  have lu := FUi
  induction f with
  | zero => intro k x x4 x5 q h h5 h6 h7 h8; omega
  | succ f ih =>
    intro k x x4 x5 q h h5 h6 h7 h8 h9 h10 h11
    rw [f_X10_bitsOfPositive_18]
    unfold f_X10_bitsOfPositive_48
    have fin : q ≤ 0 → OK (f_X10_bitsOfPositive_51 FU x x4 0 σ) (RO σ fun v => v.toInt = (x4.toInt + q) * 4503599627370496 + ((c : Int) - 4503599627370496)) := fun e => fp_51 c σ FU 0 x x4 0 q h l0 (by omega) e (by omega) (by omega) (by omega)
    refine OK.ile (fun hh => fin (by omega)) (fun hh => ?_)
    by_cases e : q ≤ 0
    · have hl := h.lt fp_53 (.inr rfl) (by omega)
      rw [if_pos (by rw [(cv_lt hl).1]; decide)]
      exact fin e
    · have hc : ¬ (Op.cmpValue (FP.dcmp x 4845873199050653696) .l) < 0 := by
        rcases h.ge fp_53 (.inr rfl) (by omega) with hg | hg
        · rw [(cv_gt hg).1]; decide
        · rw [(cv_eq hg).1]; decide
      rw [if_neg hc]
      have h' := h.half (by omega)
      have a4 := il_addE (x := x4) (y := 1) (by omega) (by omega)
      have a5 := il_addE (x := x5) (y := 1) (by omega) (by omega)
      refine OK.grd h'.num ?_
      refine (ih (k + 1) _ (x4 + 1) (x5 + 1) (q - 1) h' (by omega) (by omega) (by omega) (by omega) (by omega) (by omega) (by omega)).roq (fun v hv => ?_)
      have e9 : x4.toInt + 1 + (q - 1) = x4.toInt + q := by omega
      rw [hv, a4, l1, e9]
/-- what the class takes for the bits -/
theorem fp_pos (x : UInt64) (σ : ST) {c : Nat} {q : Int} (h : FPN x c q) (hq : -64 ≤ q ∧ q ≤ 64) : OK (f_X10_bitsOfPositive x σ) (RO σ fun v => v = x.toInt64) := by
  unfold f_X10_bitsOfPositive
  have lu := FUi
  have l0 := li_0
  have l1075 : (1075 : Int32).toInt = 1075 := by decide
  have hpos : FP.dcmp x FP.dconst0 = some .gt := by
    have e : FP.dcmp x FP.dconst0 = FP.Core.order (FP.Core.val64 x) (FP.Core.val64 FP.dconst0) := rfl
    have ez : FP.Core.val64 FP.dconst0 = .fin false 0 FP.Core.b64.qmin := FP.Core.val64_dconst0
    rw [e, h.1, ez]
    show some (compare ((c * 2 ^ (q - min q FP.Core.b64.qmin).toNat : Nat) : Int) ((0 * 2 ^ (FP.Core.b64.qmin - min q FP.Core.b64.qmin).toNat : Nat) : Int)) = _
    have h2 := h.2.1
    have h3 : 0 < c * 2 ^ (q - min q FP.Core.b64.qmin).toNat := Nat.mul_pos (by have : (0 : Nat) < 4503599627370496 := by decide
                                                                                omega) (Nat.two_pow_pos _)
    rw [Nat.zero_mul, Int.compare_eq_gt.mpr (by omega)]
  rw [if_pos (by rw [(cv_gt hpos).1]; decide)]
  refine (fp_18 c σ FU 0 x 1075 0 q h l0 (by omega) (by omega) (by omega) (by omega) (by omega) (by omega)).roq (fun v hv => ?_)
  have hb := h.bits
  have h2 := h.2.1
  have h5 : (9007199254740992 : Nat) = 9007199254740992 := by decide
  have h6 : (4503599627370496 : Nat) = 4503599627370496 := by decide
  have h7 : (4503599627370496 : Int) = 4503599627370496 := by decide
  refine Int64.toInt_inj.mp ?_
  have e : x.toInt64.toInt = (x.toNat : Int) := by
    show x.toBitVec.toInt = _
    have e2 : x.toBitVec.toNat = x.toNat := rfl
    rw [BitVec.toInt_eq_toNat_of_lt (by rw [e2]; omega), e2]
  have e9 : (1075 : Int) + q = q + 1075 := by omega
  rw [e, hb, hv, l1075, e9]
theorem fp_zero (σ : ST) : f_X10_bitsOfPositive 0 σ = some (0, σ) := by
  unfold f_X10_bitsOfPositive
  rw [if_neg (by decide +kernel)]
/-! doubles that the texts tell -/
theorem rr_fpn (s : Bool) {A B : Nat} {e : Int} (hA : 0 < A) (hB : 0 < B) (h1 : -900 ≤ FP.Core.leading A B + e) (h2 : FP.Core.leading A B + e ≤ 900) : ∃ (c : Nat) (q : Int), FP.Core.roundRatio FP.Core.b64 s A B e = .fin s c q ∧ (4503599627370496 ≤ c ∧ c < 9007199254740992) ∧ FP.Core.leading A B + e - 52 ≤ q ∧ q ≤ FP.Core.leading A B + e - 51 := by
  have hq : FP.Core.quantum FP.Core.b64 A B e = FP.Core.leading A B + e - 52 := by
    unfold FP.Core.quantum
    rw [fp_qmin, fp_p]
    omega
  have hf : FP.Core.fits FP.Core.b64 (FP.Core.roundRatio FP.Core.b64 s A B e) := FP.Core.roundRatio_fits FP.Core.good_b64 s A hB e
  have e1 : FP.Core.roundRatio FP.Core.b64 s A B e = FP.Core.settle FP.Core.b64 s (FP.Core.nearest (FP.Core.unitsNum A e (FP.Core.leading A B + e - 52)) (FP.Core.unitsDen B e (FP.Core.leading A B + e - 52))) (FP.Core.leading A B + e - 52) := by
    unfold FP.Core.roundRatio FP.Core.roundAt
    rw [if_neg (by omega), hq]
  have e2 : ∃ (c : Nat) (q : Int), FP.Core.roundRatio FP.Core.b64 s A B e = .fin s c q ∧ FP.Core.leading A B + e - 52 ≤ q ∧ q ≤ FP.Core.leading A B + e - 51 := by
    rw [e1]
    unfold FP.Core.settle FP.Core.bound
    generalize FP.Core.nearest (FP.Core.unitsNum A e (FP.Core.leading A B + e - 52)) (FP.Core.unitsDen B e (FP.Core.leading A B + e - 52)) = c
    rw [fp_qmax]
    by_cases hc : c < 2 ^ FP.Core.b64.p
    · rw [if_pos hc, if_pos (by omega)]
      exact ⟨c, _, rfl, by omega, by omega⟩
    · rw [if_neg hc, if_pos (by omega)]
      exact ⟨_, _, rfl, by omega, by omega⟩
  obtain ⟨c, q, e3, e4, e5⟩ := e2
  rw [e3] at hf
  obtain ⟨f1, f2, f3, f4⟩ := hf
  rw [fp_p, fp_two53] at f1
  rw [fp_qmin, fp_tails] at f4
  exact ⟨c, q, e3, ⟨by omega, f1⟩, e4, e5⟩
theorem lead_rng (A B : Nat) : (A.log2 : Int) - B.log2 - 1 ≤ FP.Core.leading A B ∧ FP.Core.leading A B ≤ (A.log2 : Int) - B.log2 := by
  show (A.log2 : Int) - B.log2 - 1 ≤ (if B * 2 ^ ((A.log2 : Int) - B.log2).toNat ≤ A * 2 ^ (-((A.log2 : Int) - B.log2)).toNat then (A.log2 : Int) - B.log2 else (A.log2 : Int) - B.log2 - 1) ∧ (if B * 2 ^ ((A.log2 : Int) - B.log2).toNat ≤ A * 2 ^ (-((A.log2 : Int) - B.log2)).toNat then (A.log2 : Int) - B.log2 else (A.log2 : Int) - B.log2 - 1) ≤ (A.log2 : Int) - B.log2
  split <;> omega
theorem log2_ge {A k : Nat} (h : 2 ^ k ≤ A) : k ≤ A.log2 := (Nat.le_log2 (by have := Nat.two_pow_pos k; omega)).mpr h
theorem log2_le {A k : Nat} (h : A < 2 ^ (k + 1)) : A.log2 ≤ k := by
  by_cases h0 : A = 0
  · rw [h0]
    exact Nat.zero_le _
  · have := (Nat.log2_lt h0).mpr h
    omega
/-- a whole number, not nothing, told as a double -/
theorem l2d_fin (n : Int64) (h : ¬ n.toInt = 0) : ∃ (c : Nat) (q : Int), FP.Core.val64 (FP.l2d n) = .fin (decide (n.toInt < 0)) c q ∧ (4503599627370496 ≤ c ∧ c < 9007199254740992) ∧ -53 ≤ q ∧ q ≤ 12 := by
  have e : FP.Core.val64 (FP.l2d n) = FP.Core.round FP.Core.b64 (FP.Core.ofInt n.toInt) := FP.Core.val64_l2d n
  have r1 := Int64.le_toInt n
  have r2 := Int64.toInt_lt n
  have a64 : (2 : Nat) ^ (63 + 1) = 18446744073709551616 := by decide
  have g1 : (0 : Nat) ≤ n.toInt.natAbs.log2 := Nat.zero_le _
  have g2 : n.toInt.natAbs.log2 ≤ 63 := log2_le (by rw [a64]; omega)
  have g3 : (1 : Nat).log2 = 0 := by decide
  have g4 := lead_rng n.toInt.natAbs 1
  rw [g3] at g4
  obtain ⟨c, q, e1, e2, e3, e4⟩ := rr_fpn (decide (n.toInt < 0)) (A := n.toInt.natAbs) (B := 1) (e := 0) (by omega) (by omega) (by omega) (by omega)
  refine ⟨c, q, ?_, e2, by omega, by omega⟩
  rw [e, ← e1]
  rfl
theorem l2d_pos (n : Int64) (h : 0 < n.toInt) : ∃ (c : Nat) (q : Int), FPN (FP.l2d n) c q ∧ -53 ≤ q ∧ q ≤ 12 := by
  obtain ⟨c, q, e1, e2, e3, e4⟩ := l2d_fin n (by omega)
  have e5 : decide (n.toInt < 0) = false := decide_eq_false (by omega)
  rw [e5] at e1
  exact ⟨c, q, ⟨e1, e2, by omega, by omega⟩, e3, e4⟩
theorem l2d_0 : FP.l2d 0 = 0 := by decide +kernel
theorem negate_inj {x y : UInt64} (hx : ¬ FP.Core.val64 x = .nan) (h : FP.Core.val64 x = FP.Core.val64 y) : x = y := FP.Core.val64_inj hx h
theorem l2d_neg (n m : Int64) (h : m.toInt = -n.toInt) (h0 : ¬ n.toInt = 0) : FP.l2d m = FP.dneg (FP.l2d n) := by
  have e1 : FP.Core.val64 (FP.l2d m) = FP.Core.round FP.Core.b64 (FP.Core.ofInt m.toInt) := FP.Core.val64_l2d m
  have e2 : FP.Core.val64 (FP.l2d n) = FP.Core.round FP.Core.b64 (FP.Core.ofInt n.toInt) := FP.Core.val64_l2d n
  have e3 : FP.Core.val64 (FP.dneg (FP.l2d n)) = FP.Core.negate (FP.Core.val64 (FP.l2d n)) := FP.val64_dneg _
  refine FP.Core.val64_inj ?_ ?_
  · obtain ⟨c, q, e, _⟩ := l2d_fin m (by omega)
    rw [e]
    exact fun h => by cases h
  · rw [e3, e1, e2, FP.Core.negate_round]
    congr 1
    show FP.Core.Datum.fin (decide (m.toInt < 0)) m.toInt.natAbs 0 = FP.Core.Datum.fin (!decide (n.toInt < 0)) n.toInt.natAbs 0
    have a1 : m.toInt.natAbs = n.toInt.natAbs := by omega
    have a2 : decide (m.toInt < 0) = !decide (n.toInt < 0) := by
      by_cases h1 : n.toInt < 0
      · rw [decide_eq_true h1, decide_eq_false (by omega)]; rfl
      · rw [decide_eq_false h1, decide_eq_true (by omega)]; rfl
    rw [a1, a2]
/-- the bits of the other sign -/
theorem fin_bits {x : UInt64} {s : Bool} {c : Nat} {q : Int} (h : FP.Core.val64 x = .fin s c q) (h2 : 4503599627370496 ≤ c ∧ c < 9007199254740992) (hq : -1000 ≤ q ∧ q ≤ 900) : (x.toNat : Int) = (if s = true then 9223372036854775808 else 0) + (q + 1075) * 4503599627370496 + ((c : Int) - 4503599627370496) := by
  have h4 : FP.Core.of64 (FP.Core.val64 x) = x := FP.Core.of64_val64 (by rw [h]; exact fun h => by cases h)
  rw [h] at h4
  have ee : FP.Core.b64.exps = 2048 := by decide
  have e : FP.Core.encode FP.Core.b64 (.fin s c q) = (s.toNat * 2048 + ((q - -1074).toNat + 1)) * 4503599627370496 + (c - 4503599627370496) := by
    show (if c < FP.Core.b64.tails then _ else FP.Core.assemble FP.Core.b64 s ((q - FP.Core.b64.qmin).toNat + 1) (c - FP.Core.b64.tails)) = _
    rw [fp_tails, fp_qmin, if_neg (by omega)]
    show (s.toNat * FP.Core.b64.exps + ((q - -1074).toNat + 1)) * FP.Core.b64.tails + (c - 4503599627370496) = _
    rw [fp_tails, ee]
  have hs : s.toNat ≤ 1 := by cases s <;> decide
  have e2 : x.toNat = (s.toNat * 2048 + ((q - -1074).toNat + 1)) * 4503599627370496 + (c - 4503599627370496) := by
    rw [← h4]
    show (UInt64.ofNat (FP.Core.encode FP.Core.b64 (.fin s c q))).toNat = _
    rw [e]
    refine UInt64.toNat_ofNat_of_lt' ?_
    have hsz : UInt64.size = 18446744073709551616 := rfl
    rw [hsz]
    omega
  rw [e2]
  cases s
  · show ((((0 : Nat) * 2048 + ((q - -1074).toNat + 1)) * 4503599627370496 + (c - 4503599627370496) : Nat) : Int) = _
    rw [if_neg (by decide)]
    omega
  · show ((((1 : Nat) * 2048 + ((q - -1074).toNat + 1)) * 4503599627370496 + (c - 4503599627370496) : Nat) : Int) = _
    rw [if_pos rfl]
    omega
theorem FPN.neg_bits {x : UInt64} {c : Nat} {q : Int} (h : FPN x c q) : (FP.dneg x).toInt64 = (x.toInt64 ||| (-9223372036854775808)) := by
  have e3 : FP.Core.val64 (FP.dneg x) = FP.Core.negate (FP.Core.val64 x) := FP.val64_dneg _
  rw [h.1] at e3
  have e3 : FP.Core.val64 (FP.dneg x) = .fin true c q := e3
  have b1 := fin_bits e3 h.2.1 h.2.2
  have b2 := h.bits
  have h2 := h.2.1
  have h3 := h.2.2
  rw [if_pos rfl] at b1
  have hn : (FP.dneg x).toNat = 9223372036854775808 + x.toNat := by omega
  have hx : x.toNat < 9223372036854775808 := by omega
  have key : (FP.dneg x).toBitVec = x.toBitVec ||| 9223372036854775808#64 := by
    refine BitVec.eq_of_toNat_eq ?_
    rw [BitVec.toNat_or]
    show (FP.dneg x).toNat = x.toNat ||| 9223372036854775808
    rw [hn]
    have h63 : (9223372036854775808 : Nat) = 2 ^ 63 * 1 := by decide
    have ha := Nat.two_pow_add_eq_or_of_lt (i := 63) (b := x.toNat) (by rw [show (2 : Nat) ^ 63 = 9223372036854775808 by decide]; exact hx) 1
    rw [← h63] at ha
    rw [ha, Nat.or_comm]
  exact Int64.toBitVec_inj.mp key
theorem zero_neg_bits : (FP.dneg 0).toInt64 = ((0 : UInt64).toInt64 ||| (-9223372036854775808)) := by decide +kernel
/-- ten -/
theorem fp_10 : FP.Core.val64 4621819117588971520 = .fin false 5629499534213120 (-49) := by decide +kernel
theorem i2d_l2d (t : Int32) : FP.i2d t = FP.l2d t.toInt64 := by
  show UInt64.ofNat (FP.Core.fromInt FP.Core.b64 t.toInt) = UInt64.ofNat (FP.Core.fromInt FP.Core.b64 t.toInt64.toInt)
  rw [i64]
theorem log2_c {c : Nat} (h : 4503599627370496 ≤ c ∧ c < 9007199254740992) : c.log2 = 52 := by
  have a1 : (2 : Nat) ^ 52 = 4503599627370496 := by decide
  have a2 : (2 : Nat) ^ (52 + 1) = 9007199254740992 := by decide
  have h1 := log2_ge (A := c) (k := 52) (by rw [a1]; exact h.1)
  have h2 := log2_le (A := c) (k := 52) (by rw [a2]; exact h.2)
  omega
/-- tenths -/
theorem tenth_fpn (t : Int32) (h : 1 ≤ t.toInt ∧ t.toInt ≤ 9) : ∃ (c : Nat) (q : Int), FPN (FP.ddiv (FP.i2d t) 4621819117588971520) c q ∧ -58 ≤ q ∧ q ≤ 13 := by
  rw [i2d_l2d]
  obtain ⟨c, q, h1, h2, h3⟩ := l2d_pos t.toInt64 (by rw [i64]; omega)
  have e : FP.Core.val64 (FP.ddiv (FP.l2d t.toInt64) 4621819117588971520) = FP.Core.quotient FP.Core.b64 (FP.Core.val64 (FP.l2d t.toInt64)) (FP.Core.val64 4621819117588971520) := FP.Core.val64_ddiv _ _
  rw [h1.1, fp_10] at e
  have e2 : FP.Core.quotient FP.Core.b64 (.fin false c q) (.fin false 5629499534213120 (-49)) = FP.Core.roundRatio FP.Core.b64 false c 5629499534213120 (q - -49) := by
    show (if (5629499534213120 : Nat) = 0 then (if c = 0 then FP.Core.Datum.nan else FP.Core.Datum.inf (false != false)) else FP.Core.roundRatio FP.Core.b64 (false != false) c 5629499534213120 (q - -49)) = _
    rw [if_neg (by decide)]
    rfl
  have g1 := log2_c h1.2.1
  have g2 : (5629499534213120 : Nat).log2 = 52 := log2_c ⟨by decide, by decide⟩
  have g3 := lead_rng c 5629499534213120
  rw [g1, g2] at g3
  have hc0 : 0 < c := by have := h1.2.1.1; omega
  obtain ⟨c', q', e3, e4, e5, e6⟩ := rr_fpn false (A := c) (B := 5629499534213120) (e := q - -49) hc0 (by decide) (by omega) (by omega)
  exact ⟨c', q', ⟨by rw [e, e2]; exact e3, e4, by omega, by omega⟩, by omega, by omega⟩
/-- two such numbers together -/
theorem FPN.add {x y : UInt64} {c d : Nat} {q r : Int} (h : FPN x c q) (k : FPN y d r) (hq : -60 ≤ q ∧ q ≤ 20) (hr : -60 ≤ r ∧ r ≤ 20) : ∃ (c' : Nat) (q' : Int), FPN (FP.dadd x y) c' q' ∧ -64 ≤ q' ∧ q' ≤ 64 := by
  have e : FP.Core.val64 (FP.dadd x y) = FP.Core.round FP.Core.b64 (FP.Core.exactSum (FP.Core.val64 x) (FP.Core.val64 y)) := FP.Core.val64_dadd _ _
  rw [h.1, k.1] at e
  obtain ⟨m, hm⟩ : ∃ m : Int, m = min q r := ⟨_, rfl⟩
  obtain ⟨A, hA⟩ : ∃ A : Nat, A = c * 2 ^ (q - m).toNat + d * 2 ^ (r - m).toNat := ⟨_, rfl⟩
  have p1 := Nat.two_pow_pos (q - m).toNat
  have p2 := Nat.two_pow_pos (r - m).toNat
  have hc := h.2.1
  have hd := k.2.1
  have hdd : d ≤ d * 2 ^ (r - m).toNat := Nat.le_mul_of_pos_right d p2
  have hu : FP.Core.sumUnits false c q false d r m = (A : Int) := by
    rw [hA]
    rfl
  have es : FP.Core.exactSum (.fin false c q) (.fin false d r) = .fin false A m := by
    show FP.Core.Datum.fin (FP.Core.sumSign false false (FP.Core.sumUnits false c q false d r (min q r))) (FP.Core.sumUnits false c q false d r (min q r)).natAbs (min q r) = _
    rw [← hm, hu]
    have e1 : FP.Core.sumSign false false (A : Int) = false := by
      unfold FP.Core.sumSign
      rw [if_neg (by omega)]
      exact decide_eq_false (by omega)
    rw [e1]
    rfl
  rw [es] at e
  have e : FP.Core.val64 (FP.dadd x y) = FP.Core.roundRatio FP.Core.b64 false A 1 m := e
  have a1 : (2 : Nat) ^ 52 = 4503599627370496 := by decide
  have a2 : (2 : Nat) ^ 53 = 9007199254740992 := by decide
  have lo : 52 + (r - m).toNat ≤ A.log2 := by
    refine log2_ge ?_
    rw [Nat.pow_add, a1]
    have := Nat.mul_le_mul_right (2 ^ (r - m).toNat) hd.1
    omega
  have hi : A.log2 ≤ 53 + (max q r - m).toNat := by
    refine log2_le ?_
    have q1 : 2 ^ (q - m).toNat ≤ 2 ^ (max q r - m).toNat := Nat.pow_le_pow_right (by omega) (by omega)
    have q2 : 2 ^ (r - m).toNat ≤ 2 ^ (max q r - m).toNat := Nat.pow_le_pow_right (by omega) (by omega)
    have q3 : c * 2 ^ (q - m).toNat ≤ 9007199254740991 * 2 ^ (max q r - m).toNat := Nat.mul_le_mul (by omega) q1
    have q4 : d * 2 ^ (r - m).toNat ≤ 9007199254740991 * 2 ^ (max q r - m).toNat := Nat.mul_le_mul (by omega) q2
    have e5 : 2 ^ (53 + (max q r - m).toNat + 1) = 9007199254740992 * 2 ^ (max q r - m).toNat * 2 := by
      rw [Nat.pow_succ, Nat.pow_add, a2]
    have p3 := Nat.two_pow_pos (max q r - m).toNat
    rw [e5]
    omega
  have g3 : (1 : Nat).log2 = 0 := by decide
  have g4 := lead_rng A 1
  rw [g3] at g4
  obtain ⟨c', q', e3, e4, e5, e6⟩ := rr_fpn false (A := A) (B := 1) (e := m) (by omega) (by omega) (by omega) (by omega)
  exact ⟨c', q', ⟨by rw [e]; exact e3, e4, by omega, by omega⟩, by omega, by omega⟩
theorem FPN.nn {x : UInt64} {c : Nat} {q : Int} (h : FPN x c q) : ¬ FP.Core.val64 x = .nan := by
  rw [h.1]
  exact fun h => by cases h
theorem FPN.nz {x : UInt64} {c : Nat} {q : Int} (h : FPN x c q) : ¬ x = FP.Core.dzeroNeg := by
  intro e
  have h1 := h.1
  rw [e, FP.Core.val64_dzeroNeg] at h1
  cases h1
theorem tenth_0 : FP.ddiv (FP.i2d 0) 4621819117588971520 = 0 := by decide +kernel
/-- a number with tenths: nothing, or above nothing -/
def DEC (n : Int64) (t : Int32) : UInt64 := FP.dadd (FP.l2d n) (FP.ddiv (FP.i2d t) 4621819117588971520)
theorem dec_0 (n : Int64) (h : 0 ≤ n.toInt) : DEC n 0 = FP.l2d n := by
  unfold DEC
  rw [tenth_0]
  by_cases h0 : n.toInt = 0
  · have e : n = 0 := Int64.toInt_inj.mp (by rw [h0]; rfl)
    rw [e]
    decide +kernel
  · obtain ⟨c, q, h1, _⟩ := l2d_pos n (by omega)
    exact FP.Core.dadd_zero h1.nn h1.nz
theorem dec_fpn (n : Int64) (t : Int32) (h : 0 ≤ n.toInt) (ht : 0 ≤ t.toInt ∧ t.toInt ≤ 9) : (n.toInt = 0 ∧ t.toInt = 0) ∧ DEC n t = 0 ∨ ¬ (n.toInt = 0 ∧ t.toInt = 0) ∧ ∃ (c : Nat) (q : Int), FPN (DEC n t) c q ∧ -64 ≤ q ∧ q ≤ 64 := by
  by_cases ht0 : t.toInt = 0
  · have e : t = 0 := Int32.toInt_inj.mp (by rw [ht0]; rfl)
    subst e
    rw [dec_0 n h]
    by_cases h0 : n.toInt = 0
    · have e : n = 0 := Int64.toInt_inj.mp (by rw [h0]; rfl)
      rw [e]
      exact .inl ⟨⟨rfl, rfl⟩, l2d_0⟩
    · obtain ⟨c, q, h1, h2, h3⟩ := l2d_pos n (by omega)
      exact .inr ⟨fun h9 => h0 h9.1, c, q, h1, by omega, by omega⟩
  · obtain ⟨d, r, k1, k2, k3⟩ := tenth_fpn t ⟨by omega, by omega⟩
    refine .inr ⟨fun h9 => ht0 h9.2, ?_⟩
    by_cases h0 : n.toInt = 0
    · have e : n = 0 := Int64.toInt_inj.mp (by rw [h0]; rfl)
      have e2 : DEC n t = FP.ddiv (FP.i2d t) 4621819117588971520 := by
        unfold DEC
        rw [e, l2d_0]
        have hc : FP.dadd 0 (FP.ddiv (FP.i2d t) 4621819117588971520) = FP.dadd (FP.ddiv (FP.i2d t) 4621819117588971520) 0 := FP.Core.dadd_comm _ _
        rw [hc]
        exact FP.Core.dadd_zero k1.nn k1.nz
      rw [e2]
      exact ⟨d, r, k1, by omega, by omega⟩
    · obtain ⟨c, q, h1, h2, h3⟩ := l2d_pos n (by omega)
      exact h1.add k1 ⟨by omega, by omega⟩ ⟨by omega, by omega⟩
theorem DEC.bits (n : Int64) (t : Int32) (σ : ST) (h : 0 ≤ n.toInt) (ht : 0 ≤ t.toInt ∧ t.toInt ≤ 9) : f_X10_bitsOfPositive (DEC n t) σ = some ((DEC n t).toInt64, σ) ∧ (FP.dneg (DEC n t)).toInt64 = ((DEC n t).toInt64 ||| (-9223372036854775808)) := by
  rcases dec_fpn n t h ht with ⟨_, e⟩ | ⟨_, c, q, h1, h2⟩
  · rw [e]
    exact ⟨fp_zero σ, zero_neg_bits⟩
  · obtain ⟨⟨v, s⟩, e1, e2, e3⟩ := fp_pos (DEC n t) σ h1 h2
    have e2 : s = σ := e2
    have e3 : v = (DEC n t).toInt64 := e3
    rw [e1, e2, e3]
    exact ⟨rfl, h1.neg_bits⟩
/-! what a token is worth: more of both tokens, side by side -/
/-- whatever a run answers (the rules stand once more where the walks need them) -/
def QT {α : Type} (o : Option α) (P : α → Prop) : Prop := ∀ q, o = some q → P q
theorem QT.none {α : Type} {P : α → Prop} : QT (none : Option α) P := fun _ h => by cases h
theorem QT.ret {α : Type} {q : α} {P : α → Prop} (h : P q) : QT (some q) P := fun z e => by
  cases e
  exact h
theorem QT.mono {α : Type} {o : Option α} {P Q : α → Prop} (h : QT o P) (k : ∀ q, P q → Q q) : QT o Q := fun q e => k q (h q e)
theorem QT.ok {α : Type} {o : Option α} {P : α → Prop} (h : OK o P) : QT o P := fun q e => by
  obtain ⟨z, e2, hz⟩ := h
  rw [e] at e2
  cases e2
  exact hz
theorem QT.ite {α : Type} {c : Prop} {i : Decidable c} {x y : Option α} {P : α → Prop} (h1 : c → QT x P) (h2 : ¬ c → QT y P) : QT (@_root_.ite (Option α) c i x y) P := by
  by_cases h : c
  · rw [if_pos h]; exact h1 h
  · rw [if_neg h]; exact h2 h
theorem QT.grd {α : Type} {c : Prop} {i : Decidable c} {x : Option α} {P : α → Prop} (h : c → QT x P) : QT (@_root_.ite (Option α) c i x Option.none) P := QT.ite h (fun _ => QT.none)
theorem QT.ilt {α : Type} {a b : Int32} {i : Decidable (a < b)} {x y : Option α} {P : α → Prop} (h1 : a.toInt < b.toInt → QT x P) (h2 : b.toInt ≤ a.toInt → QT y P) : QT (@_root_.ite (Option α) (a < b) i x y) P := QT.ite (fun h => h1 (il_lt h)) (fun h => h2 (il_nlt h))
theorem QT.ile {α : Type} {a b : Int32} {i : Decidable (a ≤ b)} {x y : Option α} {P : α → Prop} (h1 : a.toInt ≤ b.toInt → QT x P) (h2 : b.toInt < a.toInt → QT y P) : QT (@_root_.ite (Option α) (a ≤ b) i x y) P := QT.ite (fun h => h1 (il_le h)) (fun h => h2 (il_nle h))
theorem QT.ieq {α : Type} {a b : Int32} {i : Decidable (a = b)} {x y : Option α} {P : α → Prop} (h1 : a.toInt = b.toInt → QT x P) (h2 : ¬ a.toInt = b.toInt → QT y P) : QT (@_root_.ite (Option α) (a = b) i x y) P := QT.ite (fun h => h1 (il_eq h)) (fun h => h2 (il_ne h))
theorem QT.bnd {α β : Type} {o : Option α} {f : α → Option β} {Q : α → Prop} {P : β → Prop} (h : QT o Q) (k : ∀ q, Q q → QT (f q) P) : QT (o.bind f) P := by
  cases o with
  | none => exact QT.none
  | some x => exact k x (h x rfl)
theorem QT.lt {α β : Type} {e : α} {f : α → Option β} {P : β → Prop} (k : ∀ z, z = e → QT (f z) P) : QT ((some e).bind f) P := k e rfl
theorem QT.bndR {α β : Type} {o : Option (α × ST)} {f : α × ST → Option β} {s : ST} {Q : α → Prop} {P : β → Prop} (h : OK o (RO s Q)) (k : ∀ v, Q v → QT (f (v, s)) P) : QT (o.bind f) P := by
  obtain ⟨⟨v, t⟩, e, e2, hq⟩ := h
  have e2 : t = s := e2
  subst e2
  rw [e]
  exact k v hq
theorem OK.qt {α : Type} {o : Option α} {P Q : α → Prop} (h : OK o P) (k : QT o Q) : OK o (fun q => P q ∧ Q q) := by
  obtain ⟨q, e, hq⟩ := h
  exact ⟨q, e, hq, k q e⟩
theorem sh12 : ∀ (k : Nat), k < 12 → ∀ a : Int64, (a <<< ((5 * Int32.ofNat k).toInt64 &&& 63)).toBitVec = a.toBitVec <<< (5 * k)
  | 0, _, _ => rfl
  | 1, _, _ => rfl
  | 2, _, _ => rfl
  | 3, _, _ => rfl
  | 4, _, _ => rfl
  | 5, _, _ => rfl
  | 6, _, _ => rfl
  | 7, _, _ => rfl
  | 8, _, _ => rfl
  | 9, _, _ => rfl
  | 10, _, _ => rfl
  | 11, _, _ => rfl
  | k + 12, h, _ => by omega
theorem or12 {x a z : Int64} {X A k : Nat} (hx : x.toInt = (X : Int)) (ha : a.toInt = (A : Int)) (hA : A ≤ 26) (hk : k < 12) (hX : X < 32 ^ k) (hz : z.toBitVec = a.toBitVec <<< (5 * k)) : (x ||| z).toInt = ((X + A * 32 ^ k : Nat) : Int) := by
  have e32 : (32 : Nat) ^ k = 2 ^ (5 * k) := by rw [Nat.pow_mul]
  rw [e32] at hX ⊢
  have p1 : 2 ^ (5 * k) ≤ 2 ^ 55 := Nat.pow_le_pow_right (by omega) (by omega)
  have p2 : (2 : Nat) ^ 55 = 36028797018963968 := by decide
  have e1 := nat64 hx
  have e2 := nat64 ha
  have hm : A * 2 ^ (5 * k) ≤ 26 * 36028797018963968 := by
    rw [← p2]
    exact Nat.mul_le_mul hA p1
  have e3 : (x ||| z).toBitVec.toNat = X + A * 2 ^ (5 * k) := by
    show (x.toBitVec ||| z.toBitVec).toNat = _
    rw [hz, BitVec.toNat_or, BitVec.toNat_shiftLeft, e1, e2, Nat.shiftLeft_eq]
    have : A * 2 ^ (5 * k) % 2 ^ 64 = A * 2 ^ (5 * k) := Nat.mod_eq_of_lt (by omega)
    rw [this, Nat.or_comm, Nat.mul_comm A, ← Nat.two_pow_add_eq_or_of_lt hX, Nat.add_comm]
  show (x ||| z).toBitVec.toInt = _
  rw [BitVec.toInt_eq_toNat_of_lt (by rw [e3]; omega), e3]
theorem w5_n12 {T : Nat → Int32} {n : Int} {s : Nat} (hT8 : ∀ i, bI (T i) (-128) 127) : ∀ m, m ≤ 12 → (∀ i, i < m → isL (bt T n (s + i))) → (w5 T s m).toInt = (n5 m (gT T s) : Int) := by
  intro m
  induction m with
  | zero => intro _ _; rfl
  | succ m ih =>
    intro hm hL
    have e := ih (by omega) (fun i hi => hL i (by omega))
    obtain ⟨g1, g2⟩ := gT_L hL
    have b1 := g1 m (by omega)
    have b2 := g2 m (by omega)
    obtain ⟨t1, t2⟩ := hT8 (s + m)
    have l1 := li_1
    have l97 := li_97
    have a1 := il_subE (x := T (s + m)) (y := 97) (by omega) (by omega)
    have a2 := il_addE (x := T (s + m) - 97) (y := 1) (by omega) (by omega)
    rw [n5_last]
    exact or12 (k := m) e (by rw [i64, a2, a1]; omega) b1.2 (by omega) (n5_lt m _ (fun i hi => g1 i (by omega))) (sh12 m (by omega) _)
theorem w27_n12 {T : Nat → Int32} {n : Int} {s : Nat} : ∀ m, m ≤ 12 → (∀ i, i < m → isL (bt T n (s + i))) → (w27 T s m).toInt = (n27 (gT T s) m : Int) := by
  intro m
  induction m with
  | zero => intro _ _; rfl
  | succ m ih =>
    intro hm hL
    have e := ih (by omega) (fun i hi => hL i (by omega))
    obtain ⟨g1, g2⟩ := gT_L hL
    have b1 := g1 m (by omega)
    have b2 := g2 m (by omega)
    have hl := n27_lt m (gT T s) (fun i hi => g1 i (by omega))
    have p1 : (27 : Nat) ^ m ≤ 27 ^ 11 := Nat.pow_le_pow_right (by omega) (by omega)
    have p2 : (27 : Nat) ^ 11 = 5559060566555523 := by decide
    rw [p2] at p1
    have l27 : (27 : Int64).toInt = 27 := by decide
    have l96 : (96 : Int64).toInt = 96 := by decide
    have c1 : (27 * w27 T s m).toInt = 27 * (n27 (gT T s) m : Int) := by
      rw [Int64.toInt_mul, l27, e]
      exact Int.bmod_eq_of_le (by omega) (by omega)
    have c2 : (27 * w27 T s m + (T (s + m) &&& 255).toInt64).toInt = 27 * (n27 (gT T s) m : Int) + ((gT T s m : Int) + 96) := by
      rw [Int64.toInt_add, c1, i64, and255, b2]
      exact Int.bmod_eq_of_le (by omega) (by omega)
    show (27 * w27 T s m + (T (s + m) &&& 255).toInt64 - 96).toInt = ((27 * n27 (gT T s) m + gT T s m : Nat) : Int)
    rw [Int64.toInt_sub, c2, l96]
    rw [Int.bmod_eq_of_le (by omega) (by omega)]
    omega
/-- a text's letters, both ways, counted -/
def WLT (x y : Int64) (n : Int32) : Prop := ∃ (m : Nat) (g : Nat → Nat), m ≤ 12 ∧ GL g m ∧ x.toInt = (n5 m g : Int) ∧ y.toInt = (n27 g m : Int) ∧ n.toInt = m
/-- the class's token -/
def TWA (T : Nat → Int32) (n : Int) (s : Nat) (t : ST) : Prop := ((t.1 2 4).toInt = 5 → ∃ m, RUN isL T n (s + 1) m ∧ m ≤ 12 ∧ t.2.1 2 7 = w5 T (s + 1) m) ∧ ((t.1 2 4).toInt = 4 → ((t.1 2 9).toInt = 1 ∧ bt T n s = 45 ∨ (t.1 2 9).toInt = 0 ∧ ¬ bt T n s = 45) ∧ ((t.1 2 10).toInt = 1 → 1 ≤ (t.1 2 3).toInt ∧ isD (bt T n ((t.1 2 3).toNatClampNeg - 1)) ∧ (t.1 2 11).toInt = bt T n ((t.1 2 3).toNatClampNeg - 1) - 48) ∧ ((t.1 2 10).toInt = 0 → t.1 2 11 = 0))
theorem pa_scanLettered (σ : ST) (s : Nat) (hT8 : ∀ i, bI (σ.1 1 i) (-128) 127) (h5 : (σ.1 2 5).toInt = s) (hs : s < 1000) (hn2 : bI (σ.1 2 2) 0 1000) : QT (f_X6_scanLettered σ) (fun t => TWA (σ.1 1) (σ.1 2 2).toInt s t) := by
  unfold f_X6_scanLettered f_X6_scanLettered_38
  have l1 := li_1
  have l12 := li_12
  have l4 := li_4
  have l5 := li_5
  have e1 := il_addE (x := σ.1 2 5) (y := 1) (by omega) (by omega)
  have bad : ∀ z : ST, TWA (σ.1 1) (σ.1 2 2).toInt s (stI z 2 4 1) := fun z => by
    have e : (stI z 2 4 1).1 2 4 = 1 := rfl
    exact ⟨fun h => by rw [e] at h; omega, fun h => by rw [e] at h; omega⟩
  refine QT.bnd (QT.ok (a_takeLetters (σ.1 2 5 + 1) 12 σ (s + 1) hT8 (by omega) (by omega) (by omega) hn2)) (fun q hq => ?_)
  obtain ⟨⟨e0, ca⟩, hq⟩ := hq
  have e25 : q.2.1 2 5 = σ.1 2 5 := by rw [e0]
  refine QT.ilt (fun _ => QT.ret (bad _)) (fun h12 => ?_)
  rcases hq with ⟨m, m1, m2, m3, m4⟩ | ⟨_, m3⟩
  rotate_left
  · omega
  have e6 := il_addE (x := σ.1 2 5 + 1) (y := q.1) (by omega) (by omega)
  rw [e25]
  refine QT.bndR (a_signAt (σ.1 2 5 + 1 + q.1) q.2 (by omega) (by rw [e0]; exact hn2)) (fun v _ => ?_)
  dsimp only
  refine QT.ieq (fun _ => QT.ret ?_) (fun _ => QT.ret (bad _))
  refine ⟨fun _ => ⟨m, m1, by omega, m4⟩, fun h => ?_⟩
  have e : (stI (stI q.2 2 4 5) 2 3 (σ.1 2 5 + 1 + q.1 + 1)).1 2 4 = 5 := rfl
  rw [e] at h
  omega
theorem stL_at' {σ : ST} {c i : Nat} {v : Int64} : (stL σ c i v).2.1 c i = v := by
  show (bif Nat.beq c c then vp_updL (σ.2.1 c) i v else σ.2.1 c) i = v
  rw [Nat.beq_refl]
  exact updL_at
theorem stD_at {σ : ST} {c i : Nat} {v : UInt64} : (stD σ c i v).2.2.1 c i = v := by
  show (bif Nat.beq c c then (fun j => if j = i then v else σ.2.2.1 c j) else σ.2.2.1 c) i = v
  rw [Nat.beq_refl]
  show (if i = i then v else _) = v
  rw [if_pos rfl]
/-- where a number's token ends -/
def TWN (T : Nat → Int32) (n : Int) (t : ST) : Prop := ((t.1 2 4).toInt = 1 ∨ (t.1 2 4).toInt = 4) ∧ ((t.1 2 4).toInt = 4 → ((t.1 2 10).toInt = 1 → 1 ≤ (t.1 2 3).toInt ∧ isD (bt T n ((t.1 2 3).toNatClampNeg - 1)) ∧ (t.1 2 11).toInt = bt T n ((t.1 2 3).toNatClampNeg - 1) - 48) ∧ ((t.1 2 10).toInt = 0 → t.1 2 11 = 0))
theorem pa_scanNumber_119 (x1 x2 : Int32) (σ : ST) (h1 : 0 ≤ x1.toInt ∧ x1.toInt ≤ 2000) (hn2 : bI (σ.1 2 2) 0 1000) (h4 : (σ.1 2 4).toInt = 1) (h10 : (σ.1 2 10).toInt = 0) (h11 : σ.1 2 11 = 0) : QT (f_X6_scanNumber_119 x1 x2 σ) (fun t => TWN (σ.1 1) (σ.1 2 2).toInt t ∧ t.1 2 9 = σ.1 2 9) := by
  unfold f_X6_scanNumber_119 f_X6_scanNumber_189
  have l0 := li_0
  have l1 := li_1
  have l4 := li_4
  have l48 := li_48
  have l2 := li_2
  have e1 := il_addE (x := x1) (y := 1) (by omega) (by omega)
  have e2 := il_addE (x := x1) (y := 2) (by omega) (by omega)
  have bad : TWN (σ.1 1) (σ.1 2 2).toInt σ ∧ σ.1 2 9 = σ.1 2 9 := ⟨⟨.inl h4, fun h => by omega⟩, rfl⟩
  refine QT.ite (fun _ => QT.ret bad) (fun _ => ?_)
  refine QT.ite (fun _ => ?_) (fun _ => QT.ret bad)
  refine QT.bndR (a_signAt x1 σ h1.1 hn2) (fun v _ => ?_)
  dsimp only
  refine QT.ite (fun _ => ?_) (fun _ => QT.ret ⟨⟨.inr l4, fun _ => ⟨fun h => ?_, fun _ => h11⟩⟩, rfl⟩)
  rotate_left
  · have h : (σ.1 2 10).toInt = 1 := h
    omega
  refine QT.bndR (a_signAt (x1 + 1) σ (by omega) hn2) (fun w hw => ?_)
  dsimp only
  refine QT.bndR (a_isDigit w σ) (fun d hd => ?_)
  dsimp only
  refine QT.ieq (fun _ => QT.ret bad) (fun hd0 => ?_)
  refine QT.bndR (a_signAt (x1 + 2) σ (by omega) hn2) (fun w2 _ => ?_)
  dsimp only
  refine QT.bndR (a_isDigit w2 σ) (fun d2 _ => ?_)
  dsimp only
  refine QT.ieq (fun _ => ?_) (fun _ => QT.ret bad)
  refine QT.bndR (a_signAt (x1 + 1) (stI σ 2 10 1) (by omega) hn2) (fun u hu => ?_)
  dsimp only
  have hD : isD w.toInt := by
    rcases hd with hd | hd
    · omega
    · exact hd.2
  have n1 : (x1 + 1).toNatClampNeg = (x1 + 2).toNatClampNeg - 1 := by
    have a := nN_ (x := x1 + 1) (by omega)
    have b := nN_ (x := x1 + 2) (by omega)
    omega
  have hw1 := hw.1
  have hu1 : u.toInt = sg (σ.1 1) (σ.1 2 2).toInt (x1 + 1).toNatClampNeg := hu.1
  rw [hw1, sgD] at hD
  have hsg := sg_eq (T := σ.1 1) (n := (σ.1 2 2).toInt) (k := (x1 + 1).toNatClampNeg)
  have hD2 := hD
  unfold isD at hD2
  refine QT.ret ⟨⟨.inr l4, fun _ => ⟨fun _ => ⟨?_, ?_, ?_⟩, fun h => ?_⟩⟩, rfl⟩
  · show 1 ≤ (x1 + 2).toInt
    omega
  · show isD (bt (σ.1 1) (σ.1 2 2).toInt ((x1 + 2).toNatClampNeg - 1))
    rw [← n1]
    exact hD
  · show (u - 48).toInt = bt (σ.1 1) (σ.1 2 2).toInt ((x1 + 2).toNatClampNeg - 1) - 48
    rw [← n1, il_subE (by omega) (by omega)]
    omega
  · have h : (1 : Int32).toInt = 0 := h
    omega
theorem pa_scanNumber_65 (T : Nat → Int32) (n : Int) (i : Nat) (hi : i ≤ 1001) : ∀ (f m : Nat) (x1 x2 : Int32) (σ : ST), σ.1 1 = T → (σ.1 2 2).toInt = n → bI (σ.1 2 2) 0 1000 → x1.toInt = i + m → x2.toInt = m → m ≤ 19 → (σ.1 2 4).toInt = 1 → (σ.1 2 10).toInt = 0 → σ.1 2 11 = 0 → QT (f_X6_scanNumber_65 f x1 x2 σ) (fun t => TWN T n t ∧ t.1 2 9 = σ.1 2 9) := by
  intro f
  have l1 := li_1
  have l18 := li_18
  induction f with
  | zero => intro m x1 x2 σ _ _ _ _ _ _ _ _ _; exact QT.none
  | succ f ih =>
    intro m x1 x2 σ hT hn hn2 h1 h2 hm h4 h10 h11
    rw [f_X6_scanNumber_65]
    unfold f_X6_scanNumber_110
    have e1 := il_addE (x := x1) (y := 1) (by omega) (by omega)
    have e2 := il_addE (x := x2) (y := 1) (by omega) (by omega)
    have fin := pa_scanNumber_119 x1 x2 σ ⟨by omega, by omega⟩ hn2 h4 h10 h11
    rw [hT, hn] at fin
    refine QT.ilt (fun _ => fin) (fun _ => ?_)
    refine QT.bndR (a_signAt x1 σ (by omega) hn2) (fun v _ => ?_)
    dsimp only
    refine QT.bndR (a_isDigit v σ) (fun d _ => ?_)
    dsimp only
    refine QT.ite (fun _ => fin) (fun _ => ?_)
    refine QT.ite (fun _ => ih (m + 1) (x1 + 1) (x2 + 1) σ hT hn hn2 (by omega) (by omega) (by omega) h4 h10 h11) (fun _ => ?_)
    refine QT.bndR (a_signAt x1 σ (by omega) hn2) (fun w _ => ?_)
    exact ih (m + 1) (x1 + 1) (x2 + 1) _ hT hn hn2 (by omega) (by omega) (by omega) h4 h10 h11
theorem pa_scanNumber (σ : ST) (s : Nat) (h5 : (σ.1 2 5).toInt = s) (hs : s < 1000) (hn2 : bI (σ.1 2 2) 0 1000) : QT (f_X6_scanNumber σ) (fun t => TWA (σ.1 1) (σ.1 2 2).toInt s t) := by
  unfold f_X6_scanNumber
  have l0 := li_0
  have l1 := li_1
  have l45 := li_45
  have l5 := li_5
  have e1 := il_addE (x := σ.1 2 5) (y := 1) (by omega) (by omega)
  have ns : (σ.1 2 5).toNatClampNeg = s := nC h5
  refine QT.bndR (a_signAt (σ.1 2 5) σ (by omega) hn2) (fun v hv => ?_)
  dsimp only
  rw [ns] at hv
  have hv1 := hv.1
  have hsg := sg_eq (T := σ.1 1) (n := (σ.1 2 2).toInt) (k := s)
  have run : ∀ y0 : Int32, (y0.toInt = 1 ∧ bt (σ.1 1) (σ.1 2 2).toInt s = 45 ∨ y0.toInt = 0 ∧ ¬ bt (σ.1 1) (σ.1 2 2).toInt s = 45) → QT (f_X6_scanNumber_19 y0 σ) (fun t => TWA (σ.1 1) (σ.1 2 2).toInt s t) := fun y0 hy => by
    unfold f_X6_scanNumber_19 f_X6_scanNumber_62
    refine QT.grd (fun _ => ?_)
    have fin : ∀ t : ST, TWN (σ.1 1) (σ.1 2 2).toInt t ∧ t.1 2 9 = y0 → TWA (σ.1 1) (σ.1 2 2).toInt s t := fun t ht => by
      obtain ⟨⟨t1, t2⟩, t3⟩ := ht
      refine ⟨fun h => by omega, fun h => ⟨by rw [t3]; exact hy, t2 h⟩⟩
    refine QT.ite (fun _ => ?_) (fun _ => ?_)
    · refine (pa_scanNumber_65 (σ.1 1) (σ.1 2 2).toInt s (by omega) FU 0 (σ.1 2 5) 0 (stI (stL (stI (stI (stI σ 2 9 y0) 2 10 0) 2 11 0) 2 8 0) 2 4 1) rfl rfl hn2 (by omega) l0 (by omega) l1 l0 rfl).mono (fun t ht => fin t ht)
    · refine (pa_scanNumber_65 (σ.1 1) (σ.1 2 2).toInt (s + 1) (by omega) FU 0 (σ.1 2 5 + 1) 0 (stI (stL (stI (stI (stI σ 2 9 y0) 2 10 0) 2 11 0) 2 8 0) 2 4 1) rfl rfl hn2 (by omega) l0 (by omega) l1 l0 rfl).mono (fun t ht => fin t ht)
  exact QT.ieq (fun _ => run 1 (.inl ⟨l1, by omega⟩)) (fun _ => run 0 (.inr ⟨l0, by omega⟩))
theorem TWA.no {T : Nat → Int32} {n : Int} {s : Nat} {t : ST} (h4 : ¬ (t.1 2 4).toInt = 4) (h5 : ¬ (t.1 2 4).toInt = 5) : TWA T n s t := ⟨fun h => absurd h h5, fun h => absurd h h4⟩
theorem pa_advance_50 (σ : ST) (s : Nat) (hT8 : ∀ i, bI (σ.1 1 i) (-128) 127) (h3 : (σ.1 2 3).toInt = s) (hn2 : bI (σ.1 2 2) 0 1000) : QT (f_X6_advance_50 σ) (fun t => TWA (σ.1 1) (σ.1 2 2).toInt s t ∧ (t.1 2 5).toInt = s) := by
  unfold f_X6_advance_50 f_X6_advance_113 f_X6_advance_169
  have l0 := li_0
  have l1 := li_1
  have hn2' := hn2
  obtain ⟨n1, n2⟩ := hn2'
  have e5 : (stI σ 2 5 (σ.1 2 3)).1 2 5 = σ.1 2 3 := rfl
  have c1 : (stI σ 2 5 (σ.1 2 3)).1 1 = σ.1 1 := rfl
  have c2 : (stI σ 2 5 (σ.1 2 3)).1 2 2 = σ.1 2 2 := rfl
  rw [e5]
  generalize stI σ 2 5 (σ.1 2 3) = z at e5 c1 c2 ⊢
  have z5 : (z.1 2 5).toInt = s := by rw [e5]; exact h3
  have hz2 : bI (z.1 2 2) 0 1000 := by rw [c2]; exact hn2
  refine QT.bndR (a_signAt (σ.1 2 3) z (by omega) hz2) (fun v hv => ?_)
  dsimp only
  refine QT.ilt (fun hlt => ?_) (fun _ => QT.ret ⟨TWA.no (by rw [show (stI z 2 4 0).1 2 4 = 0 from rfl]; omega) (by rw [show (stI z 2 4 0).1 2 4 = 0 from rfl]; omega), z5⟩)
  have hs : s < 1000 := by
    rw [c2] at hlt
    omega
  have num : QT ((f_X6_scanNumber z).bind fun q1 => some q1) (fun t => TWA (σ.1 1) (σ.1 2 2).toInt s t ∧ (t.1 2 5).toInt = s) := by
    refine QT.bnd (Q := fun t => TWA (σ.1 1) (σ.1 2 2).toInt s t ∧ (t.1 2 5).toInt = s) (fun q e => ⟨?_, ?_⟩) (fun q hq => QT.ret hq)
    · have := pa_scanNumber z s z5 hs hz2 q e
      rw [c1, c2] at this
      exact this
    · have := QT.ok (a_scanNumber z s z5 hs hz2) q e
      rw [this.2.1]
      exact z5
  have sgn : ∀ c : Int32, ¬ c.toInt = 4 → ¬ c.toInt = 5 → QT (some (stI (stI z 2 4 c) 2 3 (((stI z 2 4 c).1 2 5) + 1))) (fun t => TWA (σ.1 1) (σ.1 2 2).toInt s t ∧ (t.1 2 5).toInt = s) := fun c h4 h5 => QT.ret ⟨TWA.no h4 h5, z5⟩
  refine QT.bndR (a_isLetter v z) (fun d _ => ?_)
  dsimp only
  refine QT.ite (fun _ => ?_) (fun _ => ?_)
  · refine QT.ite (fun _ => num) (fun _ => ?_)
    refine QT.bndR (a_isDigit v z) (fun d2 _ => ?_)
    dsimp only
    refine QT.ite (fun _ => ?_) (fun _ => num)
    refine QT.ite (fun _ => ?_) (fun _ => ?_)
    · refine QT.bnd (Q := fun t => TWA (σ.1 1) (σ.1 2 2).toInt s t ∧ (t.1 2 5).toInt = s) (fun q e => ⟨?_, ?_⟩) (fun q hq => QT.ret hq)
      · have := pa_scanLettered z s (by rw [c1]; exact hT8) z5 hs hz2 q e
        rw [c1, c2] at this
        exact this
      · have := QT.ok (a_scanLettered z s (by rw [c1]; exact hT8) z5 hs hz2) q e
        rw [this.2.1]
        exact z5
    have l123 := li_123
    have l125 := li_125
    have l91 := li_91
    have l93 := li_93
    have l44 := li_44
    have l59 := li_59
    refine QT.ieq (fun _ => sgn v (by omega) (by omega)) (fun _ => ?_)
    refine QT.ieq (fun _ => sgn v (by omega) (by omega)) (fun _ => ?_)
    refine QT.ieq (fun _ => sgn v (by omega) (by omega)) (fun _ => ?_)
    refine QT.ieq (fun _ => sgn v (by omega) (by omega)) (fun _ => ?_)
    refine QT.ieq (fun _ => sgn v (by omega) (by omega)) (fun _ => ?_)
    refine QT.ieq (fun _ => sgn v (by omega) (by omega)) (fun _ => ?_)
    exact QT.ret ⟨TWA.no (by rw [show (stI z 2 4 1).1 2 4 = 1 from rfl]; omega) (by rw [show (stI z 2 4 1).1 2 4 = 1 from rfl]; omega), z5⟩
  · refine QT.bnd (QT.ok (a_scanWord z s (by rw [c1]; exact hT8) z5 (by omega) hz2)) (fun q hq => QT.ret ?_)
    obtain ⟨_, q5, hq⟩ := hq
    have h4 : (q.1 2 4).toInt = 2 ∨ (q.1 2 4).toInt = 3 ∨ (q.1 2 4).toInt = 1 := by
      rcases hq with ⟨m, _, _, _, _, h | h⟩ | h
      · exact .inl h.1
      · exact .inr (.inl h.1)
      · exact .inr (.inr h.2)
    exact ⟨TWA.no (by omega) (by omega), by rw [q5]; exact z5⟩
theorem pa_advance_0 : ∀ (f k : Nat) (σ : ST), (∀ i, bI (σ.1 1 i) (-128) 127) → bI (σ.1 2 2) 0 1000 → (σ.1 2 3).toInt = k → k ≤ 1100 → QT (f_X6_advance_0 f σ) (fun t => ∃ s : Nat, TWA (σ.1 1) (σ.1 2 2).toInt s t ∧ (t.1 2 5).toInt = s) := by
  intro f
  have l1 := li_1
  induction f with
  | zero => intro k σ _ _ _ _; exact QT.none
  | succ f ih =>
    intro k σ hT8 hn2 h3 hk
    rw [f_X6_advance_0]
    unfold f_X6_advance_37
    have hn2' := hn2
    obtain ⟨n1, n2⟩ := hn2'
    have fin : QT (f_X6_advance_50 σ) (fun t => ∃ s : Nat, TWA (σ.1 1) (σ.1 2 2).toInt s t ∧ (t.1 2 5).toInt = s) := (pa_advance_50 σ k hT8 h3 hn2).mono (fun t ht => ⟨k, ht⟩)
    refine QT.ile (fun _ => fin) (fun hlt => ?_)
    have e3 := il_addE (x := σ.1 2 3) (y := 1) (by omega) (by omega)
    have nx : QT (f_X6_advance_0 f (stI σ 2 3 (σ.1 2 3 + 1))) (fun t => ∃ s : Nat, TWA (σ.1 1) (σ.1 2 2).toInt s t ∧ (t.1 2 5).toInt = s) := ih (k + 1) (stI σ 2 3 (σ.1 2 3 + 1)) hT8 hn2 (by show (σ.1 2 3 + 1).toInt = _; omega) (by omega)
    refine QT.bndR (a_signAt (σ.1 2 3) σ (by omega) hn2) (fun v _ => ?_)
    dsimp only
    refine QT.ite (fun _ => nx) (fun _ => ?_)
    refine QT.bndR (a_signAt (σ.1 2 3) σ (by omega) hn2) (fun w _ => ?_)
    dsimp only
    exact QT.ite (fun _ => nx) (fun _ => fin)
theorem pa_advance (σ : ST) (k : Nat) (hT8 : ∀ i, bI (σ.1 1 i) (-128) 127) (hn2 : bI (σ.1 2 2) 0 1000) (h3 : (σ.1 2 3).toInt = k) (hk : k ≤ 1100) : QT (f_X6_advance σ) (fun t => ∃ s : Nat, TWA (σ.1 1) (σ.1 2 2).toInt s t ∧ (t.1 2 5).toInt = s) := pa_advance_0 FU k σ hT8 hn2 h3 hk
/-- the reference's token -/
def TWB (T : Nat → Int32) (n : Int) (s : Nat) (t : ST) : Prop := ((t.1 0 6).toInt = 3 → ∃ m, RUN isL T n (s + 1) m ∧ m ≤ 12 ∧ (t.1 0 8).toInt = m ∧ t.2.1 0 7 = w27 T (s + 1) m) ∧ ((t.1 0 6).toInt = 2 → (t.1 0 10).toInt = 1 → ∃ (W : Int64) (d : Int32), d.toInt = bt T n ((t.1 0 5).toNatClampNeg - 1) - 48 ∧ (bt T n s = 45 ∧ t.2.1 0 9 = -W ∧ t.2.2.1 0 11 = FP.dneg (DEC W d) ∨ ¬ bt T n s = 45 ∧ t.2.1 0 9 = W ∧ t.2.2.1 0 11 = DEC W d))
theorem TWB.no {T : Nat → Int32} {n : Int} {s : Nat} {t : ST} (h2 : ¬ (t.1 0 6).toInt = 2) (h3 : ¬ (t.1 0 6).toInt = 3) : TWB T n s t := ⟨fun h => absurd h h3, fun h => absurd h h2⟩
theorem kb_byteAt (p : Int32) (σ : ST) : QT (f_X11_byteAt p σ) (fun q => q.2 = σ) := by
  unfold f_X11_byteAt
  refine QT.ite (fun _ => ?_) (fun _ => ?_)
  · first | exact QT.ret rfl | exact QT.grd (fun _ => QT.ret rfl)
  · first | exact QT.ret rfl | exact QT.grd (fun _ => QT.ret rfl)
theorem pb_262 (x1 x3 : Int32) (σ : ST) : QT (f_X11_number_262 x1 x3 σ) (fun t => t.2.2.1 = σ.2.2.1 ∧ t.1 0 5 = σ.1 0 5 ∧ t.1 0 10 = σ.1 0 10 ∧ t.2.1 0 9 = (if x1 = 0 then σ.2.1 0 9 else -(σ.2.1 0 9)) ∧ ((t.1 0 6).toInt = 2 ∨ (t.1 0 6).toInt = 5)) := by
  unfold f_X11_number_262 f_X11_number_279 f_X11_number_292
  have l2 := li_2
  have l5 := li_5
  refine QT.ite (fun h => ?_) (fun h => ?_)
  · rw [if_pos h]
    exact QT.ite (fun _ => QT.ret ⟨rfl, rfl, rfl, stL_at', .inr l5⟩) (fun _ => QT.ret ⟨rfl, rfl, rfl, stL_at', .inl l2⟩)
  · rw [if_neg h]
    exact QT.ite (fun _ => QT.ret ⟨rfl, rfl, rfl, stL_at', .inr l5⟩) (fun _ => QT.ret ⟨rfl, rfl, rfl, stL_at', .inl l2⟩)
theorem pb_225 (x1 x3 : Int32) (y0 : UInt64) (σ : ST) : QT (f_X11_number_225 x1 x3 y0 σ) (fun t => t.2.2.1 0 11 = y0 ∧ t.1 0 5 = σ.1 0 5 + 2 ∧ t.1 0 10 = σ.1 0 10 ∧ t.2.1 0 9 = (if x1 = 0 then σ.2.1 0 9 else -(σ.2.1 0 9)) ∧ ((t.1 0 6).toInt = 2 ∨ (t.1 0 6).toInt = 5)) := by
  unfold f_X11_number_225 f_X11_number_260 f_X11_number_261
  have d1 : (stI (stD σ 0 11 y0) 0 5 (((stD σ 0 11 y0).1 0 5) + 2)).2.2.1 0 11 = y0 := stD_at
  have d2 : (stI (stD σ 0 11 y0) 0 5 (((stD σ 0 11 y0).1 0 5) + 2)).1 0 5 = σ.1 0 5 + 2 := rfl
  have d3 : (stI (stD σ 0 11 y0) 0 5 (((stD σ 0 11 y0).1 0 5) + 2)).1 0 10 = σ.1 0 10 := rfl
  have d4 : (stI (stD σ 0 11 y0) 0 5 (((stD σ 0 11 y0).1 0 5) + 2)).2.1 = σ.2.1 := rfl
  generalize stI (stD σ 0 11 y0) 0 5 (((stD σ 0 11 y0).1 0 5) + 2) = z at d1 d2 d3 d4 ⊢
  have run : ∀ x : Int32, QT (f_X11_number_262 x1 x z) (fun t => t.2.2.1 0 11 = y0 ∧ t.1 0 5 = σ.1 0 5 + 2 ∧ t.1 0 10 = σ.1 0 10 ∧ t.2.1 0 9 = (if x1 = 0 then σ.2.1 0 9 else -(σ.2.1 0 9)) ∧ ((t.1 0 6).toInt = 2 ∨ (t.1 0 6).toInt = 5)) := fun x => (pb_262 x1 x z).mono (fun t ht => by
    obtain ⟨t1, t2, t3, t4, t5⟩ := ht
    rw [t1, t2, t3, t4, d4]
    exact ⟨d1, d2, d3, rfl, t5⟩)
  refine QT.ite (fun _ => run 0) (fun _ => ?_)
  have hb : QT (f_X11_byteAt (z.1 0 5) z) (fun q => q.2 = z) := by
    exact kb_byteAt _ _
  refine QT.bnd hb (fun q hq => ?_)
  rw [hq]
  refine QT.bndR (b_isDigit _ z) (fun d _ => ?_)
  dsimp only
  exact QT.ite (fun _ => run 1) (fun _ => run 0)
theorem pb_170 (T : Nat → Int32) (n : Int) (x1 x3 y0 : Int32) (σ : ST) (hT : σ.1 1 = T) (hn : (σ.1 0 3).toInt = n) (hn2 : bI (σ.1 0 3) 0 1000) (h5 : 0 ≤ (σ.1 0 5).toInt ∧ (σ.1 0 5).toInt ≤ 2000) : QT (f_X11_number_170 x1 x3 y0 σ) (fun t => ((t.1 0 6).toInt = 2 ∨ (t.1 0 6).toInt = 5) ∧ ((t.1 0 10).toInt = 1 → ∃ (W : Int64) (d : Int32), d.toInt = bt T n ((t.1 0 5).toNatClampNeg - 1) - 48 ∧ (¬ x1 = 0 ∧ t.2.1 0 9 = -W ∧ t.2.2.1 0 11 = FP.dneg (DEC W d) ∨ x1 = 0 ∧ t.2.1 0 9 = W ∧ t.2.2.1 0 11 = DEC W d))) := by
  unfold f_X11_number_170
  have l0 := li_0
  have l1 := li_1
  have l2 := li_2
  have l48 := li_48
  refine QT.grd (fun hy => ?_)
  have e10 : (stI σ 0 10 y0).1 0 10 = y0 := rfl
  have e5 : (stI σ 0 10 y0).1 0 5 = σ.1 0 5 := rfl
  have c1 : (stI σ 0 10 y0).1 1 = T := hT
  have c3 : (stI σ 0 10 y0).1 0 3 = σ.1 0 3 := rfl
  generalize stI σ 0 10 y0 = z at e10 e5 c1 c3 ⊢
  have hz3 : bI (z.1 0 3) 0 1000 := by rw [c3]; exact hn2
  refine QT.ieq (fun hz0 => ?_) (fun hz0 => ?_)
  · refine (pb_262 x1 x3 z).mono (fun t ht => ⟨ht.2.2.2.2, fun h => ?_⟩)
    rw [ht.2.2.1] at h
    omega
  have a1 := il_addE (x := z.1 0 5) (y := 1) (by rw [e5]; omega) (by rw [e5]; omega)
  have a2 := il_addE (x := z.1 0 5) (y := 2) (by rw [e5]; omega) (by rw [e5]; omega)
  rw [e5] at a1 a2
  refine QT.bndR (b_byteAt (z.1 0 5 + 1) z (by rw [e5]; omega) hz3) (fun v hv => ?_)
  dsimp only
  refine QT.grd (fun _ => ?_)
  refine QT.grd (fun _ => ?_)
  refine QT.lt (fun w hw => ?_)
  have w11 : w.2.2.1 0 11 = DEC (z.2.1 0 9) (v - 48) := by
    rw [hw]
    exact stD_at
  have w9 : w.2.1 0 9 = z.2.1 0 9 := by rw [hw]; rfl
  have w5' : w.1 0 5 = z.1 0 5 := by rw [hw]; rfl
  clear hw
  have hv1 := hv.1
  rw [c1, c3, hn] at hv1
  have hr := bt_rng (T := T) (n := n) (k := (z.1 0 5 + 1).toNatClampNeg)
  have n1 : (z.1 0 5 + 1).toNatClampNeg = (z.1 0 5 + 2).toNatClampNeg - 1 := by
    have a := nN_ (x := z.1 0 5 + 1) (by rw [e5]; omega)
    have b := nN_ (x := z.1 0 5 + 2) (by rw [e5]; omega)
    rw [e5] at a b ⊢
    omega
  have hd : (v - 48).toInt = bt T n ((z.1 0 5 + 2).toNatClampNeg - 1) - 48 := by
    rw [← n1, il_subE (by omega) (by omega), hv1]
    omega
  refine QT.ite (fun hx => ?_) (fun hx => ?_)
  · refine (pb_225 x1 x3 (w.2.2.1 0 11) w).mono (fun t ht => ⟨ht.2.2.2.2, fun _ => ⟨z.2.1 0 9, v - 48, ?_, .inr ⟨hx, ?_, ?_⟩⟩⟩)
    · rw [ht.2.1, w5']
      exact hd
    · rw [ht.2.2.2.1, if_pos hx, w9]
    · rw [ht.1, w11]
  · refine (pb_225 x1 x3 (FP.dneg (w.2.2.1 0 11)) w).mono (fun t ht => ⟨ht.2.2.2.2, fun _ => ⟨z.2.1 0 9, v - 48, ?_, .inl ⟨hx, ?_, ?_⟩⟩⟩)
    · rw [ht.2.1, w5']
      exact hd
    · rw [ht.2.2.2.1, if_neg hx, w9]
    · rw [ht.1, w11]
theorem pb_47 (T : Nat → Int32) (n : Int) (x1 x2 : Int32) : ∀ (f k : Nat) (σ : ST), σ.1 1 = T → (σ.1 0 3).toInt = n → bI (σ.1 0 3) 0 1000 → (σ.1 0 5).toInt = k → k ≤ 1001 → QT (f_X11_number_47 f x1 x2 σ) (fun t => ((t.1 0 6).toInt = 2 ∨ (t.1 0 6).toInt = 5) ∧ ((t.1 0 10).toInt = 1 → ∃ (W : Int64) (d : Int32), d.toInt = bt T n ((t.1 0 5).toNatClampNeg - 1) - 48 ∧ (¬ x1 = 0 ∧ t.2.1 0 9 = -W ∧ t.2.2.1 0 11 = FP.dneg (DEC W d) ∨ x1 = 0 ∧ t.2.1 0 9 = W ∧ t.2.2.1 0 11 = DEC W d))) := by
  intro f
  have l1 := li_1
  induction f with
  | zero => intro k σ _ _ _ _ _; exact QT.none
  | succ f ih =>
    intro k σ hT hn hn2 h5 hk
    rw [f_X11_number_47]
    unfold f_X11_number_102
    have hn2' := hn2
    obtain ⟨n1, n2⟩ := hn2'
    have nk : (σ.1 0 5).toNatClampNeg = k := nC h5
    have e5 := il_addE (x := σ.1 0 5) (y := 1) (by omega) (by omega)
    have fin : ∀ y0 : Int32, QT (f_X11_number_134 x1 y0 σ) (fun t => ((t.1 0 6).toInt = 2 ∨ (t.1 0 6).toInt = 5) ∧ ((t.1 0 10).toInt = 1 → ∃ (W : Int64) (d : Int32), d.toInt = bt T n ((t.1 0 5).toNatClampNeg - 1) - 48 ∧ (¬ x1 = 0 ∧ t.2.1 0 9 = -W ∧ t.2.2.1 0 11 = FP.dneg (DEC W d) ∨ x1 = 0 ∧ t.2.1 0 9 = W ∧ t.2.2.1 0 11 = DEC W d))) := fun y0 => by
      unfold f_X11_number_134 f_X11_number_169
      have r170 := fun y => pb_170 T n x1 y0 y σ hT hn hn2 ⟨by omega, by omega⟩
      refine QT.bndR (b_byteAt (σ.1 0 5) σ (by omega) hn2) (fun v _ => ?_)
      dsimp only
      refine QT.ite (fun _ => ?_) (fun _ => r170 0)
      refine QT.bndR (b_byteAt (σ.1 0 5 + 1) σ (by omega) hn2) (fun v _ => ?_)
      dsimp only
      refine QT.bndR (b_isDigit v σ) (fun d _ => ?_)
      dsimp only
      exact QT.ite (fun _ => r170 0) (fun _ => r170 1)
    refine QT.bndR (b_byteAt (σ.1 0 5) σ (by omega) hn2) (fun v hv => ?_)
    dsimp only
    refine QT.bndR (b_isDigit v σ) (fun d hd => ?_)
    dsimp only
    refine QT.ieq (fun _ => ?_) (fun hd0 => ?_)
    · exact QT.ite (fun _ => fin 0) (fun _ => fin 1)
    have hD : isD (bt T n k) := by
      rcases hd with hd | hd
      · have l0 := li_0
        omega
      · have := hv.1
        rw [hT, hn, nk] at this
        rw [← this]
        exact hd.2
    have hkn : (k : Int) < n := by
      have := (bt_rng (T := T) (n := n) (k := k)).2.2.mp (isD_0 _ hD)
      exact this
    have nx : ∀ y : Int64, QT (f_X11_number_47 f x1 x2 (stI (stL σ 0 9 y) 0 5 (((stL σ 0 9 y).1 0 5) + 1))) (fun t => ((t.1 0 6).toInt = 2 ∨ (t.1 0 6).toInt = 5) ∧ ((t.1 0 10).toInt = 1 → ∃ (W : Int64) (d : Int32), d.toInt = bt T n ((t.1 0 5).toNatClampNeg - 1) - 48 ∧ (¬ x1 = 0 ∧ t.2.1 0 9 = -W ∧ t.2.2.1 0 11 = FP.dneg (DEC W d) ∨ x1 = 0 ∧ t.2.1 0 9 = W ∧ t.2.2.1 0 11 = DEC W d))) := fun y => ih (k + 1) _ hT hn hn2 (by show (σ.1 0 5 + 1).toInt = _; omega) (by omega)
    refine QT.ite (fun _ => nx _) (fun _ => ?_)
    refine QT.bndR (b_byteAt (σ.1 0 5) σ (by omega) hn2) (fun w _ => ?_)
    exact nx _
theorem pb_number (σ : ST) (s : Nat) (hn2 : bI (σ.1 0 3) 0 1000) (h5 : (σ.1 0 5).toInt = s) (hs : s ≤ 1000) : QT (f_X11_number σ) (fun t => TWB (σ.1 1) (σ.1 0 3).toInt s t) := by
  unfold f_X11_number f_X11_number_18 f_X11_number_33
  have l0 := li_0
  have l1 := li_1
  have l45 := li_45
  have ns : (σ.1 0 5).toNatClampNeg = s := nC h5
  have e5 := il_addE (x := σ.1 0 5) (y := 1) (by omega) (by omega)
  have c0 : (σ.1 0 5 + 0).toInt = s := by rw [il_addE (by omega) (by omega)]; omega
  refine QT.bndR (b_byteAt (σ.1 0 5) σ (by omega) hn2) (fun v hv => ?_)
  dsimp only
  have hv1 := hv.1
  rw [ns] at hv1
  have fin : ∀ (x1 : Int32) (t : ST), (x1 = 0 ↔ ¬ bt (σ.1 1) (σ.1 0 3).toInt s = 45) → (((t.1 0 6).toInt = 2 ∨ (t.1 0 6).toInt = 5) ∧ ((t.1 0 10).toInt = 1 → ∃ (W : Int64) (d : Int32), d.toInt = bt (σ.1 1) (σ.1 0 3).toInt ((t.1 0 5).toNatClampNeg - 1) - 48 ∧ (¬ x1 = 0 ∧ t.2.1 0 9 = -W ∧ t.2.2.1 0 11 = FP.dneg (DEC W d) ∨ x1 = 0 ∧ t.2.1 0 9 = W ∧ t.2.2.1 0 11 = DEC W d))) → TWB (σ.1 1) (σ.1 0 3).toInt s t := fun x1 t hx ht => by
    refine ⟨fun h => by omega, fun _ h10 => ?_⟩
    obtain ⟨W, d, h1, h2⟩ := ht.2 h10
    refine ⟨W, d, h1, ?_⟩
    rcases h2 with ⟨a, b, c⟩ | ⟨a, b, c⟩
    · exact .inl ⟨Classical.byContradiction (fun h => a (hx.mpr h)), b, c⟩
    · exact .inr ⟨hx.mp a, b, c⟩
  have n01 : ¬ (1 : Int32) = 0 := by decide
  refine QT.ieq (fun hm => ?_) (fun hm => ?_)
  · rw [if_neg n01]
    refine (pb_47 (σ.1 1) (σ.1 0 3).toInt 1 _ FU (s + 1) (stL (stI σ 0 5 (σ.1 0 5 + 1)) 0 9 0) rfl rfl hn2 ?_ (by omega)).mono (fun t ht => fin 1 t ⟨fun h => absurd h n01, fun h => absurd (by omega) h⟩ ht)
    show (σ.1 0 5 + 1).toInt = _
    omega
  · rw [if_pos rfl]
    refine (pb_47 (σ.1 1) (σ.1 0 3).toInt 0 _ FU s (stL (stI σ 0 5 (σ.1 0 5 + 0)) 0 9 0) rfl rfl hn2 ?_ (by omega)).mono (fun t ht => fin 0 t ⟨fun _ h => hm (by omega), fun _ => rfl⟩ ht)
    show (σ.1 0 5 + 0).toInt = _
    exact c0
theorem pb_quoted (σ : ST) (s : Nat) (hn2 : bI (σ.1 0 3) 0 1000) (h5 : (σ.1 0 5).toInt = s) (hs : s < 1000) : QT (f_X11_quoted σ) (fun t => TWB (σ.1 1) (σ.1 0 3).toInt s t) := by
  unfold f_X11_quoted f_X11_quoted_42 f_X11_quoted_43 f_X11_quoted_64
  have l1 := li_1
  have l12 := li_12
  have l3 := li_3
  have l5 := li_5
  have e5 := il_addE (x := σ.1 0 5) (y := 1) (by omega) (by omega)
  have hn2' := hn2
  obtain ⟨n1, n2⟩ := hn2'
  have bad : ∀ z : ST, TWB (σ.1 1) (σ.1 0 3).toInt s (stI (stI z 0 5 (z.1 0 5 + 1)) 0 6 5) := fun z => TWB.no (by rw [show (stI (stI z 0 5 (z.1 0 5 + 1)) 0 6 5).1 0 6 = 5 from rfl]; omega) (by rw [show (stI (stI z 0 5 (z.1 0 5 + 1)) 0 6 5).1 0 6 = 5 from rfl]; omega)
  refine QT.bnd (QT.ok (b_word 12 (stI σ 0 5 (σ.1 0 5 + 1)) (by omega) (s + 1) ⟨n1, n2⟩ (by show (σ.1 0 5 + 1).toInt = _; omega) (by omega))) (fun q hq => ?_)
  obtain ⟨qc, m, m1, m2, m3, m4⟩ := hq
  rw [if_pos rfl]
  refine QT.ilt (fun _ => QT.ret (bad q)) (fun h12 => ?_)
  have hb : QT (f_X11_byteAt (q.1 0 5) q) (fun z => z.2 = q) := by
    exact kb_byteAt _ _
  refine QT.bnd hb (fun z hz => ?_)
  rw [hz]
  refine QT.ite (fun _ => ?_) (fun _ => QT.ret (bad q))
  have n01 : ¬ (1 : Int32) = 0 := by decide
  rw [if_neg n01]
  refine QT.ret ⟨fun _ => ⟨m, m1, by omega, m3, ?_⟩, fun h => ?_⟩
  · show q.2.1 0 7 = _
    have e : min m (12 : Int32).toInt.toNat = m := by omega
    rw [m4, e]
    rfl
  · have e : (stI (stI q 0 5 (q.1 0 5 + 1)) 0 6 3).1 0 6 = 3 := rfl
    rw [e] at h
    omega
theorem kb_262 (x1 x3 : Int32) (σ : ST) : QT (f_X11_number_262 x1 x3 σ) (fun t => t.1 0 4 = σ.1 0 4) := by
  unfold f_X11_number_262 f_X11_number_279 f_X11_number_292
  refine QT.ite (fun _ => ?_) (fun _ => ?_)
  · exact QT.ite (fun _ => QT.ret rfl) (fun _ => QT.ret rfl)
  · exact QT.ite (fun _ => QT.ret rfl) (fun _ => QT.ret rfl)
theorem kb_225 (x1 x3 : Int32) (y0 : UInt64) (σ : ST) : QT (f_X11_number_225 x1 x3 y0 σ) (fun t => t.1 0 4 = σ.1 0 4) := by
  unfold f_X11_number_225 f_X11_number_260 f_X11_number_261
  refine QT.ite (fun _ => kb_262 _ _ _) (fun _ => ?_)
  refine QT.bnd (kb_byteAt _ _) (fun q hq => ?_)
  rw [hq]
  refine QT.bndR (b_isDigit _ _) (fun d _ => ?_)
  dsimp only
  exact QT.ite (fun _ => kb_262 _ _ _) (fun _ => kb_262 _ _ _)
theorem kb_170 (x1 x3 y0 : Int32) (σ : ST) : QT (f_X11_number_170 x1 x3 y0 σ) (fun t => t.1 0 4 = σ.1 0 4) := by
  unfold f_X11_number_170
  refine QT.grd (fun _ => ?_)
  refine QT.ite (fun _ => kb_262 _ _ _) (fun _ => ?_)
  refine QT.bnd (kb_byteAt _ _) (fun q hq => ?_)
  rw [hq]
  refine QT.grd (fun _ => ?_)
  refine QT.grd (fun _ => ?_)
  refine QT.lt (fun w hw => ?_)
  have e : w.1 0 4 = σ.1 0 4 := by rw [hw]; rfl
  refine QT.ite (fun _ => (kb_225 _ _ _ w).mono (fun t ht => ht.trans e)) (fun _ => (kb_225 _ _ _ w).mono (fun t ht => ht.trans e))
theorem kb_47 (x1 x2 : Int32) : ∀ (f : Nat) (σ : ST), QT (f_X11_number_47 f x1 x2 σ) (fun t => t.1 0 4 = σ.1 0 4) := by
  intro f
  induction f with
  | zero => intro σ; exact QT.none
  | succ f ih =>
    intro σ
    rw [f_X11_number_47]
    unfold f_X11_number_102
    have fin : ∀ y0 : Int32, QT (f_X11_number_134 x1 y0 σ) (fun t => t.1 0 4 = σ.1 0 4) := fun y0 => by
      unfold f_X11_number_134 f_X11_number_169
      refine QT.bnd (kb_byteAt _ _) (fun q hq => ?_)
      rw [hq]
      refine QT.ite (fun _ => ?_) (fun _ => kb_170 _ _ _ _)
      refine QT.bnd (kb_byteAt _ _) (fun q2 hq2 => ?_)
      rw [hq2]
      refine QT.bndR (b_isDigit _ _) (fun d _ => ?_)
      dsimp only
      exact QT.ite (fun _ => kb_170 _ _ _ _) (fun _ => kb_170 _ _ _ _)
    refine QT.bnd (kb_byteAt _ _) (fun q hq => ?_)
    rw [hq]
    refine QT.bndR (b_isDigit _ _) (fun d _ => ?_)
    dsimp only
    refine QT.ite (fun _ => ?_) (fun _ => ?_)
    · exact QT.ite (fun _ => fin 0) (fun _ => fin 1)
    · refine QT.ite (fun _ => ih _) (fun _ => ?_)
      refine QT.bnd (kb_byteAt _ _) (fun q2 hq2 => ?_)
      rw [hq2]
      exact ih _
theorem kb_number (σ : ST) : QT (f_X11_number σ) (fun t => t.1 0 4 = σ.1 0 4) := by
  unfold f_X11_number f_X11_number_18 f_X11_number_33
  refine QT.bnd (kb_byteAt _ _) (fun q hq => ?_)
  rw [hq]
  refine QT.ite (fun _ => ?_) (fun _ => ?_)
  · exact QT.ite (fun _ => kb_47 _ _ FU _) (fun _ => kb_47 _ _ FU _)
  · exact QT.ite (fun _ => kb_47 _ _ FU _) (fun _ => kb_47 _ _ FU _)
theorem pb_go_0 : ∀ (f k : Nat) (σ : ST), bI (σ.1 0 3) 0 1000 → (σ.1 0 5).toInt = k → k ≤ 1100 → QT (f_X11_go_0 f σ) (fun t => ∃ s : Nat, TWB (σ.1 1) (σ.1 0 3).toInt s t ∧ (t.1 0 4).toInt = s) := by
  intro f
  have l0 := li_0
  have l1 := li_1
  have l4 := li_4
  have l5 := li_5
  have l34 := li_34
  have l32 := li_32
  have l10 := li_10
  induction f with
  | zero => intro k σ _ _ _; exact QT.none
  | succ f ih =>
    intro k σ hn2 h5 hk
    rw [f_X11_go_0]
    unfold f_X11_go_26 f_X11_go_101 f_X11_go_136 f_X11_go_143 f_X11_go_169 f_X11_go_185
    have hn2' := hn2
    obtain ⟨n1, n2⟩ := hn2'
    have nk : (σ.1 0 5).toNatClampNeg = k := nC h5
    have e5 := il_addE (x := σ.1 0 5) (y := 1) (by omega) (by omega)
    refine QT.bndR (b_byteAt (σ.1 0 5) σ (by omega) hn2) (fun v hv => ?_)
    dsimp only
    have hv1 := hv.1
    rw [nk] at hv1
    have hr := bt_rng (T := σ.1 1) (n := (σ.1 0 3).toInt) (k := k)
    have nx : (0 ≤ bt (σ.1 1) (σ.1 0 3).toInt k) → QT (f_X11_go_0 f (stI σ 0 5 (σ.1 0 5 + 1))) (fun t => ∃ s : Nat, TWB (σ.1 1) (σ.1 0 3).toInt s t ∧ (t.1 0 4).toInt = s) := fun h0 => by
      have := hr.2.2.mp h0
      exact ih (k + 1) (stI σ 0 5 (σ.1 0 5 + 1)) hn2 (by show (σ.1 0 5 + 1).toInt = _; omega) (by omega)
    refine QT.ieq (fun _ => nx (by omega)) (fun _ => ?_)
    refine QT.bndR (b_byteAt (σ.1 0 5) σ (by omega) hn2) (fun v2 hv2 => ?_)
    dsimp only
    have hv3 := hv2.1
    rw [nk] at hv3
    refine QT.ieq (fun _ => nx (by omega)) (fun _ => ?_)
    have z5 : (stI σ 0 4 (σ.1 0 5)).1 0 5 = σ.1 0 5 := rfl
    have z4 : (stI σ 0 4 (σ.1 0 5)).1 0 4 = σ.1 0 5 := rfl
    have z3 : (stI σ 0 4 (σ.1 0 5)).1 0 3 = σ.1 0 3 := rfl
    have z1 : (stI σ 0 4 (σ.1 0 5)).1 1 = σ.1 1 := rfl
    generalize stI σ 0 4 (σ.1 0 5) = z at z5 z4 z3 z1 ⊢
    refine QT.bndR (b_byteAt (z.1 0 5) z (by rw [z5]; omega) (by rw [z3]; exact hn2)) (fun v4 hv4 => ?_)
    dsimp only
    have hv5 := hv4.1
    rw [z5, nk, z1, z3] at hv5
    have y5 : (stI z 0 13 0).1 0 5 = σ.1 0 5 := z5
    have y4 : (stI z 0 13 0).1 0 4 = σ.1 0 5 := z4
    have y3 : (stI z 0 13 0).1 0 3 = σ.1 0 3 := z3
    have y1 : (stI z 0 13 0).1 1 = σ.1 1 := z1
    generalize stI z 0 13 0 = y at y5 y4 y3 y1 ⊢
    have hy5 : (y.1 0 5).toInt = k := by rw [y5]; exact h5
    have hy4 : (y.1 0 4).toInt = k := by rw [y4]; exact h5
    have hy3 : bI (y.1 0 3) 0 1000 := by rw [y3]; exact hn2
    refine QT.ile (fun h0 => ?_) (fun _ => QT.ret ⟨k, TWB.no (by rw [show (stI y 0 6 0).1 0 6 = 0 from rfl]; omega) (by rw [show (stI y 0 6 0).1 0 6 = 0 from rfl]; omega), hy4⟩)
    have hkn := hr.2.2.mp (by omega)
    have num : QT ((f_X11_number y).bind fun q1 => some q1) (fun t => ∃ s : Nat, TWB (σ.1 1) (σ.1 0 3).toInt s t ∧ (t.1 0 4).toInt = s) := by
      refine QT.bnd (Q := fun t => TWB (σ.1 1) (σ.1 0 3).toInt k t ∧ (t.1 0 4).toInt = k) (fun q e => ⟨?_, ?_⟩) (fun q hq => QT.ret ⟨k, hq⟩)
      · have := pb_number y k hy3 hy5 (by omega) q e
        rw [y1, y3] at this
        exact this
      · have hc : QT (f_X11_number y) (fun t => t.1 0 4 = y.1 0 4) := kb_number y
        rw [hc q e]
        exact hy4
    have s143 : QT (if v4 = 34 then ((f_X11_quoted y).bind fun q3 => some q3) else ((f_X11_isSign v4 y).bind fun q1 => if q1.1 = 0 then (if ((stI q1.2 0 13 0).1 0 13) ≤ 0 then some (stI (stI (stI q1.2 0 13 0) 0 6 5) 0 5 (((stI (stI q1.2 0 13 0) 0 6 5).1 0 5) + 1)) else some (stI (stI (stI q1.2 0 13 0) 0 6 4) 0 5 (((stI (stI q1.2 0 13 0) 0 6 4).1 0 5) + 1))) else (if ((stI q1.2 0 13 v4).1 0 13) ≤ 0 then some (stI (stI (stI q1.2 0 13 v4) 0 6 5) 0 5 (((stI (stI q1.2 0 13 v4) 0 6 5).1 0 5) + 1)) else some (stI (stI (stI q1.2 0 13 v4) 0 6 4) 0 5 (((stI (stI q1.2 0 13 v4) 0 6 4).1 0 5) + 1))))) (fun t => ∃ s : Nat, TWB (σ.1 1) (σ.1 0 3).toInt s t ∧ (t.1 0 4).toInt = s) := by
      refine QT.ite (fun _ => ?_) (fun _ => ?_)
      · refine QT.bnd (Q := fun t => TWB (σ.1 1) (σ.1 0 3).toInt k t ∧ (t.1 0 4).toInt = k) (fun q e => ⟨?_, ?_⟩) (fun q hq => QT.ret ⟨k, hq⟩)
        · have := pb_quoted y k hy3 hy5 (by omega) q e
          rw [y1, y3] at this
          exact this
        · have := QT.ok (b_quoted y k hy3 hy5 (by omega)) q e
          rw [this.1.2.1 4 (by decide)]
          exact hy4
      · have hs : QT (f_X11_isSign v4 y) (fun q => q.2 = y) := by
          unfold f_X11_isSign f_X11_isSign_36
          refine QT.ite (fun _ => QT.ret rfl) (fun _ => ?_)
          refine QT.ite (fun _ => QT.ret rfl) (fun _ => ?_)
          refine QT.ite (fun _ => QT.ret rfl) (fun _ => ?_)
          refine QT.ite (fun _ => QT.ret rfl) (fun _ => ?_)
          refine QT.ite (fun _ => QT.ret rfl) (fun _ => ?_)
          exact QT.ite (fun _ => QT.ret rfl) (fun _ => QT.ret rfl)
        refine QT.bnd hs (fun q hq => ?_)
        rw [hq]
        have f6 : ∀ (a b : Int32) (c : Int32), ¬ b.toInt = 2 → ¬ b.toInt = 3 → QT (some (stI (stI (stI y 0 13 a) 0 6 b) 0 5 c)) (fun t => ∃ s : Nat, TWB (σ.1 1) (σ.1 0 3).toInt s t ∧ (t.1 0 4).toInt = s) := fun a b c h2 h3 => QT.ret ⟨k, TWB.no h2 h3, hy4⟩
        refine QT.ite (fun _ => ?_) (fun _ => ?_)
        · exact QT.ite (fun _ => f6 _ _ _ (by omega) (by omega)) (fun _ => f6 _ _ _ (by omega) (by omega))
        · exact QT.ite (fun _ => f6 _ _ _ (by omega) (by omega)) (fun _ => f6 _ _ _ (by omega) (by omega))
    refine QT.bndR (b_isLetter v4 y) (fun d _ => ?_)
    dsimp only
    refine QT.ite (fun _ => ?_) (fun _ => ?_)
    · refine QT.bndR (b_isDigit v4 y) (fun d2 _ => ?_)
      dsimp only
      refine QT.ite (fun _ => ?_) (fun _ => num)
      refine QT.ite (fun _ => ?_) (fun _ => s143)
      have a1 := il_addE (x := y.1 0 5) (y := 1) (by omega) (by omega)
      refine QT.bndR (b_byteAt (y.1 0 5 + 1) y (by omega) hy3) (fun v6 _ => ?_)
      dsimp only
      refine QT.bndR (b_isDigit v6 y) (fun d3 _ => ?_)
      dsimp only
      exact QT.ite (fun _ => s143) (fun _ => num)
    · refine QT.bnd (QT.ok (b_word 8 y (by decide) k hy3 hy5 (by omega))) (fun q hq => ?_)
      obtain ⟨qc, _⟩ := hq
      have q4 : (q.1 0 4).toInt = k := by
        rw [qc.2.1 4 (by decide)]
        exact hy4
      refine QT.ite (fun _ => QT.ret ⟨k, TWB.no (by rw [show (stI q 0 6 5).1 0 6 = 5 from rfl]; omega) (by rw [show (stI q 0 6 5).1 0 6 = 5 from rfl]; omega), q4⟩) (fun _ => QT.ret ⟨k, TWB.no (by rw [show (stI q 0 6 1).1 0 6 = 1 from rfl]; omega) (by rw [show (stI q 0 6 1).1 0 6 = 1 from rfl]; omega), q4⟩)
theorem pb_go (σ : ST) (k : Nat) (hn2 : bI (σ.1 0 3) 0 1000) (h5 : (σ.1 0 5).toInt = k) (hk : k ≤ 1100) : QT (f_X11_go σ) (fun t => ∃ s : Nat, TWB (σ.1 1) (σ.1 0 3).toInt s t ∧ (t.1 0 4).toInt = s) := pb_go_0 FU k σ hn2 h5 hk
/-- both tokens, what they are worth -/
def TWX (σ τ : ST) : Prop := ((σ.1 2 4).toInt = 5 → WLT (σ.2.1 2 7) (τ.2.1 0 7) (τ.1 0 8)) ∧ ((σ.1 2 4).toInt = 4 → (0 ≤ (σ.2.1 2 8).toInt ∧ (σ.2.1 2 8).toInt < 1000000000000000000) ∧ (0 ≤ (σ.1 2 11).toInt ∧ (σ.1 2 11).toInt ≤ 9) ∧ ((σ.1 2 10).toInt = 0 → σ.1 2 11 = 0) ∧ ((σ.1 2 10).toInt = 1 → (σ.1 2 9).toInt = 1 ∧ τ.2.2.1 0 11 = FP.dneg (DEC (σ.2.1 2 8) (σ.1 2 11)) ∨ (σ.1 2 9).toInt = 0 ∧ τ.2.2.1 0 11 = DEC (σ.2.1 2 8) (σ.1 2 11)))
theorem dv_n {T : Nat → Int32} {n : Int} {s : Nat} : ∀ m, m ≤ 18 → (∀ i, i < m → isD (bt T n (s + i))) → 0 ≤ (dv T s m).toInt ∧ (dv T s m).toInt < 10 ^ m := by
  intro m
  induction m with
  | zero =>
    intro _ _
    have e : (dv T s 0).toInt = 0 := l64_0
    rw [e]
    exact ⟨by omega, by decide⟩
  | succ m ih =>
    intro hm hD
    obtain ⟨e1, e2⟩ := ih (by omega) (fun i hi => hD i (by omega))
    have b2 := hD m (by omega)
    have b3 : bt T n (s + m) = (T (s + m)).toInt % 256 := by
      unfold bt
      rw [if_pos ((bt_rng (T := T) (n := n) (k := s + m)).2.2.mp (isD_0 _ b2))]
    unfold isD at b2
    have p1 : (10 : Int) ^ m ≤ 10 ^ 17 := by
      have := Nat.pow_le_pow_right (by omega : 0 < 10) (show m ≤ 17 by omega)
      exact_mod_cast this
    have p2 : (10 : Int) ^ 17 = 100000000000000000 := by decide
    have p3 : (10 : Int) ^ (m + 1) = 10 ^ m * 10 := Int.pow_succ 10 m
    rw [p2] at p1
    rw [p3]
    have l10 : (10 : Int64).toInt = 10 := by decide
    have l48 : (48 : Int64).toInt = 48 := by decide
    have c1 : (10 * dv T s m).toInt = 10 * (dv T s m).toInt := by
      rw [Int64.toInt_mul, l10]
      exact Int.bmod_eq_of_le (by omega) (by omega)
    have c2 : (10 * dv T s m + (T (s + m) &&& 255).toInt64).toInt = 10 * (dv T s m).toInt + (T (s + m)).toInt % 256 := by
      rw [Int64.toInt_add, c1, i64, and255]
      exact Int.bmod_eq_of_le (by omega) (by omega)
    have c3 : (dv T s (m + 1)).toInt = 10 * (dv T s m).toInt + (T (s + m)).toInt % 256 - 48 := by
      show (10 * dv T s m + (T (s + m) &&& 255).toInt64 - 48).toInt = _
      rw [Int64.toInt_sub, c2, l48]
      exact Int.bmod_eq_of_le (by omega) (by omega)
    omega
theorem dv18 {T : Nat → Int32} {n : Int} {s m : Nat} (h : RUN isD T n s m) : 0 ≤ (dv T s (min m 18)).toInt ∧ (dv T s (min m 18)).toInt < 1000000000000000000 := by
  obtain ⟨a, b⟩ := dv_n (T := T) (n := n) (s := s) (min m 18) (by omega) (fun i hi => h.1 i (by omega))
  have p1 : (10 : Int) ^ (min m 18) ≤ 10 ^ 18 := by
    have := Nat.pow_le_pow_right (by omega : 0 < 10) (show min m 18 ≤ 18 by omega)
    exact_mod_cast this
  have p2 : (10 : Int) ^ 18 = 1000000000000000000 := by decide
  rw [p2] at p1
  exact ⟨a, by omega⟩
theorem neg64 {x y : Int64} (h : -x = -y) : x = y := by
  have := congrArg (fun z => -z) h
  simpa using this
theorem TWX.mk {a b : ST} {s : Nat} (hX : LX a b) (hs : (b.1 0 4).toInt = s) (hA : TWA (b.1 1) (b.1 0 3).toInt s a) (hB : TWB (b.1 1) (b.1 0 3).toInt s b) : TWX a b := by
  have hK := hX.2.2.1
  have hT8 := hX.1.2.2.1
  obtain ⟨s', hs', hTB⟩ := hX.tb
  have es : s' = s := by omega
  subst es
  refine ⟨fun h5 => ?_, fun h4 => ?_⟩
  · have hb3 : (b.1 0 6).toInt = 3 := by
      have := (hK.bw (by omega)).2.1
      exact this.mpr h5
    obtain ⟨m, m1, m2, m3⟩ := hA.1 h5
    obtain ⟨k, k1, k2, k3, k4⟩ := hB.1 hb3
    have e : k = m := k1.uniq m1
    subst e
    exact ⟨k, gT (b.1 1) (s' + 1), m2, (gT_L m1.1).1, by rw [m3]; exact w5_n12 hT8 k m2 m1.1, by rw [k4]; exact w27_n12 k m2 m1.1, k3⟩
  · obtain ⟨w1, w2, w3, w4⟩ := hK.bw (by omega)
    have hb2 : (b.1 0 6).toInt = 2 := w1.mpr h4
    obtain ⟨g1, g2⟩ := w3 h4
    obtain ⟨a1, a2, a3⟩ := hA.2 h4
    have e5 : a.1 2 3 = b.1 0 5 := w4 (by omega)
    have hnt : NT (b.1 1) (b.1 0 3).toInt s' b := by
      obtain ⟨_, h | h | h | h | h⟩ := hTB
      · have := h.2.1
        omega
      · obtain ⟨_, _, m, _, _, _, _, h6⟩ := h
        omega
      · exact h.2
      · obtain ⟨_, _, m, _, _, _, h6⟩ := h
        omega
      · have : (b.1 0 6).toInt = 4 ∨ (b.1 0 6).toInt = 5 := h.2.2.elim (fun h => .inl h.2.1) (fun h => .inr h.2.1)
        omega
    have hdig : ∃ i m : Nat, RUN isD (b.1 1) (b.1 0 3).toInt i m ∧ a.2.1 2 8 = dv (b.1 1) i (min m 18) ∧ ((b.1 0 10).toInt = 1 ∨ (b.1 0 10).toInt = 0) := by
      rcases hnt with ⟨n1, m, n2, _, n3, n4⟩ | ⟨n1, m, n2, _, n3, n4⟩
      · have h10 : (b.1 0 10).toInt = 1 ∨ (b.1 0 10).toInt = 0 := n4.elim (fun h => .inl h.2.2.1) (fun h => .inr h.2.1)
        refine ⟨s' + 1, m, n2, ?_, h10⟩
        rcases n3 with ⟨_, n3⟩ | ⟨n3, _⟩
        · rcases g2 with ⟨g3, g4⟩ | ⟨g3, g4⟩
          · rw [g4] at n3
            exact neg64 n3
          · rcases a1 with a1 | a1
            · omega
            · exact absurd n1 a1.2
        · exact absurd trivial n3
      · have h10 : (b.1 0 10).toInt = 1 ∨ (b.1 0 10).toInt = 0 := n4.elim (fun h => .inl h.2.2.1) (fun h => .inr h.2.1)
        refine ⟨s', m, n2, ?_, h10⟩
        rcases n3 with ⟨n3, _⟩ | ⟨_, n3⟩
        · exact n3.elim
        · rcases g2 with ⟨g3, g4⟩ | ⟨g3, g4⟩
          · rcases a1 with a1 | a1
            · exact absurd a1.2 n1
            · omega
          · rw [g4] at n3
            exact n3
    obtain ⟨i, m, r1, r2, r3⟩ := hdig
    have hb := dv18 r1
    rw [← r2] at hb
    have e10 : (a.1 2 10).toInt = (b.1 0 10).toInt := by rw [g1]
    refine ⟨hb, ?_, a3, fun h10 => ?_⟩
    · rcases r3 with h | h
      · obtain ⟨_, q1, q2⟩ := a2 (by omega)
        unfold isD at q1
        omega
      · have := a3 (by omega)
        rw [this]
        exact ⟨by decide, by decide⟩
    · obtain ⟨_, q1, q2⟩ := a2 h10
      obtain ⟨W, d, d1, d2⟩ := hB.2 hb2 (by omega)
      have ed : d = a.1 2 11 := Int32.toInt_inj.mp (by rw [d1, q2, e5])
      subst ed
      rcases d2 with ⟨x1, x2, x3⟩ | ⟨x1, x2, x3⟩
      · rcases g2 with ⟨g3, g4⟩ | ⟨g3, g4⟩
        · have eW : W = a.2.1 2 8 := by
            rw [x2] at g4
            exact neg64 g4
          rw [eW] at x3
          exact .inl ⟨g3, x3⟩
        · rcases a1 with a1 | a1
          · omega
          · exact absurd x1 a1.2
      · rcases g2 with ⟨g3, g4⟩ | ⟨g3, g4⟩
        · rcases a1 with a1 | a1
          · exact absurd a1.2 x1
          · omega
        · have eW : W = a.2.1 2 8 := by
            rw [x2] at g4
            exact g4
          rw [eW] at x3
          exact .inr ⟨g3, x3⟩
theorem OK.qt2 {α β : Type} {a : Option α} {b : Option β} {P Q : α → β → Prop} (h : OK a (fun x => OK b (P x))) (k : QT a (fun x => QT b (Q x))) : OK a (fun x => OK b (fun y => P x y ∧ Q x y)) := by
  obtain ⟨x, ex, y, ey, hp⟩ := h
  exact ⟨x, ex, y, ey, hp, k x ex y ey⟩
/-- both go on to the next token, and what it is worth -/
theorem ab_goW (σ τ : ST) (h : LX σ τ) (hg : σ.1 2 3 = τ.1 0 5) : OK (f_X6_advance σ) (fun a => OK (f_X11_go τ) (fun b => (CA σ a ∧ CH [] GI τ b ∧ (∀ c, c ≠ 0 → b.2.1 c = τ.2.1 c) ∧ LX a b ∧ (τ.1 0 5).toInt ≤ (b.1 0 4).toInt ∧ ((τ.1 0 6).toInt = 1 → (b.1 0 6).toInt = 1 → (τ.1 0 5).toInt < (b.1 0 4).toInt) ∧ uT b ≤ ((τ.1 0 3).toInt - (τ.1 0 5).toInt).toNat) ∧ TWX a b)) := by
  have hn := h.2.1
  have hn' := hn
  obtain ⟨n1, n2⟩ := hn'
  have hc := h.1
  have h5 := h.tx.2.1
  obtain ⟨k1, k2⟩ := h5
  have e3 : (σ.1 2 3).toInt = (τ.1 0 5).toInt := by rw [hg]
  refine (OK.qt2 (ab_go σ τ h hg) (Q := fun a b => (∃ s : Nat, TWA (σ.1 1) (σ.1 2 2).toInt s a ∧ (a.1 2 5).toInt = s) ∧ ∃ s : Nat, TWB (τ.1 1) (τ.1 0 3).toInt s b ∧ (b.1 0 4).toInt = s) (fun a ea b eb => ⟨?_, ?_⟩)).mono2 (fun a b hab => ⟨hab.1, ?_⟩)
  · exact pa_advance σ (τ.1 0 5).toInt.toNat (by rw [hc.1]; exact hc.2.2.1) (by rw [hc.2.1]; exact hn) (by omega) (by omega) a ea
  · exact pb_go τ (τ.1 0 5).toInt.toNat hn (by omega) (by omega) b eb
  · obtain ⟨⟨ca, cb, cL, hX1, _⟩, ⟨s, hA, hs⟩, s', hB, hs'⟩ := hab
    have b1 : b.1 1 = τ.1 1 := cb.1 1 (by decide) (by decide)
    have b3 : b.1 0 3 = τ.1 0 3 := cb.2.1 3 (by decide)
    have ek := hX1.2.2.1.1
    have es : s = s' := by omega
    subst es
    refine TWX.mk hX1 hs' ?_ ?_
    · rw [b1, b3, ← hc.1, ← hc.2.1]
      exact hA
    · rw [b1, b3]
      exact hB
/-! the class: what an else is worth, and where it is kept -/
theorem a_worth (p0 : Int32) (σ : ST) : OK (f_X6_worth p0 σ) (RO σ fun _ => True) := by
  unfold f_X6_worth f_X6_whole f_X6_realBits f_X6_isKeyword
  have wh : OK (if (σ.1 2 9) = 0 then (some ((σ.2.1 2 8), σ)) else (some ((-(σ.2.1 2 8)), σ))) (RO σ fun _ => True) := OK.ite (fun _ => OK.roret trivial) (fun _ => OK.roret trivial)
  refine OK.ieq (fun _ => ?_) (fun _ => ?_)
  · refine OK.bndR (s := σ) (Q := fun _ => True) (OK.ite (fun _ => OK.ite (fun _ => OK.roret trivial) (fun _ => OK.roret trivial)) (fun _ => OK.roret trivial)) (fun v _ => ?_)
    exact OK.ite (fun _ => OK.roret trivial) (fun _ => OK.roret trivial)
  refine OK.ieq (fun _ => OK.bndR wh (fun v _ => OK.roret trivial)) (fun _ => ?_)
  refine OK.ieq (fun _ => OK.bndR wh (fun v _ => OK.roret trivial)) (fun _ => ?_)
  refine OK.ieq (fun _ => ?_) (fun _ => ?_)
  · have h1 := FP.Core.ddiv_out (FP.Core.i2d_fin (σ.1 2 11)).notNaN fp10_fin fp10_nz
    have h2 := FP.Core.dadd_out' (FP.Core.l2d_fin (σ.2.1 2 8)) h1
    refine OK.bndR (s := σ) (Q := fun _ => True) ?_ (fun v _ => OK.roret trivial)
    refine OK.grd (fl_num h1) ?_
    refine OK.grd (fl_num h2) ?_
    refine OK.bndR (k_X10_bitsOfPositive _ _ h2) (fun v h3 => ?_)
    dsimp only
    refine OK.ieq (fun h => OK.roret trivial) (fun h => ?_)
    refine OK.ieq (fun h => ?_) (fun h => ?_)
    · exact OK.ieq (fun h => OK.roret trivial) (fun h => OK.roret trivial)
    · exact OK.roret trivial
  · exact OK.ieq (fun _ => OK.roret trivial) (fun _ => OK.roret trivial)
theorem a_setElse (p0 p1 : Int32) (p2 : Int64) (σ : ST) {r j : Nat} (h0 : p0.toInt = r) (h1 : p1.toInt = j) (hr : r < 36) (hj : j < 8) : OK (f_X5_setElse 20 p0 p1 p2 σ) (fun a => (∀ c, c ≠ 25 → a.1 c = σ.1 c) ∧ (∀ c, c ≠ 30 → a.2.1 c = σ.2.1 c) ∧ a.1 25 r = (σ.1 25 r ||| (1 <<< ((Int32.ofNat j) &&& 31))) ∧ (∀ i, i ≠ r → a.1 25 i = σ.1 25 i) ∧ a.2.1 30 (8 * r + j) = p2 ∧ ∀ i, i ≠ 8 * r + j → a.2.1 30 i = σ.2.1 30 i) := by
  unfold f_X5_setElse
  obtain ⟨v, e, hv⟩ := a_isFieldE p0 p1 σ h0 h1 hr hj
  obtain ⟨i1, i2⟩ := i88 h0 h1 hr hj
  rw [e]
  refine OK.ite (fun h => absurd h hv) (fun _ => ?_)
  refine OK.grd ⟨by omega, by omega⟩ ?_
  refine OK.lt (fun z hz => ?_)
  refine OK.grd ⟨by omega, by omega⟩ ?_
  subst hz
  have nr : p0.toNatClampNeg = r := nC h0
  have ej : p1 = Int32.ofNat j := intOf h1 (by omega)
  rw [nr, i2, ej]
  refine OK.ret ⟨fun c hc => ?_, fun c hc => ?_, ?_, fun i hi => ?_, ?_, fun i hi => ?_⟩
  · show (stI σ 25 _ _).1 c = _
    rw [stI_ne hc]
  · rw [stL_ne hc]
    rfl
  · show upd (σ.1 25) r _ r = _
    rw [upd_at]
  · show upd (σ.1 25) r _ i = _
    rw [upd_no hi]
  · show vp_updL (σ.2.1 30) (8 * r + j) p2 (8 * r + j) = _
    rw [updL_at]
  · show vp_updL (σ.2.1 30) (8 * r + j) p2 i = _
    rw [updL_no hi]
/-! the class: a record is begun -/
theorem a_recordsOf (p0 : Int32) (σ : ST) {p : Nat} (h0 : p0.toInt = p) (hp : p < 6) : f_X5_recordsOf 20 p0 σ = some (σ.1 21 p, σ) := by
  unfold f_X5_recordsOf
  have l0 := li_0
  have l6 := li_6
  have np : p0.toNatClampNeg = p := nC h0
  rw [if_neg (by rw [Int32.lt_iff_toInt_lt]; omega), if_neg (by rw [Int32.le_iff_toInt_le]; omega), if_pos ⟨by omega, by omega⟩, np]
theorem a_addRecord (p0 : Int32) (p1 : Int64) (σ : ST) {p i : Nat} (h0 : p0.toInt = p) (hp : p < 6) (hi : (σ.1 21 p).toInt = i) (hi6 : i < 6) : OK (f_X5_addRecord 20 p0 p1 σ) (fun a => (∀ c, c ∉ [21, 23, 25] → a.1 c = σ.1 c) ∧ (∀ c, c ≠ 24 → a.2.1 c = σ.2.1 c) ∧ (a.1 21 p).toInt = i + 1 ∧ (∀ k, k ≠ p → a.1 21 k = σ.1 21 k) ∧ a.2.1 24 (6 * p + i) = p1 ∧ (∀ k, k ≠ 6 * p + i → a.2.1 24 k = σ.2.1 24 k) ∧ (a.1 23 (6 * p + i)).toInt = 0 ∧ (∀ k, k ≠ 6 * p + i → a.1 23 k = σ.1 23 k) ∧ a.1 25 (6 * p + i) = 0 ∧ (∀ k, k ≠ 6 * p + i → a.1 25 k = σ.1 25 k)) := by
  unfold f_X5_addRecord f_X5_isRecord
  have l0 := li_0
  have l1 := li_1
  have l6 := li_6
  have l36 : (36 : Int32).toInt = 36 := by decide
  have np : p0.toNatClampNeg = p := nC h0
  have e6 : (p0 * 6).toInt = 6 * p0.toInt := by
    rw [Int32.mul_comm]
    exact mlE (k := 6) (y := p0) 6 l6 (by omega) (by omega)
  have e := il_addE (x := p0 * 6) (y := σ.1 21 p) (by omega) (by omega)
  have e1 := il_addE (x := σ.1 21 p) (y := 1) (by omega) (by omega)
  have nq : (p0 * 6 + σ.1 21 p).toNatClampNeg = 6 * p + i := nC (by omega)
  rw [a_recordsOf p0 σ h0 hp]
  refine OK.bndR (s := σ) (Q := fun v => v = σ.1 21 p) (OK.roret rfl) (fun v hv => ?_)
  subst hv
  dsimp only
  refine OK.ilt (fun h => by omega) (fun _ => ?_)
  refine OK.ile (fun h => by omega) (fun _ => ?_)
  refine OK.bndR (s := σ) (Q := fun v => v.toInt = 1) ?_ (fun v3 hv3 => ?_)
  · refine OK.ilt (fun h => by omega) (fun _ => ?_)
    exact OK.ile (fun h => by omega) (fun _ => OK.roret l1)
  dsimp only
  refine OK.ieq (fun h => by omega) (fun _ => ?_)
  refine OK.grd ⟨by omega, by omega⟩ ?_
  rw [nq, np]
  refine OK.lt (fun z6 h6 => ?_)
  refine OK.grd ⟨by omega, by omega⟩ ?_
  refine OK.lt (fun z8 h8 => ?_)
  subst h6
  subst h8
  refine OK.ret ⟨fun c hc => ?_, fun c hc => ?_, ?_, fun k hk => ?_, ?_, fun k hk => ?_, ?_, fun k hk => ?_, ?_, fun k hk => ?_⟩
  · simp only [List.mem_cons, List.not_mem_nil, or_false, not_or] at hc
    rw [stI_ne hc.1, stI_ne hc.2.2, stI_ne hc.2.1]
    rfl
  · show (stL σ 24 _ _).2.1 c = _
    rw [stL_ne hc]
  · show (upd (σ.1 21) p (σ.1 21 p + 1) p).toInt = _
    rw [upd_at]
    omega
  · show upd (σ.1 21) p _ k = _
    rw [upd_no hk]
  · show vp_updL (σ.2.1 24) (6 * p + i) p1 (6 * p + i) = _
    rw [updL_at]
  · show vp_updL (σ.2.1 24) (6 * p + i) p1 k = _
    rw [updL_no hk]
  · show (upd (σ.1 23) (6 * p + i) 0 (6 * p + i)).toInt = _
    rw [upd_at]
    exact l0
  · show upd (σ.1 23) (6 * p + i) 0 k = _
    rw [upd_no hk]
  · show upd (σ.1 25) (6 * p + i) 0 (6 * p + i) = _
    rw [upd_at]
  · show upd (σ.1 25) (6 * p + i) 0 k = _
    rw [upd_no hk]
/-! what a literal is worth: both alike -/
/-- what the machine tells of a double -/
def DTL (x : UInt64) (v : Int64) : Prop := ∀ σ : ST, f_Jxe99ae_doubleToLongBits_ccdee x σ = some (v, σ)
theorem dtl_ex (x : UInt64) : ∃ v, DTL x v := by
  refine ⟨if (Op.cmpValue (FP.dcmp x x) .l) = 0 then x.toInt64 else 9221120237041090560, fun σ => ?_⟩
  unfold f_Jxe99ae_doubleToLongBits_ccdee f_Jxe99ae_isNaN_b9ae7
  by_cases h : (Op.cmpValue (FP.dcmp x x) .l) = 0
  · rw [if_pos h, if_pos h]
    rfl
  · rw [if_neg h, if_neg h]
    rfl
theorem DTL.uniq {x : UInt64} {v w : Int64} (h : DTL x v) (k : DTL x w) : v = w := by
  have e := (h s00).symm.trans (k s00)
  exact (Prod.mk.inj (Option.some.inj e)).1
theorem dtl_num {x : UInt64} (h : ¬ FP.Core.val64 x = .nan) : DTL x x.toInt64 := by
  intro σ
  unfold f_Jxe99ae_doubleToLongBits_ccdee f_Jxe99ae_isNaN_b9ae7
  have e : FP.dcmp x x = some .eq := FP.Core.dcmp_self h
  rw [(cv_eq e).1]
  rfl
/-- the reference's bits of a literal -/
def BTS (s : Int) (τ : ST) (v : Int64) : Prop := (s = 1 → (W_ τ v_yes ∧ v = 1 ∨ ¬ W_ τ v_yes ∧ v = 0)) ∧ (s = 2 ∨ s = 3 → v = τ.2.1 0 9) ∧ (s = 4 → DTL (if (τ.1 0 10).toInt = 0 then FP.l2d (τ.2.1 0 9) else τ.2.2.1 0 11) v) ∧ (¬ (1 ≤ s ∧ s ≤ 4) → v = 0)
theorem bx_bitsOf (p0 : Int32) (σ : ST) (h0 : 0 ≤ p0.toInt ∧ p0.toInt < 800) : OK (f_X11_bitsOf p0 σ) (KO σ 1 fun v => BTS (σ.1 2 p0.toNatClampNeg).toInt σ v) := by
  unfold f_X11_bitsOf f_X11_bitsOf_31 f_X11_bitsOf_65
  have l0 := li_0
  have l1 := li_1
  have l2 := li_2
  have l3 := li_3
  have l4 := li_4
  refine OK.grd h0 ?_
  have dt : ∀ x : UInt64, (σ.1 2 p0.toNatClampNeg).toInt = 4 → x = (if (σ.1 0 10).toInt = 0 then FP.l2d (σ.2.1 0 9) else σ.2.2.1 0 11) → OK ((f_Jxe99ae_doubleToLongBits_ccdee x σ).bind fun q1 => some ((q1.1, q1.2), 0)) (KO σ 1 fun v => BTS (σ.1 2 p0.toNatClampNeg).toInt σ v) := fun x h4 hx => by
    obtain ⟨v, hv⟩ := dtl_ex x
    rw [hv σ]
    refine OK.kret ⟨fun h => by omega, fun h => by omega, fun _ => ?_, fun h => by omega⟩ (Nat.zero_le _)
    rw [← hx]
    exact hv
  refine OK.ieq (fun h4 => ?_) (fun h4 => ?_)
  · refine OK.ieq (fun h => dt _ (by omega) ?_) (fun h => dt _ (by omega) ?_)
    · rw [if_pos (by omega)]
    · rw [if_neg (by omega)]
  refine OK.ieq (fun h1 => ?_) (fun h1 => ?_)
  · refine OK.bndK (b_isYes σ) (fun v x hv hx => ?_)
    refine OK.kac ?_
    dsimp only
    refine OK.ieq (fun hv0 => ⟨_, rfl, rfl, ⟨fun _ => ?_, fun h => by omega, fun h => by omega, fun h => by omega⟩, hx⟩) (fun hv0 => ⟨_, rfl, rfl, ⟨fun _ => ?_, fun h => by omega, fun h => by omega, fun h => by omega⟩, hx⟩)
    · rcases hv with hv | hv
      · exact .inr ⟨hv.2, rfl⟩
      · have := hv.1
        omega
    · rcases hv with hv | hv
      · have := hv.1
        omega
      · exact .inl ⟨hv.2, rfl⟩
  refine OK.ieq (fun h2 => OK.kret ⟨fun h => by omega, fun _ => rfl, fun h => by omega, fun h => by omega⟩ (Nat.zero_le _)) (fun h2 => ?_)
  refine OK.ieq (fun h3 => OK.kret ⟨fun h => by omega, fun _ => rfl, fun h => by omega, fun h => by omega⟩ (Nat.zero_le _)) (fun h3 => ?_)
  exact OK.kret ⟨fun h => by omega, fun h => by omega, fun h => by omega, fun _ => rfl⟩ (Nat.zero_le _)
/-- what stands for a value: the class's number, the reference's bits, text and how many letters -/
def EWR (s : Int) (w b t : Int64) (n : Int32) : Prop := if s = 5 then b = 0 ∧ WLT w t n else w = b ∧ t = 0 ∧ n.toInt = 0
theorem sbnd_ {α β : Type} {e : α} {f : α → Option β} : (some e).bind f = f e := rfl
/-- a number's token has a point, or none -/
theorem dot01 {σ τ : ST} (hX : LX σ τ) (h : (τ.1 0 6).toInt = 2) : (τ.1 0 10).toInt = 0 ∨ (τ.1 0 10).toInt = 1 := by
  obtain ⟨s, _, _, hT⟩ := hX.tb
  rcases hT with h1 | h1 | h1 | h1 | h1
  · have := h1.2.1
    omega
  · obtain ⟨_, _, m, _, _, _, _, h6⟩ := h1
    omega
  · rcases h1.2 with ⟨_, m, _, _, _, n4⟩ | ⟨_, m, _, _, _, n4⟩
    · exact n4.elim (fun h => .inr h.2.2.1) (fun h => .inl h.2.1)
    · exact n4.elim (fun h => .inr h.2.2.1) (fun h => .inl h.2.1)
  · obtain ⟨_, _, m, _, _, _, h6⟩ := h1
    omega
  · have : (τ.1 0 6).toInt = 4 ∨ (τ.1 0 6).toInt = 5 := h1.2.2.elim (fun h => .inl h.2.1) (fun h => .inr h.2.1)
    omega
/-- only a text fits a lettered token -/
theorem ft_n5 {τ : ST} {s : Int} (hF : FT_ τ s) (h5 : ¬ s = 5) (h13 : (τ.1 0 6).toInt = 3 → (τ.1 0 13).toInt = 0) : ¬ (τ.1 0 6).toInt = 3 := by
  intro h3
  by_cases hs : 0 ≤ s ∧ s ≤ 7
  · have h : s = 0 ∨ s = 1 ∨ s = 2 ∨ s = 3 ∨ s = 4 ∨ s = 6 ∨ s = 7 := by omega
    rcases h with rfl | rfl | rfl | rfl | rfl | rfl | rfl
    · have := (ft_0.mp hF).1
      omega
    · have : (τ.1 0 6).toInt = 1 := (ft_1.mp hF).elim (fun h => h.1) (fun h => h.1)
      omega
    · have := (ft_2.mp hF).1
      omega
    · have := (ft_3.mp hF).1
      omega
    · have := ft_4.mp hF
      omega
    · have := ft_6.mp hF
      have := h13 h3
      omega
    · have := ft_7.mp hF
      have := h13 h3
      omega
  · exact ft_8 hs hF
theorem LX.q13 {σ τ : ST} (hX : LX σ τ) (h : (τ.1 0 6).toInt = 3) : (τ.1 0 13).toInt = 0 := by
  obtain ⟨_, h1 | h1 | h1 | h1 | h1 | h1⟩ := hX.2.2.1
  · exact h1.2.2
  · exact h1.2.1
  · exact h1.2.1
  · exact h1.2.2.1
  · exact h1.2.2.1
  · have := h1.2.1
    omega
/-- the class's number of a literal, against the reference's bits, text, letters -/
theorem ab_ewr (p0 : Int32) (σ τ : ST) (hX : LX σ τ) (hT : TWX σ τ) (hk : ¬ (σ.1 2 4).toInt = 1) (hF : FT_ τ p0.toInt) : OK (f_X6_worth p0 σ) (RO σ fun w => ∀ (v t : Int64) (n : Int32), BTS p0.toInt τ v → ((τ.1 0 6).toInt = 3 ∧ t = τ.2.1 0 7 ∧ n = τ.1 0 8 ∨ ¬ (τ.1 0 6).toInt = 3 ∧ t = 0 ∧ n.toInt = 0) → EWR p0.toInt w v t n) := by
  have hK := hX.2.2.1
  obtain ⟨k1, k2, k3, k4⟩ := hK.bw hk
  have l0 := li_0
  have l1 := li_1
  have l2 := li_2
  have l3 := li_3
  have l4 := li_4
  have l5 := li_5
  unfold f_X6_worth f_X6_whole
  refine OK.ieq (fun h1 => ?_) (fun h1 => ?_)
  · have e1 : p0.toInt = 1 := by omega
    rw [e1] at hF ⊢
    have hF := ft_1.mp hF
    have h6 : (τ.1 0 6).toInt = 1 := hF.elim (fun h => h.1) (fun h => h.1)
    refine OK.bndR (a_isKeyword 13 σ τ hK (k := 13) (by omega) (by decide)) (fun u hu => ?_)
    dsimp only
    have ey : kwV 13 = v_yes := rfl
    rw [ey] at hu
    refine OK.ieq (fun hu0 => OK.roret (fun v t n hv ht => ?_)) (fun hu0 => OK.roret (fun v t n hv ht => ?_))
    · unfold EWR
      rw [if_neg (by omega)]
      rcases ht with ht | ht
      · omega
      · refine ⟨?_, ht.2⟩
        rcases hu with hu | hu
        · rcases hv.1 rfl with h | h
          · exact absurd h.1 hu.2
          · exact h.2.symm
        · have := hu.1
          omega
    · unfold EWR
      rw [if_neg (by omega)]
      rcases ht with ht | ht
      · omega
      · refine ⟨?_, ht.2⟩
        rcases hu with hu | hu
        · have := hu.1
          omega
        · rcases hv.1 rfl with h | h
          · exact h.2.symm
          · exact absurd hu.2 h.1
  have wh : p0.toInt = 2 ∨ p0.toInt = 3 → OK ((if (σ.1 2 9) = 0 then (some ((σ.2.1 2 8), σ)) else (some ((-(σ.2.1 2 8)), σ))).bind fun q8 => some (q8.1, q8.2)) (RO σ fun w => ∀ (v t : Int64) (n : Int32), BTS p0.toInt τ v → ((τ.1 0 6).toInt = 3 ∧ t = τ.2.1 0 7 ∧ n = τ.1 0 8 ∨ ¬ (τ.1 0 6).toInt = 3 ∧ t = 0 ∧ n.toInt = 0) → EWR p0.toInt w v t n) := fun h23 => by
    have h62 : (τ.1 0 6).toInt = 2 := by
      rcases h23 with h | h
      · rw [h] at hF
        exact (ft_2.mp hF).1
      · rw [h] at hF
        exact (ft_3.mp hF).1
    obtain ⟨_, g2⟩ := k3 (k1.mp h62)
    have fin : ∀ w : Int64, w = τ.2.1 0 9 → ∀ (v t : Int64) (n : Int32), BTS p0.toInt τ v → ((τ.1 0 6).toInt = 3 ∧ t = τ.2.1 0 7 ∧ n = τ.1 0 8 ∨ ¬ (τ.1 0 6).toInt = 3 ∧ t = 0 ∧ n.toInt = 0) → EWR p0.toInt w v t n := fun w hw v t n hv ht => by
      unfold EWR
      rw [if_neg (by omega)]
      rcases ht with ht | ht
      · omega
      · exact ⟨by rw [hw, hv.2.1 h23], ht.2⟩
    by_cases h9 : σ.1 2 9 = 0
    · rw [if_pos h9]
      refine OK.roret (fin _ ?_)
      rcases g2 with g | g
      · rw [h9] at g
        omega
      · exact g.2.symm
    · rw [if_neg h9]
      refine OK.roret (fin _ ?_)
      rcases g2 with g | g
      · exact g.2.symm
      · exact absurd (Int32.toInt_inj.mp (g.1.trans l0.symm)) h9
  refine OK.ieq (fun h2 => wh (.inl (by omega))) (fun h2 => ?_)
  refine OK.ieq (fun h3 => wh (.inr (by omega))) (fun h3 => ?_)
  refine OK.ieq (fun h4 => ?_) (fun h4 => ?_)
  · have e4 : p0.toInt = 4 := by omega
    rw [e4] at hF ⊢
    have h62 : (τ.1 0 6).toInt = 2 := ft_4.mp hF
    have h44 := k1.mp h62
    obtain ⟨g1, g2⟩ := k3 h44
    obtain ⟨⟨d1, d2⟩, ⟨t1, t2⟩, t3, t4⟩ := hT.2 h44
    have hdec := DEC.bits (σ.2.1 2 8) (σ.1 2 11) σ d1 ⟨t1, t2⟩
    have hneg := hdec.2
    have hpos := hdec.1
    have q1 := FP.Core.ddiv_out (FP.Core.i2d_fin (σ.1 2 11)).notNaN fp10_fin fp10_nz
    have q2 := FP.Core.dadd_out' (FP.Core.l2d_fin (σ.2.1 2 8)) q1
    have hn : ¬ FP.Core.val64 (DEC (σ.2.1 2 8) (σ.1 2 11)) = .nan := by
      rcases dec_fpn (σ.2.1 2 8) (σ.1 2 11) d1 ⟨t1, t2⟩ with ⟨_, e⟩ | ⟨_, c, q, h, _⟩
      · rw [e]
        decide +kernel
      · exact h.nn
    have hn2 : ¬ FP.Core.val64 (FP.dneg (DEC (σ.2.1 2 8) (σ.1 2 11))) = .nan := by
      have e3 : FP.Core.val64 (FP.dneg (DEC (σ.2.1 2 8) (σ.1 2 11))) = FP.Core.negate (FP.Core.val64 (DEC (σ.2.1 2 8) (σ.1 2 11))) := FP.val64_dneg _
      rw [e3]
      intro h
      cases e : FP.Core.val64 (DEC (σ.2.1 2 8) (σ.1 2 11)) with
      | nan => exact hn e
      | inf s => rw [e] at h; cases h
      | fin s c q => rw [e] at h; cases h
    have fin : ∀ w : Int64, (∀ v : Int64, DTL (if (τ.1 0 10).toInt = 0 then FP.l2d (τ.2.1 0 9) else τ.2.2.1 0 11) v → w = v) → ∀ (v t : Int64) (n : Int32), BTS 4 τ v → ((τ.1 0 6).toInt = 3 ∧ t = τ.2.1 0 7 ∧ n = τ.1 0 8 ∨ ¬ (τ.1 0 6).toInt = 3 ∧ t = 0 ∧ n.toInt = 0) → EWR 4 w v t n := fun w hw v t n hv ht => by
      unfold EWR
      rw [if_neg (by omega)]
      rcases ht with ht | ht
      · omega
      · exact ⟨hw v (hv.2.2.1 rfl), ht.2⟩
    have e10 : (σ.1 2 10).toInt = (τ.1 0 10).toInt := by rw [g1]
    have hr : OK (f_X6_realBits σ) (RO σ fun w => ∀ v : Int64, DTL (if (τ.1 0 10).toInt = 0 then FP.l2d (τ.2.1 0 9) else τ.2.2.1 0 11) v → w = v) := by
      unfold f_X6_realBits f_X6_realBits_42
      refine OK.grd (fl_num q1) ?_
      refine OK.grd (fl_num q2) ?_
      have hpos' : f_X10_bitsOfPositive (FP.dadd (FP.l2d (σ.2.1 2 8)) (FP.ddiv (FP.i2d (σ.1 2 11)) 4621819117588971520)) σ = some ((DEC (σ.2.1 2 8) (σ.1 2 11)).toInt64, σ) := hpos
      rw [hpos', sbnd_]
      dsimp only
      -- the reference's double
      have plus : ∀ m0 : (σ.1 2 9).toInt = 0, ∀ v : Int64, DTL (if (τ.1 0 10).toInt = 0 then FP.l2d (τ.2.1 0 9) else τ.2.2.1 0 11) v → (DEC (σ.2.1 2 8) (σ.1 2 11)).toInt64 = v := fun m0 v hv => by
        have e9 : τ.2.1 0 9 = σ.2.1 2 8 := by
          rcases g2 with g | g
          · omega
          · exact g.2
        by_cases hp : (τ.1 0 10).toInt = 0
        · rw [if_pos hp, e9] at hv
          have e0 := t3 (by omega)
          rw [e0, dec_0 _ d1] at hn ⊢
          exact (dtl_num hn).uniq hv
        · rw [if_neg hp] at hv
          rcases t4 (by
            have hb := hX.2.2.1
            have := dot01 hX h62
            omega) with g | g
          · omega
          · rw [g.2] at hv
            exact (dtl_num hn).uniq hv
      have minus : ∀ m1 : ¬ (σ.1 2 9).toInt = 0, ((τ.1 0 10).toInt = 0 → ¬ σ.2.1 2 8 = 0) → ∀ v : Int64, DTL (if (τ.1 0 10).toInt = 0 then FP.l2d (τ.2.1 0 9) else τ.2.2.1 0 11) v → ((DEC (σ.2.1 2 8) (σ.1 2 11)).toInt64 ||| (-9223372036854775808)) = v := fun m1 hz v hv => by
        have e9 : τ.2.1 0 9 = -(σ.2.1 2 8) := by
          rcases g2 with g | g
          · exact g.2
          · omega
        rw [← hneg]
        by_cases hp : (τ.1 0 10).toInt = 0
        · rw [if_pos hp, e9] at hv
          have e0 := t3 (by omega)
          have hz := hz hp
          rw [e0, dec_0 _ d1] at hn2 ⊢
          have hnn : (-(σ.2.1 2 8)).toInt = -(σ.2.1 2 8).toInt := by
            rw [Int64.toInt_neg]
            exact Int.bmod_eq_of_le (by omega) (by omega)
          rw [l2d_neg _ _ hnn (fun h => hz (Int64.toInt_inj.mp (h.trans l64_0.symm)))] at hv
          exact (dtl_num hn2).uniq hv
        · rw [if_neg hp] at hv
          rcases t4 (by
            have := dot01 hX h62
            omega) with g | g
          · rw [g.2] at hv
            exact (dtl_num hn2).uniq hv
          · omega
      refine OK.ieq (fun h9 => OK.roret (plus (by omega))) (fun h9 => ?_)
      have m1 : ¬ (σ.1 2 9).toInt = 0 := by omega
      refine OK.ieq (fun h10 => ?_) (fun h10 => OK.roret (minus m1 (fun h => by omega)))
      refine OK.ite (fun h8 => ?_) (fun h8 => ?_)
      · rw [lg_cmp_eq] at h8
        refine OK.roret (fun v hv => ?_)
        have e9 : τ.2.1 0 9 = 0 := by
          rcases g2 with g | g
          · rw [g.2, h8]
            rfl
          · rw [g.2, h8]
        rw [if_pos (by omega), e9] at hv
        have e0 := t3 (by omega)
        rw [e0, h8, dec_0 _ (by decide)] at hn ⊢
        exact (dtl_num hn).uniq hv
      · rw [lg_cmp_eq] at h8
        exact OK.roret (minus m1 (fun _ => h8))
    exact OK.bndR hr (fun w hw => OK.roret (fin w hw))
  refine OK.ieq (fun h5 => ?_) (fun h5 => ?_)
  · have e5 : p0.toInt = 5 := by omega
    rw [e5] at hF ⊢
    have h63 : (τ.1 0 6).toInt = 3 := ft_5.mp hF
    refine OK.roret (fun v t n hv ht => ?_)
    unfold EWR
    rw [if_pos rfl]
    rcases ht with ht | ht
    · rw [ht.2.1, ht.2.2]
      exact ⟨hv.2.2.2 (by omega), hT.1 (k2.mp h63)⟩
    · exact absurd h63 ht.1
  · refine OK.roret (fun v t n hv ht => ?_)
    unfold EWR
    rw [if_neg (by omega)]
    have h14 : ¬ (1 ≤ p0.toInt ∧ p0.toInt ≤ 4) := by omega
    rcases ht with ht | ht
    · exfalso
      have h07 : ¬ p0.toInt = 5 := by omega
      exact ft_n5 hF h07 hX.q13 ht.1
    · exact ⟨(hv.2.2.2 h14).symm, ht.2⟩
