/-! the class's bits of a double: those that the machine tells -/
theorem fp_2 : FP.Core.val64 4611686018427387904 = .fin false (4503599627370496) (-51) := by decide +kernel
theorem fp_53 : FP.Core.val64 4845873199050653696 = .fin false (4503599627370496) 1 := by decide +kernel
theorem fp_52 : FP.Core.val64 4841369599423283200 = .fin false (4503599627370496) 0 := by decide +kernel
theorem fp_qmin : FP.Core.b64.qmin = -1074 := by decide
theorem fp_qmax : FP.Core.b64.qmax = 971 := by decide
theorem fp_p : FP.Core.b64.p = 53 := rfl
theorem fp_tails : FP.Core.b64.tails = 4503599627370496 := by decide +kernel
/-- a number above nothing, as it is kept -/
def FPN (x : UInt64) (c : Nat) (q : Int) : Prop := FP.Core.val64 x = .fin false c q ∧ (4503599627370496 ≤ c ∧ c < 9007199254740992) ∧ -1000 ≤ q ∧ q ≤ 900
theorem FPN.num {x : UInt64} {c : Nat} {q : Int} (h : FPN x c q) : x &&& 0x7fffffffffffffff ≤ 0x7ff0000000000000 := by
  refine fl_num ?_
  have h1 : FP.Core.val64 x = .fin false c q := h.1
  show decide (FP.Core.decode FP.Core.b64 x.toNat = .nan) = false
  have h2 : FP.Core.decode FP.Core.b64 x.toNat = .fin false c q := h1
  rw [h2]
  rfl
theorem fp_two53 : (2 : Nat) ^ 53 = 9007199254740992 := by decide
theorem fpn_fits {c : Nat} {q : Int} (hc : 4503599627370496 ≤ c ∧ c < 9007199254740992) (hq : -1000 ≤ q ∧ q ≤ 900) (s : Bool) : FP.Core.fits FP.Core.b64 (FP.Core.Datum.fin s c q) := by
  refine ⟨by rw [fp_p, fp_two53]; exact hc.2, by rw [fp_qmin]; omega, by rw [fp_qmax]; omega, .inr (by rw [fp_tails]; exact hc.1)⟩
theorem FPN.half {x : UInt64} {c : Nat} {q : Int} (h : FPN x c q) (hq : -990 ≤ q) : FPN (FP.ddiv x 4611686018427387904) c (q - 1) := by
  obtain ⟨h1, h2, h3⟩ := h
  refine ⟨?_, h2, by omega⟩
  have e : FP.Core.val64 (FP.ddiv x 4611686018427387904) = FP.Core.quotient FP.Core.b64 (FP.Core.val64 x) (FP.Core.val64 4611686018427387904) := FP.Core.val64_ddiv _ _
  rw [e, h1, fp_2]
  show (if (4503599627370496 : Nat) = 0 then (if c = 0 then FP.Core.Datum.nan else FP.Core.Datum.inf (false != false)) else FP.Core.roundRatio FP.Core.b64 (false != false) c 4503599627370496 (q - -51)) = _
  rw [if_neg (by decide)]
  show FP.Core.roundRatio FP.Core.b64 false c 4503599627370496 (q - -51) = _
  refine FP.Core.roundRatio_exact FP.Core.good_b64 (by decide) (fpn_fits h2 ⟨by omega, by omega⟩ false) ?_
  have a1 : (q - -51 - (q - 1)).toNat = 52 := by omega
  have a2 : (q - 1 - (q - -51)).toNat = 0 := by omega
  have a3 : (2 : Nat) ^ 52 = 4503599627370496 := by decide
  rw [a1, a2, a3, Nat.pow_zero, Nat.mul_one]
theorem FPN.dbl {x : UInt64} {c : Nat} {q : Int} (h : FPN x c q) (hq : q ≤ 890) : FPN (FP.dmul x 4611686018427387904) c (q + 1) := by
  obtain ⟨h1, h2, h3⟩ := h
  refine ⟨?_, h2, by omega⟩
  have e : FP.Core.val64 (FP.dmul x 4611686018427387904) = FP.Core.round FP.Core.b64 (FP.Core.exactProduct (FP.Core.val64 x) (FP.Core.val64 4611686018427387904)) := FP.Core.val64_dmul _ _
  rw [e, h1, fp_2]
  show FP.Core.roundRatio FP.Core.b64 false (c * 4503599627370496) 1 (q + -51) = _
  refine FP.Core.roundRatio_exact FP.Core.good_b64 (by decide) (fpn_fits h2 ⟨by omega, by omega⟩ false) ?_
  have a1 : (q + -51 - (q + 1)).toNat = 0 := by omega
  have a2 : (q + 1 - (q + -51)).toNat = 52 := by omega
  have a3 : (2 : Nat) ^ 52 = 4503599627370496 := by decide
  rw [a1, a2, a3, Nat.pow_zero, Nat.mul_one, Nat.mul_one]
theorem FPN.ord {x y : UInt64} {c : Nat} {q r : Int} (h : FPN x c q) (hy : FP.Core.val64 y = .fin false (4503599627370496) r) (hr : r = 0 ∨ r = 1) : FP.dcmp x y = some (compare ((c * 2 ^ (q - min q r).toNat : Nat) : Int) ((4503599627370496 * 2 ^ (r - min q r).toNat : Nat) : Int)) := by
  have e : FP.dcmp x y = FP.Core.order (FP.Core.val64 x) (FP.Core.val64 y) := rfl
  rw [e, h.1, hy]
  rfl
theorem pow_ge {k : Nat} (h : 1 ≤ k) : 2 ≤ 2 ^ k := Nat.pow_le_pow_right (by omega : 0 < 2) h
theorem FPN.ge {x y : UInt64} {c : Nat} {q r : Int} (h : FPN x c q) (hy : FP.Core.val64 y = .fin false (4503599627370496) r) (hr : r = 0 ∨ r = 1) (hq : r ≤ q) : FP.dcmp x y = some .gt ∨ FP.dcmp x y = some .eq := by
  rw [h.ord hy hr]
  have h2 := h.2.1
  have a1 : (r - min q r).toNat = 0 := by omega
  rw [a1, Nat.pow_zero, Nat.mul_one]
  have h3 : 4503599627370496 ≤ c * 2 ^ (q - min q r).toNat := Nat.le_trans h2.1 (Nat.le_mul_of_pos_right c (Nat.two_pow_pos _))
  rcases Nat.lt_or_eq_of_le h3 with h4 | h4
  · exact .inl (by rw [Int.compare_eq_gt.mpr (by omega)])
  · exact .inr (by rw [Int.compare_eq_eq.mpr (by omega)])
theorem FPN.lt {x y : UInt64} {c : Nat} {q r : Int} (h : FPN x c q) (hy : FP.Core.val64 y = .fin false (4503599627370496) r) (hr : r = 0 ∨ r = 1) (hq : q < r) : FP.dcmp x y = some .lt := by
  rw [h.ord hy hr]
  have h2 := h.2.1
  have a1 : (q - min q r).toNat = 0 := by omega
  rw [a1, Nat.pow_zero, Nat.mul_one]
  have h3 : 2 ≤ 2 ^ (r - min q r).toNat := pow_ge (by omega)
  have h4 : 4503599627370496 * 2 ≤ 4503599627370496 * 2 ^ (r - min q r).toNat := Nat.mul_le_mul_left _ h3
  have h5 : (9007199254740992 : Nat) = 4503599627370496 * 2 := by decide
  rw [Int.compare_eq_lt.mpr (by omega)]
theorem d2l_fpn {x : UInt64} {c : Nat} (h : FPN x c 0) : (FP.d2l x).toInt = c := by
  have h1 : FP.Core.decode FP.Core.b64 x.toNat = .fin false c 0 := h.1
  have h2 := h.2.1
  have e : FP.d2l x = Int64.ofInt (FP.Core.toInt (-2 ^ 63) (2 ^ 63 - 1) (FP.Core.decode FP.Core.b64 x.toNat)) := rfl
  rw [e, h1]
  have e2 : FP.Core.toInt (-2 ^ 63) (2 ^ 63 - 1) (.fin false c 0) = (c : Int) := by
    show max (-2 ^ 63) (min (2 ^ 63 - 1) ((c * 2 ^ (0 : Int).toNat / 2 ^ (-(0 : Int)).toNat : Nat) : Int)) = (c : Int)
    have a1 : c * 2 ^ (0 : Int).toNat / 2 ^ (-(0 : Int)).toNat = c := by simp
    rw [a1]
    have h5 : (9007199254740992 : Nat) = 9007199254740992 := by decide
    omega
  rw [e2]
  have h5 : (9007199254740992 : Nat) = 9007199254740992 := by decide
  exact Int64.toInt_ofInt_of_le (by omega) (by omega)
/-- the bits of such a number -/
theorem FPN.bits {x : UInt64} {c : Nat} {q : Int} (h : FPN x c q) : (x.toNat : Int) = (q + 1075) * 4503599627370496 + ((c : Int) - 4503599627370496) := by
  obtain ⟨h1, h2, h3⟩ := h
  have h4 : FP.Core.of64 (FP.Core.val64 x) = x := FP.Core.of64_val64 (by rw [h1]; exact fun h => by cases h)
  rw [h1] at h4
  have e : FP.Core.encode FP.Core.b64 (.fin false c q) = ((q - -1074).toNat + 1) * 4503599627370496 + (c - 4503599627370496) := by
    show (if c < FP.Core.b64.tails then _ else FP.Core.assemble FP.Core.b64 false ((q - FP.Core.b64.qmin).toNat + 1) (c - FP.Core.b64.tails)) = _
    rw [fp_tails, fp_qmin, if_neg (by omega)]
    show (0 * _ + ((q - -1074).toNat + 1)) * FP.Core.b64.tails + (c - 4503599627370496) = _
    rw [fp_tails, Nat.zero_mul, Nat.zero_add]
  have e2 : x.toNat = ((q - -1074).toNat + 1) * 4503599627370496 + (c - 4503599627370496) := by
    rw [← h4]
    show (UInt64.ofNat (FP.Core.encode FP.Core.b64 (.fin false c q))).toNat = _
    rw [e]
    refine UInt64.toNat_ofNat_of_lt' ?_
    have hsz : UInt64.size = 18446744073709551616 := rfl
    rw [hsz]
    have h5 : (9007199254740992 : Nat) = 9007199254740992 := by decide
    have h6 : (4503599627370496 : Nat) = 4503599627370496 := by decide
    have h7 : (2 : Nat) ^ 64 = 18446744073709551616 := by decide
    omega
  rw [e2]
  have h6 : (4503599627370496 : Nat) = 4503599627370496 := by decide
  have h7 : (4503599627370496 : Int) = 4503599627370496 := by decide
  rw [h6] at h2 ⊢
  rw [h7]
  omega
theorem cv_gt {o : Option Ordering} (h : o = some .gt) : Op.cmpValue o .l = 1 ∧ Op.cmpValue o .g = 1 := by
  rw [h]
  exact ⟨rfl, rfl⟩
theorem cv_eq {o : Option Ordering} (h : o = some .eq) : Op.cmpValue o .l = 0 ∧ Op.cmpValue o .g = 0 := by
  rw [h]
  exact ⟨rfl, rfl⟩
theorem cv_lt {o : Option Ordering} (h : o = some .lt) : Op.cmpValue o .l = -1 ∧ Op.cmpValue o .g = -1 := by
  rw [h]
  exact ⟨rfl, rfl⟩
theorem sh52 (x : Int32) (h0 : 0 ≤ x.toInt) (h1 : x.toInt ≤ 2046) : ((x.toInt64) <<< ((52 : Int32).toInt64 &&& 63)).toInt = x.toInt * 4503599627370496 := by
  obtain ⟨k, ek⟩ : ∃ k : Nat, x.toInt = k := ⟨_, (Int.toNat_of_nonneg h0).symm⟩
  have hb : ((x.toInt64) <<< ((52 : Int32).toInt64 &&& 63)).toBitVec = x.toInt64.toBitVec <<< 52 := rfl
  have hn : x.toInt64.toBitVec.toNat = k := nat64 (by rw [i64]; exact ek)
  have e2 : ((x.toInt64) <<< ((52 : Int32).toInt64 &&& 63)).toBitVec.toNat = k * 4503599627370496 := by
    rw [hb, BitVec.toNat_shiftLeft, hn, Nat.shiftLeft_eq]
    have a3 : (2 : Nat) ^ 52 = 4503599627370496 := by decide
    have a4 : (2 : Nat) ^ 64 = 18446744073709551616 := by decide
    rw [a3, a4]
    exact Nat.mod_eq_of_lt (by omega)
  show ((x.toInt64) <<< ((52 : Int32).toInt64 &&& 63)).toBitVec.toInt = _
  have a4 : (2 : Nat) ^ 64 = 18446744073709551616 := by decide
  rw [BitVec.toInt_eq_toNat_of_lt (by rw [e2]; omega), e2, ek]
  omega
theorem fp_81 (x : UInt64) (x4 : Int32) (σ : ST) {c : Nat} (h : FPN x c 0) (h4 : 0 ≤ x4.toInt ∧ x4.toInt ≤ 2046) : OK (f_X10_bitsOfPositive_81 x x4 σ) (RO σ fun v => v.toInt = x4.toInt * 4503599627370496 + ((c : Int) - 4503599627370496)) := by
  unfold f_X10_bitsOfPositive_81
  refine OK.roret ?_
  have h2 := h.2.1
  have e1 := d2l_fpn h
  have e2 := sh52 x4 h4.1 h4.2
  have h5 : (9007199254740992 : Nat) = 9007199254740992 := by decide
  have h6 : (4503599627370496 : Nat) = 4503599627370496 := by decide
  have h7 : (4503599627370496 : Int) = 4503599627370496 := by decide
  have k1 : (4503599627370496 : Int64).toInt = 4503599627370496 := by decide
  rw [h7] at e2 ⊢
  have s1 : (FP.d2l x - 4503599627370496).toInt = (c : Int) - 4503599627370496 := by
    rw [Int64.toInt_sub, e1, k1]
    exact Int.bmod_eq_of_le (by omega) (by omega)
  rw [Int64.toInt_add, e2, s1]
  exact Int.bmod_eq_of_le (by omega) (by omega)
theorem fp_51 (c : Nat) (σ : ST) : ∀ (f k : Nat) (x : UInt64) (x4 x5 : Int32) (q : Int), FPN x c q → x5.toInt = k → (k : Int) - q ≤ 64 → q ≤ 0 → (64 : Int) - k < f → 0 ≤ x4.toInt + q → x4.toInt ≤ 2046 → OK (f_X10_bitsOfPositive_51 f x x4 x5 σ) (RO σ fun v => v.toInt = (x4.toInt + q) * 4503599627370496 + ((c : Int) - 4503599627370496)) := by
  intro f
  have l1 := li_1
  have l0 := li_0
  have lm := li_m1
  have l64 := li_64
  induction f with
  | zero => intro k x x4 x5 q h h5 h6 h7 h8; omega
  | succ f ih =>
    intro k x x4 x5 q h h5 h6 h7 h8 h9 h10
    rw [f_X10_bitsOfPositive_51]
    have fin : q = 0 → OK (f_X10_bitsOfPositive_81 x x4 σ) (RO σ fun v => v.toInt = (x4.toInt + q) * 4503599627370496 + ((c : Int) - 4503599627370496)) := fun e => by
      subst e
      rw [Int.add_zero]
      exact fp_81 x x4 σ h ⟨by omega, h10⟩
    refine OK.ile (fun hh => fin (by omega)) (fun hh => ?_)
    by_cases e : q = 0
    · have hc : 0 ≤ (Op.cmpValue (FP.dcmp x 4841369599423283200) .g) := by
        rcases h.ge fp_52 (.inl rfl) (by omega) with hg | hg
        · rw [(cv_gt hg).2]; decide
        · rw [(cv_eq hg).2]; decide
      rw [if_pos hc]
      exact fin e
    · have hl := h.lt fp_52 (.inl rfl) (by omega)
      rw [if_neg (by rw [(cv_lt hl).2]; decide)]
      have h' := h.dbl (by omega)
      have a4 := il_addE (x := x4) (y := -1) (by omega) (by omega)
      have a5 := il_addE (x := x5) (y := 1) (by omega) (by omega)
      refine OK.grd h'.num ?_
      refine (ih (k + 1) _ (x4 + -1) (x5 + 1) (q + 1) h' (by omega) (by omega) (by omega) (by omega) (by omega) (by omega)).roq (fun v hv => ?_)
      have e9 : x4.toInt + -1 + (q + 1) = x4.toInt + q := by omega
      rw [hv, a4, lm, e9]
theorem fp_18 (c : Nat) (σ : ST) : ∀ (f k : Nat) (x : UInt64) (x4 x5 : Int32) (q : Int), FPN x c q → x5.toInt = k → (k : Int) + q ≤ 64 → -64 ≤ q → (64 : Int) - k < f → 1075 ≤ x4.toInt → x4.toInt ≤ 1075 + k → k ≤ 64 → OK (f_X10_bitsOfPositive_18 f x x4 x5 σ) (RO σ fun v => v.toInt = (x4.toInt + q) * 4503599627370496 + ((c : Int) - 4503599627370496)) := by
  intro f
  have l1 := li_1
  have l0 := li_0
  have l64 := li_64
  have lu := FUi
  induction f with
  | zero => intro k x x4 x5 q h h5 h6 h7 h8; omega
  | succ f ih =>
    intro k x x4 x5 q h h5 h6 h7 h8 h9 h10 h11
    rw [f_X10_bitsOfPositive_18]
    unfold f_X10_bitsOfPositive_48
    have fin : q ≤ 0 → OK (f_X10_bitsOfPositive_51 FU x x4 0 σ) (RO σ fun v => v.toInt = (x4.toInt + q) * 4503599627370496 + ((c : Int) - 4503599627370496)) := fun e => fp_51 c σ FU 0 x x4 0 q h l0 (by omega) e (by omega) (by omega) (by omega)
    refine OK.ile (fun hh => fin (by omega)) (fun hh => ?_)
    by_cases e : q ≤ 0
    · have hl := h.lt fp_53 (.inr rfl) (by omega)
      rw [if_pos (by rw [(cv_lt hl).1]; decide)]
      exact fin e
    · have hc : ¬ (Op.cmpValue (FP.dcmp x 4845873199050653696) .l) < 0 := by
        rcases h.ge fp_53 (.inr rfl) (by omega) with hg | hg
        · rw [(cv_gt hg).1]; decide
        · rw [(cv_eq hg).1]; decide
      rw [if_neg hc]
      have h' := h.half (by omega)
      have a4 := il_addE (x := x4) (y := 1) (by omega) (by omega)
      have a5 := il_addE (x := x5) (y := 1) (by omega) (by omega)
      refine OK.grd h'.num ?_
      refine (ih (k + 1) _ (x4 + 1) (x5 + 1) (q - 1) h' (by omega) (by omega) (by omega) (by omega) (by omega) (by omega) (by omega)).roq (fun v hv => ?_)
      have e9 : x4.toInt + 1 + (q - 1) = x4.toInt + q := by omega
      rw [hv, a4, l1, e9]
/-- what the class takes for the bits -/
theorem fp_pos (x : UInt64) (σ : ST) {c : Nat} {q : Int} (h : FPN x c q) (hq : -64 ≤ q ∧ q ≤ 64) : OK (f_X10_bitsOfPositive x σ) (RO σ fun v => v = x.toInt64) := by
  unfold f_X10_bitsOfPositive
  have lu := FUi
  have l0 := li_0
  have l1075 : (1075 : Int32).toInt = 1075 := by decide
  have hpos : FP.dcmp x FP.dconst0 = some .gt := by
    have e : FP.dcmp x FP.dconst0 = FP.Core.order (FP.Core.val64 x) (FP.Core.val64 FP.dconst0) := rfl
    have ez : FP.Core.val64 FP.dconst0 = .fin false 0 FP.Core.b64.qmin := FP.Core.val64_dconst0
    rw [e, h.1, ez]
    show some (compare ((c * 2 ^ (q - min q FP.Core.b64.qmin).toNat : Nat) : Int) ((0 * 2 ^ (FP.Core.b64.qmin - min q FP.Core.b64.qmin).toNat : Nat) : Int)) = _
    have h2 := h.2.1
    have h3 : 0 < c * 2 ^ (q - min q FP.Core.b64.qmin).toNat := Nat.mul_pos (by have : (0 : Nat) < 4503599627370496 := by decide
                                                                                omega) (Nat.two_pow_pos _)
    rw [Nat.zero_mul, Int.compare_eq_gt.mpr (by omega)]
  rw [if_pos (by rw [(cv_gt hpos).1]; decide)]
  refine (fp_18 c σ FU 0 x 1075 0 q h l0 (by omega) (by omega) (by omega) (by omega) (by omega) (by omega)).roq (fun v hv => ?_)
  have hb := h.bits
  have h2 := h.2.1
  have h5 : (9007199254740992 : Nat) = 9007199254740992 := by decide
  have h6 : (4503599627370496 : Nat) = 4503599627370496 := by decide
  have h7 : (4503599627370496 : Int) = 4503599627370496 := by decide
  refine Int64.toInt_inj.mp ?_
  have e : x.toInt64.toInt = (x.toNat : Int) := by
    show x.toBitVec.toInt = _
    have e2 : x.toBitVec.toNat = x.toNat := rfl
    rw [BitVec.toInt_eq_toNat_of_lt (by rw [e2]; omega), e2]
  have e9 : (1075 : Int) + q = q + 1075 := by omega
  rw [e, hb, hv, l1075, e9]
theorem fp_zero (σ : ST) : f_X10_bitsOfPositive 0 σ = some (0, σ) := by
  unfold f_X10_bitsOfPositive
  rw [if_neg (by decide +kernel)]
/-! doubles that the texts tell -/
theorem rr_fpn (s : Bool) {A B : Nat} {e : Int} (hA : 0 < A) (hB : 0 < B) (h1 : -900 ≤ FP.Core.leading A B + e) (h2 : FP.Core.leading A B + e ≤ 900) : ∃ (c : Nat) (q : Int), FP.Core.roundRatio FP.Core.b64 s A B e = .fin s c q ∧ (4503599627370496 ≤ c ∧ c < 9007199254740992) ∧ FP.Core.leading A B + e - 52 ≤ q ∧ q ≤ FP.Core.leading A B + e - 51 := by
  have hq : FP.Core.quantum FP.Core.b64 A B e = FP.Core.leading A B + e - 52 := by
    unfold FP.Core.quantum
    rw [fp_qmin, fp_p]
    omega
  have hf : FP.Core.fits FP.Core.b64 (FP.Core.roundRatio FP.Core.b64 s A B e) := FP.Core.roundRatio_fits FP.Core.good_b64 s A hB e
  have e1 : FP.Core.roundRatio FP.Core.b64 s A B e = FP.Core.settle FP.Core.b64 s (FP.Core.nearest (FP.Core.unitsNum A e (FP.Core.leading A B + e - 52)) (FP.Core.unitsDen B e (FP.Core.leading A B + e - 52))) (FP.Core.leading A B + e - 52) := by
    unfold FP.Core.roundRatio FP.Core.roundAt
    rw [if_neg (by omega), hq]
  have e2 : ∃ (c : Nat) (q : Int), FP.Core.roundRatio FP.Core.b64 s A B e = .fin s c q ∧ FP.Core.leading A B + e - 52 ≤ q ∧ q ≤ FP.Core.leading A B + e - 51 := by
    rw [e1]
    unfold FP.Core.settle FP.Core.bound
    generalize FP.Core.nearest (FP.Core.unitsNum A e (FP.Core.leading A B + e - 52)) (FP.Core.unitsDen B e (FP.Core.leading A B + e - 52)) = c
    rw [fp_qmax]
    by_cases hc : c < 2 ^ FP.Core.b64.p
    · rw [if_pos hc, if_pos (by omega)]
      exact ⟨c, _, rfl, by omega, by omega⟩
    · rw [if_neg hc, if_pos (by omega)]
      exact ⟨_, _, rfl, by omega, by omega⟩
  obtain ⟨c, q, e3, e4, e5⟩ := e2
  rw [e3] at hf
  obtain ⟨f1, f2, f3, f4⟩ := hf
  rw [fp_p, fp_two53] at f1
  rw [fp_qmin, fp_tails] at f4
  exact ⟨c, q, e3, ⟨by omega, f1⟩, e4, e5⟩
theorem lead_rng (A B : Nat) : (A.log2 : Int) - B.log2 - 1 ≤ FP.Core.leading A B ∧ FP.Core.leading A B ≤ (A.log2 : Int) - B.log2 := by
  show (A.log2 : Int) - B.log2 - 1 ≤ (if B * 2 ^ ((A.log2 : Int) - B.log2).toNat ≤ A * 2 ^ (-((A.log2 : Int) - B.log2)).toNat then (A.log2 : Int) - B.log2 else (A.log2 : Int) - B.log2 - 1) ∧ (if B * 2 ^ ((A.log2 : Int) - B.log2).toNat ≤ A * 2 ^ (-((A.log2 : Int) - B.log2)).toNat then (A.log2 : Int) - B.log2 else (A.log2 : Int) - B.log2 - 1) ≤ (A.log2 : Int) - B.log2
  split <;> omega
theorem log2_ge {A k : Nat} (h : 2 ^ k ≤ A) : k ≤ A.log2 := (Nat.le_log2 (by have := Nat.two_pow_pos k; omega)).mpr h
theorem log2_le {A k : Nat} (h : A < 2 ^ (k + 1)) : A.log2 ≤ k := by
  by_cases h0 : A = 0
  · rw [h0]
    exact Nat.zero_le _
  · have := (Nat.log2_lt h0).mpr h
    omega
/-- a whole number, not nothing, told as a double -/
theorem l2d_fin (n : Int64) (h : ¬ n.toInt = 0) : ∃ (c : Nat) (q : Int), FP.Core.val64 (FP.l2d n) = .fin (decide (n.toInt < 0)) c q ∧ (4503599627370496 ≤ c ∧ c < 9007199254740992) ∧ -53 ≤ q ∧ q ≤ 12 := by
  have e : FP.Core.val64 (FP.l2d n) = FP.Core.round FP.Core.b64 (FP.Core.ofInt n.toInt) := FP.Core.val64_l2d n
  have r1 := Int64.le_toInt n
  have r2 := Int64.toInt_lt n
  have a64 : (2 : Nat) ^ (63 + 1) = 18446744073709551616 := by decide
  have g1 : (0 : Nat) ≤ n.toInt.natAbs.log2 := Nat.zero_le _
  have g2 : n.toInt.natAbs.log2 ≤ 63 := log2_le (by rw [a64]; omega)
  have g3 : (1 : Nat).log2 = 0 := by decide
  have g4 := lead_rng n.toInt.natAbs 1
  rw [g3] at g4
  obtain ⟨c, q, e1, e2, e3, e4⟩ := rr_fpn (decide (n.toInt < 0)) (A := n.toInt.natAbs) (B := 1) (e := 0) (by omega) (by omega) (by omega) (by omega)
  refine ⟨c, q, ?_, e2, by omega, by omega⟩
  rw [e, ← e1]
  rfl
theorem l2d_pos (n : Int64) (h : 0 < n.toInt) : ∃ (c : Nat) (q : Int), FPN (FP.l2d n) c q ∧ -53 ≤ q ∧ q ≤ 12 := by
  obtain ⟨c, q, e1, e2, e3, e4⟩ := l2d_fin n (by omega)
  have e5 : decide (n.toInt < 0) = false := decide_eq_false (by omega)
  rw [e5] at e1
  exact ⟨c, q, ⟨e1, e2, by omega, by omega⟩, e3, e4⟩
theorem l2d_0 : FP.l2d 0 = 0 := by decide +kernel
theorem negate_inj {x y : UInt64} (hx : ¬ FP.Core.val64 x = .nan) (h : FP.Core.val64 x = FP.Core.val64 y) : x = y := FP.Core.val64_inj hx h
theorem l2d_neg (n m : Int64) (h : m.toInt = -n.toInt) (h0 : ¬ n.toInt = 0) : FP.l2d m = FP.dneg (FP.l2d n) := by
  have e1 : FP.Core.val64 (FP.l2d m) = FP.Core.round FP.Core.b64 (FP.Core.ofInt m.toInt) := FP.Core.val64_l2d m
  have e2 : FP.Core.val64 (FP.l2d n) = FP.Core.round FP.Core.b64 (FP.Core.ofInt n.toInt) := FP.Core.val64_l2d n
  have e3 : FP.Core.val64 (FP.dneg (FP.l2d n)) = FP.Core.negate (FP.Core.val64 (FP.l2d n)) := FP.val64_dneg _
  refine FP.Core.val64_inj ?_ ?_
  · obtain ⟨c, q, e, _⟩ := l2d_fin m (by omega)
    rw [e]
    exact fun h => by cases h
  · rw [e3, e1, e2, FP.Core.negate_round]
    congr 1
    show FP.Core.Datum.fin (decide (m.toInt < 0)) m.toInt.natAbs 0 = FP.Core.Datum.fin (!decide (n.toInt < 0)) n.toInt.natAbs 0
    have a1 : m.toInt.natAbs = n.toInt.natAbs := by omega
    have a2 : decide (m.toInt < 0) = !decide (n.toInt < 0) := by
      by_cases h1 : n.toInt < 0
      · rw [decide_eq_true h1, decide_eq_false (by omega)]; rfl
      · rw [decide_eq_false h1, decide_eq_true (by omega)]; rfl
    rw [a1, a2]
/-- the bits of the other sign -/
theorem fin_bits {x : UInt64} {s : Bool} {c : Nat} {q : Int} (h : FP.Core.val64 x = .fin s c q) (h2 : 4503599627370496 ≤ c ∧ c < 9007199254740992) (hq : -1000 ≤ q ∧ q ≤ 900) : (x.toNat : Int) = (if s = true then 9223372036854775808 else 0) + (q + 1075) * 4503599627370496 + ((c : Int) - 4503599627370496) := by
  have h4 : FP.Core.of64 (FP.Core.val64 x) = x := FP.Core.of64_val64 (by rw [h]; exact fun h => by cases h)
  rw [h] at h4
  have ee : FP.Core.b64.exps = 2048 := by decide
  have e : FP.Core.encode FP.Core.b64 (.fin s c q) = (s.toNat * 2048 + ((q - -1074).toNat + 1)) * 4503599627370496 + (c - 4503599627370496) := by
    show (if c < FP.Core.b64.tails then _ else FP.Core.assemble FP.Core.b64 s ((q - FP.Core.b64.qmin).toNat + 1) (c - FP.Core.b64.tails)) = _
    rw [fp_tails, fp_qmin, if_neg (by omega)]
    show (s.toNat * FP.Core.b64.exps + ((q - -1074).toNat + 1)) * FP.Core.b64.tails + (c - 4503599627370496) = _
    rw [fp_tails, ee]
  have hs : s.toNat ≤ 1 := by cases s <;> decide
  have e2 : x.toNat = (s.toNat * 2048 + ((q - -1074).toNat + 1)) * 4503599627370496 + (c - 4503599627370496) := by
    rw [← h4]
    show (UInt64.ofNat (FP.Core.encode FP.Core.b64 (.fin s c q))).toNat = _
    rw [e]
    refine UInt64.toNat_ofNat_of_lt' ?_
    have hsz : UInt64.size = 18446744073709551616 := rfl
    rw [hsz]
    omega
  rw [e2]
  cases s
  · show ((((0 : Nat) * 2048 + ((q - -1074).toNat + 1)) * 4503599627370496 + (c - 4503599627370496) : Nat) : Int) = _
    rw [if_neg (by decide)]
    omega
  · show ((((1 : Nat) * 2048 + ((q - -1074).toNat + 1)) * 4503599627370496 + (c - 4503599627370496) : Nat) : Int) = _
    rw [if_pos rfl]
    omega
theorem FPN.neg_bits {x : UInt64} {c : Nat} {q : Int} (h : FPN x c q) : (FP.dneg x).toInt64 = (x.toInt64 ||| (-9223372036854775808)) := by
  have e3 : FP.Core.val64 (FP.dneg x) = FP.Core.negate (FP.Core.val64 x) := FP.val64_dneg _
  rw [h.1] at e3
  have e3 : FP.Core.val64 (FP.dneg x) = .fin true c q := e3
  have b1 := fin_bits e3 h.2.1 h.2.2
  have b2 := h.bits
  have h2 := h.2.1
  have h3 := h.2.2
  rw [if_pos rfl] at b1
  have hn : (FP.dneg x).toNat = 9223372036854775808 + x.toNat := by omega
  have hx : x.toNat < 9223372036854775808 := by omega
  have key : (FP.dneg x).toBitVec = x.toBitVec ||| 9223372036854775808#64 := by
    refine BitVec.eq_of_toNat_eq ?_
    rw [BitVec.toNat_or]
    show (FP.dneg x).toNat = x.toNat ||| 9223372036854775808
    rw [hn]
    have h63 : (9223372036854775808 : Nat) = 2 ^ 63 * 1 := by decide
    have ha := Nat.two_pow_add_eq_or_of_lt (i := 63) (b := x.toNat) (by rw [show (2 : Nat) ^ 63 = 9223372036854775808 by decide]; exact hx) 1
    rw [← h63] at ha
    rw [ha, Nat.or_comm]
  exact Int64.toBitVec_inj.mp key
theorem zero_neg_bits : (FP.dneg 0).toInt64 = ((0 : UInt64).toInt64 ||| (-9223372036854775808)) := by decide +kernel
/-- ten -/
theorem fp_10 : FP.Core.val64 4621819117588971520 = .fin false 5629499534213120 (-49) := by decide +kernel
theorem i2d_l2d (t : Int32) : FP.i2d t = FP.l2d t.toInt64 := by
  show UInt64.ofNat (FP.Core.fromInt FP.Core.b64 t.toInt) = UInt64.ofNat (FP.Core.fromInt FP.Core.b64 t.toInt64.toInt)
  rw [i64]
theorem log2_c {c : Nat} (h : 4503599627370496 ≤ c ∧ c < 9007199254740992) : c.log2 = 52 := by
  have a1 : (2 : Nat) ^ 52 = 4503599627370496 := by decide
  have a2 : (2 : Nat) ^ (52 + 1) = 9007199254740992 := by decide
  have h1 := log2_ge (A := c) (k := 52) (by rw [a1]; exact h.1)
  have h2 := log2_le (A := c) (k := 52) (by rw [a2]; exact h.2)
  omega
/-- tenths -/
theorem tenth_fpn (t : Int32) (h : 1 ≤ t.toInt ∧ t.toInt ≤ 9) : ∃ (c : Nat) (q : Int), FPN (FP.ddiv (FP.i2d t) 4621819117588971520) c q ∧ -58 ≤ q ∧ q ≤ 13 := by
  rw [i2d_l2d]
  obtain ⟨c, q, h1, h2, h3⟩ := l2d_pos t.toInt64 (by rw [i64]; omega)
  have e : FP.Core.val64 (FP.ddiv (FP.l2d t.toInt64) 4621819117588971520) = FP.Core.quotient FP.Core.b64 (FP.Core.val64 (FP.l2d t.toInt64)) (FP.Core.val64 4621819117588971520) := FP.Core.val64_ddiv _ _
  rw [h1.1, fp_10] at e
  have e2 : FP.Core.quotient FP.Core.b64 (.fin false c q) (.fin false 5629499534213120 (-49)) = FP.Core.roundRatio FP.Core.b64 false c 5629499534213120 (q - -49) := by
    show (if (5629499534213120 : Nat) = 0 then (if c = 0 then FP.Core.Datum.nan else FP.Core.Datum.inf (false != false)) else FP.Core.roundRatio FP.Core.b64 (false != false) c 5629499534213120 (q - -49)) = _
    rw [if_neg (by decide)]
    rfl
  have g1 := log2_c h1.2.1
  have g2 : (5629499534213120 : Nat).log2 = 52 := log2_c ⟨by decide, by decide⟩
  have g3 := lead_rng c 5629499534213120
  rw [g1, g2] at g3
  have hc0 : 0 < c := by have := h1.2.1.1; omega
  obtain ⟨c', q', e3, e4, e5, e6⟩ := rr_fpn false (A := c) (B := 5629499534213120) (e := q - -49) hc0 (by decide) (by omega) (by omega)
  exact ⟨c', q', ⟨by rw [e, e2]; exact e3, e4, by omega, by omega⟩, by omega, by omega⟩
/-- two such numbers together -/
theorem FPN.add {x y : UInt64} {c d : Nat} {q r : Int} (h : FPN x c q) (k : FPN y d r) (hq : -60 ≤ q ∧ q ≤ 20) (hr : -60 ≤ r ∧ r ≤ 20) : ∃ (c' : Nat) (q' : Int), FPN (FP.dadd x y) c' q' ∧ -64 ≤ q' ∧ q' ≤ 64 := by
  have e : FP.Core.val64 (FP.dadd x y) = FP.Core.round FP.Core.b64 (FP.Core.exactSum (FP.Core.val64 x) (FP.Core.val64 y)) := FP.Core.val64_dadd _ _
  rw [h.1, k.1] at e
  obtain ⟨m, hm⟩ : ∃ m : Int, m = min q r := ⟨_, rfl⟩
  obtain ⟨A, hA⟩ : ∃ A : Nat, A = c * 2 ^ (q - m).toNat + d * 2 ^ (r - m).toNat := ⟨_, rfl⟩
  have p1 := Nat.two_pow_pos (q - m).toNat
  have p2 := Nat.two_pow_pos (r - m).toNat
  have hc := h.2.1
  have hd := k.2.1
  have hdd : d ≤ d * 2 ^ (r - m).toNat := Nat.le_mul_of_pos_right d p2
  have hu : FP.Core.sumUnits false c q false d r m = (A : Int) := by
    rw [hA]
    rfl
  have es : FP.Core.exactSum (.fin false c q) (.fin false d r) = .fin false A m := by
    show FP.Core.Datum.fin (FP.Core.sumSign false false (FP.Core.sumUnits false c q false d r (min q r))) (FP.Core.sumUnits false c q false d r (min q r)).natAbs (min q r) = _
    rw [← hm, hu]
    have e1 : FP.Core.sumSign false false (A : Int) = false := by
      unfold FP.Core.sumSign
      rw [if_neg (by omega)]
      exact decide_eq_false (by omega)
    rw [e1]
    rfl
  rw [es] at e
  have e : FP.Core.val64 (FP.dadd x y) = FP.Core.roundRatio FP.Core.b64 false A 1 m := e
  have a1 : (2 : Nat) ^ 52 = 4503599627370496 := by decide
  have a2 : (2 : Nat) ^ 53 = 9007199254740992 := by decide
  have lo : 52 + (r - m).toNat ≤ A.log2 := by
    refine log2_ge ?_
    rw [Nat.pow_add, a1]
    have := Nat.mul_le_mul_right (2 ^ (r - m).toNat) hd.1
    omega
  have hi : A.log2 ≤ 53 + (max q r - m).toNat := by
    refine log2_le ?_
    have q1 : 2 ^ (q - m).toNat ≤ 2 ^ (max q r - m).toNat := Nat.pow_le_pow_right (by omega) (by omega)
    have q2 : 2 ^ (r - m).toNat ≤ 2 ^ (max q r - m).toNat := Nat.pow_le_pow_right (by omega) (by omega)
    have q3 : c * 2 ^ (q - m).toNat ≤ 9007199254740991 * 2 ^ (max q r - m).toNat := Nat.mul_le_mul (by omega) q1
    have q4 : d * 2 ^ (r - m).toNat ≤ 9007199254740991 * 2 ^ (max q r - m).toNat := Nat.mul_le_mul (by omega) q2
    have e5 : 2 ^ (53 + (max q r - m).toNat + 1) = 9007199254740992 * 2 ^ (max q r - m).toNat * 2 := by
      rw [Nat.pow_succ, Nat.pow_add, a2]
    have p3 := Nat.two_pow_pos (max q r - m).toNat
    rw [e5]
    omega
  have g3 : (1 : Nat).log2 = 0 := by decide
  have g4 := lead_rng A 1
  rw [g3] at g4
  obtain ⟨c', q', e3, e4, e5, e6⟩ := rr_fpn false (A := A) (B := 1) (e := m) (by omega) (by omega) (by omega) (by omega)
  exact ⟨c', q', ⟨by rw [e]; exact e3, e4, by omega, by omega⟩, by omega, by omega⟩
theorem FPN.nn {x : UInt64} {c : Nat} {q : Int} (h : FPN x c q) : ¬ FP.Core.val64 x = .nan := by
  rw [h.1]
  exact fun h => by cases h
theorem FPN.nz {x : UInt64} {c : Nat} {q : Int} (h : FPN x c q) : ¬ x = FP.Core.dzeroNeg := by
  intro e
  have h1 := h.1
  rw [e, FP.Core.val64_dzeroNeg] at h1
  cases h1
theorem tenth_0 : FP.ddiv (FP.i2d 0) 4621819117588971520 = 0 := by decide +kernel
/-- a number with tenths: nothing, or above nothing -/
def DEC (n : Int64) (t : Int32) : UInt64 := FP.dadd (FP.l2d n) (FP.ddiv (FP.i2d t) 4621819117588971520)
theorem dec_0 (n : Int64) (h : 0 ≤ n.toInt) : DEC n 0 = FP.l2d n := by
  unfold DEC
  rw [tenth_0]
  by_cases h0 : n.toInt = 0
  · have e : n = 0 := Int64.toInt_inj.mp (by rw [h0]; rfl)
    rw [e]
    decide +kernel
  · obtain ⟨c, q, h1, _⟩ := l2d_pos n (by omega)
    exact FP.Core.dadd_zero h1.nn h1.nz
theorem dec_fpn (n : Int64) (t : Int32) (h : 0 ≤ n.toInt) (ht : 0 ≤ t.toInt ∧ t.toInt ≤ 9) : (n.toInt = 0 ∧ t.toInt = 0) ∧ DEC n t = 0 ∨ ¬ (n.toInt = 0 ∧ t.toInt = 0) ∧ ∃ (c : Nat) (q : Int), FPN (DEC n t) c q ∧ -64 ≤ q ∧ q ≤ 64 := by
  by_cases ht0 : t.toInt = 0
  · have e : t = 0 := Int32.toInt_inj.mp (by rw [ht0]; rfl)
    subst e
    rw [dec_0 n h]
    by_cases h0 : n.toInt = 0
    · have e : n = 0 := Int64.toInt_inj.mp (by rw [h0]; rfl)
      rw [e]
      exact .inl ⟨⟨rfl, rfl⟩, l2d_0⟩
    · obtain ⟨c, q, h1, h2, h3⟩ := l2d_pos n (by omega)
      exact .inr ⟨fun h9 => h0 h9.1, c, q, h1, by omega, by omega⟩
  · obtain ⟨d, r, k1, k2, k3⟩ := tenth_fpn t ⟨by omega, by omega⟩
    refine .inr ⟨fun h9 => ht0 h9.2, ?_⟩
    by_cases h0 : n.toInt = 0
    · have e : n = 0 := Int64.toInt_inj.mp (by rw [h0]; rfl)
      have e2 : DEC n t = FP.ddiv (FP.i2d t) 4621819117588971520 := by
        unfold DEC
        rw [e, l2d_0]
        have hc : FP.dadd 0 (FP.ddiv (FP.i2d t) 4621819117588971520) = FP.dadd (FP.ddiv (FP.i2d t) 4621819117588971520) 0 := FP.Core.dadd_comm _ _
        rw [hc]
        exact FP.Core.dadd_zero k1.nn k1.nz
      rw [e2]
      exact ⟨d, r, k1, by omega, by omega⟩
    · obtain ⟨c, q, h1, h2, h3⟩ := l2d_pos n (by omega)
      exact h1.add k1 ⟨by omega, by omega⟩ ⟨by omega, by omega⟩
theorem DEC.bits (n : Int64) (t : Int32) (σ : ST) (h : 0 ≤ n.toInt) (ht : 0 ≤ t.toInt ∧ t.toInt ≤ 9) : f_X10_bitsOfPositive (DEC n t) σ = some ((DEC n t).toInt64, σ) ∧ (FP.dneg (DEC n t)).toInt64 = ((DEC n t).toInt64 ||| (-9223372036854775808)) := by
  rcases dec_fpn n t h ht with ⟨_, e⟩ | ⟨_, c, q, h1, h2⟩
  · rw [e]
    exact ⟨fp_zero σ, zero_neg_bits⟩
  · obtain ⟨⟨v, s⟩, e1, e2, e3⟩ := fp_pos (DEC n t) σ h1 h2
    have e2 : s = σ := e2
    have e3 : v = (DEC n t).toInt64 := e3
    rw [e1, e2, e3]
    exact ⟨rfl, h1.neg_bits⟩
/-! what a token is worth: more of both tokens, side by side -/
/-- whatever a run answers (the rules stand once more where the walks need them) -/
def QT {α : Type} (o : Option α) (P : α → Prop) : Prop := ∀ q, o = some q → P q
theorem QT.none {α : Type} {P : α → Prop} : QT (none : Option α) P := fun _ h => by cases h
theorem QT.ret {α : Type} {q : α} {P : α → Prop} (h : P q) : QT (some q) P := fun z e => by
  cases e
  exact h
theorem QT.mono {α : Type} {o : Option α} {P Q : α → Prop} (h : QT o P) (k : ∀ q, P q → Q q) : QT o Q := fun q e => k q (h q e)
theorem QT.ok {α : Type} {o : Option α} {P : α → Prop} (h : OK o P) : QT o P := fun q e => by
  obtain ⟨z, e2, hz⟩ := h
  rw [e] at e2
  cases e2
  exact hz
theorem QT.ite {α : Type} {c : Prop} {i : Decidable c} {x y : Option α} {P : α → Prop} (h1 : c → QT x P) (h2 : ¬ c → QT y P) : QT (@_root_.ite (Option α) c i x y) P := by
  by_cases h : c
  · rw [if_pos h]; exact h1 h
  · rw [if_neg h]; exact h2 h
theorem QT.grd {α : Type} {c : Prop} {i : Decidable c} {x : Option α} {P : α → Prop} (h : c → QT x P) : QT (@_root_.ite (Option α) c i x Option.none) P := QT.ite h (fun _ => QT.none)
theorem QT.ilt {α : Type} {a b : Int32} {i : Decidable (a < b)} {x y : Option α} {P : α → Prop} (h1 : a.toInt < b.toInt → QT x P) (h2 : b.toInt ≤ a.toInt → QT y P) : QT (@_root_.ite (Option α) (a < b) i x y) P := QT.ite (fun h => h1 (il_lt h)) (fun h => h2 (il_nlt h))
theorem QT.ile {α : Type} {a b : Int32} {i : Decidable (a ≤ b)} {x y : Option α} {P : α → Prop} (h1 : a.toInt ≤ b.toInt → QT x P) (h2 : b.toInt < a.toInt → QT y P) : QT (@_root_.ite (Option α) (a ≤ b) i x y) P := QT.ite (fun h => h1 (il_le h)) (fun h => h2 (il_nle h))
theorem QT.ieq {α : Type} {a b : Int32} {i : Decidable (a = b)} {x y : Option α} {P : α → Prop} (h1 : a.toInt = b.toInt → QT x P) (h2 : ¬ a.toInt = b.toInt → QT y P) : QT (@_root_.ite (Option α) (a = b) i x y) P := QT.ite (fun h => h1 (il_eq h)) (fun h => h2 (il_ne h))
theorem QT.bnd {α β : Type} {o : Option α} {f : α → Option β} {Q : α → Prop} {P : β → Prop} (h : QT o Q) (k : ∀ q, Q q → QT (f q) P) : QT (o.bind f) P := by
  cases o with
  | none => exact QT.none
  | some x => exact k x (h x rfl)
theorem QT.lt {α β : Type} {e : α} {f : α → Option β} {P : β → Prop} (k : ∀ z, z = e → QT (f z) P) : QT ((some e).bind f) P := k e rfl
theorem QT.bndR {α β : Type} {o : Option (α × ST)} {f : α × ST → Option β} {s : ST} {Q : α → Prop} {P : β → Prop} (h : OK o (RO s Q)) (k : ∀ v, Q v → QT (f (v, s)) P) : QT (o.bind f) P := by
  obtain ⟨⟨v, t⟩, e, e2, hq⟩ := h
  have e2 : t = s := e2
  subst e2
  rw [e]
  exact k v hq
theorem OK.qt {α : Type} {o : Option α} {P Q : α → Prop} (h : OK o P) (k : QT o Q) : OK o (fun q => P q ∧ Q q) := by
  obtain ⟨q, e, hq⟩ := h
  exact ⟨q, e, hq, k q e⟩
theorem sh12 : ∀ (k : Nat), k < 12 → ∀ a : Int64, (a <<< ((5 * Int32.ofNat k).toInt64 &&& 63)).toBitVec = a.toBitVec <<< (5 * k)
  | 0, _, _ => rfl
  | 1, _, _ => rfl
  | 2, _, _ => rfl
  | 3, _, _ => rfl
  | 4, _, _ => rfl
  | 5, _, _ => rfl
  | 6, _, _ => rfl
  | 7, _, _ => rfl
  | 8, _, _ => rfl
  | 9, _, _ => rfl
  | 10, _, _ => rfl
  | 11, _, _ => rfl
  | k + 12, h, _ => by omega
theorem or12 {x a z : Int64} {X A k : Nat} (hx : x.toInt = (X : Int)) (ha : a.toInt = (A : Int)) (hA : A ≤ 26) (hk : k < 12) (hX : X < 32 ^ k) (hz : z.toBitVec = a.toBitVec <<< (5 * k)) : (x ||| z).toInt = ((X + A * 32 ^ k : Nat) : Int) := by
  have e32 : (32 : Nat) ^ k = 2 ^ (5 * k) := by rw [Nat.pow_mul]
  rw [e32] at hX ⊢
  have p1 : 2 ^ (5 * k) ≤ 2 ^ 55 := Nat.pow_le_pow_right (by omega) (by omega)
  have p2 : (2 : Nat) ^ 55 = 36028797018963968 := by decide
  have e1 := nat64 hx
  have e2 := nat64 ha
  have hm : A * 2 ^ (5 * k) ≤ 26 * 36028797018963968 := by
    rw [← p2]
    exact Nat.mul_le_mul hA p1
  have e3 : (x ||| z).toBitVec.toNat = X + A * 2 ^ (5 * k) := by
    show (x.toBitVec ||| z.toBitVec).toNat = _
    rw [hz, BitVec.toNat_or, BitVec.toNat_shiftLeft, e1, e2, Nat.shiftLeft_eq]
    have : A * 2 ^ (5 * k) % 2 ^ 64 = A * 2 ^ (5 * k) := Nat.mod_eq_of_lt (by omega)
    rw [this, Nat.or_comm, Nat.mul_comm A, ← Nat.two_pow_add_eq_or_of_lt hX, Nat.add_comm]
  show (x ||| z).toBitVec.toInt = _
  rw [BitVec.toInt_eq_toNat_of_lt (by rw [e3]; omega), e3]
theorem w5_n12 {T : Nat → Int32} {n : Int} {s : Nat} (hT8 : ∀ i, bI (T i) (-128) 127) : ∀ m, m ≤ 12 → (∀ i, i < m → isL (bt T n (s + i))) → (w5 T s m).toInt = (n5 m (gT T s) : Int) := by
  intro m
  induction m with
  | zero => intro _ _; rfl
  | succ m ih =>
    intro hm hL
    have e := ih (by omega) (fun i hi => hL i (by omega))
    obtain ⟨g1, g2⟩ := gT_L hL
    have b1 := g1 m (by omega)
    have b2 := g2 m (by omega)
    obtain ⟨t1, t2⟩ := hT8 (s + m)
    have l1 := li_1
    have l97 := li_97
    have a1 := il_subE (x := T (s + m)) (y := 97) (by omega) (by omega)
    have a2 := il_addE (x := T (s + m) - 97) (y := 1) (by omega) (by omega)
    rw [n5_last]
    exact or12 (k := m) e (by rw [i64, a2, a1]; omega) b1.2 (by omega) (n5_lt m _ (fun i hi => g1 i (by omega))) (sh12 m (by omega) _)
theorem w27_n12 {T : Nat → Int32} {n : Int} {s : Nat} : ∀ m, m ≤ 12 → (∀ i, i < m → isL (bt T n (s + i))) → (w27 T s m).toInt = (n27 (gT T s) m : Int) := by
  intro m
  induction m with
  | zero => intro _ _; rfl
  | succ m ih =>
    intro hm hL
    have e := ih (by omega) (fun i hi => hL i (by omega))
    obtain ⟨g1, g2⟩ := gT_L hL
    have b1 := g1 m (by omega)
    have b2 := g2 m (by omega)
    have hl := n27_lt m (gT T s) (fun i hi => g1 i (by omega))
    have p1 : (27 : Nat) ^ m ≤ 27 ^ 11 := Nat.pow_le_pow_right (by omega) (by omega)
    have p2 : (27 : Nat) ^ 11 = 5559060566555523 := by decide
    rw [p2] at p1
    have l27 : (27 : Int64).toInt = 27 := by decide
    have l96 : (96 : Int64).toInt = 96 := by decide
    have c1 : (27 * w27 T s m).toInt = 27 * (n27 (gT T s) m : Int) := by
      rw [Int64.toInt_mul, l27, e]
      exact Int.bmod_eq_of_le (by omega) (by omega)
    have c2 : (27 * w27 T s m + (T (s + m) &&& 255).toInt64).toInt = 27 * (n27 (gT T s) m : Int) + ((gT T s m : Int) + 96) := by
      rw [Int64.toInt_add, c1, i64, and255, b2]
      exact Int.bmod_eq_of_le (by omega) (by omega)
    show (27 * w27 T s m + (T (s + m) &&& 255).toInt64 - 96).toInt = ((27 * n27 (gT T s) m + gT T s m : Nat) : Int)
    rw [Int64.toInt_sub, c2, l96]
    rw [Int.bmod_eq_of_le (by omega) (by omega)]
    omega
/-- a text's letters, both ways, counted -/
def WLT (x y : Int64) (n : Int32) : Prop := ∃ (m : Nat) (g : Nat → Nat), m ≤ 12 ∧ GL g m ∧ x.toInt = (n5 m g : Int) ∧ y.toInt = (n27 g m : Int) ∧ n.toInt = m
/-- the class's token -/
def TWA (T : Nat → Int32) (n : Int) (s : Nat) (t : ST) : Prop := ((t.1 2 4).toInt = 5 → ∃ m, RUN isL T n (s + 1) m ∧ m ≤ 12 ∧ t.2.1 2 7 = w5 T (s + 1) m) ∧ ((t.1 2 4).toInt = 4 → ((t.1 2 9).toInt = 1 ∧ bt T n s = 45 ∨ (t.1 2 9).toInt = 0 ∧ ¬ bt T n s = 45) ∧ ((t.1 2 10).toInt = 1 → 1 ≤ (t.1 2 3).toInt ∧ isD (bt T n ((t.1 2 3).toNatClampNeg - 1)) ∧ (t.1 2 11).toInt = bt T n ((t.1 2 3).toNatClampNeg - 1) - 48) ∧ ((t.1 2 10).toInt = 0 → t.1 2 11 = 0))
theorem pa_scanLettered (σ : ST) (s : Nat) (hT8 : ∀ i, bI (σ.1 1 i) (-128) 127) (h5 : (σ.1 2 5).toInt = s) (hs : s < 1000) (hn2 : bI (σ.1 2 2) 0 1000) : QT (f_X6_scanLettered σ) (fun t => TWA (σ.1 1) (σ.1 2 2).toInt s t) := by
  unfold f_X6_scanLettered f_X6_scanLettered_38
  have l1 := li_1
  have l12 := li_12
  have l4 := li_4
  have l5 := li_5
  have e1 := il_addE (x := σ.1 2 5) (y := 1) (by omega) (by omega)
  have bad : ∀ z : ST, TWA (σ.1 1) (σ.1 2 2).toInt s (stI z 2 4 1) := fun z => by
    have e : (stI z 2 4 1).1 2 4 = 1 := rfl
    exact ⟨fun h => by rw [e] at h; omega, fun h => by rw [e] at h; omega⟩
  refine QT.bnd (QT.ok (a_takeLetters (σ.1 2 5 + 1) 12 σ (s + 1) hT8 (by omega) (by omega) (by omega) hn2)) (fun q hq => ?_)
  obtain ⟨⟨e0, ca⟩, hq⟩ := hq
  have e25 : q.2.1 2 5 = σ.1 2 5 := by rw [e0]
  refine QT.ilt (fun _ => QT.ret (bad _)) (fun h12 => ?_)
  rcases hq with ⟨m, m1, m2, m3, m4⟩ | ⟨_, m3⟩
  rotate_left
  · omega
  have e6 := il_addE (x := σ.1 2 5 + 1) (y := q.1) (by omega) (by omega)
  rw [e25]
  refine QT.bndR (a_signAt (σ.1 2 5 + 1 + q.1) q.2 (by omega) (by rw [e0]; exact hn2)) (fun v _ => ?_)
  dsimp only
  refine QT.ieq (fun _ => QT.ret ?_) (fun _ => QT.ret (bad _))
  refine ⟨fun _ => ⟨m, m1, by omega, m4⟩, fun h => ?_⟩
  have e : (stI (stI q.2 2 4 5) 2 3 (σ.1 2 5 + 1 + q.1 + 1)).1 2 4 = 5 := rfl
  rw [e] at h
  omega
theorem stL_at' {σ : ST} {c i : Nat} {v : Int64} : (stL σ c i v).2.1 c i = v := by
  show (bif Nat.beq c c then vp_updL (σ.2.1 c) i v else σ.2.1 c) i = v
  rw [Nat.beq_refl]
  exact updL_at
theorem stD_at {σ : ST} {c i : Nat} {v : UInt64} : (stD σ c i v).2.2.1 c i = v := by
  show (bif Nat.beq c c then (fun j => if j = i then v else σ.2.2.1 c j) else σ.2.2.1 c) i = v
  rw [Nat.beq_refl]
  show (if i = i then v else _) = v
  rw [if_pos rfl]
/-- where a number's token ends -/
def TWN (T : Nat → Int32) (n : Int) (t : ST) : Prop := ((t.1 2 4).toInt = 1 ∨ (t.1 2 4).toInt = 4) ∧ ((t.1 2 4).toInt = 4 → ((t.1 2 10).toInt = 1 → 1 ≤ (t.1 2 3).toInt ∧ isD (bt T n ((t.1 2 3).toNatClampNeg - 1)) ∧ (t.1 2 11).toInt = bt T n ((t.1 2 3).toNatClampNeg - 1) - 48) ∧ ((t.1 2 10).toInt = 0 → t.1 2 11 = 0))
theorem pa_scanNumber_119 (x1 x2 : Int32) (σ : ST) (h1 : 0 ≤ x1.toInt ∧ x1.toInt ≤ 2000) (hn2 : bI (σ.1 2 2) 0 1000) (h4 : (σ.1 2 4).toInt = 1) (h10 : (σ.1 2 10).toInt = 0) (h11 : σ.1 2 11 = 0) : QT (f_X6_scanNumber_119 x1 x2 σ) (fun t => TWN (σ.1 1) (σ.1 2 2).toInt t ∧ t.1 2 9 = σ.1 2 9) := by
  unfold f_X6_scanNumber_119 f_X6_scanNumber_189
  have l0 := li_0
  have l1 := li_1
  have l4 := li_4
  have l48 := li_48
  have l2 := li_2
  have e1 := il_addE (x := x1) (y := 1) (by omega) (by omega)
  have e2 := il_addE (x := x1) (y := 2) (by omega) (by omega)
  have bad : TWN (σ.1 1) (σ.1 2 2).toInt σ ∧ σ.1 2 9 = σ.1 2 9 := ⟨⟨.inl h4, fun h => by omega⟩, rfl⟩
  refine QT.ite (fun _ => QT.ret bad) (fun _ => ?_)
  refine QT.ite (fun _ => ?_) (fun _ => QT.ret bad)
  refine QT.bndR (a_signAt x1 σ h1.1 hn2) (fun v _ => ?_)
  dsimp only
  refine QT.ite (fun _ => ?_) (fun _ => QT.ret ⟨⟨.inr l4, fun _ => ⟨fun h => ?_, fun _ => h11⟩⟩, rfl⟩)
  rotate_left
  · have h : (σ.1 2 10).toInt = 1 := h
    omega
  refine QT.bndR (a_signAt (x1 + 1) σ (by omega) hn2) (fun w hw => ?_)
  dsimp only
  refine QT.bndR (a_isDigit w σ) (fun d hd => ?_)
  dsimp only
  refine QT.ieq (fun _ => QT.ret bad) (fun hd0 => ?_)
  refine QT.bndR (a_signAt (x1 + 2) σ (by omega) hn2) (fun w2 _ => ?_)
  dsimp only
  refine QT.bndR (a_isDigit w2 σ) (fun d2 _ => ?_)
  dsimp only
  refine QT.ieq (fun _ => ?_) (fun _ => QT.ret bad)
  refine QT.bndR (a_signAt (x1 + 1) (stI σ 2 10 1) (by omega) hn2) (fun u hu => ?_)
  dsimp only
  have hD : isD w.toInt := by
    rcases hd with hd | hd
    · omega
    · exact hd.2
  have n1 : (x1 + 1).toNatClampNeg = (x1 + 2).toNatClampNeg - 1 := by
    have a := nN_ (x := x1 + 1) (by omega)
    have b := nN_ (x := x1 + 2) (by omega)
    omega
  have hw1 := hw.1
  have hu1 : u.toInt = sg (σ.1 1) (σ.1 2 2).toInt (x1 + 1).toNatClampNeg := hu.1
  rw [hw1, sgD] at hD
  have hsg := sg_eq (T := σ.1 1) (n := (σ.1 2 2).toInt) (k := (x1 + 1).toNatClampNeg)
  have hD2 := hD
  unfold isD at hD2
  refine QT.ret ⟨⟨.inr l4, fun _ => ⟨fun _ => ⟨?_, ?_, ?_⟩, fun h => ?_⟩⟩, rfl⟩
  · show 1 ≤ (x1 + 2).toInt
    omega
  · show isD (bt (σ.1 1) (σ.1 2 2).toInt ((x1 + 2).toNatClampNeg - 1))
    rw [← n1]
    exact hD
  · show (u - 48).toInt = bt (σ.1 1) (σ.1 2 2).toInt ((x1 + 2).toNatClampNeg - 1) - 48
    rw [← n1, il_subE (by omega) (by omega)]
    omega
  · have h : (1 : Int32).toInt = 0 := h
    omega
theorem pa_scanNumber_65 (T : Nat → Int32) (n : Int) (i : Nat) (hi : i ≤ 1001) : ∀ (f m : Nat) (x1 x2 : Int32) (σ : ST), σ.1 1 = T → (σ.1 2 2).toInt = n → bI (σ.1 2 2) 0 1000 → x1.toInt = i + m → x2.toInt = m → m ≤ 19 → (σ.1 2 4).toInt = 1 → (σ.1 2 10).toInt = 0 → σ.1 2 11 = 0 → QT (f_X6_scanNumber_65 f x1 x2 σ) (fun t => TWN T n t ∧ t.1 2 9 = σ.1 2 9) := by
  intro f
  have l1 := li_1
  have l18 := li_18
  induction f with
  | zero => intro m x1 x2 σ _ _ _ _ _ _ _ _ _; exact QT.none
  | succ f ih =>
    intro m x1 x2 σ hT hn hn2 h1 h2 hm h4 h10 h11
    rw [f_X6_scanNumber_65]
    unfold f_X6_scanNumber_110
    have e1 := il_addE (x := x1) (y := 1) (by omega) (by omega)
    have e2 := il_addE (x := x2) (y := 1) (by omega) (by omega)
    have fin := pa_scanNumber_119 x1 x2 σ ⟨by omega, by omega⟩ hn2 h4 h10 h11
    rw [hT, hn] at fin
    refine QT.ilt (fun _ => fin) (fun _ => ?_)
    refine QT.bndR (a_signAt x1 σ (by omega) hn2) (fun v _ => ?_)
    dsimp only
    refine QT.bndR (a_isDigit v σ) (fun d _ => ?_)
    dsimp only
    refine QT.ite (fun _ => fin) (fun _ => ?_)
    refine QT.ite (fun _ => ih (m + 1) (x1 + 1) (x2 + 1) σ hT hn hn2 (by omega) (by omega) (by omega) h4 h10 h11) (fun _ => ?_)
    refine QT.bndR (a_signAt x1 σ (by omega) hn2) (fun w _ => ?_)
    exact ih (m + 1) (x1 + 1) (x2 + 1) _ hT hn hn2 (by omega) (by omega) (by omega) h4 h10 h11
theorem pa_scanNumber (σ : ST) (s : Nat) (h5 : (σ.1 2 5).toInt = s) (hs : s < 1000) (hn2 : bI (σ.1 2 2) 0 1000) : QT (f_X6_scanNumber σ) (fun t => TWA (σ.1 1) (σ.1 2 2).toInt s t) := by
  unfold f_X6_scanNumber
  have l0 := li_0
  have l1 := li_1
  have l45 := li_45
  have l5 := li_5
  have e1 := il_addE (x := σ.1 2 5) (y := 1) (by omega) (by omega)
  have ns : (σ.1 2 5).toNatClampNeg = s := nC h5
  refine QT.bndR (a_signAt (σ.1 2 5) σ (by omega) hn2) (fun v hv => ?_)
  dsimp only
  rw [ns] at hv
  have hv1 := hv.1
  have hsg := sg_eq (T := σ.1 1) (n := (σ.1 2 2).toInt) (k := s)
  have run : ∀ y0 : Int32, (y0.toInt = 1 ∧ bt (σ.1 1) (σ.1 2 2).toInt s = 45 ∨ y0.toInt = 0 ∧ ¬ bt (σ.1 1) (σ.1 2 2).toInt s = 45) → QT (f_X6_scanNumber_19 y0 σ) (fun t => TWA (σ.1 1) (σ.1 2 2).toInt s t) := fun y0 hy => by
    unfold f_X6_scanNumber_19 f_X6_scanNumber_62
    refine QT.grd (fun _ => ?_)
    have fin : ∀ t : ST, TWN (σ.1 1) (σ.1 2 2).toInt t ∧ t.1 2 9 = y0 → TWA (σ.1 1) (σ.1 2 2).toInt s t := fun t ht => by
      obtain ⟨⟨t1, t2⟩, t3⟩ := ht
      refine ⟨fun h => by omega, fun h => ⟨by rw [t3]; exact hy, t2 h⟩⟩
    refine QT.ite (fun _ => ?_) (fun _ => ?_)
    · refine (pa_scanNumber_65 (σ.1 1) (σ.1 2 2).toInt s (by omega) FU 0 (σ.1 2 5) 0 (stI (stL (stI (stI (stI σ 2 9 y0) 2 10 0) 2 11 0) 2 8 0) 2 4 1) rfl rfl hn2 (by omega) l0 (by omega) l1 l0 rfl).mono (fun t ht => fin t ht)
    · refine (pa_scanNumber_65 (σ.1 1) (σ.1 2 2).toInt (s + 1) (by omega) FU 0 (σ.1 2 5 + 1) 0 (stI (stL (stI (stI (stI σ 2 9 y0) 2 10 0) 2 11 0) 2 8 0) 2 4 1) rfl rfl hn2 (by omega) l0 (by omega) l1 l0 rfl).mono (fun t ht => fin t ht)
  exact QT.ieq (fun _ => run 1 (.inl ⟨l1, by omega⟩)) (fun _ => run 0 (.inr ⟨l0, by omega⟩))
theorem TWA.no {T : Nat → Int32} {n : Int} {s : Nat} {t : ST} (h4 : ¬ (t.1 2 4).toInt = 4) (h5 : ¬ (t.1 2 4).toInt = 5) : TWA T n s t := ⟨fun h => absurd h h5, fun h => absurd h h4⟩
theorem pa_advance_50 (σ : ST) (s : Nat) (hT8 : ∀ i, bI (σ.1 1 i) (-128) 127) (h3 : (σ.1 2 3).toInt = s) (hn2 : bI (σ.1 2 2) 0 1000) : QT (f_X6_advance_50 σ) (fun t => TWA (σ.1 1) (σ.1 2 2).toInt s t ∧ (t.1 2 5).toInt = s) := by
  unfold f_X6_advance_50 f_X6_advance_113 f_X6_advance_169
  have l0 := li_0
  have l1 := li_1
  have hn2' := hn2
  obtain ⟨n1, n2⟩ := hn2'
  have e5 : (stI σ 2 5 (σ.1 2 3)).1 2 5 = σ.1 2 3 := rfl
  have c1 : (stI σ 2 5 (σ.1 2 3)).1 1 = σ.1 1 := rfl
  have c2 : (stI σ 2 5 (σ.1 2 3)).1 2 2 = σ.1 2 2 := rfl
  rw [e5]
  generalize stI σ 2 5 (σ.1 2 3) = z at e5 c1 c2 ⊢
  have z5 : (z.1 2 5).toInt = s := by rw [e5]; exact h3
  have hz2 : bI (z.1 2 2) 0 1000 := by rw [c2]; exact hn2
  refine QT.bndR (a_signAt (σ.1 2 3) z (by omega) hz2) (fun v hv => ?_)
  dsimp only
  refine QT.ilt (fun hlt => ?_) (fun _ => QT.ret ⟨TWA.no (by rw [show (stI z 2 4 0).1 2 4 = 0 from rfl]; omega) (by rw [show (stI z 2 4 0).1 2 4 = 0 from rfl]; omega), z5⟩)
  have hs : s < 1000 := by
    rw [c2] at hlt
    omega
  have num : QT ((f_X6_scanNumber z).bind fun q1 => some q1) (fun t => TWA (σ.1 1) (σ.1 2 2).toInt s t ∧ (t.1 2 5).toInt = s) := by
    refine QT.bnd (Q := fun t => TWA (σ.1 1) (σ.1 2 2).toInt s t ∧ (t.1 2 5).toInt = s) (fun q e => ⟨?_, ?_⟩) (fun q hq => QT.ret hq)
    · have := pa_scanNumber z s z5 hs hz2 q e
      rw [c1, c2] at this
      exact this
    · have := QT.ok (a_scanNumber z s z5 hs hz2) q e
      rw [this.2.1]
      exact z5
  have sgn : ∀ c : Int32, ¬ c.toInt = 4 → ¬ c.toInt = 5 → QT (some (stI (stI z 2 4 c) 2 3 (((stI z 2 4 c).1 2 5) + 1))) (fun t => TWA (σ.1 1) (σ.1 2 2).toInt s t ∧ (t.1 2 5).toInt = s) := fun c h4 h5 => QT.ret ⟨TWA.no h4 h5, z5⟩
  refine QT.bndR (a_isLetter v z) (fun d _ => ?_)
  dsimp only
  refine QT.ite (fun _ => ?_) (fun _ => ?_)
  · refine QT.ite (fun _ => num) (fun _ => ?_)
    refine QT.bndR (a_isDigit v z) (fun d2 _ => ?_)
    dsimp only
    refine QT.ite (fun _ => ?_) (fun _ => num)
    refine QT.ite (fun _ => ?_) (fun _ => ?_)
    · refine QT.bnd (Q := fun t => TWA (σ.1 1) (σ.1 2 2).toInt s t ∧ (t.1 2 5).toInt = s) (fun q e => ⟨?_, ?_⟩) (fun q hq => QT.ret hq)
      · have := pa_scanLettered z s (by rw [c1]; exact hT8) z5 hs hz2 q e
        rw [c1, c2] at this
        exact this
      · have := QT.ok (a_scanLettered z s (by rw [c1]; exact hT8) z5 hs hz2) q e
        rw [this.2.1]
        exact z5
    have l123 := li_123
    have l125 := li_125
    have l91 := li_91
    have l93 := li_93
    have l44 := li_44
    have l59 := li_59
    refine QT.ieq (fun _ => sgn v (by omega) (by omega)) (fun _ => ?_)
    refine QT.ieq (fun _ => sgn v (by omega) (by omega)) (fun _ => ?_)
    refine QT.ieq (fun _ => sgn v (by omega) (by omega)) (fun _ => ?_)
    refine QT.ieq (fun _ => sgn v (by omega) (by omega)) (fun _ => ?_)
    refine QT.ieq (fun _ => sgn v (by omega) (by omega)) (fun _ => ?_)
    refine QT.ieq (fun _ => sgn v (by omega) (by omega)) (fun _ => ?_)
    exact QT.ret ⟨TWA.no (by rw [show (stI z 2 4 1).1 2 4 = 1 from rfl]; omega) (by rw [show (stI z 2 4 1).1 2 4 = 1 from rfl]; omega), z5⟩
  · refine QT.bnd (QT.ok (a_scanWord z s (by rw [c1]; exact hT8) z5 (by omega) hz2)) (fun q hq => QT.ret ?_)
    obtain ⟨_, q5, hq⟩ := hq
    have h4 : (q.1 2 4).toInt = 2 ∨ (q.1 2 4).toInt = 3 ∨ (q.1 2 4).toInt = 1 := by
      rcases hq with ⟨m, _, _, _, _, h | h⟩ | h
      · exact .inl h.1
      · exact .inr (.inl h.1)
      · exact .inr (.inr h.2)
    exact ⟨TWA.no (by omega) (by omega), by rw [q5]; exact z5⟩
theorem pa_advance_0 : ∀ (f k : Nat) (σ : ST), (∀ i, bI (σ.1 1 i) (-128) 127) → bI (σ.1 2 2) 0 1000 → (σ.1 2 3).toInt = k → k ≤ 1100 → QT (f_X6_advance_0 f σ) (fun t => ∃ s : Nat, TWA (σ.1 1) (σ.1 2 2).toInt s t ∧ (t.1 2 5).toInt = s) := by
  intro f
  have l1 := li_1
  induction f with
  | zero => intro k σ _ _ _ _; exact QT.none
  | succ f ih =>
    intro k σ hT8 hn2 h3 hk
    rw [f_X6_advance_0]
    unfold f_X6_advance_37
    have hn2' := hn2
    obtain ⟨n1, n2⟩ := hn2'
    have fin : QT (f_X6_advance_50 σ) (fun t => ∃ s : Nat, TWA (σ.1 1) (σ.1 2 2).toInt s t ∧ (t.1 2 5).toInt = s) := (pa_advance_50 σ k hT8 h3 hn2).mono (fun t ht => ⟨k, ht⟩)
    refine QT.ile (fun _ => fin) (fun hlt => ?_)
    have e3 := il_addE (x := σ.1 2 3) (y := 1) (by omega) (by omega)
    have nx : QT (f_X6_advance_0 f (stI σ 2 3 (σ.1 2 3 + 1))) (fun t => ∃ s : Nat, TWA (σ.1 1) (σ.1 2 2).toInt s t ∧ (t.1 2 5).toInt = s) := ih (k + 1) (stI σ 2 3 (σ.1 2 3 + 1)) hT8 hn2 (by show (σ.1 2 3 + 1).toInt = _; omega) (by omega)
    refine QT.bndR (a_signAt (σ.1 2 3) σ (by omega) hn2) (fun v _ => ?_)
    dsimp only
    refine QT.ite (fun _ => nx) (fun _ => ?_)
    refine QT.bndR (a_signAt (σ.1 2 3) σ (by omega) hn2) (fun w _ => ?_)
    dsimp only
    exact QT.ite (fun _ => nx) (fun _ => fin)
theorem pa_advance (σ : ST) (k : Nat) (hT8 : ∀ i, bI (σ.1 1 i) (-128) 127) (hn2 : bI (σ.1 2 2) 0 1000) (h3 : (σ.1 2 3).toInt = k) (hk : k ≤ 1100) : QT (f_X6_advance σ) (fun t => ∃ s : Nat, TWA (σ.1 1) (σ.1 2 2).toInt s t ∧ (t.1 2 5).toInt = s) := pa_advance_0 FU k σ hT8 hn2 h3 hk
/-- the reference's token -/
def TWB (T : Nat → Int32) (n : Int) (s : Nat) (t : ST) : Prop := ((t.1 0 6).toInt = 3 → ∃ m, RUN isL T n (s + 1) m ∧ m ≤ 12 ∧ (t.1 0 8).toInt = m ∧ t.2.1 0 7 = w27 T (s + 1) m) ∧ ((t.1 0 6).toInt = 2 → (t.1 0 10).toInt = 1 → ∃ (W : Int64) (d : Int32), d.toInt = bt T n ((t.1 0 5).toNatClampNeg - 1) - 48 ∧ (bt T n s = 45 ∧ t.2.1 0 9 = -W ∧ t.2.2.1 0 11 = FP.dneg (DEC W d) ∨ ¬ bt T n s = 45 ∧ t.2.1 0 9 = W ∧ t.2.2.1 0 11 = DEC W d))
theorem TWB.no {T : Nat → Int32} {n : Int} {s : Nat} {t : ST} (h2 : ¬ (t.1 0 6).toInt = 2) (h3 : ¬ (t.1 0 6).toInt = 3) : TWB T n s t := ⟨fun h => absurd h h3, fun h => absurd h h2⟩
theorem kb_byteAt (p : Int32) (σ : ST) : QT (f_X11_byteAt p σ) (fun q => q.2 = σ) := by
  unfold f_X11_byteAt
  refine QT.ite (fun _ => ?_) (fun _ => ?_)
  · first | exact QT.ret rfl | exact QT.grd (fun _ => QT.ret rfl)
  · first | exact QT.ret rfl | exact QT.grd (fun _ => QT.ret rfl)
theorem pb_262 (x1 x3 : Int32) (σ : ST) : QT (f_X11_number_262 x1 x3 σ) (fun t => t.2.2.1 = σ.2.2.1 ∧ t.1 0 5 = σ.1 0 5 ∧ t.1 0 10 = σ.1 0 10 ∧ t.2.1 0 9 = (if x1 = 0 then σ.2.1 0 9 else -(σ.2.1 0 9)) ∧ ((t.1 0 6).toInt = 2 ∨ (t.1 0 6).toInt = 5)) := by
  unfold f_X11_number_262 f_X11_number_279 f_X11_number_292
  have l2 := li_2
  have l5 := li_5
  refine QT.ite (fun h => ?_) (fun h => ?_)
  · rw [if_pos h]
    exact QT.ite (fun _ => QT.ret ⟨rfl, rfl, rfl, stL_at', .inr l5⟩) (fun _ => QT.ret ⟨rfl, rfl, rfl, stL_at', .inl l2⟩)
  · rw [if_neg h]
    exact QT.ite (fun _ => QT.ret ⟨rfl, rfl, rfl, stL_at', .inr l5⟩) (fun _ => QT.ret ⟨rfl, rfl, rfl, stL_at', .inl l2⟩)
theorem pb_225 (x1 x3 : Int32) (y0 : UInt64) (σ : ST) : QT (f_X11_number_225 x1 x3 y0 σ) (fun t => t.2.2.1 0 11 = y0 ∧ t.1 0 5 = σ.1 0 5 + 2 ∧ t.1 0 10 = σ.1 0 10 ∧ t.2.1 0 9 = (if x1 = 0 then σ.2.1 0 9 else -(σ.2.1 0 9)) ∧ ((t.1 0 6).toInt = 2 ∨ (t.1 0 6).toInt = 5)) := by
  unfold f_X11_number_225 f_X11_number_260 f_X11_number_261
  have d1 : (stI (stD σ 0 11 y0) 0 5 (((stD σ 0 11 y0).1 0 5) + 2)).2.2.1 0 11 = y0 := stD_at
  have d2 : (stI (stD σ 0 11 y0) 0 5 (((stD σ 0 11 y0).1 0 5) + 2)).1 0 5 = σ.1 0 5 + 2 := rfl
  have d3 : (stI (stD σ 0 11 y0) 0 5 (((stD σ 0 11 y0).1 0 5) + 2)).1 0 10 = σ.1 0 10 := rfl
  have d4 : (stI (stD σ 0 11 y0) 0 5 (((stD σ 0 11 y0).1 0 5) + 2)).2.1 = σ.2.1 := rfl
  generalize stI (stD σ 0 11 y0) 0 5 (((stD σ 0 11 y0).1 0 5) + 2) = z at d1 d2 d3 d4 ⊢
  have run : ∀ x : Int32, QT (f_X11_number_262 x1 x z) (fun t => t.2.2.1 0 11 = y0 ∧ t.1 0 5 = σ.1 0 5 + 2 ∧ t.1 0 10 = σ.1 0 10 ∧ t.2.1 0 9 = (if x1 = 0 then σ.2.1 0 9 else -(σ.2.1 0 9)) ∧ ((t.1 0 6).toInt = 2 ∨ (t.1 0 6).toInt = 5)) := fun x => (pb_262 x1 x z).mono (fun t ht => by
    obtain ⟨t1, t2, t3, t4, t5⟩ := ht
    rw [t1, t2, t3, t4, d4]
    exact ⟨d1, d2, d3, rfl, t5⟩)
  refine QT.ite (fun _ => run 0) (fun _ => ?_)
  have hb : QT (f_X11_byteAt (z.1 0 5) z) (fun q => q.2 = z) := by
    exact kb_byteAt _ _
  refine QT.bnd hb (fun q hq => ?_)
  rw [hq]
  refine QT.bndR (b_isDigit _ z) (fun d _ => ?_)
  dsimp only
  exact QT.ite (fun _ => run 1) (fun _ => run 0)
theorem pb_170 (T : Nat → Int32) (n : Int) (x1 x3 y0 : Int32) (σ : ST) (hT : σ.1 1 = T) (hn : (σ.1 0 3).toInt = n) (hn2 : bI (σ.1 0 3) 0 1000) (h5 : 0 ≤ (σ.1 0 5).toInt ∧ (σ.1 0 5).toInt ≤ 2000) : QT (f_X11_number_170 x1 x3 y0 σ) (fun t => ((t.1 0 6).toInt = 2 ∨ (t.1 0 6).toInt = 5) ∧ ((t.1 0 10).toInt = 1 → ∃ (W : Int64) (d : Int32), d.toInt = bt T n ((t.1 0 5).toNatClampNeg - 1) - 48 ∧ (¬ x1 = 0 ∧ t.2.1 0 9 = -W ∧ t.2.2.1 0 11 = FP.dneg (DEC W d) ∨ x1 = 0 ∧ t.2.1 0 9 = W ∧ t.2.2.1 0 11 = DEC W d))) := by
  unfold f_X11_number_170
  have l0 := li_0
  have l1 := li_1
  have l2 := li_2
  have l48 := li_48
  refine QT.grd (fun hy => ?_)
  have e10 : (stI σ 0 10 y0).1 0 10 = y0 := rfl
  have e5 : (stI σ 0 10 y0).1 0 5 = σ.1 0 5 := rfl
  have c1 : (stI σ 0 10 y0).1 1 = T := hT
  have c3 : (stI σ 0 10 y0).1 0 3 = σ.1 0 3 := rfl
  generalize stI σ 0 10 y0 = z at e10 e5 c1 c3 ⊢
  have hz3 : bI (z.1 0 3) 0 1000 := by rw [c3]; exact hn2
  refine QT.ieq (fun hz0 => ?_) (fun hz0 => ?_)
  · refine (pb_262 x1 x3 z).mono (fun t ht => ⟨ht.2.2.2.2, fun h => ?_⟩)
    rw [ht.2.2.1] at h
    omega
  have a1 := il_addE (x := z.1 0 5) (y := 1) (by rw [e5]; omega) (by rw [e5]; omega)
  have a2 := il_addE (x := z.1 0 5) (y := 2) (by rw [e5]; omega) (by rw [e5]; omega)
  rw [e5] at a1 a2
  refine QT.bndR (b_byteAt (z.1 0 5 + 1) z (by rw [e5]; omega) hz3) (fun v hv => ?_)
  dsimp only
  refine QT.grd (fun _ => ?_)
  refine QT.grd (fun _ => ?_)
  refine QT.lt (fun w hw => ?_)
  have w11 : w.2.2.1 0 11 = DEC (z.2.1 0 9) (v - 48) := by
    rw [hw]
    exact stD_at
  have w9 : w.2.1 0 9 = z.2.1 0 9 := by rw [hw]; rfl
  have w5' : w.1 0 5 = z.1 0 5 := by rw [hw]; rfl
  clear hw
  have hv1 := hv.1
  rw [c1, c3, hn] at hv1
  have hr := bt_rng (T := T) (n := n) (k := (z.1 0 5 + 1).toNatClampNeg)
  have n1 : (z.1 0 5 + 1).toNatClampNeg = (z.1 0 5 + 2).toNatClampNeg - 1 := by
    have a := nN_ (x := z.1 0 5 + 1) (by rw [e5]; omega)
    have b := nN_ (x := z.1 0 5 + 2) (by rw [e5]; omega)
    rw [e5] at a b ⊢
    omega
  have hd : (v - 48).toInt = bt T n ((z.1 0 5 + 2).toNatClampNeg - 1) - 48 := by
    rw [← n1, il_subE (by omega) (by omega), hv1]
    omega
  refine QT.ite (fun hx => ?_) (fun hx => ?_)
  · refine (pb_225 x1 x3 (w.2.2.1 0 11) w).mono (fun t ht => ⟨ht.2.2.2.2, fun _ => ⟨z.2.1 0 9, v - 48, ?_, .inr ⟨hx, ?_, ?_⟩⟩⟩)
    · rw [ht.2.1, w5']
      exact hd
    · rw [ht.2.2.2.1, if_pos hx, w9]
    · rw [ht.1, w11]
  · refine (pb_225 x1 x3 (FP.dneg (w.2.2.1 0 11)) w).mono (fun t ht => ⟨ht.2.2.2.2, fun _ => ⟨z.2.1 0 9, v - 48, ?_, .inl ⟨hx, ?_, ?_⟩⟩⟩)
    · rw [ht.2.1, w5']
      exact hd
    · rw [ht.2.2.2.1, if_neg hx, w9]
    · rw [ht.1, w11]
theorem pb_47 (T : Nat → Int32) (n : Int) (x1 x2 : Int32) : ∀ (f k : Nat) (σ : ST), σ.1 1 = T → (σ.1 0 3).toInt = n → bI (σ.1 0 3) 0 1000 → (σ.1 0 5).toInt = k → k ≤ 1001 → QT (f_X11_number_47 f x1 x2 σ) (fun t => ((t.1 0 6).toInt = 2 ∨ (t.1 0 6).toInt = 5) ∧ ((t.1 0 10).toInt = 1 → ∃ (W : Int64) (d : Int32), d.toInt = bt T n ((t.1 0 5).toNatClampNeg - 1) - 48 ∧ (¬ x1 = 0 ∧ t.2.1 0 9 = -W ∧ t.2.2.1 0 11 = FP.dneg (DEC W d) ∨ x1 = 0 ∧ t.2.1 0 9 = W ∧ t.2.2.1 0 11 = DEC W d))) := by
  intro f
  have l1 := li_1
  induction f with
  | zero => intro k σ _ _ _ _ _; exact QT.none
  | succ f ih =>
    intro k σ hT hn hn2 h5 hk
    rw [f_X11_number_47]
    unfold f_X11_number_102
    have hn2' := hn2
    obtain ⟨n1, n2⟩ := hn2'
    have nk : (σ.1 0 5).toNatClampNeg = k := nC h5
    have e5 := il_addE (x := σ.1 0 5) (y := 1) (by omega) (by omega)
    have fin : ∀ y0 : Int32, QT (f_X11_number_134 x1 y0 σ) (fun t => ((t.1 0 6).toInt = 2 ∨ (t.1 0 6).toInt = 5) ∧ ((t.1 0 10).toInt = 1 → ∃ (W : Int64) (d : Int32), d.toInt = bt T n ((t.1 0 5).toNatClampNeg - 1) - 48 ∧ (¬ x1 = 0 ∧ t.2.1 0 9 = -W ∧ t.2.2.1 0 11 = FP.dneg (DEC W d) ∨ x1 = 0 ∧ t.2.1 0 9 = W ∧ t.2.2.1 0 11 = DEC W d))) := fun y0 => by
      unfold f_X11_number_134 f_X11_number_169
      have r170 := fun y => pb_170 T n x1 y0 y σ hT hn hn2 ⟨by omega, by omega⟩
      refine QT.bndR (b_byteAt (σ.1 0 5) σ (by omega) hn2) (fun v _ => ?_)
      dsimp only
      refine QT.ite (fun _ => ?_) (fun _ => r170 0)
      refine QT.bndR (b_byteAt (σ.1 0 5 + 1) σ (by omega) hn2) (fun v _ => ?_)
      dsimp only
      refine QT.bndR (b_isDigit v σ) (fun d _ => ?_)
      dsimp only
      exact QT.ite (fun _ => r170 0) (fun _ => r170 1)
    refine QT.bndR (b_byteAt (σ.1 0 5) σ (by omega) hn2) (fun v hv => ?_)
    dsimp only
    refine QT.bndR (b_isDigit v σ) (fun d hd => ?_)
    dsimp only
    refine QT.ieq (fun _ => ?_) (fun hd0 => ?_)
    · exact QT.ite (fun _ => fin 0) (fun _ => fin 1)
    have hD : isD (bt T n k) := by
      rcases hd with hd | hd
      · have l0 := li_0
        omega
      · have := hv.1
        rw [hT, hn, nk] at this
        rw [← this]
        exact hd.2
    have hkn : (k : Int) < n := by
      have := (bt_rng (T := T) (n := n) (k := k)).2.2.mp (isD_0 _ hD)
      exact this
    have nx : ∀ y : Int64, QT (f_X11_number_47 f x1 x2 (stI (stL σ 0 9 y) 0 5 (((stL σ 0 9 y).1 0 5) + 1))) (fun t => ((t.1 0 6).toInt = 2 ∨ (t.1 0 6).toInt = 5) ∧ ((t.1 0 10).toInt = 1 → ∃ (W : Int64) (d : Int32), d.toInt = bt T n ((t.1 0 5).toNatClampNeg - 1) - 48 ∧ (¬ x1 = 0 ∧ t.2.1 0 9 = -W ∧ t.2.2.1 0 11 = FP.dneg (DEC W d) ∨ x1 = 0 ∧ t.2.1 0 9 = W ∧ t.2.2.1 0 11 = DEC W d))) := fun y => ih (k + 1) _ hT hn hn2 (by show (σ.1 0 5 + 1).toInt = _; omega) (by omega)
    refine QT.ite (fun _ => nx _) (fun _ => ?_)
    refine QT.bndR (b_byteAt (σ.1 0 5) σ (by omega) hn2) (fun w _ => ?_)
    exact nx _
theorem pb_number (σ : ST) (s : Nat) (hn2 : bI (σ.1 0 3) 0 1000) (h5 : (σ.1 0 5).toInt = s) (hs : s ≤ 1000) : QT (f_X11_number σ) (fun t => TWB (σ.1 1) (σ.1 0 3).toInt s t) := by
  unfold f_X11_number f_X11_number_18 f_X11_number_33
  have l0 := li_0
  have l1 := li_1
  have l45 := li_45
  have ns : (σ.1 0 5).toNatClampNeg = s := nC h5
  have e5 := il_addE (x := σ.1 0 5) (y := 1) (by omega) (by omega)
  have c0 : (σ.1 0 5 + 0).toInt = s := by rw [il_addE (by omega) (by omega)]; omega
  refine QT.bndR (b_byteAt (σ.1 0 5) σ (by omega) hn2) (fun v hv => ?_)
  dsimp only
  have hv1 := hv.1
  rw [ns] at hv1
  have fin : ∀ (x1 : Int32) (t : ST), (x1 = 0 ↔ ¬ bt (σ.1 1) (σ.1 0 3).toInt s = 45) → (((t.1 0 6).toInt = 2 ∨ (t.1 0 6).toInt = 5) ∧ ((t.1 0 10).toInt = 1 → ∃ (W : Int64) (d : Int32), d.toInt = bt (σ.1 1) (σ.1 0 3).toInt ((t.1 0 5).toNatClampNeg - 1) - 48 ∧ (¬ x1 = 0 ∧ t.2.1 0 9 = -W ∧ t.2.2.1 0 11 = FP.dneg (DEC W d) ∨ x1 = 0 ∧ t.2.1 0 9 = W ∧ t.2.2.1 0 11 = DEC W d))) → TWB (σ.1 1) (σ.1 0 3).toInt s t := fun x1 t hx ht => by
    refine ⟨fun h => by omega, fun _ h10 => ?_⟩
    obtain ⟨W, d, h1, h2⟩ := ht.2 h10
    refine ⟨W, d, h1, ?_⟩
    rcases h2 with ⟨a, b, c⟩ | ⟨a, b, c⟩
    · exact .inl ⟨Classical.byContradiction (fun h => a (hx.mpr h)), b, c⟩
    · exact .inr ⟨hx.mp a, b, c⟩
  have n01 : ¬ (1 : Int32) = 0 := by decide
  refine QT.ieq (fun hm => ?_) (fun hm => ?_)
  · rw [if_neg n01]
    refine (pb_47 (σ.1 1) (σ.1 0 3).toInt 1 _ FU (s + 1) (stL (stI σ 0 5 (σ.1 0 5 + 1)) 0 9 0) rfl rfl hn2 ?_ (by omega)).mono (fun t ht => fin 1 t ⟨fun h => absurd h n01, fun h => absurd (by omega) h⟩ ht)
    show (σ.1 0 5 + 1).toInt = _
    omega
  · rw [if_pos rfl]
    refine (pb_47 (σ.1 1) (σ.1 0 3).toInt 0 _ FU s (stL (stI σ 0 5 (σ.1 0 5 + 0)) 0 9 0) rfl rfl hn2 ?_ (by omega)).mono (fun t ht => fin 0 t ⟨fun _ h => hm (by omega), fun _ => rfl⟩ ht)
    show (σ.1 0 5 + 0).toInt = _
    exact c0
theorem pb_quoted (σ : ST) (s : Nat) (hn2 : bI (σ.1 0 3) 0 1000) (h5 : (σ.1 0 5).toInt = s) (hs : s < 1000) : QT (f_X11_quoted σ) (fun t => TWB (σ.1 1) (σ.1 0 3).toInt s t) := by
  unfold f_X11_quoted f_X11_quoted_42 f_X11_quoted_43 f_X11_quoted_64
  have l1 := li_1
  have l12 := li_12
  have l3 := li_3
  have l5 := li_5
  have e5 := il_addE (x := σ.1 0 5) (y := 1) (by omega) (by omega)
  have hn2' := hn2
  obtain ⟨n1, n2⟩ := hn2'
  have bad : ∀ z : ST, TWB (σ.1 1) (σ.1 0 3).toInt s (stI (stI z 0 5 (z.1 0 5 + 1)) 0 6 5) := fun z => TWB.no (by rw [show (stI (stI z 0 5 (z.1 0 5 + 1)) 0 6 5).1 0 6 = 5 from rfl]; omega) (by rw [show (stI (stI z 0 5 (z.1 0 5 + 1)) 0 6 5).1 0 6 = 5 from rfl]; omega)
  refine QT.bnd (QT.ok (b_word 12 (stI σ 0 5 (σ.1 0 5 + 1)) (by omega) (s + 1) ⟨n1, n2⟩ (by show (σ.1 0 5 + 1).toInt = _; omega) (by omega))) (fun q hq => ?_)
  obtain ⟨qc, m, m1, m2, m3, m4⟩ := hq
  rw [if_pos rfl]
  refine QT.ilt (fun _ => QT.ret (bad q)) (fun h12 => ?_)
  have hb : QT (f_X11_byteAt (q.1 0 5) q) (fun z => z.2 = q) := by
    exact kb_byteAt _ _
  refine QT.bnd hb (fun z hz => ?_)
  rw [hz]
  refine QT.ite (fun _ => ?_) (fun _ => QT.ret (bad q))
  have n01 : ¬ (1 : Int32) = 0 := by decide
  rw [if_neg n01]
  refine QT.ret ⟨fun _ => ⟨m, m1, by omega, m3, ?_⟩, fun h => ?_⟩
  · show q.2.1 0 7 = _
    have e : min m (12 : Int32).toInt.toNat = m := by omega
    rw [m4, e]
    rfl
  · have e : (stI (stI q 0 5 (q.1 0 5 + 1)) 0 6 3).1 0 6 = 3 := rfl
    rw [e] at h
    omega
theorem kb_262 (x1 x3 : Int32) (σ : ST) : QT (f_X11_number_262 x1 x3 σ) (fun t => t.1 0 4 = σ.1 0 4) := by
  unfold f_X11_number_262 f_X11_number_279 f_X11_number_292
  refine QT.ite (fun _ => ?_) (fun _ => ?_)
  · exact QT.ite (fun _ => QT.ret rfl) (fun _ => QT.ret rfl)
  · exact QT.ite (fun _ => QT.ret rfl) (fun _ => QT.ret rfl)
theorem kb_225 (x1 x3 : Int32) (y0 : UInt64) (σ : ST) : QT (f_X11_number_225 x1 x3 y0 σ) (fun t => t.1 0 4 = σ.1 0 4) := by
  unfold f_X11_number_225 f_X11_number_260 f_X11_number_261
  refine QT.ite (fun _ => kb_262 _ _ _) (fun _ => ?_)
  refine QT.bnd (kb_byteAt _ _) (fun q hq => ?_)
  rw [hq]
  refine QT.bndR (b_isDigit _ _) (fun d _ => ?_)
  dsimp only
  exact QT.ite (fun _ => kb_262 _ _ _) (fun _ => kb_262 _ _ _)
theorem kb_170 (x1 x3 y0 : Int32) (σ : ST) : QT (f_X11_number_170 x1 x3 y0 σ) (fun t => t.1 0 4 = σ.1 0 4) := by
  unfold f_X11_number_170
  refine QT.grd (fun _ => ?_)
  refine QT.ite (fun _ => kb_262 _ _ _) (fun _ => ?_)
  refine QT.bnd (kb_byteAt _ _) (fun q hq => ?_)
  rw [hq]
  refine QT.grd (fun _ => ?_)
  refine QT.grd (fun _ => ?_)
  refine QT.lt (fun w hw => ?_)
  have e : w.1 0 4 = σ.1 0 4 := by rw [hw]; rfl
  refine QT.ite (fun _ => (kb_225 _ _ _ w).mono (fun t ht => ht.trans e)) (fun _ => (kb_225 _ _ _ w).mono (fun t ht => ht.trans e))
theorem kb_47 (x1 x2 : Int32) : ∀ (f : Nat) (σ : ST), QT (f_X11_number_47 f x1 x2 σ) (fun t => t.1 0 4 = σ.1 0 4) := by
  intro f
  induction f with
  | zero => intro σ; exact QT.none
  | succ f ih =>
    intro σ
    rw [f_X11_number_47]
    unfold f_X11_number_102
    have fin : ∀ y0 : Int32, QT (f_X11_number_134 x1 y0 σ) (fun t => t.1 0 4 = σ.1 0 4) := fun y0 => by
      unfold f_X11_number_134 f_X11_number_169
      refine QT.bnd (kb_byteAt _ _) (fun q hq => ?_)
      rw [hq]
      refine QT.ite (fun _ => ?_) (fun _ => kb_170 _ _ _ _)
      refine QT.bnd (kb_byteAt _ _) (fun q2 hq2 => ?_)
      rw [hq2]
      refine QT.bndR (b_isDigit _ _) (fun d _ => ?_)
      dsimp only
      exact QT.ite (fun _ => kb_170 _ _ _ _) (fun _ => kb_170 _ _ _ _)
    refine QT.bnd (kb_byteAt _ _) (fun q hq => ?_)
    rw [hq]
    refine QT.bndR (b_isDigit _ _) (fun d _ => ?_)
    dsimp only
    refine QT.ite (fun _ => ?_) (fun _ => ?_)
    · exact QT.ite (fun _ => fin 0) (fun _ => fin 1)
    · refine QT.ite (fun _ => ih _) (fun _ => ?_)
      refine QT.bnd (kb_byteAt _ _) (fun q2 hq2 => ?_)
      rw [hq2]
      exact ih _
theorem kb_number (σ : ST) : QT (f_X11_number σ) (fun t => t.1 0 4 = σ.1 0 4) := by
  unfold f_X11_number f_X11_number_18 f_X11_number_33
  refine QT.bnd (kb_byteAt _ _) (fun q hq => ?_)
  rw [hq]
  refine QT.ite (fun _ => ?_) (fun _ => ?_)
  · exact QT.ite (fun _ => kb_47 _ _ FU _) (fun _ => kb_47 _ _ FU _)
  · exact QT.ite (fun _ => kb_47 _ _ FU _) (fun _ => kb_47 _ _ FU _)
theorem pb_go_0 : ∀ (f k : Nat) (σ : ST), bI (σ.1 0 3) 0 1000 → (σ.1 0 5).toInt = k → k ≤ 1100 → QT (f_X11_go_0 f σ) (fun t => ∃ s : Nat, TWB (σ.1 1) (σ.1 0 3).toInt s t ∧ (t.1 0 4).toInt = s) := by
  intro f
  have l0 := li_0
  have l1 := li_1
  have l4 := li_4
  have l5 := li_5
  have l34 := li_34
  have l32 := li_32
  have l10 := li_10
  induction f with
  | zero => intro k σ _ _ _; exact QT.none
  | succ f ih =>
    intro k σ hn2 h5 hk
    rw [f_X11_go_0]
    unfold f_X11_go_26 f_X11_go_101 f_X11_go_136 f_X11_go_143 f_X11_go_169 f_X11_go_185
    have hn2' := hn2
    obtain ⟨n1, n2⟩ := hn2'
    have nk : (σ.1 0 5).toNatClampNeg = k := nC h5
    have e5 := il_addE (x := σ.1 0 5) (y := 1) (by omega) (by omega)
    refine QT.bndR (b_byteAt (σ.1 0 5) σ (by omega) hn2) (fun v hv => ?_)
    dsimp only
    have hv1 := hv.1
    rw [nk] at hv1
    have hr := bt_rng (T := σ.1 1) (n := (σ.1 0 3).toInt) (k := k)
    have nx : (0 ≤ bt (σ.1 1) (σ.1 0 3).toInt k) → QT (f_X11_go_0 f (stI σ 0 5 (σ.1 0 5 + 1))) (fun t => ∃ s : Nat, TWB (σ.1 1) (σ.1 0 3).toInt s t ∧ (t.1 0 4).toInt = s) := fun h0 => by
      have := hr.2.2.mp h0
      exact ih (k + 1) (stI σ 0 5 (σ.1 0 5 + 1)) hn2 (by show (σ.1 0 5 + 1).toInt = _; omega) (by omega)
    refine QT.ieq (fun _ => nx (by omega)) (fun _ => ?_)
    refine QT.bndR (b_byteAt (σ.1 0 5) σ (by omega) hn2) (fun v2 hv2 => ?_)
    dsimp only
    have hv3 := hv2.1
    rw [nk] at hv3
    refine QT.ieq (fun _ => nx (by omega)) (fun _ => ?_)
    have z5 : (stI σ 0 4 (σ.1 0 5)).1 0 5 = σ.1 0 5 := rfl
    have z4 : (stI σ 0 4 (σ.1 0 5)).1 0 4 = σ.1 0 5 := rfl
    have z3 : (stI σ 0 4 (σ.1 0 5)).1 0 3 = σ.1 0 3 := rfl
    have z1 : (stI σ 0 4 (σ.1 0 5)).1 1 = σ.1 1 := rfl
    generalize stI σ 0 4 (σ.1 0 5) = z at z5 z4 z3 z1 ⊢
    refine QT.bndR (b_byteAt (z.1 0 5) z (by rw [z5]; omega) (by rw [z3]; exact hn2)) (fun v4 hv4 => ?_)
    dsimp only
    have hv5 := hv4.1
    rw [z5, nk, z1, z3] at hv5
    have y5 : (stI z 0 13 0).1 0 5 = σ.1 0 5 := z5
    have y4 : (stI z 0 13 0).1 0 4 = σ.1 0 5 := z4
    have y3 : (stI z 0 13 0).1 0 3 = σ.1 0 3 := z3
    have y1 : (stI z 0 13 0).1 1 = σ.1 1 := z1
    generalize stI z 0 13 0 = y at y5 y4 y3 y1 ⊢
    have hy5 : (y.1 0 5).toInt = k := by rw [y5]; exact h5
    have hy4 : (y.1 0 4).toInt = k := by rw [y4]; exact h5
    have hy3 : bI (y.1 0 3) 0 1000 := by rw [y3]; exact hn2
    refine QT.ile (fun h0 => ?_) (fun _ => QT.ret ⟨k, TWB.no (by rw [show (stI y 0 6 0).1 0 6 = 0 from rfl]; omega) (by rw [show (stI y 0 6 0).1 0 6 = 0 from rfl]; omega), hy4⟩)
    have hkn := hr.2.2.mp (by omega)
    have num : QT ((f_X11_number y).bind fun q1 => some q1) (fun t => ∃ s : Nat, TWB (σ.1 1) (σ.1 0 3).toInt s t ∧ (t.1 0 4).toInt = s) := by
      refine QT.bnd (Q := fun t => TWB (σ.1 1) (σ.1 0 3).toInt k t ∧ (t.1 0 4).toInt = k) (fun q e => ⟨?_, ?_⟩) (fun q hq => QT.ret ⟨k, hq⟩)
      · have := pb_number y k hy3 hy5 (by omega) q e
        rw [y1, y3] at this
        exact this
      · have hc : QT (f_X11_number y) (fun t => t.1 0 4 = y.1 0 4) := kb_number y
        rw [hc q e]
        exact hy4
    have s143 : QT (if v4 = 34 then ((f_X11_quoted y).bind fun q3 => some q3) else ((f_X11_isSign v4 y).bind fun q1 => if q1.1 = 0 then (if ((stI q1.2 0 13 0).1 0 13) ≤ 0 then some (stI (stI (stI q1.2 0 13 0) 0 6 5) 0 5 (((stI (stI q1.2 0 13 0) 0 6 5).1 0 5) + 1)) else some (stI (stI (stI q1.2 0 13 0) 0 6 4) 0 5 (((stI (stI q1.2 0 13 0) 0 6 4).1 0 5) + 1))) else (if ((stI q1.2 0 13 v4).1 0 13) ≤ 0 then some (stI (stI (stI q1.2 0 13 v4) 0 6 5) 0 5 (((stI (stI q1.2 0 13 v4) 0 6 5).1 0 5) + 1)) else some (stI (stI (stI q1.2 0 13 v4) 0 6 4) 0 5 (((stI (stI q1.2 0 13 v4) 0 6 4).1 0 5) + 1))))) (fun t => ∃ s : Nat, TWB (σ.1 1) (σ.1 0 3).toInt s t ∧ (t.1 0 4).toInt = s) := by
      refine QT.ite (fun _ => ?_) (fun _ => ?_)
      · refine QT.bnd (Q := fun t => TWB (σ.1 1) (σ.1 0 3).toInt k t ∧ (t.1 0 4).toInt = k) (fun q e => ⟨?_, ?_⟩) (fun q hq => QT.ret ⟨k, hq⟩)
        · have := pb_quoted y k hy3 hy5 (by omega) q e
          rw [y1, y3] at this
          exact this
        · have := QT.ok (b_quoted y k hy3 hy5 (by omega)) q e
          rw [this.1.2.1 4 (by decide)]
          exact hy4
      · have hs : QT (f_X11_isSign v4 y) (fun q => q.2 = y) := by
          unfold f_X11_isSign f_X11_isSign_36
          refine QT.ite (fun _ => QT.ret rfl) (fun _ => ?_)
          refine QT.ite (fun _ => QT.ret rfl) (fun _ => ?_)
          refine QT.ite (fun _ => QT.ret rfl) (fun _ => ?_)
          refine QT.ite (fun _ => QT.ret rfl) (fun _ => ?_)
          refine QT.ite (fun _ => QT.ret rfl) (fun _ => ?_)
          exact QT.ite (fun _ => QT.ret rfl) (fun _ => QT.ret rfl)
        refine QT.bnd hs (fun q hq => ?_)
        rw [hq]
        have f6 : ∀ (a b : Int32) (c : Int32), ¬ b.toInt = 2 → ¬ b.toInt = 3 → QT (some (stI (stI (stI y 0 13 a) 0 6 b) 0 5 c)) (fun t => ∃ s : Nat, TWB (σ.1 1) (σ.1 0 3).toInt s t ∧ (t.1 0 4).toInt = s) := fun a b c h2 h3 => QT.ret ⟨k, TWB.no h2 h3, hy4⟩
        refine QT.ite (fun _ => ?_) (fun _ => ?_)
        · exact QT.ite (fun _ => f6 _ _ _ (by omega) (by omega)) (fun _ => f6 _ _ _ (by omega) (by omega))
        · exact QT.ite (fun _ => f6 _ _ _ (by omega) (by omega)) (fun _ => f6 _ _ _ (by omega) (by omega))
    refine QT.bndR (b_isLetter v4 y) (fun d _ => ?_)
    dsimp only
    refine QT.ite (fun _ => ?_) (fun _ => ?_)
    · refine QT.bndR (b_isDigit v4 y) (fun d2 _ => ?_)
      dsimp only
      refine QT.ite (fun _ => ?_) (fun _ => num)
      refine QT.ite (fun _ => ?_) (fun _ => s143)
      have a1 := il_addE (x := y.1 0 5) (y := 1) (by omega) (by omega)
      refine QT.bndR (b_byteAt (y.1 0 5 + 1) y (by omega) hy3) (fun v6 _ => ?_)
      dsimp only
      refine QT.bndR (b_isDigit v6 y) (fun d3 _ => ?_)
      dsimp only
      exact QT.ite (fun _ => s143) (fun _ => num)
    · refine QT.bnd (QT.ok (b_word 8 y (by decide) k hy3 hy5 (by omega))) (fun q hq => ?_)
      obtain ⟨qc, _⟩ := hq
      have q4 : (q.1 0 4).toInt = k := by
        rw [qc.2.1 4 (by decide)]
        exact hy4
      refine QT.ite (fun _ => QT.ret ⟨k, TWB.no (by rw [show (stI q 0 6 5).1 0 6 = 5 from rfl]; omega) (by rw [show (stI q 0 6 5).1 0 6 = 5 from rfl]; omega), q4⟩) (fun _ => QT.ret ⟨k, TWB.no (by rw [show (stI q 0 6 1).1 0 6 = 1 from rfl]; omega) (by rw [show (stI q 0 6 1).1 0 6 = 1 from rfl]; omega), q4⟩)
theorem pb_go (σ : ST) (k : Nat) (hn2 : bI (σ.1 0 3) 0 1000) (h5 : (σ.1 0 5).toInt = k) (hk : k ≤ 1100) : QT (f_X11_go σ) (fun t => ∃ s : Nat, TWB (σ.1 1) (σ.1 0 3).toInt s t ∧ (t.1 0 4).toInt = s) := pb_go_0 FU k σ hn2 h5 hk
/-- both tokens, what they are worth -/
def TWX (σ τ : ST) : Prop := ((σ.1 2 4).toInt = 5 → WLT (σ.2.1 2 7) (τ.2.1 0 7) (τ.1 0 8)) ∧ ((σ.1 2 4).toInt = 4 → (0 ≤ (σ.2.1 2 8).toInt ∧ (σ.2.1 2 8).toInt < 1000000000000000000) ∧ (0 ≤ (σ.1 2 11).toInt ∧ (σ.1 2 11).toInt ≤ 9) ∧ ((σ.1 2 10).toInt = 0 → σ.1 2 11 = 0) ∧ ((σ.1 2 10).toInt = 1 → (σ.1 2 9).toInt = 1 ∧ τ.2.2.1 0 11 = FP.dneg (DEC (σ.2.1 2 8) (σ.1 2 11)) ∨ (σ.1 2 9).toInt = 0 ∧ τ.2.2.1 0 11 = DEC (σ.2.1 2 8) (σ.1 2 11)))
theorem dv_n {T : Nat → Int32} {n : Int} {s : Nat} : ∀ m, m ≤ 18 → (∀ i, i < m → isD (bt T n (s + i))) → 0 ≤ (dv T s m).toInt ∧ (dv T s m).toInt < 10 ^ m := by
  intro m
  induction m with
  | zero =>
    intro _ _
    have e : (dv T s 0).toInt = 0 := l64_0
    rw [e]
    exact ⟨by omega, by decide⟩
  | succ m ih =>
    intro hm hD
    obtain ⟨e1, e2⟩ := ih (by omega) (fun i hi => hD i (by omega))
    have b2 := hD m (by omega)
    have b3 : bt T n (s + m) = (T (s + m)).toInt % 256 := by
      unfold bt
      rw [if_pos ((bt_rng (T := T) (n := n) (k := s + m)).2.2.mp (isD_0 _ b2))]
    unfold isD at b2
    have p1 : (10 : Int) ^ m ≤ 10 ^ 17 := by
      have := Nat.pow_le_pow_right (by omega : 0 < 10) (show m ≤ 17 by omega)
      exact_mod_cast this
    have p2 : (10 : Int) ^ 17 = 100000000000000000 := by decide
    have p3 : (10 : Int) ^ (m + 1) = 10 ^ m * 10 := Int.pow_succ 10 m
    rw [p2] at p1
    rw [p3]
    have l10 : (10 : Int64).toInt = 10 := by decide
    have l48 : (48 : Int64).toInt = 48 := by decide
    have c1 : (10 * dv T s m).toInt = 10 * (dv T s m).toInt := by
      rw [Int64.toInt_mul, l10]
      exact Int.bmod_eq_of_le (by omega) (by omega)
    have c2 : (10 * dv T s m + (T (s + m) &&& 255).toInt64).toInt = 10 * (dv T s m).toInt + (T (s + m)).toInt % 256 := by
      rw [Int64.toInt_add, c1, i64, and255]
      exact Int.bmod_eq_of_le (by omega) (by omega)
    have c3 : (dv T s (m + 1)).toInt = 10 * (dv T s m).toInt + (T (s + m)).toInt % 256 - 48 := by
      show (10 * dv T s m + (T (s + m) &&& 255).toInt64 - 48).toInt = _
      rw [Int64.toInt_sub, c2, l48]
      exact Int.bmod_eq_of_le (by omega) (by omega)
    omega
theorem dv18 {T : Nat → Int32} {n : Int} {s m : Nat} (h : RUN isD T n s m) : 0 ≤ (dv T s (min m 18)).toInt ∧ (dv T s (min m 18)).toInt < 1000000000000000000 := by
  obtain ⟨a, b⟩ := dv_n (T := T) (n := n) (s := s) (min m 18) (by omega) (fun i hi => h.1 i (by omega))
  have p1 : (10 : Int) ^ (min m 18) ≤ 10 ^ 18 := by
    have := Nat.pow_le_pow_right (by omega : 0 < 10) (show min m 18 ≤ 18 by omega)
    exact_mod_cast this
  have p2 : (10 : Int) ^ 18 = 1000000000000000000 := by decide
  rw [p2] at p1
  exact ⟨a, by omega⟩
theorem neg64 {x y : Int64} (h : -x = -y) : x = y := by
  have := congrArg (fun z => -z) h
  simpa using this
theorem TWX.mk {a b : ST} {s : Nat} (hX : LX a b) (hs : (b.1 0 4).toInt = s) (hA : TWA (b.1 1) (b.1 0 3).toInt s a) (hB : TWB (b.1 1) (b.1 0 3).toInt s b) : TWX a b := by
  have hK := hX.2.2.1
  have hT8 := hX.1.2.2.1
  obtain ⟨s', hs', hTB⟩ := hX.tb
  have es : s' = s := by omega
  subst es
  refine ⟨fun h5 => ?_, fun h4 => ?_⟩
  · have hb3 : (b.1 0 6).toInt = 3 := by
      have := (hK.bw (by omega)).2.1
      exact this.mpr h5
    obtain ⟨m, m1, m2, m3⟩ := hA.1 h5
    obtain ⟨k, k1, k2, k3, k4⟩ := hB.1 hb3
    have e : k = m := k1.uniq m1
    subst e
    exact ⟨k, gT (b.1 1) (s' + 1), m2, (gT_L m1.1).1, by rw [m3]; exact w5_n12 hT8 k m2 m1.1, by rw [k4]; exact w27_n12 k m2 m1.1, k3⟩
  · obtain ⟨w1, w2, w3, w4⟩ := hK.bw (by omega)
    have hb2 : (b.1 0 6).toInt = 2 := w1.mpr h4
    obtain ⟨g1, g2⟩ := w3 h4
    obtain ⟨a1, a2, a3⟩ := hA.2 h4
    have e5 : a.1 2 3 = b.1 0 5 := w4 (by omega)
    have hnt : NT (b.1 1) (b.1 0 3).toInt s' b := by
      obtain ⟨_, h | h | h | h | h⟩ := hTB
      · have := h.2.1
        omega
      · obtain ⟨_, _, m, _, _, _, _, h6⟩ := h
        omega
      · exact h.2
      · obtain ⟨_, _, m, _, _, _, h6⟩ := h
        omega
      · have : (b.1 0 6).toInt = 4 ∨ (b.1 0 6).toInt = 5 := h.2.2.elim (fun h => .inl h.2.1) (fun h => .inr h.2.1)
        omega
    have hdig : ∃ i m : Nat, RUN isD (b.1 1) (b.1 0 3).toInt i m ∧ a.2.1 2 8 = dv (b.1 1) i (min m 18) ∧ ((b.1 0 10).toInt = 1 ∨ (b.1 0 10).toInt = 0) := by
      rcases hnt with ⟨n1, m, n2, _, n3, n4⟩ | ⟨n1, m, n2, _, n3, n4⟩
      · have h10 : (b.1 0 10).toInt = 1 ∨ (b.1 0 10).toInt = 0 := n4.elim (fun h => .inl h.2.2.1) (fun h => .inr h.2.1)
        refine ⟨s' + 1, m, n2, ?_, h10⟩
        rcases n3 with ⟨_, n3⟩ | ⟨n3, _⟩
        · rcases g2 with ⟨g3, g4⟩ | ⟨g3, g4⟩
          · rw [g4] at n3
            exact neg64 n3
          · rcases a1 with a1 | a1
            · omega
            · exact absurd n1 a1.2
        · exact absurd trivial n3
      · have h10 : (b.1 0 10).toInt = 1 ∨ (b.1 0 10).toInt = 0 := n4.elim (fun h => .inl h.2.2.1) (fun h => .inr h.2.1)
        refine ⟨s', m, n2, ?_, h10⟩
        rcases n3 with ⟨n3, _⟩ | ⟨_, n3⟩
        · exact n3.elim
        · rcases g2 with ⟨g3, g4⟩ | ⟨g3, g4⟩
          · rcases a1 with a1 | a1
            · exact absurd a1.2 n1
            · omega
          · rw [g4] at n3
            exact n3
    obtain ⟨i, m, r1, r2, r3⟩ := hdig
    have hb := dv18 r1
    rw [← r2] at hb
    have e10 : (a.1 2 10).toInt = (b.1 0 10).toInt := by rw [g1]
    refine ⟨hb, ?_, a3, fun h10 => ?_⟩
    · rcases r3 with h | h
      · obtain ⟨_, q1, q2⟩ := a2 (by omega)
        unfold isD at q1
        omega
      · have := a3 (by omega)
        rw [this]
        exact ⟨by decide, by decide⟩
    · obtain ⟨_, q1, q2⟩ := a2 h10
      obtain ⟨W, d, d1, d2⟩ := hB.2 hb2 (by omega)
      have ed : d = a.1 2 11 := Int32.toInt_inj.mp (by rw [d1, q2, e5])
      subst ed
      rcases d2 with ⟨x1, x2, x3⟩ | ⟨x1, x2, x3⟩
      · rcases g2 with ⟨g3, g4⟩ | ⟨g3, g4⟩
        · have eW : W = a.2.1 2 8 := by
            rw [x2] at g4
            exact neg64 g4
          rw [eW] at x3
          exact .inl ⟨g3, x3⟩
        · rcases a1 with a1 | a1
          · omega
          · exact absurd x1 a1.2
      · rcases g2 with ⟨g3, g4⟩ | ⟨g3, g4⟩
        · rcases a1 with a1 | a1
          · exact absurd a1.2 x1
          · omega
        · have eW : W = a.2.1 2 8 := by
            rw [x2] at g4
            exact g4
          rw [eW] at x3
          exact .inr ⟨g3, x3⟩
theorem OK.qt2 {α β : Type} {a : Option α} {b : Option β} {P Q : α → β → Prop} (h : OK a (fun x => OK b (P x))) (k : QT a (fun x => QT b (Q x))) : OK a (fun x => OK b (fun y => P x y ∧ Q x y)) := by
  obtain ⟨x, ex, y, ey, hp⟩ := h
  exact ⟨x, ex, y, ey, hp, k x ex y ey⟩
/-- both go on to the next token, and what it is worth -/
theorem ab_goW (σ τ : ST) (h : LX σ τ) (hg : σ.1 2 3 = τ.1 0 5) : OK (f_X6_advance σ) (fun a => OK (f_X11_go τ) (fun b => (CA σ a ∧ CH [] GI τ b ∧ (∀ c, c ≠ 0 → b.2.1 c = τ.2.1 c) ∧ LX a b ∧ (τ.1 0 5).toInt ≤ (b.1 0 4).toInt ∧ ((τ.1 0 6).toInt = 1 → (b.1 0 6).toInt = 1 → (τ.1 0 5).toInt < (b.1 0 4).toInt) ∧ uT b ≤ ((τ.1 0 3).toInt - (τ.1 0 5).toInt).toNat) ∧ TWX a b)) := by
  have hn := h.2.1
  have hn' := hn
  obtain ⟨n1, n2⟩ := hn'
  have hc := h.1
  have h5 := h.tx.2.1
  obtain ⟨k1, k2⟩ := h5
  have e3 : (σ.1 2 3).toInt = (τ.1 0 5).toInt := by rw [hg]
  refine (OK.qt2 (ab_go σ τ h hg) (Q := fun a b => (∃ s : Nat, TWA (σ.1 1) (σ.1 2 2).toInt s a ∧ (a.1 2 5).toInt = s) ∧ ∃ s : Nat, TWB (τ.1 1) (τ.1 0 3).toInt s b ∧ (b.1 0 4).toInt = s) (fun a ea b eb => ⟨?_, ?_⟩)).mono2 (fun a b hab => ⟨hab.1, ?_⟩)
  · exact pa_advance σ (τ.1 0 5).toInt.toNat (by rw [hc.1]; exact hc.2.2.1) (by rw [hc.2.1]; exact hn) (by omega) (by omega) a ea
  · exact pb_go τ (τ.1 0 5).toInt.toNat hn (by omega) (by omega) b eb
  · obtain ⟨⟨ca, cb, cL, hX1, _⟩, ⟨s, hA, hs⟩, s', hB, hs'⟩ := hab
    have b1 : b.1 1 = τ.1 1 := cb.1 1 (by decide) (by decide)
    have b3 : b.1 0 3 = τ.1 0 3 := cb.2.1 3 (by decide)
    have ek := hX1.2.2.1.1
    have es : s = s' := by omega
    subst es
    refine TWX.mk hX1 hs' ?_ ?_
    · rw [b1, b3, ← hc.1, ← hc.2.1]
      exact hA
    · rw [b1, b3]
      exact hB
/-! the class: what an else is worth, and where it is kept -/
theorem a_worth (p0 : Int32) (σ : ST) : OK (f_X6_worth p0 σ) (RO σ fun _ => True) := by
  unfold f_X6_worth f_X6_whole f_X6_realBits f_X6_isKeyword
  have wh : OK (if (σ.1 2 9) = 0 then (some ((σ.2.1 2 8), σ)) else (some ((-(σ.2.1 2 8)), σ))) (RO σ fun _ => True) := OK.ite (fun _ => OK.roret trivial) (fun _ => OK.roret trivial)
  refine OK.ieq (fun _ => ?_) (fun _ => ?_)
  · refine OK.bndR (s := σ) (Q := fun _ => True) (OK.ite (fun _ => OK.ite (fun _ => OK.roret trivial) (fun _ => OK.roret trivial)) (fun _ => OK.roret trivial)) (fun v _ => ?_)
    exact OK.ite (fun _ => OK.roret trivial) (fun _ => OK.roret trivial)
  refine OK.ieq (fun _ => OK.bndR wh (fun v _ => OK.roret trivial)) (fun _ => ?_)
  refine OK.ieq (fun _ => OK.bndR wh (fun v _ => OK.roret trivial)) (fun _ => ?_)
  refine OK.ieq (fun _ => ?_) (fun _ => ?_)
  · have h1 := FP.Core.ddiv_out (FP.Core.i2d_fin (σ.1 2 11)).notNaN fp10_fin fp10_nz
    have h2 := FP.Core.dadd_out' (FP.Core.l2d_fin (σ.2.1 2 8)) h1
    refine OK.bndR (s := σ) (Q := fun _ => True) ?_ (fun v _ => OK.roret trivial)
    refine OK.grd (fl_num h1) ?_
    refine OK.grd (fl_num h2) ?_
    refine OK.bndR (k_X10_bitsOfPositive _ _ h2) (fun v h3 => ?_)
    dsimp only
    refine OK.ieq (fun h => OK.roret trivial) (fun h => ?_)
    refine OK.ieq (fun h => ?_) (fun h => ?_)
    · exact OK.ieq (fun h => OK.roret trivial) (fun h => OK.roret trivial)
    · exact OK.roret trivial
  · exact OK.ieq (fun _ => OK.roret trivial) (fun _ => OK.roret trivial)
theorem a_setElse (p0 p1 : Int32) (p2 : Int64) (σ : ST) {r j : Nat} (h0 : p0.toInt = r) (h1 : p1.toInt = j) (hr : r < 36) (hj : j < 8) : OK (f_X5_setElse 20 p0 p1 p2 σ) (fun a => (∀ c, c ≠ 25 → a.1 c = σ.1 c) ∧ (∀ c, c ≠ 30 → a.2.1 c = σ.2.1 c) ∧ a.1 25 r = (σ.1 25 r ||| (1 <<< ((Int32.ofNat j) &&& 31))) ∧ (∀ i, i ≠ r → a.1 25 i = σ.1 25 i) ∧ a.2.1 30 (8 * r + j) = p2 ∧ ∀ i, i ≠ 8 * r + j → a.2.1 30 i = σ.2.1 30 i) := by
  unfold f_X5_setElse
  obtain ⟨v, e, hv⟩ := a_isFieldE p0 p1 σ h0 h1 hr hj
  obtain ⟨i1, i2⟩ := i88 h0 h1 hr hj
  rw [e]
  refine OK.ite (fun h => absurd h hv) (fun _ => ?_)
  refine OK.grd ⟨by omega, by omega⟩ ?_
  refine OK.lt (fun z hz => ?_)
  refine OK.grd ⟨by omega, by omega⟩ ?_
  subst hz
  have nr : p0.toNatClampNeg = r := nC h0
  have ej : p1 = Int32.ofNat j := intOf h1 (by omega)
  rw [nr, i2, ej]
  refine OK.ret ⟨fun c hc => ?_, fun c hc => ?_, ?_, fun i hi => ?_, ?_, fun i hi => ?_⟩
  · show (stI σ 25 _ _).1 c = _
    rw [stI_ne hc]
  · rw [stL_ne hc]
    rfl
  · show upd (σ.1 25) r _ r = _
    rw [upd_at]
  · show upd (σ.1 25) r _ i = _
    rw [upd_no hi]
  · show vp_updL (σ.2.1 30) (8 * r + j) p2 (8 * r + j) = _
    rw [updL_at]
  · show vp_updL (σ.2.1 30) (8 * r + j) p2 i = _
    rw [updL_no hi]
/-! the class: a record is begun -/
theorem a_recordsOf (p0 : Int32) (σ : ST) {p : Nat} (h0 : p0.toInt = p) (hp : p < 6) : f_X5_recordsOf 20 p0 σ = some (σ.1 21 p, σ) := by
  unfold f_X5_recordsOf
  have l0 := li_0
  have l6 := li_6
  have np : p0.toNatClampNeg = p := nC h0
  rw [if_neg (by rw [Int32.lt_iff_toInt_lt]; omega), if_neg (by rw [Int32.le_iff_toInt_le]; omega), if_pos ⟨by omega, by omega⟩, np]
theorem a_addRecord (p0 : Int32) (p1 : Int64) (σ : ST) {p i : Nat} (h0 : p0.toInt = p) (hp : p < 6) (hi : (σ.1 21 p).toInt = i) (hi6 : i < 6) : OK (f_X5_addRecord 20 p0 p1 σ) (fun a => (∀ c, c ∉ [21, 23, 25] → a.1 c = σ.1 c) ∧ (∀ c, c ≠ 24 → a.2.1 c = σ.2.1 c) ∧ (a.1 21 p).toInt = i + 1 ∧ (∀ k, k ≠ p → a.1 21 k = σ.1 21 k) ∧ a.2.1 24 (6 * p + i) = p1 ∧ (∀ k, k ≠ 6 * p + i → a.2.1 24 k = σ.2.1 24 k) ∧ (a.1 23 (6 * p + i)).toInt = 0 ∧ (∀ k, k ≠ 6 * p + i → a.1 23 k = σ.1 23 k) ∧ a.1 25 (6 * p + i) = 0 ∧ (∀ k, k ≠ 6 * p + i → a.1 25 k = σ.1 25 k)) := by
  unfold f_X5_addRecord f_X5_isRecord
  have l0 := li_0
  have l1 := li_1
  have l6 := li_6
  have l36 : (36 : Int32).toInt = 36 := by decide
  have np : p0.toNatClampNeg = p := nC h0
  have e6 : (p0 * 6).toInt = 6 * p0.toInt := by
    rw [Int32.mul_comm]
    exact mlE (k := 6) (y := p0) 6 l6 (by omega) (by omega)
  have e := il_addE (x := p0 * 6) (y := σ.1 21 p) (by omega) (by omega)
  have e1 := il_addE (x := σ.1 21 p) (y := 1) (by omega) (by omega)
  have nq : (p0 * 6 + σ.1 21 p).toNatClampNeg = 6 * p + i := nC (by omega)
  rw [a_recordsOf p0 σ h0 hp]
  refine OK.bndR (s := σ) (Q := fun v => v = σ.1 21 p) (OK.roret rfl) (fun v hv => ?_)
  subst hv
  dsimp only
  refine OK.ilt (fun h => by omega) (fun _ => ?_)
  refine OK.ile (fun h => by omega) (fun _ => ?_)
  refine OK.bndR (s := σ) (Q := fun v => v.toInt = 1) ?_ (fun v3 hv3 => ?_)
  · refine OK.ilt (fun h => by omega) (fun _ => ?_)
    exact OK.ile (fun h => by omega) (fun _ => OK.roret l1)
  dsimp only
  refine OK.ieq (fun h => by omega) (fun _ => ?_)
  refine OK.grd ⟨by omega, by omega⟩ ?_
  rw [nq, np]
  refine OK.lt (fun z6 h6 => ?_)
  refine OK.grd ⟨by omega, by omega⟩ ?_
  refine OK.lt (fun z8 h8 => ?_)
  subst h6
  subst h8
  refine OK.ret ⟨fun c hc => ?_, fun c hc => ?_, ?_, fun k hk => ?_, ?_, fun k hk => ?_, ?_, fun k hk => ?_, ?_, fun k hk => ?_⟩
  · simp only [List.mem_cons, List.not_mem_nil, or_false, not_or] at hc
    rw [stI_ne hc.1, stI_ne hc.2.2, stI_ne hc.2.1]
    rfl
  · show (stL σ 24 _ _).2.1 c = _
    rw [stL_ne hc]
  · show (upd (σ.1 21) p (σ.1 21 p + 1) p).toInt = _
    rw [upd_at]
    omega
  · show upd (σ.1 21) p _ k = _
    rw [upd_no hk]
  · show vp_updL (σ.2.1 24) (6 * p + i) p1 (6 * p + i) = _
    rw [updL_at]
  · show vp_updL (σ.2.1 24) (6 * p + i) p1 k = _
    rw [updL_no hk]
  · show (upd (σ.1 23) (6 * p + i) 0 (6 * p + i)).toInt = _
    rw [upd_at]
    exact l0
  · show upd (σ.1 23) (6 * p + i) 0 k = _
    rw [upd_no hk]
  · show upd (σ.1 25) (6 * p + i) 0 (6 * p + i) = _
    rw [upd_at]
  · show upd (σ.1 25) (6 * p + i) 0 k = _
    rw [upd_no hk]
/-! what a literal is worth: both alike -/
/-- what the machine tells of a double -/
def DTL (x : UInt64) (v : Int64) : Prop := ∀ σ : ST, f_Jxe99ae_doubleToLongBits_ccdee x σ = some (v, σ)
theorem dtl_ex (x : UInt64) : ∃ v, DTL x v := by
  refine ⟨if (Op.cmpValue (FP.dcmp x x) .l) = 0 then x.toInt64 else 9221120237041090560, fun σ => ?_⟩
  unfold f_Jxe99ae_doubleToLongBits_ccdee f_Jxe99ae_isNaN_b9ae7
  by_cases h : (Op.cmpValue (FP.dcmp x x) .l) = 0
  · rw [if_pos h, if_pos h]
    rfl
  · rw [if_neg h, if_neg h]
    rfl
theorem DTL.uniq {x : UInt64} {v w : Int64} (h : DTL x v) (k : DTL x w) : v = w := by
  have e := (h s00).symm.trans (k s00)
  exact (Prod.mk.inj (Option.some.inj e)).1
theorem dtl_num {x : UInt64} (h : ¬ FP.Core.val64 x = .nan) : DTL x x.toInt64 := by
  intro σ
  unfold f_Jxe99ae_doubleToLongBits_ccdee f_Jxe99ae_isNaN_b9ae7
  have e : FP.dcmp x x = some .eq := FP.Core.dcmp_self h
  rw [(cv_eq e).1]
  rfl
/-- the reference's bits of a literal -/
def BTS (s : Int) (τ : ST) (v : Int64) : Prop := (s = 1 → (W_ τ v_yes ∧ v = 1 ∨ ¬ W_ τ v_yes ∧ v = 0)) ∧ (s = 2 ∨ s = 3 → v = τ.2.1 0 9) ∧ (s = 4 → DTL (if (τ.1 0 10).toInt = 0 then FP.l2d (τ.2.1 0 9) else τ.2.2.1 0 11) v) ∧ (¬ (1 ≤ s ∧ s ≤ 4) → v = 0)
theorem bx_bitsOf (p0 : Int32) (σ : ST) (h0 : 0 ≤ p0.toInt ∧ p0.toInt < 800) : OK (f_X11_bitsOf p0 σ) (KO σ 1 fun v => BTS (σ.1 2 p0.toNatClampNeg).toInt σ v) := by
  unfold f_X11_bitsOf f_X11_bitsOf_31 f_X11_bitsOf_65
  have l0 := li_0
  have l1 := li_1
  have l2 := li_2
  have l3 := li_3
  have l4 := li_4
  refine OK.grd h0 ?_
  have dt : ∀ x : UInt64, (σ.1 2 p0.toNatClampNeg).toInt = 4 → x = (if (σ.1 0 10).toInt = 0 then FP.l2d (σ.2.1 0 9) else σ.2.2.1 0 11) → OK ((f_Jxe99ae_doubleToLongBits_ccdee x σ).bind fun q1 => some ((q1.1, q1.2), 0)) (KO σ 1 fun v => BTS (σ.1 2 p0.toNatClampNeg).toInt σ v) := fun x h4 hx => by
    obtain ⟨v, hv⟩ := dtl_ex x
    rw [hv σ]
    refine OK.kret ⟨fun h => by omega, fun h => by omega, fun _ => ?_, fun h => by omega⟩ (Nat.zero_le _)
    rw [← hx]
    exact hv
  refine OK.ieq (fun h4 => ?_) (fun h4 => ?_)
  · refine OK.ieq (fun h => dt _ (by omega) ?_) (fun h => dt _ (by omega) ?_)
    · rw [if_pos (by omega)]
    · rw [if_neg (by omega)]
  refine OK.ieq (fun h1 => ?_) (fun h1 => ?_)
  · refine OK.bndK (b_isYes σ) (fun v x hv hx => ?_)
    refine OK.kac ?_
    dsimp only
    refine OK.ieq (fun hv0 => ⟨_, rfl, rfl, ⟨fun _ => ?_, fun h => by omega, fun h => by omega, fun h => by omega⟩, hx⟩) (fun hv0 => ⟨_, rfl, rfl, ⟨fun _ => ?_, fun h => by omega, fun h => by omega, fun h => by omega⟩, hx⟩)
    · rcases hv with hv | hv
      · exact .inr ⟨hv.2, rfl⟩
      · have := hv.1
        omega
    · rcases hv with hv | hv
      · have := hv.1
        omega
      · exact .inl ⟨hv.2, rfl⟩
  refine OK.ieq (fun h2 => OK.kret ⟨fun h => by omega, fun _ => rfl, fun h => by omega, fun h => by omega⟩ (Nat.zero_le _)) (fun h2 => ?_)
  refine OK.ieq (fun h3 => OK.kret ⟨fun h => by omega, fun _ => rfl, fun h => by omega, fun h => by omega⟩ (Nat.zero_le _)) (fun h3 => ?_)
  exact OK.kret ⟨fun h => by omega, fun h => by omega, fun h => by omega, fun _ => rfl⟩ (Nat.zero_le _)
/-- what stands for a value: the class's number, the reference's bits, text and how many letters -/
def EWR (s : Int) (w b t : Int64) (n : Int32) : Prop := if s = 5 then b = 0 ∧ WLT w t n else w = b ∧ t = 0 ∧ n.toInt = 0
theorem sbnd_ {α β : Type} {e : α} {f : α → Option β} : (some e).bind f = f e := rfl
/-- a number's token has a point, or none -/
theorem dot01 {σ τ : ST} (hX : LX σ τ) (h : (τ.1 0 6).toInt = 2) : (τ.1 0 10).toInt = 0 ∨ (τ.1 0 10).toInt = 1 := by
  obtain ⟨s, _, _, hT⟩ := hX.tb
  rcases hT with h1 | h1 | h1 | h1 | h1
  · have := h1.2.1
    omega
  · obtain ⟨_, _, m, _, _, _, _, h6⟩ := h1
    omega
  · rcases h1.2 with ⟨_, m, _, _, _, n4⟩ | ⟨_, m, _, _, _, n4⟩
    · exact n4.elim (fun h => .inr h.2.2.1) (fun h => .inl h.2.1)
    · exact n4.elim (fun h => .inr h.2.2.1) (fun h => .inl h.2.1)
  · obtain ⟨_, _, m, _, _, _, h6⟩ := h1
    omega
  · have : (τ.1 0 6).toInt = 4 ∨ (τ.1 0 6).toInt = 5 := h1.2.2.elim (fun h => .inl h.2.1) (fun h => .inr h.2.1)
    omega
/-- only a text fits a lettered token -/
theorem ft_n5 {τ : ST} {s : Int} (hF : FT_ τ s) (h5 : ¬ s = 5) (h13 : (τ.1 0 6).toInt = 3 → (τ.1 0 13).toInt = 0) : ¬ (τ.1 0 6).toInt = 3 := by
  intro h3
  by_cases hs : 0 ≤ s ∧ s ≤ 7
  · have h : s = 0 ∨ s = 1 ∨ s = 2 ∨ s = 3 ∨ s = 4 ∨ s = 6 ∨ s = 7 := by omega
    rcases h with rfl | rfl | rfl | rfl | rfl | rfl | rfl
    · have := (ft_0.mp hF).1
      omega
    · have : (τ.1 0 6).toInt = 1 := (ft_1.mp hF).elim (fun h => h.1) (fun h => h.1)
      omega
    · have := (ft_2.mp hF).1
      omega
    · have := (ft_3.mp hF).1
      omega
    · have := ft_4.mp hF
      omega
    · have := ft_6.mp hF
      have := h13 h3
      omega
    · have := ft_7.mp hF
      have := h13 h3
      omega
  · exact ft_8 hs hF
theorem LX.q13 {σ τ : ST} (hX : LX σ τ) (h : (τ.1 0 6).toInt = 3) : (τ.1 0 13).toInt = 0 := by
  obtain ⟨_, h1 | h1 | h1 | h1 | h1 | h1⟩ := hX.2.2.1
  · exact h1.2.2
  · exact h1.2.1
  · exact h1.2.1
  · exact h1.2.2.1
  · exact h1.2.2.1
  · have := h1.2.1
    omega
/-- the class's number of a literal, against the reference's bits, text, letters -/
theorem ab_ewr (p0 : Int32) (σ τ : ST) (hX : LX σ τ) (hT : TWX σ τ) (hk : ¬ (σ.1 2 4).toInt = 1) (hF : FT_ τ p0.toInt) : OK (f_X6_worth p0 σ) (RO σ fun w => ∀ (v t : Int64) (n : Int32), BTS p0.toInt τ v → ((τ.1 0 6).toInt = 3 ∧ t = τ.2.1 0 7 ∧ n = τ.1 0 8 ∨ ¬ (τ.1 0 6).toInt = 3 ∧ t = 0 ∧ n.toInt = 0) → EWR p0.toInt w v t n) := by
  have hK := hX.2.2.1
  obtain ⟨k1, k2, k3, k4⟩ := hK.bw hk
  have l0 := li_0
  have l1 := li_1
  have l2 := li_2
  have l3 := li_3
  have l4 := li_4
  have l5 := li_5
  unfold f_X6_worth f_X6_whole
  refine OK.ieq (fun h1 => ?_) (fun h1 => ?_)
  · have e1 : p0.toInt = 1 := by omega
    rw [e1] at hF ⊢
    have hF := ft_1.mp hF
    have h6 : (τ.1 0 6).toInt = 1 := hF.elim (fun h => h.1) (fun h => h.1)
    refine OK.bndR (a_isKeyword 13 σ τ hK (k := 13) (by omega) (by decide)) (fun u hu => ?_)
    dsimp only
    have ey : kwV 13 = v_yes := rfl
    rw [ey] at hu
    refine OK.ieq (fun hu0 => OK.roret (fun v t n hv ht => ?_)) (fun hu0 => OK.roret (fun v t n hv ht => ?_))
    · unfold EWR
      rw [if_neg (by omega)]
      rcases ht with ht | ht
      · omega
      · refine ⟨?_, ht.2⟩
        rcases hu with hu | hu
        · rcases hv.1 rfl with h | h
          · exact absurd h.1 hu.2
          · exact h.2.symm
        · have := hu.1
          omega
    · unfold EWR
      rw [if_neg (by omega)]
      rcases ht with ht | ht
      · omega
      · refine ⟨?_, ht.2⟩
        rcases hu with hu | hu
        · have := hu.1
          omega
        · rcases hv.1 rfl with h | h
          · exact h.2.symm
          · exact absurd hu.2 h.1
  have wh : p0.toInt = 2 ∨ p0.toInt = 3 → OK ((if (σ.1 2 9) = 0 then (some ((σ.2.1 2 8), σ)) else (some ((-(σ.2.1 2 8)), σ))).bind fun q8 => some (q8.1, q8.2)) (RO σ fun w => ∀ (v t : Int64) (n : Int32), BTS p0.toInt τ v → ((τ.1 0 6).toInt = 3 ∧ t = τ.2.1 0 7 ∧ n = τ.1 0 8 ∨ ¬ (τ.1 0 6).toInt = 3 ∧ t = 0 ∧ n.toInt = 0) → EWR p0.toInt w v t n) := fun h23 => by
    have h62 : (τ.1 0 6).toInt = 2 := by
      rcases h23 with h | h
      · rw [h] at hF
        exact (ft_2.mp hF).1
      · rw [h] at hF
        exact (ft_3.mp hF).1
    obtain ⟨_, g2⟩ := k3 (k1.mp h62)
    have fin : ∀ w : Int64, w = τ.2.1 0 9 → ∀ (v t : Int64) (n : Int32), BTS p0.toInt τ v → ((τ.1 0 6).toInt = 3 ∧ t = τ.2.1 0 7 ∧ n = τ.1 0 8 ∨ ¬ (τ.1 0 6).toInt = 3 ∧ t = 0 ∧ n.toInt = 0) → EWR p0.toInt w v t n := fun w hw v t n hv ht => by
      unfold EWR
      rw [if_neg (by omega)]
      rcases ht with ht | ht
      · omega
      · exact ⟨by rw [hw, hv.2.1 h23], ht.2⟩
    by_cases h9 : σ.1 2 9 = 0
    · rw [if_pos h9]
      refine OK.roret (fin _ ?_)
      rcases g2 with g | g
      · rw [h9] at g
        omega
      · exact g.2.symm
    · rw [if_neg h9]
      refine OK.roret (fin _ ?_)
      rcases g2 with g | g
      · exact g.2.symm
      · exact absurd (Int32.toInt_inj.mp (g.1.trans l0.symm)) h9
  refine OK.ieq (fun h2 => wh (.inl (by omega))) (fun h2 => ?_)
  refine OK.ieq (fun h3 => wh (.inr (by omega))) (fun h3 => ?_)
  refine OK.ieq (fun h4 => ?_) (fun h4 => ?_)
  · have e4 : p0.toInt = 4 := by omega
    rw [e4] at hF ⊢
    have h62 : (τ.1 0 6).toInt = 2 := ft_4.mp hF
    have h44 := k1.mp h62
    obtain ⟨g1, g2⟩ := k3 h44
    obtain ⟨⟨d1, d2⟩, ⟨t1, t2⟩, t3, t4⟩ := hT.2 h44
    have hdec := DEC.bits (σ.2.1 2 8) (σ.1 2 11) σ d1 ⟨t1, t2⟩
    have hneg := hdec.2
    have hpos := hdec.1
    have q1 := FP.Core.ddiv_out (FP.Core.i2d_fin (σ.1 2 11)).notNaN fp10_fin fp10_nz
    have q2 := FP.Core.dadd_out' (FP.Core.l2d_fin (σ.2.1 2 8)) q1
    have hn : ¬ FP.Core.val64 (DEC (σ.2.1 2 8) (σ.1 2 11)) = .nan := by
      rcases dec_fpn (σ.2.1 2 8) (σ.1 2 11) d1 ⟨t1, t2⟩ with ⟨_, e⟩ | ⟨_, c, q, h, _⟩
      · rw [e]
        decide +kernel
      · exact h.nn
    have hn2 : ¬ FP.Core.val64 (FP.dneg (DEC (σ.2.1 2 8) (σ.1 2 11))) = .nan := by
      have e3 : FP.Core.val64 (FP.dneg (DEC (σ.2.1 2 8) (σ.1 2 11))) = FP.Core.negate (FP.Core.val64 (DEC (σ.2.1 2 8) (σ.1 2 11))) := FP.val64_dneg _
      rw [e3]
      intro h
      cases e : FP.Core.val64 (DEC (σ.2.1 2 8) (σ.1 2 11)) with
      | nan => exact hn e
      | inf s => rw [e] at h; cases h
      | fin s c q => rw [e] at h; cases h
    have fin : ∀ w : Int64, (∀ v : Int64, DTL (if (τ.1 0 10).toInt = 0 then FP.l2d (τ.2.1 0 9) else τ.2.2.1 0 11) v → w = v) → ∀ (v t : Int64) (n : Int32), BTS 4 τ v → ((τ.1 0 6).toInt = 3 ∧ t = τ.2.1 0 7 ∧ n = τ.1 0 8 ∨ ¬ (τ.1 0 6).toInt = 3 ∧ t = 0 ∧ n.toInt = 0) → EWR 4 w v t n := fun w hw v t n hv ht => by
      unfold EWR
      rw [if_neg (by omega)]
      rcases ht with ht | ht
      · omega
      · exact ⟨hw v (hv.2.2.1 rfl), ht.2⟩
    have e10 : (σ.1 2 10).toInt = (τ.1 0 10).toInt := by rw [g1]
    have hr : OK (f_X6_realBits σ) (RO σ fun w => ∀ v : Int64, DTL (if (τ.1 0 10).toInt = 0 then FP.l2d (τ.2.1 0 9) else τ.2.2.1 0 11) v → w = v) := by
      unfold f_X6_realBits f_X6_realBits_42
      refine OK.grd (fl_num q1) ?_
      refine OK.grd (fl_num q2) ?_
      have hpos' : f_X10_bitsOfPositive (FP.dadd (FP.l2d (σ.2.1 2 8)) (FP.ddiv (FP.i2d (σ.1 2 11)) 4621819117588971520)) σ = some ((DEC (σ.2.1 2 8) (σ.1 2 11)).toInt64, σ) := hpos
      rw [hpos', sbnd_]
      dsimp only
      -- the reference's double
      have plus : ∀ m0 : (σ.1 2 9).toInt = 0, ∀ v : Int64, DTL (if (τ.1 0 10).toInt = 0 then FP.l2d (τ.2.1 0 9) else τ.2.2.1 0 11) v → (DEC (σ.2.1 2 8) (σ.1 2 11)).toInt64 = v := fun m0 v hv => by
        have e9 : τ.2.1 0 9 = σ.2.1 2 8 := by
          rcases g2 with g | g
          · omega
          · exact g.2
        by_cases hp : (τ.1 0 10).toInt = 0
        · rw [if_pos hp, e9] at hv
          have e0 := t3 (by omega)
          rw [e0, dec_0 _ d1] at hn ⊢
          exact (dtl_num hn).uniq hv
        · rw [if_neg hp] at hv
          rcases t4 (by
            have hb := hX.2.2.1
            have := dot01 hX h62
            omega) with g | g
          · omega
          · rw [g.2] at hv
            exact (dtl_num hn).uniq hv
      have minus : ∀ m1 : ¬ (σ.1 2 9).toInt = 0, ((τ.1 0 10).toInt = 0 → ¬ σ.2.1 2 8 = 0) → ∀ v : Int64, DTL (if (τ.1 0 10).toInt = 0 then FP.l2d (τ.2.1 0 9) else τ.2.2.1 0 11) v → ((DEC (σ.2.1 2 8) (σ.1 2 11)).toInt64 ||| (-9223372036854775808)) = v := fun m1 hz v hv => by
        have e9 : τ.2.1 0 9 = -(σ.2.1 2 8) := by
          rcases g2 with g | g
          · exact g.2
          · omega
        rw [← hneg]
        by_cases hp : (τ.1 0 10).toInt = 0
        · rw [if_pos hp, e9] at hv
          have e0 := t3 (by omega)
          have hz := hz hp
          rw [e0, dec_0 _ d1] at hn2 ⊢
          have hnn : (-(σ.2.1 2 8)).toInt = -(σ.2.1 2 8).toInt := by
            rw [Int64.toInt_neg]
            exact Int.bmod_eq_of_le (by omega) (by omega)
          rw [l2d_neg _ _ hnn (fun h => hz (Int64.toInt_inj.mp (h.trans l64_0.symm)))] at hv
          exact (dtl_num hn2).uniq hv
        · rw [if_neg hp] at hv
          rcases t4 (by
            have := dot01 hX h62
            omega) with g | g
          · rw [g.2] at hv
            exact (dtl_num hn2).uniq hv
          · omega
      refine OK.ieq (fun h9 => OK.roret (plus (by omega))) (fun h9 => ?_)
      have m1 : ¬ (σ.1 2 9).toInt = 0 := by omega
      refine OK.ieq (fun h10 => ?_) (fun h10 => OK.roret (minus m1 (fun h => by omega)))
      refine OK.ite (fun h8 => ?_) (fun h8 => ?_)
      · rw [lg_cmp_eq] at h8
        refine OK.roret (fun v hv => ?_)
        have e9 : τ.2.1 0 9 = 0 := by
          rcases g2 with g | g
          · rw [g.2, h8]
            rfl
          · rw [g.2, h8]
        rw [if_pos (by omega), e9] at hv
        have e0 := t3 (by omega)
        rw [e0, h8, dec_0 _ (by decide)] at hn ⊢
        exact (dtl_num hn).uniq hv
      · rw [lg_cmp_eq] at h8
        exact OK.roret (minus m1 (fun _ => h8))
    exact OK.bndR hr (fun w hw => OK.roret (fin w hw))
  refine OK.ieq (fun h5 => ?_) (fun h5 => ?_)
  · have e5 : p0.toInt = 5 := by omega
    rw [e5] at hF ⊢
    have h63 : (τ.1 0 6).toInt = 3 := ft_5.mp hF
    refine OK.roret (fun v t n hv ht => ?_)
    unfold EWR
    rw [if_pos rfl]
    rcases ht with ht | ht
    · rw [ht.2.1, ht.2.2]
      exact ⟨hv.2.2.2 (by omega), hT.1 (k2.mp h63)⟩
    · exact absurd h63 ht.1
  · refine OK.roret (fun v t n hv ht => ?_)
    unfold EWR
    rw [if_neg (by omega)]
    have h14 : ¬ (1 ≤ p0.toInt ∧ p0.toInt ≤ 4) := by omega
    rcases ht with ht | ht
    · exfalso
      have h07 : ¬ p0.toInt = 5 := by omega
      exact ft_n5 hF h07 hX.q13 ht.1
    · exact ⟨(hv.2.2.2 h14).symm, ht.2⟩
/-! what of a field and of a record is one on both sides -/
/-- a name's letters, counted -/
def RLEN (x : Int64) (n : Int32) : Prop := ∃ (m : Nat) (g : Nat → Nat), m ≤ 8 ∧ GL g m ∧ x.toInt = (n5 m g : Int) ∧ n.toInt = m
theorem LX.rlen {σ τ : ST} (h : LX σ τ) (hN : NM τ) : RLEN (σ.2.1 2 7) (τ.1 0 8) := by
  have hK := h.2.2.1
  obtain ⟨w1, w2, m, g, w3, w4, w5, w6⟩ := hK.wd (by rw [sv_nm hK hN]; omega)
  obtain ⟨s, e4, _, hT⟩ := h.tb
  obtain h1 | h1 | h1 | h1 | h1 := hT
  · have := h1.2.1
    clear h1
    omega
  · obtain ⟨hL, _, k, hR, h5, h8, h7, h6⟩ := h1
    have hk : k ≤ 8 := by omega
    have e : min k 8 = k := by omega
    rw [e] at h7
    have e3 := w27_n k hk hR.1
    rw [← h7, w6] at e3
    obtain ⟨q1, _⟩ := n27_inj m k g (gT (τ.1 1) s) w4 (gT_L hR.1).1 (by omega)
    exact ⟨m, g, w3, w4, w5, by rw [h8, q1]⟩
  · obtain ⟨_, ⟨_, k, hk⟩ | ⟨_, k, hk⟩⟩ := h1
    · obtain ⟨_, _, _, h9 | h9⟩ := hk
      · have : (τ.1 0 6).toInt = 2 ∨ (τ.1 0 6).toInt = 5 := h9.2.2.2.2.elim (fun h => .inl h.1) (fun h => .inr h.1)
        clear h9
        omega
      · have : (τ.1 0 6).toInt = 2 ∨ (τ.1 0 6).toInt = 5 := h9.2.2.2.elim (fun h => .inl h.1) (fun h => .inr h.1)
        clear h9
        omega
    · obtain ⟨_, _, _, h9 | h9⟩ := hk
      · have : (τ.1 0 6).toInt = 2 ∨ (τ.1 0 6).toInt = 5 := h9.2.2.2.2.elim (fun h => .inl h.1) (fun h => .inr h.1)
        clear h9
        omega
      · have : (τ.1 0 6).toInt = 2 ∨ (τ.1 0 6).toInt = 5 := h9.2.2.2.elim (fun h => .inl h.1) (fun h => .inr h.1)
        clear h9
        omega
  · obtain ⟨_, _, k, _, _, _, h6⟩ := h1
    omega
  · have h6 : (τ.1 0 6).toInt = 4 ∨ (τ.1 0 6).toInt = 5 := h1.2.2.elim (fun h => .inl h.2.1) (fun h => .inr h.2.1)
    clear h1
    omega
/-- a word is not nothing -/
theorem LX.wnz {σ τ : ST} (h : LX σ τ) (hN : NM τ) : ¬ σ.2.1 2 7 = 0 := by
  have hK := h.2.2.1
  obtain ⟨w1, w2, w3⟩ := hK.wd (by rw [sv_nm hK hN]; omega)
  obtain ⟨s0, hs0, hTB⟩ := h.tb
  intro e0
  obtain ⟨m, gg, _, hgl, e1, e2⟩ := w3
  obtain ⟨_, mm, hR, _, hm, hw⟩ := hTB.word w1
  have e3 := w27_n mm hm.2 hR.1
  rw [← hw, e2] at e3
  obtain ⟨q1, _⟩ := n27_inj m mm gg (gT (τ.1 1) s0) hgl (gT_L hR.1).1 (by omega)
  rw [e0, l64_0] at e1
  obtain ⟨q2, _⟩ := n5_inj m 0 gg gg hgl (fun i hi => by omega) (by show n5 m gg = 0; omega)
  omega
/-- what a field was called, if it was -/
def FMR (x y : Int64) : Prop := (x = 0 ∧ y = 0) ∨ (WL x y ∧ ¬ x = 0)
/-- the sort of a type's first choice -/
def FCS (S B : Nat → Int32) (t : Int32) : Int := if (S t.toNatClampNeg).toInt = 8 then (S (B (4 * t.toNatClampNeg)).toNatClampNeg).toInt else (S t.toNatClampNeg).toInt
/-- what stands for a field that is missing: of a sort that a literal may have -/
def EWF (s : Int) (w b t : Int64) (n : Int32) : Prop := EWR s w b t n ∧ 0 ≤ s ∧ s ≤ 6
/-- one field: the class's at N, the reference's at M, its type's rows below t -/
def FLR (P t N M : Nat) (σ τ : ST) : Prop := (WL (σ.2.1 27 N) (τ.2.1 12 M) ∧ RLEN (σ.2.1 27 N) (τ.1 13 M)) ∧ FMR (σ.2.1 28 N) (τ.2.1 14 M) ∧ ((σ.1 29 N).toInt = (τ.1 15 M).toInt + P - 400 ∧ (0 ≤ (τ.1 15 M).toInt ∧ (τ.1 15 M).toInt < t) ∧ ((τ.1 2 (τ.1 15 M).toNatClampNeg).toInt = 8 → 0 ≤ (τ.1 5 (4 * (τ.1 15 M).toNatClampNeg)).toInt ∧ (τ.1 5 (4 * (τ.1 15 M).toNatClampNeg)).toInt < t)) ∧ ((τ.1 16 M).toInt = 0 ∨ (τ.1 16 M).toInt = 1 ∧ EWF (FCS (τ.1 2) (τ.1 5) (τ.1 15 M)) (σ.2.1 30 N) (τ.2.1 17 M) (τ.2.1 18 M) (τ.1 19 M))
theorem FCS.ext {S B S' B' : Nat → Int32} {x : Int32} {t : Nat} (hx : 0 ≤ x.toInt ∧ x.toInt < t) (hb : (S x.toNatClampNeg).toInt = 8 → 0 ≤ (B (4 * x.toNatClampNeg)).toInt ∧ (B (4 * x.toNatClampNeg)).toInt < t) (h2 : ∀ j, j < t → S' j = S j) (h5 : ∀ j, j < 4 * t → B' j = B j) : FCS S' B' x = FCS S B x := by
  have n1 := nN_ hx.1
  unfold FCS
  rw [h2 _ (by omega), h5 _ (by omega)]
  by_cases h : (S x.toNatClampNeg).toInt = 8
  · have r := hb h
    have n2 := nN_ r.1
    rw [if_pos h, if_pos h, h2 _ (by omega)]
  · rw [if_neg h, if_neg h]
theorem FLR.ext {P t t' N M : Nat} {σ τ a b : ST} (h : FLR P t N M σ τ) (ht : t ≤ t') (a1 : a.2.1 27 N = σ.2.1 27 N ∧ a.2.1 28 N = σ.2.1 28 N ∧ a.2.1 30 N = σ.2.1 30 N ∧ a.1 29 N = σ.1 29 N) (b1 : b.1 15 M = τ.1 15 M ∧ b.1 13 M = τ.1 13 M ∧ b.1 16 M = τ.1 16 M ∧ b.1 19 M = τ.1 19 M) (b2 : b.2.1 12 M = τ.2.1 12 M ∧ b.2.1 14 M = τ.2.1 14 M ∧ b.2.1 17 M = τ.2.1 17 M ∧ b.2.1 18 M = τ.2.1 18 M) (c2 : ∀ j, j < t → b.1 2 j = τ.1 2 j) (c5 : ∀ j, j < 4 * t → b.1 5 j = τ.1 5 j) : FLR P t' N M a b := by
  obtain ⟨h1, h2, ⟨h3, h4, h5⟩, h6⟩ := h
  have n1 := nN_ h4.1
  unfold FLR
  rw [a1.1, a1.2.1, a1.2.2.1, a1.2.2.2, b1.1, b1.2.1, b1.2.2.1, b1.2.2.2, b2.1, b2.2.1, b2.2.2.1, b2.2.2.2, FCS.ext h4 h5 c2 c5, c2 _ (by omega), c5 _ (by omega)]
  exact ⟨h1, h2, ⟨h3, by omega, fun h => by have := h5 h; omega⟩, h6⟩
/-- which fields of a record have an else -/
def ELB (r m : Nat) (σ τ : ST) : Prop := ∃ w : Nat, w < 512 ∧ σ.1 25 r = Int32.ofNat w ∧ ∀ i : Nat, i < 9 → (w.testBit i = true ↔ i < m ∧ (τ.1 16 (8 * (36 + r) + i)).toInt = 1)
theorem ELB.ext {r m : Nat} {σ τ a b : ST} (h : ELB r m σ τ) (h1 : a.1 25 r = σ.1 25 r) (h2 : ∀ i, i < m → b.1 16 (8 * (36 + r) + i) = τ.1 16 (8 * (36 + r) + i)) : ELB r m a b := by
  obtain ⟨w, w1, w2, w3⟩ := h
  refine ⟨w, w1, h1.trans w2, fun i hi => ?_⟩
  rw [w3 i hi]
  constructor
  · rintro ⟨a1, a2⟩
    exact ⟨a1, by rw [h2 i a1]; exact a2⟩
  · rintro ⟨a1, a2⟩
    exact ⟨a1, by rw [h2 i a1] at a2; exact a2⟩
theorem ELB.same {r m : Nat} {σ τ : ST} (h : ELB r m σ τ) (h0 : ¬ (τ.1 16 (8 * (36 + r) + m)).toInt = 1) : ELB r (m + 1) σ τ := by
  obtain ⟨w, w1, w2, w3⟩ := h
  refine ⟨w, w1, w2, fun i hi => ?_⟩
  rw [w3 i hi]
  constructor
  · rintro ⟨a1, a2⟩
    exact ⟨by omega, a2⟩
  · rintro ⟨a1, a2⟩
    have : i ≠ m := fun e => h0 (by rw [← e]; exact a2)
    exact ⟨by omega, a2⟩
theorem ELB.one {r m : Nat} {σ τ a b : ST} (h : ELB r m σ τ) (hm : m < 8) (h1 : a.1 25 r = σ.1 25 r ||| (1 <<< ((Int32.ofNat m) &&& 31))) (h2 : ∀ i, i < m → b.1 16 (8 * (36 + r) + i) = τ.1 16 (8 * (36 + r) + i)) (h3 : (b.1 16 (8 * (36 + r) + m)).toInt = 1) : ELB r (m + 1) a b := by
  obtain ⟨w, w1, w2, w3⟩ := h
  have ht : w.testBit m = false := by
    cases e : w.testBit m with
    | false => rfl
    | true => have := ((w3 m (by omega)).mp e).1; omega
  obtain ⟨o1, o2, _, o4⟩ := mk_or w w1 m (by omega) ht
  refine ⟨w + 2 ^ m, o2, by rw [h1, w2, o1], fun i hi => ?_⟩
  rw [o4 i hi]
  constructor
  · intro h9
    rcases Bool.or_eq_true _ _ ▸ h9 with h9 | h9
    · obtain ⟨a1, a2⟩ := (w3 i hi).mp h9
      exact ⟨by omega, by rw [h2 i a1]; exact a2⟩
    · have e : i = m := by simpa using h9
      rw [e]
      exact ⟨by omega, h3⟩
  · rintro ⟨a1, a2⟩
    by_cases e : i = m
    · rw [e]
      simp
    · rw [h2 i (by omega)] at a2
      rw [(w3 i hi).mpr ⟨by omega, a2⟩]
      rfl
/-- so many fields of a record -/
def FRL (P t r m : Nat) (σ τ : ST) : Prop := ELB r m σ τ ∧ ∀ i : Nat, i < m → FLR P t (8 * r + i) (8 * (36 + r) + i) σ τ
theorem FRL.ext {P t t' r m : Nat} {σ τ a b : ST} (h : FRL P t r m σ τ) (ht : t ≤ t') (a25 : a.1 25 r = σ.1 25 r) (a1 : ∀ i, i < m → a.2.1 27 (8 * r + i) = σ.2.1 27 (8 * r + i) ∧ a.2.1 28 (8 * r + i) = σ.2.1 28 (8 * r + i) ∧ a.2.1 30 (8 * r + i) = σ.2.1 30 (8 * r + i) ∧ a.1 29 (8 * r + i) = σ.1 29 (8 * r + i)) (b1 : ∀ i, i < m → b.1 15 (8 * (36 + r) + i) = τ.1 15 (8 * (36 + r) + i) ∧ b.1 13 (8 * (36 + r) + i) = τ.1 13 (8 * (36 + r) + i) ∧ b.1 16 (8 * (36 + r) + i) = τ.1 16 (8 * (36 + r) + i) ∧ b.1 19 (8 * (36 + r) + i) = τ.1 19 (8 * (36 + r) + i)) (b2 : ∀ i, i < m → b.2.1 12 (8 * (36 + r) + i) = τ.2.1 12 (8 * (36 + r) + i) ∧ b.2.1 14 (8 * (36 + r) + i) = τ.2.1 14 (8 * (36 + r) + i) ∧ b.2.1 17 (8 * (36 + r) + i) = τ.2.1 17 (8 * (36 + r) + i) ∧ b.2.1 18 (8 * (36 + r) + i) = τ.2.1 18 (8 * (36 + r) + i)) (c2 : ∀ j, j < t → b.1 2 j = τ.1 2 j) (c5 : ∀ j, j < 4 * t → b.1 5 j = τ.1 5 j) : FRL P t' r m a b :=
  ⟨h.1.ext a25 (fun i hi => (b1 i hi).2.2.1), fun i hi => (h.2 i hi).ext ht (a1 i hi) (b1 i hi) (b2 i hi) c2 c5⟩
/-! the else of a field: both read the same -/
abbrev GJ : List Nat := [4, 5, 6, 8, 10, 12, 13]
theorem OK.bndB {α β δ : Type} {a : Option α} {b : Option β} {g : β → Option δ} {Q : α → β → Prop} {P : α → δ → Prop} (h : OK a (fun x => OK b (Q x))) (k : ∀ x y, Q x y → OK (g y) (P x)) : OK a (fun u => OK (b.bind g) (P u)) := h.mono (fun x hx => OK.bnd hx (k x))
theorem OK.eqR {α : Type} {o : Option (α × ST)} {v : α} {σ : ST} (h : o = some (v, σ)) : OK o (RO σ fun w => w = v) := ⟨_, h, rfl, rfl⟩
theorem uT_1 {τ : ST} (h : ¬ (τ.1 0 6).toInt = 0) : uT τ = ((τ.1 0 3).toInt - (τ.1 0 5).toInt).toNat + 1 := by
  unfold uT
  rw [if_neg h]
theorem TK.t0 {σ τ : ST} (h : TK σ τ) : (σ.1 2 4).toInt = 0 ↔ (τ.1 0 6).toInt = 0 := by
  obtain ⟨_, h | h | h | h | h | h⟩ := h
  · exact ⟨fun _ => h.2.1, fun _ => h.1⟩
  · obtain ⟨h1, _, h2⟩ := h
    have h3 : (τ.1 0 6).toInt = 5 ∨ (τ.1 0 6).toInt = 2 := h2.elim .inl (fun h => .inr h.1)
    clear h2
    omega
  · obtain ⟨h1, _, _, _, h2⟩ := h
    have h3 : (σ.1 2 4).toInt = 2 ∨ (σ.1 2 4).toInt = 3 := h2.elim (fun h => .inl h.1) (fun h => .inr h.1)
    clear h2
    omega
  · obtain ⟨h1, h2, _⟩ := h
    omega
  · obtain ⟨h1, h2, _⟩ := h
    omega
  · obtain ⟨h1, h2, _⟩ := h
    omega
theorem TK.hg {σ τ : ST} (h : TK σ τ) (h0 : ¬ (σ.1 2 4).toInt = 0) (h1 : ¬ (σ.1 2 4).toInt = 1) : σ.1 2 3 = τ.1 0 5 := (h.bw h1).2.2.2 h0
theorem TB_.nxt {T : Nat → Int32} {n : Int} {s : Nat} {t : ST} (h : TB_ T n s t) : (s : Int) ≤ (t.1 0 5).toInt ∧ (¬ (t.1 0 6).toInt = 0 → (s : Int) + 1 ≤ (t.1 0 5).toInt) := by
  obtain ⟨_, h | h | h | h | h⟩ := h
  · obtain ⟨_, h1, _, h2⟩ := h
    omega
  · obtain ⟨hL, _, m, hR, h5, _⟩ := h
    have hm : 1 ≤ m := by
      rcases Nat.eq_zero_or_pos m with e | e
      · subst e
        exact absurd hL hR.2
      · exact e
    clear hR
    omega
  · obtain ⟨hd, ⟨_, m, hm⟩ | ⟨h45, m, hm⟩⟩ := h
    · obtain ⟨_, _, _, h | h⟩ := hm
      · have := h.2.2.2.1
        clear h
        omega
      · have := h.2.2.1
        clear h
        omega
    · have hD : isD (bt T n s) := hd.elim id (fun h => absurd h.1 h45)
      obtain ⟨hR, _, _, h⟩ := hm
      have hm : 1 ≤ m := by
        rcases Nat.eq_zero_or_pos m with e | e
        · subst e
          exact absurd hD hR.2
        · exact e
      rcases h with h | h
      · have := h.2.2.2.1
        clear h hR
        omega
      · have := h.2.2.1
        clear h hR
        omega
  · obtain ⟨_, _, m, _, h5, _⟩ := h
    omega
  · have := h.2.1
    clear h
    omega
theorem LX.nxt {σ τ : ST} (h : LX σ τ) : (τ.1 0 4).toInt ≤ (τ.1 0 5).toInt ∧ (¬ (τ.1 0 6).toInt = 0 → (τ.1 0 4).toInt + 1 ≤ (τ.1 0 5).toInt) := by
  obtain ⟨s, e, hT⟩ := h.tb
  have := hT.nxt
  rw [e]
  exact this
def BE (N : Nat) (τ z : ST) : Prop := (∀ c, c ∉ [16, 19] → z.1 c = τ.1 c) ∧ ((∀ i, bI (τ.1 19 i) 0 12) → ∀ i, bI (z.1 19 i) 0 12) ∧ (∀ c, c ∉ [17, 18] → z.2.1 c = τ.2.1 c) ∧ (∀ i, i ≠ N → (z.1 16 i = τ.1 16 i ∧ z.1 19 i = τ.1 19 i) ∧ z.2.1 17 i = τ.2.1 17 i ∧ z.2.1 18 i = τ.2.1 18 i)
/-- the text that is told -/
def BT3 (N : Nat) (τ z : ST) : Prop := ((τ.1 0 6).toInt = 3 ∧ z.2.1 18 N = τ.2.1 0 7 ∧ z.1 19 N = τ.1 0 8) ∨ (¬ (τ.1 0 6).toInt = 3 ∧ z.2.1 18 N = 0 ∧ (z.1 19 N).toInt = 0)
def BV (N : Nat) (s : Int) (τ z : ST) : Prop := (z.1 16 N).toInt = 1 ∧ BTS s τ (z.2.1 17 N) ∧ BT3 N τ z
theorem b_else84 (p0 : Int32) (y0 : Int64) (τ : ST) (N : Nat) (h : p0.toInt = N) (hN : N < 576) (htx : TX τ) (hy0 : (τ.1 0 6).toInt = 3 ∧ y0 = τ.2.1 0 7 ∨ ¬ (τ.1 0 6).toInt = 3 ∧ y0 = 0) (P : (Int32 × ST) × Nat → Prop) (k : ∀ (y : Int32) (z : ST), (y.toInt = 1 ∧ (τ.1 0 13).toInt = 91 ∨ y.toInt = 0 ∧ ¬ (τ.1 0 13).toInt = 91) → BE N τ z → z.1 16 = τ.1 16 → z.2.1 17 = τ.2.1 17 → BT3 N τ z → OK (f_X11_elseOf_121 y z) P) : OK (f_X11_elseOf_84 p0 y0 p0 τ) P := by
  unfold f_X11_elseOf_84
  have n0 : p0.toNatClampNeg = N := nC h
  have l91 : (91 : Int32).toInt = 91 := by decide
  have l3 := li_3
  have l0 := li_0
  have l1 := li_1
  rw [n0]
  refine OK.grd ⟨by omega, by omega⟩ ?_
  have e1 : ∀ c, (stL τ 18 N y0).1 c = τ.1 c := fun _ => rfl
  have e2 : ∀ c, c ≠ 18 → (stL τ 18 N y0).2.1 c = τ.2.1 c := fun c hc => stL_ne hc
  have e18 : (stL τ 18 N y0).2.1 18 = vp_updL (τ.2.1 18) N y0 := rfl
  generalize stL τ 18 N y0 = s at e1 e2 e18 ⊢
  have fin : ∀ v : Int32, bI v 0 12 → ((τ.1 0 6).toInt = 3 ∧ v = τ.1 0 8 ∨ ¬ (τ.1 0 6).toInt = 3 ∧ v.toInt = 0) → OK (f_X11_elseOf_106 v p0 s) P := fun v hv hv2 => by
    unfold f_X11_elseOf_106
    rw [n0]
    refine OK.grd ⟨by omega, by omega⟩ ?_
    have z19 : (stI s 19 N v).1 19 = upd (s.1 19) N v := rfl
    have zL : (stI s 19 N v).2.1 = s.2.1 := rfl
    have b : BE N τ (stI s 19 N v) := by
      refine ⟨fun c hc => ?_, fun h9 => ?_, fun c hc => ?_, fun i hi => ⟨⟨?_, ?_⟩, ?_, ?_⟩⟩
      · simp only [List.mem_cons, List.not_mem_nil, or_false, not_or] at hc
        rw [stI_ne hc.2]
        exact e1 c
      · have e9 : (stI s 19 N v).1 19 = upd (s.1 19) N v := rfl
        rw [e9, e1]
        exact upd_all (P := fun x => bI x 0 12) h9 hv
      · simp only [List.mem_cons, List.not_mem_nil, or_false, not_or] at hc
        exact e2 c hc.2
      · rw [stI_ne (by decide), e1]
      · rw [z19, upd_no hi, e1]
      · rw [zL, e2 17 (by decide)]
      · rw [zL, e18, updL_no hi]
    have b16 : (stI s 19 N v).1 16 = τ.1 16 := by rw [stI_ne (by decide), e1]
    have b17 : (stI s 19 N v).2.1 17 = τ.2.1 17 := by rw [zL, e2 17 (by decide)]
    have b3 : BT3 N τ (stI s 19 N v) := by
      unfold BT3
      rw [zL, e18, updL_at, z19, upd_at]
      rcases hv2 with ⟨h1, h2⟩ | ⟨h1, h2⟩
      · exact .inl ⟨h1, hy0.elim (fun h => h.2) (fun h => absurd h1 h.1), h2⟩
      · exact .inr ⟨h1, hy0.elim (fun h => absurd h.1 h1) (fun h => h.2), h2⟩
    have e13 : (stI s 19 N v).1 0 13 = τ.1 0 13 := by rw [stI_ne (by decide), e1]
    refine OK.ieq (fun h9 => k 1 _ (.inl ⟨l1, by rw [e13] at h9; omega⟩) b b16 b17 b3) (fun h9 => k 0 _ (.inr ⟨l0, by rw [e13] at h9; omega⟩) b b16 b17 b3)
  have h8 := htx.2.2.1
  refine OK.ieq (fun h9 => ?_) (fun h9 => fin 0 ⟨by omega, by omega⟩ (.inr ⟨by rw [e1] at h9; omega, l0⟩))
  rw [e1] at h9
  rw [e1]
  exact fin _ (h8 (by omega)) (.inl ⟨by omega, rfl⟩)
theorem b_elseOf (p0 : Int32) (τ : ST) (N : Nat) (u : Int32) (h : p0.toInt = N) (hN : N < 576) (htx : TX τ) (hu : 0 ≤ u.toInt ∧ u.toInt < 800) (hF : OK (f_X11_firstOf (τ.1 15 N) τ) (RO τ fun v => v = u)) (P : (Int32 × ST) × Nat → Prop)
    (bad : ¬ (LT_ τ ∧ FT_ τ (τ.1 2 u.toNatClampNeg).toInt) → ∀ q : (Int32 × ST) × Nat, CH [] [12] τ q.1.2 → q.1.1.toInt = 0 → q.2 ≤ 18 → P q)
    (good : LT_ τ → FT_ τ (τ.1 2 u.toNatClampNeg).toInt → ∀ (y : Int32) (z : ST) (x : Nat), (y.toInt = 1 ∧ (τ.1 0 13).toInt = 91 ∨ y.toInt = 0 ∧ ¬ (τ.1 0 13).toInt = 91) → BE N τ z → BV N (τ.1 2 u.toNatClampNeg).toInt τ z → x ≤ 19 → OK (f_X11_elseOf_121 y z) (fun w => P (w.1, x + w.2))) : OK (f_X11_elseOf p0 τ) P := by
  unfold f_X11_elseOf
  have n0 : p0.toNatClampNeg = N := nC h
  have l0 := li_0
  refine OK.bndK (b_isLiteral τ) (fun v x hv hx => ?_)
  refine OK.kac ?_
  dsimp only
  refine OK.ieq (fun hv0 => ?_) (fun hv1 => ?_)
  · refine OK.bndC (b_wrongHere 1 τ) (fun v2 s2 c2 hv2 => ?_)
    refine OK.grd (b01 (.inl hv2)) ?_
    refine OK.ret (bad (fun h9 => ?_) _ c2 hv2 (by show x + 0 ≤ 18; omega))
    rcases hv with hv | hv
    · exact hv.2 h9.1
    · have := hv.1
      omega
  have hL : LT_ τ := by
    rcases hv with hv | hv
    · have := hv.1
      omega
    · exact hv.2
  rw [n0]
  refine OK.grd ⟨by omega, by omega⟩ ?_
  refine OK.bndR hF (fun v4 h4 => ?_)
  rw [h4]
  dsimp only
  refine OK.bndK (b_fits u τ hu) (fun v6 x6 hv6 hx6 => ?_)
  have hx6 : x6 ≤ 8 := by
    unfold ftc at hx6
    split at hx6
    · exact hx6
    · split at hx6 <;> omega
  refine OK.kac ?_
  dsimp only
  refine OK.ieq (fun hv0 => ?_) (fun hv1 => ?_)
  · refine OK.bndC (b_wrongHere 2 τ) (fun v2 s2 c2 hv2 => ?_)
    refine OK.grd (b01 (.inl hv2)) ?_
    refine OK.ret (bad (fun h9 => ?_) _ c2 hv2 (by show x + (x6 + 0) ≤ 18; omega))
    rcases hv6 with hv | hv
    · exact hv.2 h9.2
    · have := hv.1
      omega
  have hFT : FT_ τ (τ.1 2 u.toNatClampNeg).toInt := by
    rcases hv6 with hv | hv
    · have := hv.1
      omega
    · exact hv.2
  refine OK.bndK (bx_bitsOf u _ hu) (fun v8 x8 hv8 hx8 => ?_)
  refine OK.kac ?_
  dsimp only
  have e1 : ∀ c, c ≠ 16 → (stL (stI τ 16 N (vp_nar .boolean 1)) 17 N v8).1 c = τ.1 c := fun c hc => by
    show (stI τ 16 N (vp_nar .boolean 1)).1 c = _
    rw [stI_ne hc]
  have e2 : ∀ c, c ≠ 17 → (stL (stI τ 16 N (vp_nar .boolean 1)) 17 N v8).2.1 c = τ.2.1 c := fun c hc => by
    rw [stL_ne hc]
    rfl
  have e16 : (stL (stI τ 16 N (vp_nar .boolean 1)) 17 N v8).1 16 = upd (τ.1 16) N (vp_nar .boolean 1) := rfl
  have e17 : (stL (stI τ 16 N (vp_nar .boolean 1)) 17 N v8).2.1 17 = vp_updL (τ.2.1 17) N v8 := rfl
  have nb1 : (vp_nar .boolean 1).toInt = 1 := by decide
  generalize stL (stI τ 16 N (vp_nar .boolean 1)) 17 N v8 = s at e1 e2 e16 e17 ⊢
  have sx : TX s := by
    unfold TX
    rw [e1 0 (by decide)]
    exact htx
  have s0 : s.1 0 = τ.1 0 := e1 0 (by decide)
  have sL0 : s.2.1 0 = τ.2.1 0 := e2 0 (by decide)
  have fin : ∀ y0, ((τ.1 0 6).toInt = 3 ∧ y0 = τ.2.1 0 7 ∨ ¬ (τ.1 0 6).toInt = 3 ∧ y0 = 0) → OK (f_X11_elseOf_84 p0 y0 p0 s) (fun w => P (w.1, x + (x6 + (x8 + w.2)))) := fun y0 hy0 => by
    refine b_else84 p0 y0 s N h hN sx (by rw [s0, sL0]; exact hy0) _ (fun y z hy hz hz16 hz17 hz3 => ?_)
    rw [s0] at hy
    unfold BT3 at hz3
    rw [s0, sL0] at hz3
    refine (good hL hFT y z (x + x6 + x8) hy ⟨fun c hc => ?_, fun h9 => hz.2.1 ?_, fun c hc => ?_, fun i hi => ?_⟩ ⟨by rw [hz16, e16, upd_at]; exact nb1, ?_, hz3⟩ (by omega)).mono (fun w hw => ?_)
    · rw [hz.1 c hc, e1 c (fun e => hc (by rw [e]; decide))]
    · rw [e1 19 (by decide)]
      exact h9
    · rw [hz.2.2.1 c hc, e2 c (fun e => hc (by rw [e]; decide))]
    · obtain ⟨⟨o1, o2⟩, o3, o4⟩ := hz.2.2.2 i hi
      rw [o1, o2, o3, o4, e16, upd_no hi, e1 19 (by decide), e17, updL_no hi, e2 18 (by decide)]
      exact ⟨⟨rfl, rfl⟩, rfl, rfl⟩
    · rw [hz17, e17, updL_at]
      exact hv8
    · have e : x + (x6 + (x8 + w.2)) = x + x6 + x8 + w.2 := by omega
      show P (w.1, x + (x6 + (x8 + w.2)))
      rw [e]
      exact hw
  refine OK.ieq (fun h9 => ?_) (fun h9 => ?_)
  · rw [s0] at h9
    rw [sL0]
    exact fin _ (.inl ⟨by have := li_3; omega, rfl⟩)
  · rw [s0] at h9
    exact fin _ (.inr ⟨by have := li_3; omega, rfl⟩)
theorem RWS.ext {P lo hi : Nat} {a b a' b' : ST} (h : RWS P lo hi a b) (a1 : a'.1 31 = a.1 31) (a2 : a'.1 32 = a.1 32) (a3 : a'.2.1 34 = a.2.1 34) (b2 : b'.1 2 = b.1 2) (b4 : b'.1 4 = b.1 4) (b5 : b'.1 5 = b.1 5) (b6 : b'.2.1 6 = b.2.1 6) : RWS P lo hi a' b' := by
  intro j h1 h2
  rw [a1, a2, a3, b2, b4, b5, b6]
  exact h j h1 h2
theorem ab_first (P t0 t1 : Nat) (x y : Int32) (a b : ST) (hR : RWS P t0 t1 a b) (hV : VD t0 t1 (b.1 2) (b.1 3) (b.1 4) (b.1 5) 4 y) (hx : x.toInt = (t0 : Int) + P - 400) (hy : y.toInt = t0) (hcA : (a.1 20 1).toInt = (t1 : Int) + P - 400) (ht : 400 ≤ t0 ∧ t1 ≤ 650) (hP : 1 ≤ P ∧ P ≤ 6) : ∃ u : Int32, ((t0 : Int) ≤ u.toInt ∧ u.toInt < t1) ∧ ((b.1 2 u.toNatClampNeg).toInt = FCS (b.1 2) (b.1 5) y ∧ ((b.1 2 t0).toInt = 8 → (t0 : Int) ≤ (b.1 5 (4 * t0)).toInt ∧ (b.1 5 (4 * t0)).toInt < t1)) ∧ OK (f_X11_firstOf y b) (RO b fun v => v = u) ∧ OK (f_X5_firstChoice 20 x a) (RO a fun v => v.toInt = u.toInt + P - 400) := by
  have hy1 := hV.rng
  have ny : y.toNatClampNeg = t0 := nC hy
  have lt : t0 < t1 := by omega
  have c0 : x.toInt = ((t0 + P - 400 : Nat) : Int) := by omega
  obtain ⟨r1, r2, r3, r4⟩ := hR t0 (Nat.le_refl _) lt
  have fc := a_firstChoice x a (t0 + P - 400) c0 (by omega) (by omega)
  have l8 := li_8
  have e4 : (4 * y).toInt = 4 * y.toInt := mlE 4 (by decide) (by omega) (by omega)
  have n4 : (4 * y).toNatClampNeg = 4 * t0 := nC (by omega)
  by_cases h8 : (b.1 2 t0).toInt = 8
  · obtain ⟨_, _, _, hb⟩ := hV
    rw [ny] at hb
    obtain ⟨hm, hb, _⟩ := hb h8
    obtain ⟨v0, _⟩ := hb 0 (by omega)
    have v0 := v0.rng
    have v0 : (t0 : Int) ≤ (b.1 5 (4 * t0)).toInt ∧ (b.1 5 (4 * t0)).toInt < t1 := v0
    refine ⟨b.1 5 (4 * t0), v0, ⟨by unfold FCS; rw [ny, if_pos h8], fun _ => v0⟩, ?_, ?_⟩
    · unfold f_X11_firstOf
      rw [ny, n4]
      refine OK.grd ⟨by omega, by omega⟩ ?_
      refine OK.ieq (fun _ => ?_) (fun h => by omega)
      refine OK.grd ⟨by omega, by omega⟩ ?_
      exact OK.roret rfl
    · refine fc.roq (fun v hv => ?_)
      have e := r4.1 h8
      rw [r1] at hv
      rcases hv with hv | hv
      · rw [hv.2]
        exact e
      · exact absurd h8 hv.1
  · refine ⟨y, by omega, ⟨by unfold FCS; rw [ny, if_neg h8], fun h => absurd h h8⟩, ?_, ?_⟩
    · unfold f_X11_firstOf
      rw [ny, n4]
      refine OK.grd ⟨by omega, by omega⟩ ?_
      refine OK.ieq (fun h => by omega) (fun _ => ?_)
      exact OK.roret rfl
    · refine fc.roq (fun v hv => ?_)
      rw [r1] at hv
      rcases hv with hv | hv
      · exact absurd hv.1 h8
      · rw [hv.2]
        omega
/-! a mark; what stands for a field that is missing -/
theorem OK.and {α : Type} {o : Option α} {P Q : α → Prop} (h : OK o P) (k : OK o Q) : OK o (fun q => P q ∧ Q q) := by
  obtain ⟨x, e, hx⟩ := h
  obtain ⟨y, e2, hy⟩ := k
  rw [e] at e2
  cases e2
  exact ⟨x, e, hx, hy⟩
def MKP (a b a' b' : ST) : Prop := CA a a' ∧ CH [] GI b b' ∧ (∀ c, c ≠ 0 → b'.2.1 c = b.2.1 c) ∧ LX a' b' ∧ (b.1 0 4).toInt + 1 ≤ (b'.1 0 4).toInt ∧ uT b' + 1 ≤ uT b
theorem ab_mark {c : Int} (p0 : Int32) (a b : ST) (hX : LX a b) (hc : c = 123 ∨ c = 125 ∨ c = 91 ∨ c = 93 ∨ c = 44 ∨ c = 59) (hp : p0.toInt = c) : ((a.1 2 4).toInt = c → OK (f_X6_advance a) (fun a' => OK (f_X11_mark p0 b) (fun q => q.1.toInt = 1 ∧ MKP a b a' q.2))) ∧ (¬ (a.1 2 4).toInt = c → OK (f_X11_mark p0 b) (fun q => q.1.toInt = 0 ∧ CH [] [12] b q.2)) := by
  have hK := hX.2.2.1
  have hs := hK.sg hc
  refine ⟨fun h => ?_, fun h => ?_⟩
  · have ek : b.1 0 13 = p0 := Int32.toInt_inj.mp (by rw [hp]; exact hs.mpr h)
    have k0 : ¬ (a.1 2 4).toInt = 0 := by omega
    have k1 : ¬ (a.1 2 4).toInt = 1 := by omega
    have t0 : ¬ (b.1 0 6).toInt = 0 := fun e => k0 (hK.t0.mpr e)
    have nx := hX.nxt.2 t0
    have u1 := uT_1 t0
    unfold f_X11_mark
    rw [if_pos ek]
    refine (ab_go a b hX (hK.hg k0 k1)).mono (fun a' h' => OK.bnd h' (fun b' hq => ?_))
    obtain ⟨ca, cb, cL, hX', hat, _, hu⟩ := hq
    exact OK.ret ⟨li_1, ca, cb, cL, hX', by show (b.1 0 4).toInt + 1 ≤ (b'.1 0 4).toInt; omega, by show uT b' + 1 ≤ uT b; omega⟩
  · have ek : ¬ b.1 0 13 = p0 := fun e => h (hs.mp (by rw [e]; exact hp))
    unfold f_X11_mark
    rw [if_neg ek]
    refine OK.bndC (b_wrongHere 1 b) (fun v s c2 hv => ?_)
    refine OK.grd (b01 (.inl hv)) ?_
    exact OK.ret ⟨hv, c2⟩
/-- what else leaves of the reference's numbers -/
def FYL (N : Nat) (τ b : ST) : Prop := b.2.1 9 = τ.2.1 9 ∧ b.2.1 12 = τ.2.1 12 ∧ b.2.1 14 = τ.2.1 14 ∧ ∀ i, i ≠ N → b.2.1 17 i = τ.2.1 17 i ∧ b.2.1 18 i = τ.2.1 18 i
theorem FYL.rf {N : Nat} {τ : ST} : FYL N τ τ := ⟨rfl, rfl, rfl, fun _ _ => ⟨rfl, rfl⟩⟩
theorem FYL.trans {N : Nat} {τ b w : ST} (h : FYL N τ b) (k : FYL N b w) : FYL N τ w := ⟨k.1.trans h.1, k.2.1.trans h.2.1, k.2.2.1.trans h.2.2.1, fun i hi => ⟨(k.2.2.2 i hi).1.trans (h.2.2.2 i hi).1, (k.2.2.2 i hi).2.trans (h.2.2.2 i hi).2⟩⟩
theorem L5.fyl {N : Nat} {τ b : ST} (h : L5 τ b) : FYL N τ b := ⟨h.1, h.2.1, h.2.2.1, fun i _ => ⟨by rw [h.2.2.2.1], by rw [h.2.2.2.2]⟩⟩
def FY (N : Nat) (τ b : ST) : Prop := (∀ c, c ∉ [0, 16, 19] → b.1 c = τ.1 c) ∧ (∀ i, i ∉ GJ → b.1 0 i = τ.1 0 i) ∧ ((∀ i, bI (τ.1 19 i) 0 12) → ∀ i, bI (b.1 19 i) 0 12) ∧ (∀ i, i ≠ N → b.1 16 i = τ.1 16 i ∧ b.1 19 i = τ.1 19 i) ∧ FYL N τ b
theorem FY.rf {N : Nat} {τ : ST} : FY N τ τ := ⟨fun _ _ => rfl, fun _ _ => rfl, fun h => h, fun _ _ => ⟨rfl, rfl⟩, FYL.rf⟩
theorem FY.trans {N : Nat} {τ b w : ST} (h : FY N τ b) (k : FY N b w) : FY N τ w := ⟨fun c hc => (k.1 c hc).trans (h.1 c hc), fun i hi => (k.2.1 i hi).trans (h.2.1 i hi), fun h9 => k.2.2.1 (h.2.2.1 h9), fun i hi => ⟨(k.2.2.2.1 i hi).1.trans (h.2.2.2.1 i hi).1, (k.2.2.2.1 i hi).2.trans (h.2.2.2.1 i hi).2⟩, h.2.2.2.2.trans k.2.2.2.2⟩
theorem CH.fy {N : Nat} {I : List Nat} {τ b : ST} (hI : ∀ i, i ∈ I → i ∈ GJ) (h : CH [] I τ b) : FY N τ b := ⟨fun c hc => h.1 c (fun e => hc (by rw [e]; decide)) (by simp), fun i hi => h.2.1 i (fun h9 => hi (hI i h9)), fun h9 i => by rw [h.1 19 (by decide) (by simp)]; exact h9 i, fun i _ => ⟨by rw [h.1 16 (by decide) (by simp)], by rw [h.1 19 (by decide) (by simp)]⟩, h.l5.fyl⟩
theorem BE.fy {N : Nat} {τ z : ST} (h : BE N τ z) : FY N τ z := by
  refine ⟨fun c hc => h.1 c (fun h9 => hc ?_), fun i _ => by rw [h.1 0 (by decide)], h.2.1, fun i hi => (h.2.2.2 i hi).1, h.2.2.1 9 (by decide), h.2.2.1 12 (by decide), h.2.2.1 14 (by decide), fun i hi => (h.2.2.2 i hi).2⟩
  simp only [List.mem_cons, List.not_mem_nil, or_false] at h9 ⊢
  omega
def AFr (r n : Nat) (σ a : ST) : Prop := (∀ c, c ∉ [2, 25] → a.1 c = σ.1 c) ∧ (∀ c, c ∉ [2, 30] → a.2.1 c = σ.2.1 c) ∧ (∀ i, i ≠ r → a.1 25 i = σ.1 25 i) ∧ (∀ i, i ≠ n → a.2.1 30 i = σ.2.1 30 i)
theorem AFr.rf {r n : Nat} {σ : ST} : AFr r n σ σ := ⟨fun _ _ => rfl, fun _ _ => rfl, fun _ _ => rfl, fun _ _ => rfl⟩
theorem AFr.trans {r n : Nat} {σ a b : ST} (h : AFr r n σ a) (k : AFr r n a b) : AFr r n σ b := ⟨fun c hc => (k.1 c hc).trans (h.1 c hc), fun c hc => (k.2.1 c hc).trans (h.2.1 c hc), fun i hi => (k.2.2.1 i hi).trans (h.2.2.1 i hi), fun i hi => (k.2.2.2 i hi).trans (h.2.2.2 i hi)⟩
theorem CA.fr {r n : Nat} {σ a : ST} (h : CA σ a) : AFr r n σ a := ⟨fun c hc => h.1 c (fun e => hc (by rw [e]; decide)), fun c hc => h.2.2.1 c (fun e => hc (by rw [e]; decide)), fun i _ => by rw [h.1 25 (by decide)], fun i _ => by rw [h.2.2.1 30 (by decide)]⟩
/-- an else was told -/
def EOX (r j : Nat) (σ τ a b : ST) : Prop := (∀ i, i ≠ 288 + 8 * r + j → b.2.1 17 i = τ.2.1 17 i ∧ b.2.1 18 i = τ.2.1 18 i) ∧ (b.1 16 (288 + 8 * r + j)).toInt = 1 ∧ a.1 25 r = (σ.1 25 r ||| (1 <<< ((Int32.ofNat j) &&& 31))) ∧ EWF (FCS (τ.1 2) (τ.1 5) (τ.1 15 (288 + 8 * r + j))) (a.2.1 30 (8 * r + j)) (b.2.1 17 (288 + 8 * r + j)) (b.2.1 18 (288 + 8 * r + j)) (b.1 19 (288 + 8 * r + j))
/-- an else was told, or none -/
def ELX (r j : Nat) (σ τ a b : ST) : Prop := (∀ i, i ≠ 288 + 8 * r + j → b.2.1 17 i = τ.2.1 17 i ∧ b.2.1 18 i = τ.2.1 18 i) ∧ ((b.1 16 (288 + 8 * r + j) = τ.1 16 (288 + 8 * r + j) ∧ a.1 25 r = σ.1 25 r) ∨ ((b.1 16 (288 + 8 * r + j)).toInt = 1 ∧ a.1 25 r = (σ.1 25 r ||| (1 <<< ((Int32.ofNat j) &&& 31))) ∧ EWF (FCS (τ.1 2) (τ.1 5) (τ.1 15 (288 + 8 * r + j))) (a.2.1 30 (8 * r + j)) (b.2.1 17 (288 + 8 * r + j)) (b.2.1 18 (288 + 8 * r + j)) (b.1 19 (288 + 8 * r + j))))
theorem ELX.ext {r j : Nat} {σ τ a b z : ST} (h : ELX r j σ τ a b) (h1 : ∀ c, c ≠ 11 → z.1 c = b.1 c) (h2 : ∀ c, c ≠ 12 → z.2.1 c = b.2.1 c) : ELX r j σ τ a z := by
  unfold ELX
  rw [h1 16 (by decide), h1 19 (by decide), h2 17 (by decide), h2 18 (by decide)]
  exact h
def EO (r j : Nat) (σ τ : ST) (qa : Int32 × ST) (qb : (Int32 × ST) × Nat) : Prop := FY (288 + 8 * r + j) τ qb.1.2 ∧ ((qa.1.toInt = 0 ∧ qb.1.1.toInt = 0 ∧ qb.2 + 40 * uT qb.1.2 ≤ 40 * uT τ + 18) ∨ (qa.1.toInt = 0 ∧ qb.1.1.toInt = 1 ∧ (qb.1.2.1 0 13).toInt = 0 ∧ TX qb.1.2 ∧ qb.2 + 40 * uT qb.1.2 ≤ 40 * uT τ + 18) ∨ (qa.1.toInt = 1 ∧ qb.1.1.toInt = 1 ∧ LX qa.2 qb.1.2 ∧ (∀ c, c ∉ [0, 17, 18] → qb.1.2.2.1 c = τ.2.1 c) ∧ (τ.1 0 4).toInt ≤ (qb.1.2.1 0 4).toInt ∧ AFr r (8 * r + j) σ qa.2 ∧ qb.2 + 40 * uT qb.1.2 ≤ 40 * uT τ ∧ EOX r j σ τ qa.2 qb.1.2))
def FNI (N R : Nat) (x3 : Int64) (b w : ST) : Prop := (∀ c, c ≠ 11 → w.1 c = b.1 c) ∧ (∀ i, i ≠ R → w.1 11 i = b.1 11 i) ∧ w.1 11 R = b.1 11 R + 1 ∧ (∀ c, c ≠ 12 → w.2.1 c = b.2.1 c) ∧ w.2.1 12 N = x3 ∧ ∀ i, i ≠ N → w.2.1 12 i = b.2.1 12 i
theorem b_field190 (x1 x2 : Int32) (x3 : Int64) (τ : ST) (N R : Nat) (h1 : x1.toInt = R) (hR : R < 72) (h2 : x2.toInt = N) (hN : N < 576) : OK (f_X11_field_190 x1 x2 x3 τ) (fun q => q.1.1.toInt = 1 ∧ q.2 = 0 ∧ FNI N R x3 τ q.1.2) := by
  unfold f_X11_field_190
  have n1 : x1.toNatClampNeg = R := nC h1
  have n2 : x2.toNatClampNeg = N := nC h2
  rw [n1, n2]
  refine OK.grd ⟨by omega, by omega⟩ ?_
  refine OK.grd ⟨by omega, by omega⟩ ?_
  refine OK.lt (fun z hz => ?_)
  subst hz
  refine OK.ret ⟨li_1, rfl, fun c hc => ?_, fun i hi => ?_, ?_, fun c hc => ?_, ?_, fun i hi => ?_⟩
  · show (stI (stL τ 12 N x3) 11 R _).1 c = _
    rw [stI_ne hc]
    rfl
  · show upd (τ.1 11) R _ i = _
    rw [upd_no hi]
  · show upd (τ.1 11) R (τ.1 11 R + 1) R = _
    rw [upd_at]
  · show (stL τ 12 N x3).2.1 c = _
    rw [stL_ne hc]
  · show vp_updL (τ.2.1 12) N x3 N = _
    rw [updL_at]
  · show vp_updL (τ.2.1 12) N x3 i = _
    rw [updL_no hi]
/-- what a field's end leaves in the reference -/
def FXL (N : Nat) (τ b : ST) : Prop := b.2.1 9 = τ.2.1 9 ∧ b.2.1 14 = τ.2.1 14 ∧ ∀ i, i ≠ N → b.2.1 12 i = τ.2.1 12 i ∧ b.2.1 17 i = τ.2.1 17 i ∧ b.2.1 18 i = τ.2.1 18 i
theorem FXL.trans {N : Nat} {τ b w : ST} (h : FXL N τ b) (k : FXL N b w) : FXL N τ w := ⟨k.1.trans h.1, k.2.1.trans h.2.1, fun i hi => ⟨(k.2.2 i hi).1.trans (h.2.2 i hi).1, (k.2.2 i hi).2.1.trans (h.2.2 i hi).2.1, (k.2.2 i hi).2.2.trans (h.2.2 i hi).2.2⟩⟩
def FX (R N : Nat) (τ b : ST) : Prop := (∀ c, c ∉ [0, 11, 16, 19] → b.1 c = τ.1 c) ∧ (∀ i, i ∉ GJ → b.1 0 i = τ.1 0 i) ∧ (∀ i, i ≠ R → b.1 11 i = τ.1 11 i) ∧ ((∀ i, bI (τ.1 19 i) 0 12) → ∀ i, bI (b.1 19 i) 0 12) ∧ (∀ i, i ≠ N → b.1 16 i = τ.1 16 i ∧ b.1 19 i = τ.1 19 i) ∧ FXL N τ b
theorem FY.fx {R N : Nat} {τ b : ST} (h : FY N τ b) : FX R N τ b := by
  refine ⟨fun c hc => h.1 c (fun h9 => hc ?_), h.2.1, fun i _ => by rw [h.1 11 (by decide)], h.2.2.1, h.2.2.2.1, h.2.2.2.2.1, h.2.2.2.2.2.2.1, fun i hi => ⟨by rw [h.2.2.2.2.2.1], h.2.2.2.2.2.2.2 i hi⟩⟩
  simp only [List.mem_cons, List.not_mem_nil, or_false] at h9 ⊢
  omega
theorem FX.trans {R N : Nat} {τ b w : ST} (h : FX R N τ b) (k : FX R N b w) : FX R N τ w := ⟨fun c hc => (k.1 c hc).trans (h.1 c hc), fun i hi => (k.2.1 i hi).trans (h.2.1 i hi), fun i hi => (k.2.2.1 i hi).trans (h.2.2.1 i hi), fun h9 => k.2.2.2.1 (h.2.2.2.1 h9), fun i hi => ⟨(k.2.2.2.2.1 i hi).1.trans (h.2.2.2.2.1 i hi).1, (k.2.2.2.2.1 i hi).2.trans (h.2.2.2.2.1 i hi).2⟩, h.2.2.2.2.2.trans k.2.2.2.2.2⟩
theorem FNI.fx {N R : Nat} {x3 : Int64} {b w : ST} (h : FNI N R x3 b w) : FX R N b w := by
  refine ⟨fun c hc => h.1 c (fun e => hc (by rw [e]; decide)), fun i _ => by rw [h.1 0 (by decide)], h.2.1, fun h9 i => by rw [h.1 19 (by decide)]; exact h9 i, fun i _ => ⟨by rw [h.1 16 (by decide)], by rw [h.1 19 (by decide)]⟩, h.2.2.2.1 9 (by decide), h.2.2.2.1 14 (by decide), fun i hi => ⟨h.2.2.2.2.2 i hi, by rw [h.2.2.2.1 17 (by decide)], by rw [h.2.2.2.1 18 (by decide)]⟩⟩
def EL (r j : Nat) (x3 : Int64) (σ τ : ST) (qa : Int32 × ST) (qb : (Int32 × ST) × Nat) : Prop := FX (36 + r) (288 + 8 * r + j) τ qb.1.2 ∧ ((qa.1.toInt = 0 ∧ qb.1.1.toInt = 0 ∧ qb.2 + 40 * uT qb.1.2 ≤ 40 * uT τ + 1) ∨ (qa.1.toInt = 0 ∧ qb.1.1.toInt = 1 ∧ (qb.1.2.1 0 13).toInt = 0 ∧ TX qb.1.2 ∧ qb.2 + 40 * uT qb.1.2 ≤ 40 * uT τ + 1) ∨ (qa.1.toInt = 1 ∧ qb.1.1.toInt = 1 ∧ LX qa.2 qb.1.2 ∧ ((qb.1.2.1 11 (36 + r)).toInt = (j : Int) + 1 ∧ qb.1.2.2.1 12 (288 + 8 * r + j) = x3 ∧ ∀ i, i ≠ 288 + 8 * r + j → qb.1.2.2.1 12 i = τ.2.1 12 i) ∧ (∀ c, c ∉ [0, 12, 17, 18] → qb.1.2.2.1 c = τ.2.1 c) ∧ (τ.1 0 4).toInt ≤ (qb.1.2.1 0 4).toInt ∧ AFr r (8 * r + j) σ qa.2 ∧ qb.2 + 40 * uT qb.1.2 ≤ 40 * uT τ + 1 ∧ ELX r j σ τ qa.2 qb.1.2))
theorem EO.el {r j : Nat} {x1 x2 : Int32} {x3 : Int64} {σ τ : ST} {qa : Int32 × ST} {b : ST} (hr : r < 36) (hj : j < 8) (hx1 : x1.toInt = 36 + (r : Int)) (hx2 : x2.toInt = 288 + 8 * (r : Int) + j) (hX : LX qa.2 b) (hf : (b.1 11 (36 + r)).toInt = j) (hq : qa.1.toInt = 1) {x : Nat} (hx : x + 40 * uT b ≤ 40 * uT τ + 1) (hF : FY (288 + 8 * r + j) τ b) (h12 : b.2.1 12 = τ.2.1 12) (hL : ∀ c, c ∉ [0, 17, 18] → b.2.1 c = τ.2.1 c) (hat : (τ.1 0 4).toInt ≤ (b.1 0 4).toInt) (hA : AFr r (8 * r + j) σ qa.2) (hE : ELX r j σ τ qa.2 b) : OK (f_X11_field_190 x1 x2 x3 b) (fun z => EL r j x3 σ τ qa (z.1, x + z.2)) := by
  have l1 := li_1
  refine (b_field190 x1 x2 x3 b (288 + 8 * r + j) (36 + r) (by omega) (by omega) (by omega) (by omega)).mono (fun z hz => ?_)
  obtain ⟨z1, z2, hz⟩ := hz
  have e1 := il_addE (x := b.1 11 (36 + r)) (y := 1) (by omega) (by omega)
  refine ⟨hF.fx.trans hz.fx, .inr (.inr ⟨hq, z1, ?_, ⟨?_, hz.2.2.2.2.1, fun i hi => ?_⟩, fun c hc => ?_, ?_, hA, ?_, hE.ext hz.1 hz.2.2.2.1⟩)⟩
  · exact hX.ext rfl rfl rfl rfl (hz.1 1 (by decide)) (fun i _ => by rw [hz.1 0 (by decide)]) (hz.2.2.2.1 0 (by decide))
  · rw [hz.2.2.1]
    omega
  · rw [← h12]
    exact hz.2.2.2.2.2 i hi
  · simp only [List.mem_cons, List.not_mem_nil, or_false, not_or] at hc
    rw [hz.2.2.2.1 c hc.2.1]
    refine hL c ?_
    simp only [List.mem_cons, List.not_mem_nil, or_false, not_or]
    exact ⟨hc.1, hc.2.2⟩
  · rw [hz.1 0 (by decide)]
    exact hat
  · show x + z.2 + 40 * uT z.1.2 ≤ _
    rw [z2, uT_eq (b := z.1.2) (τ := b) (by rw [hz.1 0 (by decide)]) (by rw [hz.1 0 (by decide)]) (by rw [hz.1 0 (by decide)])]
    exact hx
theorem ab_else (P t0 t1 r j : Nat) (p0 p1 x1 x2 : Int32) (x3 : Int64) (σ τ : ST) (hP : 1 ≤ P ∧ P ≤ 6) (hX : LX σ τ) (h0 : p0.toInt = r) (h1 : p1.toInt = j) (hr : r < 36) (hj : j < 8) (hx1 : x1.toInt = 36 + (r : Int)) (hx2 : x2.toInt = 288 + 8 * (r : Int) + j) (ht : 400 ≤ t0 ∧ t1 ≤ 650) (hA : (σ.1 29 (8 * r + j)).toInt = (t0 : Int) + P - 400) (hB : (τ.1 15 (288 + 8 * r + j)).toInt = t0) (hcA : (σ.1 20 1).toInt = (t1 : Int) + P - 400) (hR : RWS P t0 t1 σ τ) (hV : VD t0 t1 (τ.1 2) (τ.1 3) (τ.1 4) (τ.1 5) 4 (τ.1 15 (288 + 8 * r + j))) (hf : (τ.1 11 (36 + r)).toInt = j) : OK (f_X3_parseElse p0 p1 σ) (fun qa => OK (f_X11_field_169 x1 x2 x3 τ) (EL r j x3 σ τ qa)) := by
  unfold f_X3_parseElse f_X11_field_169
  have hK := hX.2.2.1
  have e3 : kwV 3 = v_else := rfl
  have l0 := li_0
  have l1 := li_1
  have l6 := li_6
  refine OK.bndR (a_isKeyword 3 σ τ hK (k := 3) (by omega) li_3) (fun v hv => ?_)
  dsimp only
  rw [e3] at hv
  refine OK.sw ?_
  refine OK.bndK (b_isElse τ) (fun vb x hvb hx => ?_)
  refine OK.kac ?_
  dsimp only
  by_cases hW : W_ τ v_else
  rotate_left
  · -- nothing stands for it
    have hv1 : v.toInt = 0 := by
      rcases hv with hv | hv
      · exact hv.1
      · exact absurd hv.2 hW
    have hvb1 : vb.toInt = 0 := by
      rcases hvb with hv | hv
      · exact hv.1
      · exact absurd hv.2 hW
    refine OK.sw ?_
    refine OK.ieq (fun _ => ?_) (fun h => by omega)
    refine OK.ret ?_
    refine OK.ieq (fun _ => ?_) (fun h => by omega)
    exact EO.el hr hj hx1 hx2 hX hf l1 (by omega) FY.rf rfl (fun _ _ => rfl) (Int.le_refl _) AFr.rf ⟨fun _ _ => ⟨rfl, rfl⟩, .inl ⟨rfl, rfl⟩⟩
  have hv1 : v.toInt = 1 := by
    rcases hv with hv | hv
    · exact absurd hW hv.2
    · exact hv.1
  have hvb1 : vb.toInt = 1 := by
    rcases hvb with hv | hv
    · exact absurd hW hv.2
    · exact hv.1
  refine OK.ieq (fun h => by omega) (fun _ => ?_)
  refine OK.sw ?_
  refine OK.ieq (fun h => by omega) (fun _ => ?_)
  have kA := (hK.kw (k := 3) (by omega)).mp (by rw [e3]; exact hW)
  have hg := hK.hg (by omega) (by omega)
  have u1 := uT_1 (τ := τ) (by have := hW.1; omega)
  have nx := hX.nxt.1
  refine OK.bnd2 (ab_goW σ τ hX hg) (fun a1 b1 hq => ?_)
  obtain ⟨⟨ca, cb, cL, hX1, hat, _, hu⟩, hTW1⟩ := hq
  have hK1 := hX1.2.2.1
  have htx1 := hX1.tx
  have B15 : b1.1 15 = τ.1 15 := cb.1 15 (by decide) (by decide)
  refine OK.bndB (Q := EO r j a1 b1) ?_ (fun qa qb hq => ?_)
  rotate_left
  · obtain ⟨qF, hq⟩ := hq
    have FYq : FY (288 + 8 * r + j) τ qb.1.2 := (cb.fy (by decide)).trans qF
    refine OK.kac ?_
    rcases hq with ⟨q1, q2, q3⟩ | ⟨q1, q2, q3, q4, q5⟩ | ⟨q1, q2, q3, q4, q5, q6, q7, q8⟩
    · refine OK.ieq (fun _ => ?_) (fun h => by omega)
      exact OK.ret ⟨FYq.fx, .inl ⟨q1, l0, by show x + (qb.2 + 0) + 40 * uT qb.1.2 ≤ _; omega⟩⟩
    · refine OK.ieq (fun h => by omega) (fun _ => ?_)
      refine (b_field190 x1 x2 x3 qb.1.2 (288 + 8 * r + j) (36 + r) (by omega) (by omega) (by omega) (by omega)).mono (fun z hz => ?_)
      obtain ⟨z1, z2, hz⟩ := hz
      have ez : z.1.2.1 0 = qb.1.2.1 0 := hz.1 0 (by decide)
      refine ⟨FYq.fx.trans hz.fx, .inr (.inl ⟨q1, z1, by rw [ez]; exact q3, ?_, ?_⟩)⟩
      · unfold TX
        rw [ez]
        exact q4
      · show x + (qb.2 + z.2) + 40 * uT z.1.2 ≤ _
        rw [z2, uT_eq (b := z.1.2) (τ := qb.1.2) (by rw [ez]) (by rw [ez]) (by rw [ez])]
        omega
    · refine OK.ieq (fun h => by omega) (fun _ => ?_)
      refine (EO.el (x := x + qb.2) hr hj hx1 hx2 q3 ?_ q1 (by omega) FYq ?_ (fun c hc => ?_) (by omega) (ca.fr.trans q6) ?_).mono (fun z hz => ?_)
      · rw [FYq.1 11 (by decide)]
        exact hf
      · rw [q4 12 (by decide), cL 12 (by decide)]
      · have hc0 : c ≠ 0 := fun e => hc (by rw [e]; decide)
        rw [q4 c hc, cL c hc0]
      · obtain ⟨o1, o2, o3, o4⟩ := q8
        refine ⟨fun i hi => ?_, .inr ⟨o2, ?_, ?_⟩⟩
        · rw [(o1 i hi).1, (o1 i hi).2, cL 17 (by decide), cL 18 (by decide)]
          exact ⟨rfl, rfl⟩
        · rw [o3, ca.1 25 (by decide)]
        · rw [cb.1 2 (by decide) (by decide), cb.1 5 (by decide) (by decide), B15] at o4
          exact o4
      · have e : x + qb.2 + z.2 = x + (qb.2 + z.2) := by omega
        rw [e] at hz
        exact hz
  -- what follows the word
  have hR1 : RWS P t0 t1 a1 b1 := hR.ext (ca.1 31 (by decide)) (ca.1 32 (by decide)) (ca.2.2.1 34 (by decide)) (cb.1 2 (by decide) (by decide)) (cb.1 4 (by decide) (by decide)) (cb.1 5 (by decide) (by decide)) (cL 6 (by decide))
  have hV1 : VD t0 t1 (b1.1 2) (b1.1 3) (b1.1 4) (b1.1 5) 4 (b1.1 15 (288 + 8 * r + j)) := by
    rw [cb.1 2 (by decide) (by decide), cb.1 3 (by decide) (by decide), cb.1 4 (by decide) (by decide), cb.1 5 (by decide) (by decide), B15]
    exact hV
  have hcA1 : (a1.1 20 1).toInt = (t1 : Int) + P - 400 := by rw [ca.1 20 (by decide)]; exact hcA
  obtain ⟨u, hu1, ⟨huS, _⟩, hFo, hFc⟩ := ab_first P t0 t1 (a1.1 29 (8 * r + j)) (b1.1 15 (288 + 8 * r + j)) a1 b1 hR1 hV1 (by rw [ca.1 29 (by decide)]; exact hA) (by rw [B15]; exact hB) hcA1 ht hP
  have nu := nN_ (x := u) (by omega)
  have srt : a1.1 31 (u.toNatClampNeg + P - 400) = b1.1 2 u.toNatClampNeg := (hR1 u.toNatClampNeg (by omega) (by omega)).1
  have bfail : ∀ qa : Int32 × ST, qa.1.toInt = 0 → ∀ q : (Int32 × ST) × Nat, CH [] [12] b1 q.1.2 → q.1.1.toInt = 0 → q.2 ≤ 18 → EO r j a1 b1 qa q := fun qa h0 q cq h1 h2 => ⟨cq.fy (by decide), .inl ⟨h0, h1, by rw [uT_eq (cq.2.1 3 (by decide)) (cq.2.1 5 (by decide)) (cq.2.1 6 (by decide))]; omega⟩⟩
  refine OK.bndR (a_beginsLiteral a1 b1 hK1) (fun v5 hv5 => ?_)
  dsimp only
  refine OK.ieq (fun h50 => ?_) (fun h51 => ?_)
  · refine OK.bnd (a_refuse _ _) (fun q hq => ?_)
    refine OK.grd (b01 (.inl hq)) ?_
    refine OK.ret ?_
    refine b_elseOf x2 b1 (288 + 8 * r + j) u (by omega) (by omega) htx1 (by omega) hFo _ (fun _ q2 c2 h1 h2 => bfail (q.1, q.2) hq q2 c2 h1 h2) (fun hL hFT y z xx hy hz _ hxx => ?_)
    have hbad : (a1.1 2 4).toInt = 1 := by
      rcases hv5 with hv | hv
      · exact hv.2.elim id (fun h => absurd hL h)
      · have := hv.1
        omega
    have htk : (b1.1 0 13).toInt = 0 ∧ (b1.1 0 6).toInt = 2 ∧ ∃ k : Nat, (b1.1 0 5).toInt = k ∧ bt (b1.1 1) (b1.1 0 3).toInt k = 46 := by
      obtain ⟨_, h | h | h | h | h | h⟩ := hK1
      · omega
      · obtain ⟨_, s0, h5 | h2⟩ := h
        · exfalso
          unfold LT_ W_ at hL
          omega
        · exact ⟨s0, h2⟩
      · obtain ⟨_, _, _, _, h9⟩ := h
        have h9 : (a1.1 2 4).toInt = 2 ∨ (a1.1 2 4).toInt = 3 := h9.elim (fun h => .inl h.1) (fun h => .inr h.1)
        omega
      · have := h.1
        clear h
        omega
      · have := h.1
        clear h
        omega
      · have := h.1
        clear h
        omega
    obtain ⟨hs0, ht2, kk, e5, e46⟩ := htk
    have hy0 : y.toInt = 0 := by omega
    have z0 : z.1 0 = b1.1 0 := hz.1 0 (by decide)
    have z1 : z.1 1 = b1.1 1 := hz.1 1 (by decide)
    have u2 := uT_1 (τ := b1) (by omega)
    have zx : TX z := by
      unfold TX
      rw [z0]
      exact htx1
    have b5 := htx1.2.1
    unfold bI at b5
    unfold f_X11_elseOf_121 f_X11_elseOf_139
    refine OK.bnd ((b_go z kk (by rw [z0]; exact hX1.2.1) (by rw [z0]; exact e5) (by omega)).and (b_goT z zx)) (fun t ht9 => ?_)
    obtain ⟨⟨ct, s, hs, hT⟩, _, tx, tu⟩ := ht9
    rw [z0, z1] at hs hT
    rw [z0] at tu
    have es : s = kk := by
      rcases Nat.lt_or_ge kk s with h9 | h9
      · have := hs.2.1 kk (Nat.le_refl _) h9
        unfold isB at this
        omega
      · exact Nat.le_antisymm h9 hs.1
    subst es
    have t13 : (t.1 0 13).toInt = 0 := by
      obtain ⟨_, h | h | h | h | h⟩ := hT
      · exact h.2.2.1
      · exact h.2.1
      · have h9 := h.1
        clear h
        unfold isD at h9
        omega
      · exact h.2.1
      · rcases h.2.2 with h9 | h9
        · have := h9.1
          clear h h9
          omega
        · exact h9.2.2
    refine OK.ieq (fun _ => ?_) (fun h => by omega)
    refine OK.ret ⟨hz.fy.trans (ct.fy (by decide)), .inr (.inl ⟨hq, l1, t13, tx, ?_⟩)⟩
    show xx + 0 + 40 * uT t ≤ _
    omega
  · have hk1 : ¬ (a1.1 2 4).toInt = 1 ∧ LT_ b1 := by
      rcases hv5 with hv | hv
      · have := hv.1
        omega
      · exact hv.2
    obtain ⟨hk1, hL⟩ := hk1
    refine OK.bndR (OK.eqR (a_typeOf p0 p1 a1 h0 h1 hr hj)) (fun w hw => ?_)
    rw [hw]
    dsimp only
    refine OK.bndR hFc (fun w9 hw9 => ?_)
    dsimp only
    refine OK.bndR (a_sortOf w9 a1 (u.toNatClampNeg + P - 400) (by omega) (by omega) (by omega)) (fun w11 hw11 => ?_)
    dsimp only
    have hw12 : w11.toInt = (b1.1 2 u.toNatClampNeg).toInt := by rw [hw11, srt]
    refine OK.bndR (a_fits w11 a1 b1 hK1 hk1) (fun w13 hw13 => ?_)
    dsimp only
    rw [hw12] at hw13
    refine OK.ieq (fun h130 => ?_) (fun h131 => ?_)
    · have hnF : ¬ FT_ b1 (b1.1 2 u.toNatClampNeg).toInt := by
        rcases hw13 with hv | hv
        · exact hv.2
        · have := hv.1
          omega
      refine OK.bnd (a_refuse _ _) (fun q hq => ?_)
      refine OK.grd (b01 (.inl hq)) ?_
      refine OK.ret ?_
      exact b_elseOf x2 b1 (288 + 8 * r + j) u (by omega) (by omega) htx1 (by omega) hFo _ (fun _ q2 c2 h1 h2 => bfail (q.1, q.2) hq q2 c2 h1 h2) (fun _ hFT => absurd hFT hnF)
    have hFT : FT_ b1 (b1.1 2 u.toNatClampNeg).toInt := by
      rcases hw13 with hv | hv
      · have := hv.1
        omega
      · exact hv.2
    refine OK.bndR (ab_ewr w11 a1 b1 hX1 hTW1 hk1 (by rw [hw12]; exact hFT)) (fun w15 hw15 => ?_)
    dsimp only
    refine OK.bnd (a_setElse p0 p1 w15 a1 h0 h1 hr hj) (fun a2 ha2 => ?_)
    obtain ⟨c1, c2, c3, c4, c5, c6⟩ := ha2
    refine OK.sw ?_
    refine b_elseOf x2 b1 (288 + 8 * r + j) u (by omega) (by omega) htx1 (by omega) hFo _ (fun h => absurd ⟨hL, hFT⟩ h) (fun _ _ y z xx hy hz hBV hxx => ?_)
    refine OK.sw ?_
    unfold f_X11_elseOf_121 f_X11_elseOf_139
    have z0 : z.1 0 = b1.1 0 := hz.1 0 (by decide)
    have hX2 : LX a2 z := hX1.ext (c1 1 (by decide)) (c1 2 (by decide)) (c2 3 (by decide)) (c2 2 (by decide)) (hz.1 1 (by decide)) (fun i _ => by rw [z0]) (hz.2.2.1 0 (by decide))
    have ht0 : ¬ (b1.1 0 6).toInt = 0 := by
      have h9 := htx1.2.2.2
      unfold LT_ W_ at hL
      omega
    have hk0 : ¬ (a1.1 2 4).toInt = 0 := fun e => ht0 (hK1.t0.mp e)
    have hg2 : a2.1 2 3 = z.1 0 5 := by rw [c1 2 (by decide), z0]; exact hK1.hg hk0 hk1
    have u2 := uT_1 ht0
    have nx1 := hX1.nxt.1
    have hFC : 0 ≤ (b1.1 2 u.toNatClampNeg).toInt ∧ (b1.1 2 u.toNatClampNeg).toInt ≤ 6 := by
      have t4 : (b1.1 0 13).toInt = 123 → (b1.1 0 6).toInt = 4 := fun h123 => by
        obtain ⟨_, h | h | h | h | h | h⟩ := hK1
        · omega
        · have := h.2.1
          clear h
          omega
        · have := h.2.1
          clear h
          omega
        · have := h.2.2.1
          clear h
          omega
        · have := h.2.2.1
          clear h
          omega
        · exact h.2.1
      unfold FT_ W_ at hFT
      unfold LT_ W_ at hL
      omega
    have h6 : (b1.1 0 13).toInt = 91 ↔ (b1.1 2 u.toNatClampNeg).toInt = 6 := by
      constructor
      · intro h91
        have t4 : (b1.1 0 6).toInt = 4 := by
          obtain ⟨_, h | h | h | h | h | h⟩ := hK1
          · omega
          · have := h.2.1
            clear h
            omega
          · have := h.2.1
            clear h
            omega
          · have := h.2.2.1
            clear h
            omega
          · have := h.2.2.1
            clear h
            omega
          · exact h.2.1
        unfold FT_ W_ at hFT
        omega
      · intro e6
        rw [e6] at hFT
        exact ft_6.mp hFT
    have AF2 : AFr r (8 * r + j) a1 a2 := ⟨fun c hc => c1 c (fun e => hc (by rw [e]; decide)), fun c hc => c2 c (fun e => hc (by rw [e]; decide)), c4, c6⟩
    have zL : ∀ c, c ∉ [0, 17, 18] → z.2.1 c = b1.2.1 c := fun c hc => hz.2.2.1 c (fun h9 => hc (by
      simp only [List.mem_cons, List.not_mem_nil, or_false] at h9 ⊢
      omega))
    refine OK.bnd2 (ab_go a2 z hX2 hg2) (fun a3 b3 hq3 => ?_)
    obtain ⟨ca3, cb3, cL3, hX3, hat3, _, hu3⟩ := hq3
    rw [z0] at hat3 hu3
    have FY3 : FY (288 + 8 * r + j) b1 b3 := hz.fy.trans (cb3.fy (by decide))
    have AF3 : AFr r (8 * r + j) a1 a3 := AF2.trans ca3.fr
    have X2 : EOX r j a1 b1 a2 z := by
      refine ⟨fun i hi => (hz.2.2.2 i hi).2, hBV.1, c3, ?_⟩
      rw [← huS, c5]
      rw [hw12] at hw15
      exact ⟨hw15 _ _ _ hBV.2.1 hBV.2.2, hFC⟩
    have X3 : EOX r j a1 b1 a3 b3 := by
      unfold EOX
      rw [ca3.1 25 (by decide), ca3.2.2.1 30 (by decide), cb3.1 16 (by decide) (by decide), cb3.1 19 (by decide) (by decide), cL3 17 (by decide), cL3 18 (by decide)]
      exact X2
    have L3 : ∀ c, c ∉ [0, 17, 18] → b3.2.1 c = b1.2.1 c := fun c hc => by
      rw [cL3 c (fun e => hc (by rw [e]; decide))]
      exact zL c hc
    by_cases hs6 : (b1.1 2 u.toNatClampNeg).toInt = 6
    · have hy1 : y.toInt = 1 := by
        have := h6.mpr hs6
        omega
      refine OK.ieq (fun _ => ?_) (fun h => by omega)
      have l93 : (93 : Int32).toInt = 93 := by decide
      have hm := ab_mark (c := 93) 93 a3 b3 hX3 (by omega) l93
      by_cases h93 : (a3.1 2 4).toInt = 93
      · refine OK.ieq (fun _ => ?_) (fun h => by omega)
        refine OK.sw ?_
        refine OK.ieq (fun h => by omega) (fun _ => ?_)
        refine OK.sw ?_
        refine OK.bnd2 (hm.1 h93) (fun a4 q4 hq4 => ?_)
        obtain ⟨e4, ca4, cb4, cL4, hX4, hat4, hu4⟩ := hq4
        refine OK.ret ?_
        refine OK.ieq (fun h => by omega) (fun _ => ?_)
        refine OK.ret ⟨FY3.trans (cb4.fy (by decide)), .inr (.inr ⟨l1, l1, hX4, fun c hc => ?_, ?_, AF3.trans ca4.fr, ?_, ?_⟩)⟩
        · rw [cL4 c (fun e => hc (by rw [e]; decide))]
          exact L3 c hc
        · show (b1.1 0 4).toInt ≤ (q4.2.1 0 4).toInt
          omega
        · show xx + 0 + 40 * uT q4.2 ≤ _
          omega
        · show EOX r j a1 b1 a4 q4.2
          unfold EOX
          rw [ca4.1 25 (by decide), ca4.2.2.1 30 (by decide), cb4.1 16 (by decide) (by decide), cb4.1 19 (by decide) (by decide), cL4 17 (by decide), cL4 18 (by decide)]
          exact X3
      · refine OK.ieq (fun h => by omega) (fun _ => ?_)
        refine OK.bnd (a_refuse _ _) (fun q hq => ?_)
        refine OK.grd (b01 (.inl hq)) ?_
        refine OK.ret ?_
        refine OK.ieq (fun h => by omega) (fun _ => ?_)
        refine OK.bnd (hm.2 h93) (fun q4 hq4 => ?_)
        obtain ⟨e4, c4⟩ := hq4
        refine OK.ieq (fun _ => ?_) (fun h => by omega)
        refine OK.ret ⟨FY3.trans (c4.fy (by decide)), .inl ⟨hq, l0, ?_⟩⟩
        show xx + 0 + 40 * uT q4.2 ≤ _
        rw [uT_eq (c4.2.1 3 (by decide)) (c4.2.1 5 (by decide)) (c4.2.1 6 (by decide))]
        omega
    · have hy1 : y.toInt = 0 := by
        have h9 : ¬ (b1.1 0 13).toInt = 91 := fun h => hs6 (h6.mp h)
        omega
      refine OK.ieq (fun h => by omega) (fun _ => ?_)
      refine OK.ret ?_
      refine OK.ieq (fun _ => ?_) (fun h => by omega)
      refine OK.ret ⟨FY3, .inr (.inr ⟨l1, l1, hX3, L3, ?_, AF3, ?_, X3⟩)⟩
      · show (b1.1 0 4).toInt ≤ (b3.1 0 4).toInt
        omega
      · show xx + 0 + 40 * uT b3 ≤ _
        omega
/-! a field: both read the same -/
def NMS (r j : Nat) (σ τ : ST) : Prop := ∀ i : Nat, i < j → WL (σ.2.1 27 (8 * r + i)) (τ.2.1 12 (8 * (36 + r) + i))
theorem FRL.nms {P t r j : Nat} {σ τ : ST} (h : FRL P t r j σ τ) : NMS r j σ τ := fun i hi => (h.2 i hi).1.1
theorem VD.first {lo hi : Int} {S A M B : Nat → Int32} {d : Nat} {t : Int32} (h : VD lo hi S A M B d t) : (S t.toNatClampNeg).toInt = 8 → lo ≤ (B (4 * t.toNatClampNeg)).toInt ∧ (B (4 * t.toNatClampNeg)).toInt < hi := by
  cases d with
  | zero => exact h.elim
  | succ d =>
    intro h8
    obtain ⟨_, _, _, hb⟩ := h
    obtain ⟨hm, hb, _⟩ := hb h8
    exact (hb 0 (by omega)).1.rng
def FZ (t0 R N : Nat) (τ b : ST) : Prop := (∀ c, c ∉ [0, 2, 3, 4, 5, 7, 11, 13, 15, 16, 19] → b.1 c = τ.1 c) ∧ (∀ i, i ∉ [4, 5, 6, 8, 10, 12, 13, 34] → b.1 0 i = τ.1 0 i) ∧ (∀ j, j < t0 → b.1 2 j = τ.1 2 j ∧ b.1 3 j = τ.1 3 j ∧ b.1 4 j = τ.1 4 j) ∧ (∀ j, j < 4 * t0 → b.1 5 j = τ.1 5 j) ∧ (∀ i, i < R → b.1 11 i = τ.1 11 i) ∧ (∀ i, i < N → b.1 15 i = τ.1 15 i ∧ b.1 13 i = τ.1 13 i ∧ b.1 16 i = τ.1 16 i ∧ b.1 19 i = τ.1 19 i) ∧ ((∀ i, bI (τ.1 19 i) 0 12) → ∀ i, bI (b.1 19 i) 0 12) ∧ b.2.1 9 = τ.2.1 9 ∧ ∀ i, i < N → b.2.1 12 i = τ.2.1 12 i ∧ b.2.1 14 i = τ.2.1 14 i ∧ b.2.1 17 i = τ.2.1 17 i ∧ b.2.1 18 i = τ.2.1 18 i
theorem FZ.rf {t0 R N : Nat} {τ : ST} : FZ t0 R N τ τ := ⟨fun _ _ => rfl, fun _ _ => rfl, fun _ _ => ⟨rfl, rfl, rfl⟩, fun _ _ => rfl, fun _ _ => rfl, fun _ _ => ⟨rfl, rfl, rfl, rfl⟩, fun h => h, rfl, fun _ _ => ⟨rfl, rfl, rfl, rfl⟩⟩
theorem FZ.trans {t0 R N t1 R1 N1 : Nat} {τ b w : ST} (h : FZ t0 R N τ b) (k : FZ t1 R1 N1 b w) (ht : t0 ≤ t1) (hR : R ≤ R1) (hN : N ≤ N1) : FZ t0 R N τ w := ⟨fun c hc => (k.1 c hc).trans (h.1 c hc), fun i hi => (k.2.1 i hi).trans (h.2.1 i hi), fun j hj => by
  have a := h.2.2.1 j hj
  have b := k.2.2.1 j (by omega)
  exact ⟨b.1.trans a.1, b.2.1.trans a.2.1, b.2.2.trans a.2.2⟩, fun j hj => (k.2.2.2.1 j (by omega)).trans (h.2.2.2.1 j hj), fun i hi => (k.2.2.2.2.1 i (by omega)).trans (h.2.2.2.2.1 i hi), fun i hi => by
  have a := h.2.2.2.2.2.1 i hi
  have b := k.2.2.2.2.2.1 i (by omega)
  exact ⟨b.1.trans a.1, b.2.1.trans a.2.1, b.2.2.1.trans a.2.2.1, b.2.2.2.trans a.2.2.2⟩, fun h9 => k.2.2.2.2.2.2.1 (h.2.2.2.2.2.2.1 h9), k.2.2.2.2.2.2.2.1.trans h.2.2.2.2.2.2.2.1, fun i hi => by
  have a := h.2.2.2.2.2.2.2.2 i hi
  have b := k.2.2.2.2.2.2.2.2 i (by omega)
  exact ⟨b.1.trans a.1, b.2.1.trans a.2.1, b.2.2.1.trans a.2.2.1, b.2.2.2.trans a.2.2.2⟩⟩
theorem FG.fz {t0 R N : Nat} {τ b : ST} (h : FG t0 τ b) : FZ t0 R N τ b := by
  obtain ⟨l9, l12, l14, l17, l18⟩ := h.2.2.2.2
  refine ⟨fun c hc => h.1 c (fun h9 => hc ?_), fun i hi => h.2.1 i hi, h.2.2.1, h.2.2.2.1, fun i _ => by rw [h.1 11 (by decide)], fun i _ => ⟨by rw [h.1 15 (by decide)], by rw [h.1 13 (by decide)], by rw [h.1 16 (by decide)], by rw [h.1 19 (by decide)]⟩, fun h9 i => by rw [h.1 19 (by decide)]; exact h9 i, l9, fun i _ => ⟨by rw [l12], by rw [l14], by rw [l17], by rw [l18]⟩⟩
  simp only [List.mem_cons, List.not_mem_nil, or_false] at h9 ⊢
  omega
theorem FX.fz {t0 R N : Nat} {τ b : ST} (h : FX R N τ b) : FZ t0 R N τ b := by
  refine ⟨fun c hc => h.1 c (fun h9 => hc ?_), fun i hi => h.2.1 i (fun h9 => hi ?_), fun j _ => ⟨by rw [h.1 2 (by decide)], by rw [h.1 3 (by decide)], by rw [h.1 4 (by decide)]⟩, fun j _ => by rw [h.1 5 (by decide)], fun i hi => h.2.2.1 i (by omega), fun i hi => ⟨by rw [h.1 15 (by decide)], by rw [h.1 13 (by decide)], (h.2.2.2.2.1 i (by omega)).1, (h.2.2.2.2.1 i (by omega)).2⟩, h.2.2.2.1, h.2.2.2.2.2.1, fun i hi => ⟨(h.2.2.2.2.2.2.2 i (by omega)).1, by rw [h.2.2.2.2.2.2.1], (h.2.2.2.2.2.2.2 i (by omega)).2.1, (h.2.2.2.2.2.2.2 i (by omega)).2.2⟩⟩
  · simp only [List.mem_cons, List.not_mem_nil, or_false] at h9 ⊢
    omega
  · simp only [List.mem_cons, List.not_mem_nil, or_false] at h9 ⊢
    omega
theorem CH.fz {t0 R N : Nat} {I : List Nat} {τ b : ST} (hI : ∀ i, i ∈ I → i ∈ [4, 5, 6, 8, 10, 12, 13, 34]) (h : CH [] I τ b) : FZ t0 R N τ b := (h.fg hI).fz
def BLs (t0 N : Nat) (τ b : ST) : Prop := (∀ c, c ∉ [0, 6, 12, 14, 17, 18] → b.2.1 c = τ.2.1 c) ∧ (∀ j, j < t0 → b.2.1 6 j = τ.2.1 6 j) ∧ (∀ i, i < N → b.2.1 12 i = τ.2.1 12 i ∧ b.2.1 14 i = τ.2.1 14 i ∧ b.2.1 17 i = τ.2.1 17 i ∧ b.2.1 18 i = τ.2.1 18 i)
theorem BLs.rf {t0 N : Nat} {τ : ST} : BLs t0 N τ τ := ⟨fun _ _ => rfl, fun _ _ => rfl, fun _ _ => ⟨rfl, rfl, rfl, rfl⟩⟩
theorem BLs.trans {t0 N t1 N1 : Nat} {τ b w : ST} (h : BLs t0 N τ b) (k : BLs t1 N1 b w) (ht : t0 ≤ t1) (hN : N ≤ N1) : BLs t0 N τ w := ⟨fun c hc => (k.1 c hc).trans (h.1 c hc), fun j hj => (k.2.1 j (by omega)).trans (h.2.1 j hj), fun i hi => by
  have a := h.2.2 i hi
  have b := k.2.2 i (by omega)
  exact ⟨b.1.trans a.1, b.2.1.trans a.2.1, b.2.2.1.trans a.2.2.1, b.2.2.2.trans a.2.2.2⟩⟩
def AFF (c0 r n : Nat) (σ a : ST) : Prop := (∀ c, c ∉ [2, 20, 23, 25, 29, 31, 32, 33, 35] → a.1 c = σ.1 c) ∧ (∀ i, i ≠ 1 → a.1 20 i = σ.1 20 i) ∧ (∀ i, i < r → a.1 23 i = σ.1 23 i ∧ a.1 25 i = σ.1 25 i) ∧ (∀ c, c ∉ [2, 27, 28, 30, 34] → a.2.1 c = σ.2.1 c) ∧ (∀ i, i < n → a.2.1 27 i = σ.2.1 27 i ∧ a.2.1 28 i = σ.2.1 28 i ∧ a.2.1 30 i = σ.2.1 30 i ∧ a.1 29 i = σ.1 29 i) ∧ (∀ i, i < c0 → a.1 31 i = σ.1 31 i ∧ a.1 32 i = σ.1 32 i ∧ a.2.1 34 i = σ.2.1 34 i ∧ a.1 33 i = σ.1 33 i)
theorem AFF.rf {c0 r n : Nat} {σ : ST} : AFF c0 r n σ σ := ⟨fun _ _ => rfl, fun _ _ => rfl, fun _ _ => ⟨rfl, rfl⟩, fun _ _ => rfl, fun _ _ => ⟨rfl, rfl, rfl, rfl⟩, fun _ _ => ⟨rfl, rfl, rfl, rfl⟩⟩
theorem AFF.trans {c0 r n c1 r1 n1 : Nat} {σ a b : ST} (h : AFF c0 r n σ a) (k : AFF c1 r1 n1 a b) (hc : c0 ≤ c1) (hr : r ≤ r1) (hn : n ≤ n1) : AFF c0 r n σ b := ⟨fun c hc => (k.1 c hc).trans (h.1 c hc), fun i hi => (k.2.1 i hi).trans (h.2.1 i hi), fun i hi => ⟨(k.2.2.1 i (by omega)).1.trans (h.2.2.1 i hi).1, (k.2.2.1 i (by omega)).2.trans (h.2.2.1 i hi).2⟩, fun c hc => (k.2.2.2.1 c hc).trans (h.2.2.2.1 c hc), fun i hi => by
  have a := h.2.2.2.2.1 i hi
  have b := k.2.2.2.2.1 i (by omega)
  exact ⟨b.1.trans a.1, b.2.1.trans a.2.1, b.2.2.1.trans a.2.2.1, b.2.2.2.trans a.2.2.2⟩, fun i hi => by
  have a := h.2.2.2.2.2 i hi
  have b := k.2.2.2.2.2 i (by omega)
  exact ⟨b.1.trans a.1, b.2.1.trans a.2.1, b.2.2.1.trans a.2.2.1, b.2.2.2.trans a.2.2.2⟩⟩
theorem FA.aff {c0 r n : Nat} {σ a : ST} (h : FA c0 σ a) : AFF c0 r n σ a := by
  refine ⟨fun c hc => h.1 c (fun h9 => hc ?_), h.2.1, fun i _ => ⟨by rw [h.1 23 (by decide)], by rw [h.1 25 (by decide)]⟩, fun c hc => h.2.2.1 c (fun h9 => hc ?_), fun i _ => ⟨by rw [h.2.2.1 27 (by decide)], by rw [h.2.2.1 28 (by decide)], by rw [h.2.2.1 30 (by decide)], by rw [h.1 29 (by decide)]⟩, h.2.2.2⟩
  · simp only [List.mem_cons, List.not_mem_nil, or_false] at h9 ⊢
    omega
  · simp only [List.mem_cons, List.not_mem_nil, or_false] at h9 ⊢
    omega
theorem CA.aff {c0 r n : Nat} {σ a : ST} (h : CA σ a) : AFF c0 r n σ a := (h.fa (c0 := c0)).aff
theorem AFr.aff {c0 r n : Nat} {σ a : ST} (h : AFr r n σ a) : AFF c0 r n σ a := by
  refine ⟨fun c hc => h.1 c (fun h9 => hc ?_), fun i _ => by rw [h.1 20 (by decide)], fun i hi => ⟨by rw [h.1 23 (by decide)], h.2.2.1 i (by omega)⟩, fun c hc => h.2.1 c (fun h9 => hc ?_), fun i hi => ⟨by rw [h.2.1 27 (by decide)], by rw [h.2.1 28 (by decide)], h.2.2.2 i (by omega), by rw [h.1 29 (by decide)]⟩, fun i _ => ⟨by rw [h.1 31 (by decide)], by rw [h.1 32 (by decide)], by rw [h.2.1 34 (by decide)], by rw [h.1 33 (by decide)]⟩⟩
  · simp only [List.mem_cons, List.not_mem_nil, or_false] at h9 ⊢
    omega
  · simp only [List.mem_cons, List.not_mem_nil, or_false] at h9 ⊢
    omega
/-- a field whose type was read: its name's letters, what it was called, no else yet -/
def FSX (r j : Nat) (nA : Int64) (σ a b : ST) : Prop := RLEN nA (b.1 13 (8 * (36 + r) + j)) ∧ FMR (a.2.1 28 (8 * r + j)) (b.2.1 14 (8 * (36 + r) + j)) ∧ (b.1 16 (8 * (36 + r) + j)).toInt = 0 ∧ a.1 25 r = σ.1 25 r
/-- a field whose type was read -/
def FS (P t0 t1 r j : Nat) (nA nB : Int64) (σ τ a b : ST) : Prop := LX a b ∧ ((b.1 0 34).toInt = t1 ∧ (a.1 20 1).toInt = (t1 : Int) + P - 400 ∧ t0 < t1 ∧ t1 ≤ 650) ∧ ((a.1 29 (8 * r + j)).toInt = (t0 : Int) + P - 400 ∧ (b.1 15 (8 * (36 + r) + j)).toInt = t0) ∧ (RWS P t0 t1 a b ∧ VD t0 t1 (b.1 2) (b.1 3) (b.1 4) (b.1 5) 4 (b.1 15 (8 * (36 + r) + j))) ∧ ((a.1 23 r).toInt = (j : Int) + 1 ∧ (b.1 11 (36 + r)).toInt = j ∧ a.2.1 27 (8 * r + j) = nA ∧ WL nA nB) ∧ (FZ t0 (36 + r) (8 * (36 + r) + j) τ b ∧ BLs t0 (8 * (36 + r) + j) τ b ∧ AFF (t0 + P - 400) r (8 * r + j) σ a) ∧ 4 * ((t1 : Int) - 400) ≤ (b.1 0 4).toInt + 1 ∧ RX P t0 t1 a b ∧ FSX r j nA σ a b
theorem FS.ext {P t0 t1 r j : Nat} {nA nB : Int64} {σ τ a b a' b' : ST} (h : FS P t0 t1 r j nA nB σ τ a b) (a1 : ∀ c, c ≠ 2 → a'.1 c = a.1 c) (a2 : ∀ c, c ∉ [2, 28] → a'.2.1 c = a.2.1 c) (a28 : ∀ i, i < 8 * r + j → a'.2.1 28 i = a.2.1 28 i) (b1 : ∀ c, c ≠ 0 → b'.1 c = b.1 c) (b0 : ∀ i, i ∉ GJ → b'.1 0 i = b.1 0 i) (b2 : ∀ c, c ∉ [0, 14] → b'.2.1 c = b.2.1 c) (b14 : ∀ i, i < 8 * (36 + r) + j → b'.2.1 14 i = b.2.1 14 i) (hM : FMR (a'.2.1 28 (8 * r + j)) (b'.2.1 14 (8 * (36 + r) + j))) (hX : LX a' b') (hat : (b.1 0 4).toInt ≤ (b'.1 0 4).toInt) : FS P t0 t1 r j nA nB σ τ a' b' := by
  obtain ⟨_, ⟨h1, h2, h3, h4⟩, ⟨h5, h6⟩, ⟨h7, h8⟩, ⟨h9, h10, h11, h12⟩, ⟨h13, h14, h15⟩, h16, h17, h18, h19, h20, h21⟩ := h
  refine ⟨hX, ⟨by rw [b0 34 (by decide)]; exact h1, by rw [a1 20 (by decide)]; exact h2, h3, h4⟩, ⟨by rw [a1 29 (by decide)]; exact h5, by rw [b1 15 (by decide)]; exact h6⟩, ⟨h7.ext (a1 31 (by decide)) (a1 32 (by decide)) (a2 34 (by decide)) (b1 2 (by decide)) (b1 4 (by decide)) (b1 5 (by decide)) (b2 6 (by decide)), ?_⟩, ⟨by rw [a1 23 (by decide)]; exact h9, by rw [b1 11 (by decide)]; exact h10, by rw [a2 27 (by decide)]; exact h11, h12⟩, ⟨?_, ?_, ?_⟩, by omega, h17.eq (a1 32 (by decide)) (a1 33 (by decide)) (b1 2 (by decide)) (b1 3 (by decide)) (b1 4 (by decide)) (b1 5 (by decide)), by rw [b1 13 (by decide)]; exact h18, hM, by rw [b1 16 (by decide)]; exact h20, by rw [a1 25 (by decide)]; exact h21⟩
  · rw [b1 2 (by decide), b1 3 (by decide), b1 4 (by decide), b1 5 (by decide), b1 15 (by decide)]
    exact h8
  · refine h13.trans (t1 := t0) (R1 := 36 + r) (N1 := 8 * (36 + r) + j) ?_ (Nat.le_refl _) (Nat.le_refl _) (Nat.le_refl _)
    refine ⟨fun c hc => b1 c (fun e => hc (by rw [e]; decide)), fun i hi => b0 i (fun h9 => hi ?_), fun j _ => ⟨by rw [b1 2 (by decide)], by rw [b1 3 (by decide)], by rw [b1 4 (by decide)]⟩, fun j _ => by rw [b1 5 (by decide)], fun i _ => by rw [b1 11 (by decide)], fun i _ => ⟨by rw [b1 15 (by decide)], by rw [b1 13 (by decide)], by rw [b1 16 (by decide)], by rw [b1 19 (by decide)]⟩, fun h i => by rw [b1 19 (by decide)]; exact h i, b2 9 (by decide), fun i hi => ⟨by rw [b2 12 (by decide)], b14 i hi, by rw [b2 17 (by decide)], by rw [b2 18 (by decide)]⟩⟩
    simp only [List.mem_cons, List.not_mem_nil, or_false] at h9 ⊢
    omega
  · refine h14.trans (t1 := t0) (N1 := 8 * (36 + r) + j) ⟨fun c hc => b2 c (fun h9 => hc ?_), fun j _ => by rw [b2 6 (by decide)], fun i hi => ⟨by rw [b2 12 (by decide)], b14 i hi, by rw [b2 17 (by decide)], by rw [b2 18 (by decide)]⟩⟩ (Nat.le_refl _) (Nat.le_refl _)
    simp only [List.mem_cons, List.not_mem_nil, or_false] at h9 ⊢
    omega
  · refine h15.trans (c1 := t0 + P - 400) (r1 := r) (n1 := 8 * r + j) ⟨fun c hc => a1 c (fun e => hc (by rw [e]; decide)), fun i _ => by rw [a1 20 (by decide)], fun i _ => ⟨by rw [a1 23 (by decide)], by rw [a1 25 (by decide)]⟩, fun c hc => a2 c (fun h9 => hc ?_), fun i hi => ⟨by rw [a2 27 (by decide)], a28 i hi, by rw [a2 30 (by decide)], by rw [a1 29 (by decide)]⟩, fun i _ => ⟨by rw [a1 31 (by decide)], by rw [a1 32 (by decide)], by rw [a2 34 (by decide)], by rw [a1 33 (by decide)]⟩⟩ (Nat.le_refl _) (Nat.le_refl _) (Nat.le_refl _)
    simp only [List.mem_cons, List.not_mem_nil, or_false] at h9 ⊢
    omega
/-- a field was read -/
def FLS (P t0 r j : Nat) (σ τ a b : ST) : Prop := ∃ t1 : Nat, (j < 8 ∧ t0 < t1 ∧ t1 ≤ 650 ∧ (b.1 0 34).toInt = t1 ∧ (a.1 20 1).toInt = (t1 : Int) + P - 400) ∧ LX a b ∧ ((a.1 23 r).toInt = (j : Int) + 1 ∧ (b.1 11 (36 + r)).toInt = (j : Int) + 1 ∧ FRL P t1 r (j + 1) a b) ∧ RWS P t0 t1 a b ∧ VD t0 t1 (b.1 2) (b.1 3) (b.1 4) (b.1 5) 4 (b.1 15 (8 * (36 + r) + j)) ∧ 4 * ((t1 : Int) - 400) ≤ (b.1 0 4).toInt + 1 ∧ BLs t0 (8 * (36 + r) + j) τ b ∧ AFF (t0 + P - 400) r (8 * r + j) σ a ∧ RX P t0 t1 a b
def FLD (P t0 r j : Nat) (σ τ : ST) (qa : Int32 × ST) (qb : (Int32 × ST) × Nat) : Prop := FZ t0 (36 + r) (8 * (36 + r) + j) τ qb.1.2 ∧ ((qa.1.toInt = 0 ∧ qb.1.1.toInt = 0 ∧ qb.2 + 40 * uT qb.1.2 ≤ 40 * uT τ + 23) ∨ (qa.1.toInt = 0 ∧ qb.1.1.toInt = 1 ∧ (qb.1.2.1 0 13).toInt = 0 ∧ TX qb.1.2 ∧ qb.2 + 40 * uT qb.1.2 ≤ 40 * uT τ + 23) ∨ (qa.1.toInt = 1 ∧ qb.1.1.toInt = 1 ∧ FLS P t0 r j σ τ qa.2 qb.1.2 ∧ qb.2 + 40 * uT qb.1.2 ≤ 40 * uT τ))
theorem ab_field_end (P t0 t1 r j : Nat) (p0 p1 x1 x2 : Int32) (nA nB : Int64) (σ τ a b : ST) (hP : 1 ≤ P ∧ P ≤ 6) (h400 : 400 ≤ t0) (h0 : p0.toInt = r) (h1 : p1.toInt = j) (hr : r < 36) (hj : j < 8) (hx1 : x1.toInt = 36 + (r : Int)) (hx2 : x2.toInt = 288 + 8 * (r : Int) + j) (hN : FRL P t0 r j σ τ) (hS : FS P t0 t1 r j nA nB σ τ a b) (x : Nat) (hx : x + 40 * uT b + 1 ≤ 40 * uT τ) : OK ((f_X3_parseElse p0 p1 a).bind fun q13 => if q13.1 = 0 then some (0, q13.2) else some (1, q13.2)) (fun qa => OK (f_X11_field_169 x1 x2 nB b) (fun y => FLD P t0 r j σ τ qa (y.1, x + y.2))) := by
  obtain ⟨hX, ⟨s1, s2, s3, s4⟩, ⟨s5, s6⟩, ⟨s7, s8⟩, ⟨s9, s10, s11, s12⟩, ⟨s13, s14, s15⟩, s16, s17, s18, s19, s20, s21⟩ := hS
  have e8 : 8 * (36 + r) + j = 288 + 8 * r + j := by omega
  have l0 := li_0
  have l1 := li_1
  rw [e8] at s6 s8 s18 s19 s20
  obtain ⟨qa, ea, hq⟩ := ab_else P t0 t1 r j p0 p1 x1 x2 nB a b hP hX h0 h1 hr hj hx1 hx2 ⟨h400, s4⟩ s5 s6 s2 s7 s8 s10
  rw [ea]
  show OK (if qa.1 = 0 then some (0, qa.2) else some (1, qa.2)) _
  have fz : ∀ w, FX (36 + r) (288 + 8 * r + j) b w → FZ t0 (36 + r) (8 * (36 + r) + j) τ w := fun w h => s13.trans (h.fz (t0 := t0)) (Nat.le_refl _) (Nat.le_refl _) (by omega)
  refine OK.ieq (fun h => ?_) (fun h => ?_)
  · refine OK.ret (hq.mono (fun z hz => ?_))
    obtain ⟨zF, ⟨_, z2, z3⟩ | ⟨_, z2, z3, z4, z5⟩ | ⟨z1, _⟩⟩ := hz
    · exact ⟨fz _ zF, .inl ⟨l0, z2, by show x + z.2 + 40 * uT z.1.2 ≤ _; omega⟩⟩
    · exact ⟨fz _ zF, .inr (.inl ⟨l0, z2, z3, z4, by show x + z.2 + 40 * uT z.1.2 ≤ _; omega⟩)⟩
    · omega
  · refine OK.ret (hq.mono (fun z hz => ?_))
    obtain ⟨zF, ⟨z1, _⟩ | ⟨z1, _⟩ | ⟨_, z2, zX, ⟨z3, z4, z5⟩, zL, zat, zA, zc, zE⟩⟩ := hz
    · omega
    · omega
    refine ⟨fz _ zF, .inr (.inr ⟨l1, z2, ⟨t1, ⟨hj, s3, s4, ?_, ?_⟩, zX, ⟨?_, z3, ?_⟩, ?_, ?_, ?_, ?_, ?_, ?_⟩, by show x + z.2 + 40 * uT z.1.2 ≤ _; omega⟩)⟩
    · rw [zF.2.1 34 (by decide)]
      exact s1
    · rw [zA.1 20 (by decide)]
      exact s2
    · rw [zA.1 23 (by decide)]
      exact s9
    · have d16 : ∀ i, i < j → z.1.2.1 16 (8 * (36 + r) + i) = b.1 16 (8 * (36 + r) + i) := fun i hi => (zF.2.2.2.2.1 _ (by omega)).1
      have B1 : ELB r j a b := hN.1.ext s21 (fun i hi => (s13.2.2.2.2.2.1 _ (by omega)).2.2.1)
      obtain ⟨zE1, zE2⟩ := zE
      have zr : ∀ q, q < t1 → z.1.2.1 2 q = b.1 2 q := fun q _ => by rw [zF.1 2 (by decide)]
      refine ⟨?_, fun i hi => ?_⟩
      · rcases zE2 with ⟨y1, y2⟩ | ⟨y1, y2, y3⟩
        · refine (B1.ext y2 d16).same ?_
          rw [e8, y1, s20]
          omega
        · exact B1.one hj y2 d16 (by rw [e8]; exact y1)
      by_cases e : i = j
      · subst e
        have nf := nN_ (x := b.1 15 (288 + 8 * r + i)) (by omega)
        have vf := s8.first
        unfold FLR
        rw [e8, zA.2.1 27 (by decide), s11, z4, zF.1 13 (by decide), zA.2.1 28 (by decide), zL 14 (by decide), zA.1 29 (by decide), zF.1 15 (by decide), zF.1 2 (by decide), zF.1 5 (by decide)]
        refine ⟨⟨s12, s18⟩, s19, ⟨by omega, by omega, fun h => by have := vf h; omega⟩, ?_⟩
        rcases zE2 with ⟨y1, y2⟩ | ⟨y1, y2, y3⟩
        · exact .inl (by rw [y1]; exact s20)
        · exact .inr ⟨y1, y3⟩
      · refine (hN.2 i (by omega)).ext (by omega) ?_ ?_ ?_ (fun q hq => ?_) (fun q hq => ?_)
        · have o := s15.2.2.2.2.1 (8 * r + i) (by omega)
          exact ⟨(by rw [zA.2.1 27 (by decide)]; exact o.1), (by rw [zA.2.1 28 (by decide)]; exact o.2.1), (by rw [zA.2.2.2 _ (by omega)]; exact o.2.2.1), (by rw [zA.1 29 (by decide)]; exact o.2.2.2)⟩
        · have o := s13.2.2.2.2.2.1 (8 * (36 + r) + i) (by omega)
          have p := zF.2.2.2.2.1 (8 * (36 + r) + i) (by omega)
          exact ⟨(by rw [zF.1 15 (by decide)]; exact o.1), (by rw [zF.1 13 (by decide)]; exact o.2.1), p.1.trans o.2.2.1, p.2.trans o.2.2.2⟩
        · have o := s14.2.2 (8 * (36 + r) + i) (by omega)
          have p := zE1 (8 * (36 + r) + i) (by omega)
          exact ⟨(z5 _ (by omega)).trans o.1, (by rw [zL 14 (by decide)]; exact o.2.1), p.1.trans o.2.2.1, p.2.trans o.2.2.2⟩
        · rw [zF.1 2 (by decide)]
          exact (s13.2.2.1 q hq).1
        · rw [zF.1 5 (by decide)]
          exact s13.2.2.2.1 q hq
    · exact s7.ext (zA.1 31 (by decide)) (zA.1 32 (by decide)) (zA.2.1 34 (by decide)) (zF.1 2 (by decide)) (zF.1 4 (by decide)) (zF.1 5 (by decide)) (zL 6 (by decide))
    · rw [zF.1 2 (by decide), zF.1 3 (by decide), zF.1 4 (by decide), zF.1 5 (by decide), zF.1 15 (by decide), e8]
      exact s8
    · show _ ≤ (z.1.2.1 0 4).toInt + 1
      omega
    · refine s14.trans (t1 := t0) (N1 := 8 * (36 + r) + j) ⟨fun c hc => zL c (fun h9 => hc ?_), fun j _ => by rw [zL 6 (by decide)], fun i hi => ⟨z5 i (by omega), by rw [zL 14 (by decide)], (zE.1 i (by omega)).1, (zE.1 i (by omega)).2⟩⟩ (Nat.le_refl _) (Nat.le_refl _)
      simp only [List.mem_cons, List.not_mem_nil, or_false] at h9 ⊢
      omega
    · exact s15.trans (zA.aff (c0 := t0 + P - 400)) (Nat.le_refl _) (Nat.le_refl _) (Nat.le_refl _)
    · exact s17.eq (zA.1 32 (by decide)) (zA.1 33 (by decide)) (zF.1 2 (by decide)) (zF.1 3 (by decide)) (zF.1 4 (by decide)) (zF.1 5 (by decide))
/-! a field, from its name on -/
theorem ab_field_was (P t0 t1 r j : Nat) (p0 p1 x1 x2 : Int32) (nA nB : Int64) (σ τ a4 b4 : ST) (hP : 1 ≤ P ∧ P ≤ 6) (h400 : 400 ≤ t0) (h0 : p0.toInt = r) (h1 : p1.toInt = j) (hr : r < 36) (hj : j < 8) (hx1 : x1.toInt = 36 + (r : Int)) (hx2 : x2.toInt = 288 + 8 * (r : Int) + j) (hN : FRL P t0 r j σ τ) (hS : FS P t0 t1 r j nA nB σ τ a4 b4) (x : Nat) (hx : x + 40 * uT b4 + 2 ≤ 40 * uT τ) (K : Int32 × ST → Option (Int32 × ST)) (hK0 : K = fun q11 => if q11.1 = 0 then some (0, q11.2) else (f_X3_parseElse p0 p1 q11.2).bind fun q13 => if q13.1 = 0 then some (0, q13.2) else some (1, q13.2))
    (B : ST → Option ((Int32 × ST) × Nat)) (hB0 : B = fun b => (f_X11_isWas b).bind fun q12 => ac q12.2 (if q12.1.1 = 0 then (f_X11_field_169 x1 x2 nB q12.1.2) else ((f_X11_go q12.1.2).bind fun q14 => (f_X11_isName q14).bind fun q16 => ac q16.2 (if q16.1.1 = 0 then ((f_X11_wrongHere 1 q16.1.2).bind fun q22 => if q22.1 = 0 ∨ q22.1 = 1 then some ((q22.1, q22.2), 0) else none) else (if (lg_cmp (q16.1.2.2.1 0 7) nB) = 0 then ((f_X11_wrongHere 3 q16.1.2).bind fun q20 => if q20.1 = 0 ∨ q20.1 = 1 then some ((q20.1, q20.2), 0) else none) else ((f_X11_go (stL q16.1.2 14 (8 * (36 + r) + j) (q16.1.2.2.1 0 7))).bind fun q18 => f_X11_field_169 x1 x2 nB q18)))))) : OK ((f_X3_parseFormerName p0 p1 a4).bind K) (fun qa => OK (B b4) (fun y => FLD P t0 r j σ τ qa (y.1, x + y.2))) := by
  have hX4 := hS.1
  have hK4 := hX4.2.2.1
  have e2 : kwV 2 = v_was := rfl
  have l0 := li_0
  have l1 := li_1
  rw [hB0]
  dsimp only
  refine OK.sw ?_
  refine OK.bndK (b_isWas b4) (fun vw xw hvw hxw => ?_)
  refine OK.kac ?_
  dsimp only
  refine OK.sw ?_
  unfold f_X3_parseFormerName
  rw [Option.bind_assoc]
  refine OK.bndR (a_isKeyword 2 a4 b4 hK4 (k := 2) (by omega) li_2) (fun vk hvk => ?_)
  dsimp only
  rw [e2] at hvk
  have bf : ∀ (qa : Int32 × ST) (b s : ST) (v : Int32) (xx : Nat), qa.1.toInt = 0 → FZ t0 (36 + r) (8 * (36 + r) + j) τ b → CH [] [12] b s → v.toInt = 0 → xx + 40 * uT b ≤ 40 * uT τ + 23 → FLD P t0 r j σ τ qa ((v, s), xx) := fun qa b s v xx h1 hF c h2 hx => ⟨hF.trans (c.fz (by decide)) (Nat.le_refl t0) (Nat.le_refl _) (Nat.le_refl _), .inl ⟨h1, h2, by show xx + 40 * uT s ≤ _; rw [uT_eq (c.2.1 3 (by decide)) (c.2.1 5 (by decide)) (c.2.1 6 (by decide))]; omega⟩⟩
  by_cases hW : W_ b4 v_was
  rotate_left
  · have hv1 : vk.toInt = 0 := by
      rcases hvk with hv | hv
      · exact hv.1
      · exact absurd hv.2 hW
    have hvb1 : vw.toInt = 0 := by
      rcases hvw with hv | hv
      · exact hv.1
      · exact absurd hv.2 hW
    have ek : vk = 0 := Int32.toInt_inj.mp (by omega)
    rw [if_pos ek]
    refine OK.lt (fun z hz => ?_)
    subst hz
    rw [hK0]
    dsimp only
    rw [if_neg (by decide)]
    have h := ab_field_end P t0 t1 r j p0 p1 x1 x2 nA nB σ τ a4 b4 hP h400 h0 h1 hr hj hx1 hx2 hN hS (x + xw) (by omega)
    refine h.mono2 (fun qa y hy => ?_) |>.mono (fun qa hq => OK.ieq (fun _ => hq) (fun h => by omega))
    have e : x + xw + y.2 = x + (xw + y.2) := by omega
    rw [e] at hy
    exact hy
  have hv1 : vk.toInt = 1 := by
    rcases hvk with hv | hv
    · exact absurd hW hv.2
    · exact hv.1
  have hvb1 : vw.toInt = 1 := by
    rcases hvw with hv | hv
    · exact absurd hW hv.2
    · exact hv.1
  have ek : ¬ vk = 0 := fun e => by rw [e] at hv1; omega
  have ewb : ¬ vw = 0 := fun e => by rw [e] at hvb1; omega
  rw [if_neg ek, Option.bind_assoc, if_neg ewb]
  have kA := (hK4.kw (k := 2) (by omega)).mp (by rw [e2]; exact hW)
  have hg4 := hK4.hg (by omega) (by omega)
  have u4 := uT_1 (τ := b4) (by have := hW.1; omega)
  have nx4 := hX4.nxt.1
  refine OK.bnd2 (ab_go a4 b4 hX4 hg4) (fun a5 b5 hq => ?_)
  obtain ⟨ca, cb, cL, hX5, hat, _, hu⟩ := hq
  have hS5 : FS P t0 t1 r j nA nB σ τ a5 b5 := hS.ext (fun c hc => ca.1 c hc) (fun c hc => ca.2.2.1 c (fun e => hc (by rw [e]; decide))) (fun i _ => by rw [ca.2.2.1 28 (by decide)]) (fun c hc => cb.1 c hc (by simp)) (fun i hi => cb.2.1 i (fun h9 => hi (by
    simp only [List.mem_cons, List.not_mem_nil, or_false] at h9 ⊢
    omega))) (fun c hc => cL c (fun e => hc (by rw [e]; decide))) (fun i _ => by rw [cL 14 (by decide)]) (by rw [ca.2.2.1 28 (by decide), cL 14 (by decide)]; exact hS.2.2.2.2.2.2.2.2.2.1) hX5 (by omega)
  have hK5 := hX5.2.2.1
  have hF5 := hS5.2.2.2.2.2.1.1
  have w12 := hS5.2.2.2.2.1.2.2.2
  have n27 := hS5.2.2.2.2.1.2.2.1
  refine OK.sw ?_
  refine OK.bndK (b_isName b5) (fun vn xn hvn hxn => ?_)
  refine OK.kac ?_
  dsimp only
  by_cases hN5 : NM b5
  rotate_left
  · have hn0 : vn.toInt = 0 := by
      rcases hvn with hv | hv
      · exact hv.1
      · exact absurd hv.2 hN5
    have k3 : ¬ a5.1 2 4 = 3 := fun e => hN5 (hK5.nm.mpr (by rw [e]; exact li_3))
    refine OK.ieq (fun _ => ?_) (fun h => by omega)
    refine OK.bndC (b_wrongHere 1 b5) (fun v2 s2 c2 hv2 => ?_)
    refine OK.grd (b01 (.inl hv2)) ?_
    refine OK.ret ?_
    rw [if_neg k3, Option.bind_assoc]
    refine OK.bnd (a_refuse _ _) (fun q hq => ?_)
    rw [if_pos (b01 (.inl hq))]
    refine OK.lt (fun z hz => ?_)
    subst hz
    rw [hK0]
    refine OK.ieq (fun _ => ?_) (fun h => absurd hq h)
    exact OK.ret (bf (0, q.2) b5 s2 v2 _ l0 hF5 c2 hv2 (by show x + (xw + (xn + 0)) + 40 * uT b5 ≤ _; omega))
  have hn1 : vn.toInt = 1 := by
    rcases hvn with hv | hv
    · exact absurd hN5 hv.2
    · exact hv.1
  have k3 : a5.1 2 4 = 3 := Int32.toInt_inj.mp (hK5.nm.mp hN5)
  have k3' : (a5.1 2 4).toInt = 3 := hK5.nm.mp hN5
  obtain ⟨w1, w2, w3⟩ := hK5.wd (by rw [sv_nm hK5 hN5]; omega)
  refine OK.ieq (fun h => by omega) (fun _ => ?_)
  refine OK.sw ?_
  rw [if_pos k3, Option.bind_assoc]
  refine OK.bndR (OK.eqR (a_fieldName p0 p1 a5 h0 h1 hr hj)) (fun w hw => ?_)
  rw [hw, n27]
  dsimp only
  by_cases heq : b5.2.1 0 7 = nB
  · have hA : a5.2.1 2 7 = nA := (w3.iff w12).mpr heq
    rw [if_pos (lg_cmp_eq _ _ |>.mpr hA), if_pos (lg_cmp_eq _ _ |>.mpr heq), Option.bind_assoc]
    refine OK.bnd (a_refuse _ _) (fun q hq => ?_)
    rw [if_pos (b01 (.inl hq))]
    refine OK.lt (fun z hz => ?_)
    subst hz
    rw [hK0]
    refine OK.ieq (fun _ => ?_) (fun h => absurd hq h)
    refine OK.ret ?_
    refine OK.bndC (b_wrongHere 3 b5) (fun v2 s2 c2 hv2 => ?_)
    refine OK.grd (b01 (.inl hv2)) ?_
    exact OK.ret (bf (0, q.2) b5 s2 v2 _ l0 hF5 c2 hv2 (by show x + (xw + (xn + 0)) + 40 * uT b5 ≤ _; omega))
  have hA : ¬ a5.2.1 2 7 = nA := fun e => heq ((w3.iff w12).mp e)
  rw [if_neg (fun h => hA (lg_cmp_eq _ _ |>.mp h)), if_neg (fun h => heq (lg_cmp_eq _ _ |>.mp h)), Option.bind_assoc, a_setFormerName p0 p1 _ a5 h0 h1 hr hj]
  refine OK.lt (fun a6 ha6 => ?_)
  rw [Option.bind_assoc]
  have ea1 : ∀ c, a6.1 c = a5.1 c := fun c => by rw [ha6]; rfl
  have ea2 : ∀ c, c ≠ 28 → a6.2.1 c = a5.2.1 c := fun c hc => by rw [ha6, stL_ne hc]
  have ea28 : a6.2.1 28 = vp_updL (a5.2.1 28) (8 * r + j) (a5.2.1 2 7) := by rw [ha6]; rfl
  have eb1 : ∀ c, (stL b5 14 (8 * (36 + r) + j) (b5.2.1 0 7)).1 c = b5.1 c := fun c => rfl
  have eb14 : (stL b5 14 (8 * (36 + r) + j) (b5.2.1 0 7)).2.1 14 = vp_updL (b5.2.1 14) (8 * (36 + r) + j) (b5.2.1 0 7) := rfl
  have eb2 : ∀ c, c ≠ 14 → (stL b5 14 (8 * (36 + r) + j) (b5.2.1 0 7)).2.1 c = b5.2.1 c := fun c hc => stL_ne hc
  generalize stL b5 14 (8 * (36 + r) + j) (b5.2.1 0 7) = b6 at eb1 eb2 eb14 ⊢
  have hX6 : LX a6 b6 := hX5.ext (ea1 1) (ea1 2) (ea2 3 (by decide)) (ea2 2 (by decide)) (eb1 1) (fun i _ => by rw [eb1]) (eb2 0 (by decide))
  have hg6 : a6.1 2 3 = b6.1 0 5 := by rw [ea1, eb1]; exact hK5.hg (by omega) (by omega)
  have hS6 : FS P t0 t1 r j nA nB σ τ a6 b6 := hS5.ext (fun c _ => ea1 c) (fun c hc => ea2 c (fun e => hc (by rw [e]; decide))) (fun i hi => by rw [ea28, updL_no (by omega)]) (fun c _ => eb1 c) (fun i _ => by rw [eb1]) (fun c hc => eb2 c (fun e => hc (by rw [e]; decide))) (fun i hi => by rw [eb14, updL_no (by omega)]) (by rw [ea28, eb14, updL_at, updL_at]; exact .inr ⟨w3, hX5.wnz hN5⟩) hX6 (by rw [eb1]; exact Int.le_refl _)
  have u6 : uT b6 = uT b5 := uT_eq (by rw [eb1]) (by rw [eb1]) (by rw [eb1])
  have u6' := uT_1 (τ := b6) (by rw [eb1]; omega)
  have nx6 := hX6.nxt.1
  refine OK.bnd2 (ab_go a6 b6 hX6 hg6) (fun a7 b7 hq7 => ?_)
  obtain ⟨ca7, cb7, cL7, hX7, hat7, _, hu7⟩ := hq7
  have hS7 : FS P t0 t1 r j nA nB σ τ a7 b7 := hS6.ext (fun c hc => ca7.1 c hc) (fun c hc => ca7.2.2.1 c (fun e => hc (by rw [e]; decide))) (fun i _ => by rw [ca7.2.2.1 28 (by decide)]) (fun c hc => cb7.1 c hc (by simp)) (fun i hi => cb7.2.1 i (fun h9 => hi (by
    simp only [List.mem_cons, List.not_mem_nil, or_false] at h9 ⊢
    omega))) (fun c hc => cL7 c (fun e => hc (by rw [e]; decide))) (fun i _ => by rw [cL7 14 (by decide)]) (by rw [ca7.2.2.1 28 (by decide), cL7 14 (by decide)]; exact hS6.2.2.2.2.2.2.2.2.2.1) hX7 (by omega)
  refine OK.lt (fun z hz => ?_)
  subst hz
  rw [hK0]
  dsimp only
  rw [if_neg (by decide)]
  have h := ab_field_end P t0 t1 r j p0 p1 x1 x2 nA nB σ τ a7 b7 hP h400 h0 h1 hr hj hx1 hx2 hN hS7 (x + xw + xn) (by omega)
  refine h.mono2 (fun qa y hy => ?_)
  have e : x + xw + xn + y.2 = x + (xw + (xn + y.2)) := by omega
  rw [e] at hy
  exact hy
theorem ab_field (P t0 r j : Nat) (p0 p1 pB : Int32) (σ τ : ST) (hP : 1 ≤ P ∧ P ≤ 6) (hX : LX σ τ) (h0 : p0.toInt = r) (h1 : p1.toInt = j) (hr : r < 36) (hj : j ≤ 8) (hpB : pB.toInt = 36 + (r : Int)) (h400 : 400 ≤ t0) (hcB : (τ.1 0 34).toInt = t0) (hcA : (σ.1 20 1).toInt = (t0 : Int) + P - 400) (hb : 4 * ((t0 : Int) - 400) ≤ (τ.1 0 4).toInt) (hfA : (σ.1 23 r).toInt = j) (hfB : (τ.1 11 (36 + r)).toInt = j) (hN : FRL P t0 r j σ τ) : OK (f_X3_parseField p0 p1 σ) (fun qa => OK (f_X11_field pB τ) (FLD P t0 r j σ τ qa)) := by
  unfold f_X3_parseField f_X11_field
  have hK := hX.2.2.1
  have hnm := hK.nm
  have nB : pB.toNatClampNeg = 36 + r := nC (by omega)
  have l0 := li_0
  have l1 := li_1
  have lm := li_m1
  have l3 := li_3
  have l8 := li_8
  have bf : ∀ (qa : Int32 × ST) (x : Nat) (v : Int32) (s : ST), qa.1.toInt = 0 → CH [] [12] τ s → v.toInt = 0 → x ≤ 23 → FLD P t0 r j σ τ qa ((v, s), x) := fun qa x v s h1 c h2 hx => ⟨c.fz (by decide), .inl ⟨h1, h2, by show x + 40 * uT s ≤ _; rw [uT_eq (c.2.1 3 (by decide)) (c.2.1 5 (by decide)) (c.2.1 6 (by decide))]; omega⟩⟩
  refine OK.sw ?_
  refine OK.bndK (b_isName τ) (fun v x hv hx => ?_)
  refine OK.kac ?_
  dsimp only
  by_cases hNM : NM τ
  rotate_left
  · have hv0 : v.toInt = 0 := by
      rcases hv with hv | hv
      · exact hv.1
      · exact absurd hv.2 hNM
    have hk3 : ¬ (σ.1 2 4).toInt = 3 := fun e => hNM (hnm.mpr e)
    refine OK.ieq (fun _ => ?_) (fun h => by omega)
    refine OK.bndC (b_wrongHere 1 τ) (fun v2 s2 c2 hv2 => ?_)
    refine OK.grd (b01 (.inl hv2)) ?_
    refine OK.ret ?_
    refine OK.ieq (fun h => by omega) (fun _ => ?_)
    refine OK.bnd (a_refuse _ _) (fun q hq => ?_)
    refine OK.grd (b01 (.inl hq)) ?_
    exact OK.ret (bf (q.1, q.2) _ v2 s2 hq c2 hv2 (by show x + 0 ≤ 23; omega))
  have hk3 := hnm.mp hNM
  have hv1 : v.toInt = 1 := by
    rcases hv with hv | hv
    · exact absurd hNM hv.2
    · exact hv.1
  refine OK.ieq (fun h => by omega) (fun _ => ?_)
  obtain ⟨w1, w2, w3⟩ := hK.wd (by rw [sv_nm hK hNM]; omega)
  refine OK.bndR (bx_fieldOf pB (τ.2.1 0 7) τ (36 + r) j (by omega) (by omega) hfB hj) (fun vb hvb => ?_)
  dsimp only
  refine OK.sw ?_
  refine OK.ieq (fun _ => ?_) (fun h => by omega)
  refine OK.bndR (a_fieldNamed p0 (σ.2.1 2 7) σ r j hr h0 hfA hj) (fun va hva => ?_)
  dsimp only
  have same : (∃ i : Nat, i < j ∧ σ.2.1 27 (8 * r + i) = σ.2.1 2 7) ↔ ∃ i : Nat, i < j ∧ τ.2.1 12 (8 * (36 + r) + i) = τ.2.1 0 7 := ⟨fun ⟨i, hi, e⟩ => ⟨i, hi, ((hN.nms i hi).iff w3).mp e⟩, fun ⟨i, hi, e⟩ => ⟨i, hi, ((hN.nms i hi).iff w3).mpr e⟩⟩
  by_cases hex : ∃ i : Nat, i < j ∧ σ.2.1 27 (8 * r + i) = σ.2.1 2 7
  · have hva0 : 0 ≤ va.toInt := by
      rcases hva with hv | hv
      · obtain ⟨i, hi, e⟩ := hex
        exact absurd e (hv.2 i hi)
      · exact hv.1
    have hvb0 : 0 ≤ vb.toInt := by
      rcases hvb with hv | hv
      · obtain ⟨i, hi, e⟩ := same.mp hex
        exact absurd e (hv.2 i hi)
      · exact hv.1
    clear hva hvb same hex
    refine OK.ieq (fun h => by omega) (fun _ => ?_)
    refine OK.bnd (a_refuse _ _) (fun q hq => ?_)
    refine OK.grd (b01 (.inl hq)) ?_
    refine OK.ret ?_
    refine OK.ilt (fun h => by omega) (fun _ => ?_)
    refine OK.bndC (b_wrongHere 3 τ) (fun v2 s2 c2 hv2 => ?_)
    refine OK.grd (b01 (.inl hv2)) ?_
    exact OK.ret (bf (q.1, q.2) _ v2 s2 hq c2 hv2 (by show x + 0 ≤ 23; omega))
  have hva1 : va.toInt = -1 := by
    rcases hva with hv | hv
    · exact hv.1
    · exact absurd hv.2 hex
  have hvb1 : vb.toInt = -1 := by
    rcases hvb with hv | hv
    · exact hv.1
    · exact absurd (same.mpr hv.2) hex
  clear hva hvb same hex
  refine OK.ieq (fun _ => ?_) (fun h => by omega)
  by_cases hj8 : j = 8
  · refine OK.ilt (fun h => by omega) (fun _ => ?_)
    refine OK.bnd (a_refuse _ _) (fun q hq => ?_)
    refine OK.grd (b01 (.inl hq)) ?_
    refine OK.ret ?_
    refine OK.ilt (fun _ => ?_) (fun h => by omega)
    refine OK.grd ⟨by omega, by omega⟩ ?_
    rw [nB]
    refine OK.ieq (fun _ => ?_) (fun h => by omega)
    refine OK.bndC (b_wrongHere 4 τ) (fun v2 s2 c2 hv2 => ?_)
    refine OK.grd (b01 (.inl hv2)) ?_
    exact OK.ret (bf (q.1, q.2) _ v2 s2 hq c2 hv2 (by show x + 0 ≤ 23; omega))
  refine OK.ilt (fun _ => ?_) (fun h => by omega)
  refine OK.bnd (a_addField p0 (σ.2.1 2 7) σ h0 hfA hr (by omega)) (fun a1 ha1 => ?_)
  obtain ⟨f1, f2, f3, f4, f5, f6, f7, f8, f9⟩ := ha1
  refine OK.sw ?_
  refine OK.ilt (fun _ => ?_) (fun h => by omega)
  refine OK.grd ⟨by omega, by omega⟩ ?_
  rw [nB]
  refine OK.ieq (fun h => by omega) (fun _ => ?_)
  have e8 := mlE (k := 8) (y := pB) 8 (by decide) (by omega) (by omega)
  have eN := il_addE (x := 8 * pB) (y := τ.1 11 (36 + r)) (by omega) (by omega)
  have nN : (8 * pB + τ.1 11 (36 + r)).toNatClampNeg = 8 * (36 + r) + j := nC (by omega)
  have hx2 : (8 * pB + τ.1 11 (36 + r)).toInt = 288 + 8 * (r : Int) + j := by omega
  refine OK.grd ⟨by omega, by omega⟩ ?_
  rw [nN]
  refine OK.lt (fun z hz => ?_)
  have g1 : ∀ c, c ∉ [13, 16] → (stI z 16 (8 * (36 + r) + j) (vp_nar .boolean 0)).1 c = τ.1 c := fun c hc => by
    simp only [List.mem_cons, List.not_mem_nil, or_false, not_or] at hc
    rw [stI_ne hc.2, hz]
    show (stI τ 13 _ _).1 c = _
    rw [stI_ne hc.1]
  have g2 : ∀ c, c ≠ 14 → (stI z 16 (8 * (36 + r) + j) (vp_nar .boolean 0)).2.1 c = τ.2.1 c := fun c hc => by
    show z.2.1 c = _
    rw [hz, stL_ne hc]
    rfl
  have g13 : (stI z 16 (8 * (36 + r) + j) (vp_nar .boolean 0)).1 13 = upd (τ.1 13) (8 * (36 + r) + j) (τ.1 0 8) := by
    rw [stI_ne (by decide), hz]
    rfl
  have g16 : (stI z 16 (8 * (36 + r) + j) (vp_nar .boolean 0)).1 16 = upd (τ.1 16) (8 * (36 + r) + j) (vp_nar .boolean 0) := by
    have e9 : (stI z 16 (8 * (36 + r) + j) (vp_nar .boolean 0)).1 16 = upd (z.1 16) (8 * (36 + r) + j) (vp_nar .boolean 0) := rfl
    rw [e9, hz]
    rfl
  have g14 : (stI z 16 (8 * (36 + r) + j) (vp_nar .boolean 0)).2.1 14 = vp_updL (τ.2.1 14) (8 * (36 + r) + j) 0 := by
    show z.2.1 14 = _
    rw [hz]
    rfl
  have nb0 : (vp_nar .boolean 0).toInt = 0 := by decide
  clear hz
  generalize stI z 16 (8 * (36 + r) + j) (vp_nar .boolean 0) = b1 at g1 g2 g13 g14 g16 ⊢
  have hX1 : LX a1 b1 := hX.ext (f1 1 (by decide)) (f1 2 (by decide)) (f2 3 (by decide)) (f2 2 (by decide)) (g1 1 (by decide)) (fun i _ => by rw [g1 0 (by decide)]) (g2 0 (by decide))
  have hg1 : a1.1 2 3 = b1.1 0 5 := by rw [f1 2 (by decide), g1 0 (by decide)]; exact w2
  have nx := hX.nxt.2 (by omega)
  have u1 := uT_1 (τ := τ) (by omega)
  refine OK.sw ?_
  refine OK.bnd2 (ab_go a1 b1 hX1 hg1) (fun a2 b2 hq => ?_)
  obtain ⟨ca, cb, cL, hX2, hat, hadj, hu⟩ := hq
  rw [g1 0 (by decide)] at hat hadj hu
  have lr : ((FR : Nat) : Int) = 160 := rfl
  have pre : PRE P t0 a2 b2 := ⟨hP, ⟨h400, by rw [cb.2.1 34 (by decide), g1 0 (by decide)]; exact hcB, by rw [ca.1 20 (by decide), f1 20 (by decide)]; exact hcA⟩, hX2, by omega, fun h9 => by have := hadj w1 h9; omega⟩
  have hT := (ab_RT FR FRB (by unfold FR FRB; omega)).2 P t0 0 0 0 (-1) a2 b2 pre ⟨by omega, by omega⟩ rfl ⟨by omega, .inl ⟨by omega, rfl⟩⟩ (by omega)
  unfold f_T_X3_parseType f_T_X11_type
  refine OK.bnd2 hT (fun qa qb hq => ?_)
  obtain ⟨fq, hq⟩ := hq
  have e15 : (stI qb.1.2 15 (8 * (36 + r) + j) qb.1.1).1 15 (8 * (36 + r) + j) = qb.1.1 := by
    have e9 : (stI qb.1.2 15 (8 * (36 + r) + j) qb.1.1).1 15 = upd (qb.1.2.1 15) (8 * (36 + r) + j) qb.1.1 := rfl
    rw [e9, upd_at]
  have m1 : ∀ c, c ≠ 15 → (stI qb.1.2 15 (8 * (36 + r) + j) qb.1.1).1 c = qb.1.2.1 c := fun c hc => stI_ne hc
  have m2 : ∀ i, i ≠ 8 * (36 + r) + j → (stI qb.1.2 15 (8 * (36 + r) + j) qb.1.1).1 15 i = qb.1.2.1 15 i := fun i hi => by
    have e9 : (stI qb.1.2 15 (8 * (36 + r) + j) qb.1.1).1 15 = upd (qb.1.2.1 15) (8 * (36 + r) + j) qb.1.1 := rfl
    rw [e9, upd_no hi]
  have m3 : (stI qb.1.2 15 (8 * (36 + r) + j) qb.1.1).2.1 = qb.1.2.2.1 := rfl
  generalize stI qb.1.2 15 (8 * (36 + r) + j) qb.1.1 = b4 at e15 m1 m2 m3 ⊢
  rw [e15]
  have Z1 : FZ t0 (36 + r) (8 * (36 + r) + j) τ b1 := by
    refine ⟨fun c hc => g1 c (fun h9 => hc ?_), fun i _ => by rw [g1 0 (by decide)], fun j _ => ⟨by rw [g1 2 (by decide)], by rw [g1 3 (by decide)], by rw [g1 4 (by decide)]⟩, fun j _ => by rw [g1 5 (by decide)], fun i _ => by rw [g1 11 (by decide)], fun i hi => ⟨by rw [g1 15 (by decide)], by rw [g13, upd_no (by omega)], by rw [g16, upd_no (by omega)], by rw [g1 19 (by decide)]⟩, fun h i => by rw [g1 19 (by decide)]; exact h i, g2 9 (by decide), fun i hi => ⟨by rw [g2 12 (by decide)], by rw [g14, updL_no (by omega)], by rw [g2 17 (by decide)], by rw [g2 18 (by decide)]⟩⟩
    simp only [List.mem_cons, List.not_mem_nil, or_false] at h9 ⊢
    omega
  have Z2 : FZ t0 (36 + r) (8 * (36 + r) + j) τ qb.1.2 := (Z1.trans (cb.fz (by decide)) (Nat.le_refl t0) (Nat.le_refl _) (Nat.le_refl _)).trans fq.fz (Nat.le_refl t0) (Nat.le_refl _) (Nat.le_refl _)
  have Z4 : FZ t0 (36 + r) (8 * (36 + r) + j) τ b4 := by
    refine Z2.trans (t1 := t0) (R1 := 36 + r) (N1 := 8 * (36 + r) + j) ⟨fun c hc => m1 c (fun e => hc (by rw [e]; decide)), fun i _ => by rw [m1 0 (by decide)], fun j _ => ⟨by rw [m1 2 (by decide)], by rw [m1 3 (by decide)], by rw [m1 4 (by decide)]⟩, fun j _ => by rw [m1 5 (by decide)], fun i _ => by rw [m1 11 (by decide)], fun i hi => ⟨m2 i (by omega), by rw [m1 13 (by decide)], by rw [m1 16 (by decide)], by rw [m1 19 (by decide)]⟩, fun h i => by rw [m1 19 (by decide)]; exact h i, by rw [m3], fun i _ => ⟨by rw [m3], by rw [m3], by rw [m3], by rw [m3]⟩⟩ (Nat.le_refl _) (Nat.le_refl _) (Nat.le_refl _)
  have u4 : uT b4 = uT qb.1.2 := uT_eq (by rw [m1 0 (by decide)]) (by rw [m1 0 (by decide)]) (by rw [m1 0 (by decide)])
  rcases hq with ⟨q1, q2, q3⟩ | ⟨_, hTS, q3⟩
  · refine OK.ieq (fun _ => ?_) (fun h => by omega)
    refine OK.ret ?_
    refine OK.kac ?_
    refine OK.ile (fun h => by omega) (fun _ => ?_)
    refine OK.ret ⟨Z4, .inl ⟨l0, l0, ?_⟩⟩
    show x + (qb.2 + 0) + 40 * uT b4 ≤ _
    omega
  obtain ⟨t1, ⟨i1, i2, i3, i4, i5⟩, iF, iX, iL, iR, iV, iS, iB, iB2, iRX, i33⟩ := hTS
  refine OK.ieq (fun h => by omega) (fun _ => ?_)
  rw [a_setType p0 p1 qa.1 qa.2 h0 h1 hr (by omega)]
  refine OK.lt (fun a4 ha4 => ?_)
  have k1 : ∀ c, c ≠ 29 → a4.1 c = qa.2.1 c := fun c hc => by rw [ha4, stI_ne hc]
  have k2 : a4.1 29 (8 * r + j) = qa.1 := by
    have e9 : (stI qa.2 29 (8 * r + j) qa.1).1 29 = upd (qa.2.1 29) (8 * r + j) qa.1 := rfl
    rw [ha4, e9, upd_at]
  have k3 : a4.2.1 = qa.2.2.1 := by rw [ha4]; rfl
  have k29 : ∀ i, i ≠ 8 * r + j → a4.1 29 i = qa.2.1 29 i := fun i hi => by
    have e9 : (stI qa.2 29 (8 * r + j) qa.1).1 29 = upd (qa.2.1 29) (8 * r + j) qa.1 := rfl
    rw [ha4, e9, upd_no hi]
  clear ha4
  have X4 : LX a4 b4 := iX.ext (k1 1 (by decide)) (k1 2 (by decide)) (by rw [k3]) (by rw [k3]) (m1 1 (by decide)) (fun i _ => by rw [m1 0 (by decide)]) (by rw [m3])
  have at4 := X4.at
  rw [← m1 0 (by decide)] at i4 iB
  have hS : FS P t0 t1 r j (σ.2.1 2 7) (τ.2.1 0 7) σ τ a4 b4 := by
    refine ⟨X4, ⟨i4, by rw [k1 20 (by decide)]; exact i5, i3, by omega⟩, ⟨by rw [k2]; exact i1, by rw [e15]; exact i2⟩, ⟨iR.ext (k1 31 (by decide)) (k1 32 (by decide)) (by rw [k3]) (m1 2 (by decide)) (m1 4 (by decide)) (m1 5 (by decide)) (by rw [m3]), ?_⟩, ⟨?_, ?_, ?_, w3⟩, ⟨Z4, ?_, ?_⟩, iB, iRX.eq (k1 32 (by decide)) (k1 33 (by decide)) (m1 2 (by decide)) (m1 3 (by decide)) (m1 4 (by decide)) (m1 5 (by decide)), ?_, ?_, ?_, ?_⟩
    · have e4 : (4 - (0 : Int32).toInt).toNat = 4 := by decide
      rw [e4] at iV
      rw [m1 2 (by decide), m1 3 (by decide), m1 4 (by decide), m1 5 (by decide), e15]
      exact iV
    · rw [k1 23 (by decide), iF.1 23 (by decide), ca.1 23 (by decide)]
      exact f3
    · rw [m1 11 (by decide), fq.1 11 (by decide), cb.1 11 (by decide) (by decide), g1 11 (by decide)]
      exact hfB
    · rw [k3, iF.2.2.1 27 (by decide), ca.2.2.1 27 (by decide)]
      exact f5
    · refine ⟨fun c hc => ?_, fun i hi => ?_, fun i hi => ?_⟩
      · have hc' := hc
        simp only [List.mem_cons, List.not_mem_nil, or_false, not_or] at hc'
        rw [m3, iL.1 c (by simp only [List.mem_cons, List.not_mem_nil, or_false, not_or]; exact ⟨hc'.1, hc'.2.1⟩), cL c hc'.1, g2 c hc'.2.2.2.1]
      · rw [m3, iL.2 i hi, cL 6 (by decide), g2 6 (by decide)]
      · rw [m3, iL.1 12 (by decide), cL 12 (by decide), g2 12 (by decide), iL.1 14 (by decide), cL 14 (by decide), g14, updL_no (by omega), iL.1 17 (by decide), cL 17 (by decide), g2 17 (by decide), iL.1 18 (by decide), cL 18 (by decide), g2 18 (by decide)]
        exact ⟨rfl, rfl, rfl, rfl⟩
    · have A1 : AFF (t0 + P - 400) r (8 * r + j) σ a1 := by
        refine ⟨fun c hc => f1 c (fun h9 => hc ?_), fun i _ => by rw [f1 20 (by decide)], fun i hi => ⟨f4 i (by omega), by rw [f1 25 (by decide)]⟩, fun c hc => f2 c (fun h9 => hc ?_), fun i hi => ⟨f6 i (by omega), (f9 i (by omega)).1, (f9 i (by omega)).2, f7 i (by omega)⟩, fun i _ => ⟨by rw [f1 31 (by decide)], by rw [f1 32 (by decide)], by rw [f2 34 (by decide)], by rw [f1 33 (by decide)]⟩⟩
        · simp only [List.mem_cons, List.not_mem_nil, or_false] at h9 ⊢
          omega
        · simp only [List.mem_cons, List.not_mem_nil, or_false] at h9 ⊢
          omega
      have A4 : AFF (t0 + P - 400) r (8 * r + j) qa.2 a4 := ⟨fun c hc => k1 c (fun e => hc (by rw [e]; decide)), fun i _ => by rw [k1 20 (by decide)], fun i _ => ⟨by rw [k1 23 (by decide)], by rw [k1 25 (by decide)]⟩, fun c _ => by rw [k3], fun i hi => ⟨by rw [k3], by rw [k3], by rw [k3], k29 i (by omega)⟩, fun i _ => ⟨by rw [k1 31 (by decide)], by rw [k1 32 (by decide)], by rw [k3], by rw [k1 33 (by decide)]⟩⟩
      exact ((A1.trans ca.aff (Nat.le_refl (t0 + P - 400)) (Nat.le_refl r) (Nat.le_refl (8 * r + j))).trans iF.aff (Nat.le_refl _) (Nat.le_refl r) (Nat.le_refl (8 * r + j))).trans A4 (Nat.le_refl _) (Nat.le_refl _) (Nat.le_refl _)
    · rw [m1 13 (by decide), fq.1 13 (by decide), cb.1 13 (by decide) (by decide), g13, upd_at]
      exact hX.rlen hNM
    · refine .inl ⟨?_, ?_⟩
      · rw [k3, iF.2.2.1 28 (by decide), ca.2.2.1 28 (by decide)]
        exact f8
      · rw [m3, iL.1 14 (by decide), cL 14 (by decide), g14, updL_at]
    · rw [m1 16 (by decide), fq.1 16 (by decide), cb.1 16 (by decide) (by decide), g16, upd_at]
      exact nb0
    · rw [k1 25 (by decide), iF.1 25 (by decide), ca.1 25 (by decide), f1 25 (by decide)]
  have hw := ab_field_was P t0 t1 r j p0 p1 pB (8 * pB + τ.1 11 (36 + r)) (σ.2.1 2 7) (τ.2.1 0 7) σ τ a4 b4 hP h400 h0 h1 hr (by omega) hpB hx2 hN hS (x + qb.2) (by omega) _ rfl _ rfl
  refine hw.mono (fun qa9 h9 => ?_)
  refine OK.kac ?_
  refine OK.ile (fun _ => ?_) (fun h => by omega)
  refine h9.mono (fun y hy => ?_)
  have e : x + qb.2 + y.2 = x + (qb.2 + y.2) := by omega
  rw [e] at hy
  exact hy
