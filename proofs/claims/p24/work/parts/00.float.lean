/-! doubles that are no numbers (over the library's laws of the floating point) -/
theorem fl_cmp {x : UInt64} (h : isNaN64 x = true) : FP.dcmp x x = none := by
  have h1 := isNaN64_iff.mp h
  have h2 : x.toNat &&& 0x7fffffffffffffff = x.toNat % 2 ^ 63 := Nat.and_two_pow_sub_one_eq_mod x.toNat 63
  rw [h2] at h1
  exact (FP.Core.dcmp_none x x).mpr (Or.inl ((FP.Core.dIsNaN_iff x).mp ((FP.Core.isNaN_bits x).mpr h1)))
theorem fl_num {x : UInt64} (h : FP.Core.dIsNaN x = false) : x &&& 0x7fffffffffffffff ≤ 0x7ff0000000000000 := by
  cases hn : isNaN64 x with
  | false =>
    have h0 : ¬ isNaN64 x = true := by rw [hn]; exact Bool.false_ne_true
    rw [isNaN64_not] at h0
    exact Decidable.not_not.mp h0
  | true =>
    have h1 := isNaN64_iff.mp hn
    have h2 : x.toNat &&& 0x7fffffffffffffff = x.toNat % 2 ^ 63 := Nat.and_two_pow_sub_one_eq_mod x.toNat 63
    rw [h2] at h1
    have h3 := (FP.Core.isNaN_bits x).mpr h1
    rw [h] at h3
    cases h3
