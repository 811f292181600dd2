/-! doubles that the texts tell -/
theorem rr_fpn (s : Bool) {A B : Nat} {e : Int} (hA : 0 < A) (hB : 0 < B) (h1 : -900 ≤ FP.Core.leading A B + e) (h2 : FP.Core.leading A B + e ≤ 900) : ∃ (c : Nat) (q : Int), FP.Core.roundRatio FP.Core.b64 s A B e = .fin s c q ∧ (4503599627370496 ≤ c ∧ c < 9007199254740992) ∧ FP.Core.leading A B + e - 52 ≤ q ∧ q ≤ FP.Core.leading A B + e - 51 := by
  have hq : FP.Core.quantum FP.Core.b64 A B e = FP.Core.leading A B + e - 52 := by
    unfold FP.Core.quantum
    rw [fp_qmin, fp_p]
    omega
  have hf : FP.Core.fits FP.Core.b64 (FP.Core.roundRatio FP.Core.b64 s A B e) := FP.Core.roundRatio_fits FP.Core.good_b64 s A hB e
  have e1 : FP.Core.roundRatio FP.Core.b64 s A B e = FP.Core.settle FP.Core.b64 s (FP.Core.nearest (FP.Core.unitsNum A e (FP.Core.leading A B + e - 52)) (FP.Core.unitsDen B e (FP.Core.leading A B + e - 52))) (FP.Core.leading A B + e - 52) := by
    unfold FP.Core.roundRatio FP.Core.roundAt
    rw [if_neg (by omega), hq]
  have e2 : ∃ (c : Nat) (q : Int), FP.Core.roundRatio FP.Core.b64 s A B e = .fin s c q ∧ FP.Core.leading A B + e - 52 ≤ q ∧ q ≤ FP.Core.leading A B + e - 51 := by
    rw [e1]
    unfold FP.Core.settle FP.Core.bound
    generalize FP.Core.nearest (FP.Core.unitsNum A e (FP.Core.leading A B + e - 52)) (FP.Core.unitsDen B e (FP.Core.leading A B + e - 52)) = c
    rw [fp_qmax]
    by_cases hc : c < 2 ^ FP.Core.b64.p
    · rw [if_pos hc, if_pos (by omega)]
      exact ⟨c, _, rfl, by omega, by omega⟩
    · rw [if_neg hc, if_pos (by omega)]
      exact ⟨_, _, rfl, by omega, by omega⟩
  obtain ⟨c, q, e3, e4, e5⟩ := e2
  rw [e3] at hf
  obtain ⟨f1, f2, f3, f4⟩ := hf
  rw [fp_p, fp_two53] at f1
  rw [fp_qmin, fp_tails] at f4
  exact ⟨c, q, e3, ⟨by omega, f1⟩, e4, e5⟩
theorem lead_rng (A B : Nat) : (A.log2 : Int) - B.log2 - 1 ≤ FP.Core.leading A B ∧ FP.Core.leading A B ≤ (A.log2 : Int) - B.log2 := by
  show (A.log2 : Int) - B.log2 - 1 ≤ (if B * 2 ^ ((A.log2 : Int) - B.log2).toNat ≤ A * 2 ^ (-((A.log2 : Int) - B.log2)).toNat then (A.log2 : Int) - B.log2 else (A.log2 : Int) - B.log2 - 1) ∧ (if B * 2 ^ ((A.log2 : Int) - B.log2).toNat ≤ A * 2 ^ (-((A.log2 : Int) - B.log2)).toNat then (A.log2 : Int) - B.log2 else (A.log2 : Int) - B.log2 - 1) ≤ (A.log2 : Int) - B.log2
  split <;> omega
theorem log2_ge {A k : Nat} (h : 2 ^ k ≤ A) : k ≤ A.log2 := (Nat.le_log2 (by have := Nat.two_pow_pos k; omega)).mpr h
theorem log2_le {A k : Nat} (h : A < 2 ^ (k + 1)) : A.log2 ≤ k := by
  by_cases h0 : A = 0
  · rw [h0]
    exact Nat.zero_le _
  · have := (Nat.log2_lt h0).mpr h
    omega
/-- a whole number, not nothing, told as a double -/
theorem l2d_fin (n : Int64) (h : ¬ n.toInt = 0) : ∃ (c : Nat) (q : Int), FP.Core.val64 (FP.l2d n) = .fin (decide (n.toInt < 0)) c q ∧ (4503599627370496 ≤ c ∧ c < 9007199254740992) ∧ -53 ≤ q ∧ q ≤ 12 := by
  have e : FP.Core.val64 (FP.l2d n) = FP.Core.round FP.Core.b64 (FP.Core.ofInt n.toInt) := FP.Core.val64_l2d n
  have r1 := Int64.le_toInt n
  have r2 := Int64.toInt_lt n
  have a64 : (2 : Nat) ^ (63 + 1) = 18446744073709551616 := by decide
  have g1 : (0 : Nat) ≤ n.toInt.natAbs.log2 := Nat.zero_le _
  have g2 : n.toInt.natAbs.log2 ≤ 63 := log2_le (by rw [a64]; omega)
  have g3 : (1 : Nat).log2 = 0 := by decide
  have g4 := lead_rng n.toInt.natAbs 1
  rw [g3] at g4
  obtain ⟨c, q, e1, e2, e3, e4⟩ := rr_fpn (decide (n.toInt < 0)) (A := n.toInt.natAbs) (B := 1) (e := 0) (by omega) (by omega) (by omega) (by omega)
  refine ⟨c, q, ?_, e2, by omega, by omega⟩
  rw [e, ← e1]
  rfl
theorem l2d_pos (n : Int64) (h : 0 < n.toInt) : ∃ (c : Nat) (q : Int), FPN (FP.l2d n) c q ∧ -53 ≤ q ∧ q ≤ 12 := by
  obtain ⟨c, q, e1, e2, e3, e4⟩ := l2d_fin n (by omega)
  have e5 : decide (n.toInt < 0) = false := decide_eq_false (by omega)
  rw [e5] at e1
  exact ⟨c, q, ⟨e1, e2, by omega, by omega⟩, e3, e4⟩
theorem l2d_0 : FP.l2d 0 = 0 := by decide +kernel
theorem negate_inj {x y : UInt64} (hx : ¬ FP.Core.val64 x = .nan) (h : FP.Core.val64 x = FP.Core.val64 y) : x = y := FP.Core.val64_inj hx h
theorem l2d_neg (n m : Int64) (h : m.toInt = -n.toInt) (h0 : ¬ n.toInt = 0) : FP.l2d m = FP.dneg (FP.l2d n) := by
  have e1 : FP.Core.val64 (FP.l2d m) = FP.Core.round FP.Core.b64 (FP.Core.ofInt m.toInt) := FP.Core.val64_l2d m
  have e2 : FP.Core.val64 (FP.l2d n) = FP.Core.round FP.Core.b64 (FP.Core.ofInt n.toInt) := FP.Core.val64_l2d n
  have e3 : FP.Core.val64 (FP.dneg (FP.l2d n)) = FP.Core.negate (FP.Core.val64 (FP.l2d n)) := FP.val64_dneg _
  refine FP.Core.val64_inj ?_ ?_
  · obtain ⟨c, q, e, _⟩ := l2d_fin m (by omega)
    rw [e]
    exact fun h => by cases h
  · rw [e3, e1, e2, FP.Core.negate_round]
    congr 1
    show FP.Core.Datum.fin (decide (m.toInt < 0)) m.toInt.natAbs 0 = FP.Core.Datum.fin (!decide (n.toInt < 0)) n.toInt.natAbs 0
    have a1 : m.toInt.natAbs = n.toInt.natAbs := by omega
    have a2 : decide (m.toInt < 0) = !decide (n.toInt < 0) := by
      by_cases h1 : n.toInt < 0
      · rw [decide_eq_true h1, decide_eq_false (by omega)]; rfl
      · rw [decide_eq_false h1, decide_eq_true (by omega)]; rfl
    rw [a1, a2]
/-- the bits of the other sign -/
theorem fin_bits {x : UInt64} {s : Bool} {c : Nat} {q : Int} (h : FP.Core.val64 x = .fin s c q) (h2 : 4503599627370496 ≤ c ∧ c < 9007199254740992) (hq : -1000 ≤ q ∧ q ≤ 900) : (x.toNat : Int) = (if s = true then 9223372036854775808 else 0) + (q + 1075) * 4503599627370496 + ((c : Int) - 4503599627370496) := by
  have h4 : FP.Core.of64 (FP.Core.val64 x) = x := FP.Core.of64_val64 (by rw [h]; exact fun h => by cases h)
  rw [h] at h4
  have ee : FP.Core.b64.exps = 2048 := by decide
  have e : FP.Core.encode FP.Core.b64 (.fin s c q) = (s.toNat * 2048 + ((q - -1074).toNat + 1)) * 4503599627370496 + (c - 4503599627370496) := by
    show (if c < FP.Core.b64.tails then _ else FP.Core.assemble FP.Core.b64 s ((q - FP.Core.b64.qmin).toNat + 1) (c - FP.Core.b64.tails)) = _
    rw [fp_tails, fp_qmin, if_neg (by omega)]
    show (s.toNat * FP.Core.b64.exps + ((q - -1074).toNat + 1)) * FP.Core.b64.tails + (c - 4503599627370496) = _
    rw [fp_tails, ee]
  have hs : s.toNat ≤ 1 := by cases s <;> decide
  have e2 : x.toNat = (s.toNat * 2048 + ((q - -1074).toNat + 1)) * 4503599627370496 + (c - 4503599627370496) := by
    rw [← h4]
    show (UInt64.ofNat (FP.Core.encode FP.Core.b64 (.fin s c q))).toNat = _
    rw [e]
    refine UInt64.toNat_ofNat_of_lt' ?_
    have hsz : UInt64.size = 18446744073709551616 := rfl
    rw [hsz]
    omega
  rw [e2]
  cases s
  · show ((((0 : Nat) * 2048 + ((q - -1074).toNat + 1)) * 4503599627370496 + (c - 4503599627370496) : Nat) : Int) = _
    rw [if_neg (by decide)]
    omega
  · show ((((1 : Nat) * 2048 + ((q - -1074).toNat + 1)) * 4503599627370496 + (c - 4503599627370496) : Nat) : Int) = _
    rw [if_pos rfl]
    omega
theorem FPN.neg_bits {x : UInt64} {c : Nat} {q : Int} (h : FPN x c q) : (FP.dneg x).toInt64 = (x.toInt64 ||| (-9223372036854775808)) := by
  have e3 : FP.Core.val64 (FP.dneg x) = FP.Core.negate (FP.Core.val64 x) := FP.val64_dneg _
  rw [h.1] at e3
  have e3 : FP.Core.val64 (FP.dneg x) = .fin true c q := e3
  have b1 := fin_bits e3 h.2.1 h.2.2
  have b2 := h.bits
  have h2 := h.2.1
  have h3 := h.2.2
  rw [if_pos rfl] at b1
  have hn : (FP.dneg x).toNat = 9223372036854775808 + x.toNat := by omega
  have hx : x.toNat < 9223372036854775808 := by omega
  have key : (FP.dneg x).toBitVec = x.toBitVec ||| 9223372036854775808#64 := by
    refine BitVec.eq_of_toNat_eq ?_
    rw [BitVec.toNat_or]
    show (FP.dneg x).toNat = x.toNat ||| 9223372036854775808
    rw [hn]
    have h63 : (9223372036854775808 : Nat) = 2 ^ 63 * 1 := by decide
    have ha := Nat.two_pow_add_eq_or_of_lt (i := 63) (b := x.toNat) (by rw [show (2 : Nat) ^ 63 = 9223372036854775808 by decide]; exact hx) 1
    rw [← h63] at ha
    rw [ha, Nat.or_comm]
  exact Int64.toBitVec_inj.mp key
theorem zero_neg_bits : (FP.dneg 0).toInt64 = ((0 : UInt64).toInt64 ||| (-9223372036854775808)) := by decide +kernel
/-- ten -/
theorem fp_10 : FP.Core.val64 4621819117588971520 = .fin false 5629499534213120 (-49) := by decide +kernel
theorem i2d_l2d (t : Int32) : FP.i2d t = FP.l2d t.toInt64 := by
  show UInt64.ofNat (FP.Core.fromInt FP.Core.b64 t.toInt) = UInt64.ofNat (FP.Core.fromInt FP.Core.b64 t.toInt64.toInt)
  rw [i64]
theorem log2_c {c : Nat} (h : 4503599627370496 ≤ c ∧ c < 9007199254740992) : c.log2 = 52 := by
  have a1 : (2 : Nat) ^ 52 = 4503599627370496 := by decide
  have a2 : (2 : Nat) ^ (52 + 1) = 9007199254740992 := by decide
  have h1 := log2_ge (A := c) (k := 52) (by rw [a1]; exact h.1)
  have h2 := log2_le (A := c) (k := 52) (by rw [a2]; exact h.2)
  omega
/-- tenths -/
theorem tenth_fpn (t : Int32) (h : 1 ≤ t.toInt ∧ t.toInt ≤ 9) : ∃ (c : Nat) (q : Int), FPN (FP.ddiv (FP.i2d t) 4621819117588971520) c q ∧ -58 ≤ q ∧ q ≤ 13 := by
  rw [i2d_l2d]
  obtain ⟨c, q, h1, h2, h3⟩ := l2d_pos t.toInt64 (by rw [i64]; omega)
  have e : FP.Core.val64 (FP.ddiv (FP.l2d t.toInt64) 4621819117588971520) = FP.Core.quotient FP.Core.b64 (FP.Core.val64 (FP.l2d t.toInt64)) (FP.Core.val64 4621819117588971520) := FP.Core.val64_ddiv _ _
  rw [h1.1, fp_10] at e
  have e2 : FP.Core.quotient FP.Core.b64 (.fin false c q) (.fin false 5629499534213120 (-49)) = FP.Core.roundRatio FP.Core.b64 false c 5629499534213120 (q - -49) := by
    show (if (5629499534213120 : Nat) = 0 then (if c = 0 then FP.Core.Datum.nan else FP.Core.Datum.inf (false != false)) else FP.Core.roundRatio FP.Core.b64 (false != false) c 5629499534213120 (q - -49)) = _
    rw [if_neg (by decide)]
    rfl
  have g1 := log2_c h1.2.1
  have g2 : (5629499534213120 : Nat).log2 = 52 := log2_c ⟨by decide, by decide⟩
  have g3 := lead_rng c 5629499534213120
  rw [g1, g2] at g3
  have hc0 : 0 < c := by have := h1.2.1.1; omega
  obtain ⟨c', q', e3, e4, e5, e6⟩ := rr_fpn false (A := c) (B := 5629499534213120) (e := q - -49) hc0 (by decide) (by omega) (by omega)
  exact ⟨c', q', ⟨by rw [e, e2]; exact e3, e4, by omega, by omega⟩, by omega, by omega⟩
/-- two such numbers together -/
theorem FPN.add {x y : UInt64} {c d : Nat} {q r : Int} (h : FPN x c q) (k : FPN y d r) (hq : -60 ≤ q ∧ q ≤ 20) (hr : -60 ≤ r ∧ r ≤ 20) : ∃ (c' : Nat) (q' : Int), FPN (FP.dadd x y) c' q' ∧ -64 ≤ q' ∧ q' ≤ 64 := by
  have e : FP.Core.val64 (FP.dadd x y) = FP.Core.round FP.Core.b64 (FP.Core.exactSum (FP.Core.val64 x) (FP.Core.val64 y)) := FP.Core.val64_dadd _ _
  rw [h.1, k.1] at e
  obtain ⟨m, hm⟩ : ∃ m : Int, m = min q r := ⟨_, rfl⟩
  obtain ⟨A, hA⟩ : ∃ A : Nat, A = c * 2 ^ (q - m).toNat + d * 2 ^ (r - m).toNat := ⟨_, rfl⟩
  have p1 := Nat.two_pow_pos (q - m).toNat
  have p2 := Nat.two_pow_pos (r - m).toNat
  have hc := h.2.1
  have hd := k.2.1
  have hdd : d ≤ d * 2 ^ (r - m).toNat := Nat.le_mul_of_pos_right d p2
  have hu : FP.Core.sumUnits false c q false d r m = (A : Int) := by
    rw [hA]
    rfl
  have es : FP.Core.exactSum (.fin false c q) (.fin false d r) = .fin false A m := by
    show FP.Core.Datum.fin (FP.Core.sumSign false false (FP.Core.sumUnits false c q false d r (min q r))) (FP.Core.sumUnits false c q false d r (min q r)).natAbs (min q r) = _
    rw [← hm, hu]
    have e1 : FP.Core.sumSign false false (A : Int) = false := by
      unfold FP.Core.sumSign
      rw [if_neg (by omega)]
      exact decide_eq_false (by omega)
    rw [e1]
    rfl
  rw [es] at e
  have e : FP.Core.val64 (FP.dadd x y) = FP.Core.roundRatio FP.Core.b64 false A 1 m := e
  have a1 : (2 : Nat) ^ 52 = 4503599627370496 := by decide
  have a2 : (2 : Nat) ^ 53 = 9007199254740992 := by decide
  have lo : 52 + (r - m).toNat ≤ A.log2 := by
    refine log2_ge ?_
    rw [Nat.pow_add, a1]
    have := Nat.mul_le_mul_right (2 ^ (r - m).toNat) hd.1
    omega
  have hi : A.log2 ≤ 53 + (max q r - m).toNat := by
    refine log2_le ?_
    have q1 : 2 ^ (q - m).toNat ≤ 2 ^ (max q r - m).toNat := Nat.pow_le_pow_right (by omega) (by omega)
    have q2 : 2 ^ (r - m).toNat ≤ 2 ^ (max q r - m).toNat := Nat.pow_le_pow_right (by omega) (by omega)
    have q3 : c * 2 ^ (q - m).toNat ≤ 9007199254740991 * 2 ^ (max q r - m).toNat := Nat.mul_le_mul (by omega) q1
    have q4 : d * 2 ^ (r - m).toNat ≤ 9007199254740991 * 2 ^ (max q r - m).toNat := Nat.mul_le_mul (by omega) q2
    have e5 : 2 ^ (53 + (max q r - m).toNat + 1) = 9007199254740992 * 2 ^ (max q r - m).toNat * 2 := by
      rw [Nat.pow_succ, Nat.pow_add, a2]
    have p3 := Nat.two_pow_pos (max q r - m).toNat
    rw [e5]
    omega
  have g3 : (1 : Nat).log2 = 0 := by decide
  have g4 := lead_rng A 1
  rw [g3] at g4
  obtain ⟨c', q', e3, e4, e5, e6⟩ := rr_fpn false (A := A) (B := 1) (e := m) (by omega) (by omega) (by omega) (by omega)
  exact ⟨c', q', ⟨by rw [e]; exact e3, e4, by omega, by omega⟩, by omega, by omega⟩
theorem FPN.nn {x : UInt64} {c : Nat} {q : Int} (h : FPN x c q) : ¬ FP.Core.val64 x = .nan := by
  rw [h.1]
  exact fun h => by cases h
theorem FPN.nz {x : UInt64} {c : Nat} {q : Int} (h : FPN x c q) : ¬ x = FP.Core.dzeroNeg := by
  intro e
  have h1 := h.1
  rw [e, FP.Core.val64_dzeroNeg] at h1
  cases h1
theorem tenth_0 : FP.ddiv (FP.i2d 0) 4621819117588971520 = 0 := by decide +kernel
/-- a number with tenths: nothing, or above nothing -/
def DEC (n : Int64) (t : Int32) : UInt64 := FP.dadd (FP.l2d n) (FP.ddiv (FP.i2d t) 4621819117588971520)
theorem dec_0 (n : Int64) (h : 0 ≤ n.toInt) : DEC n 0 = FP.l2d n := by
  unfold DEC
  rw [tenth_0]
  by_cases h0 : n.toInt = 0
  · have e : n = 0 := Int64.toInt_inj.mp (by rw [h0]; rfl)
    rw [e]
    decide +kernel
  · obtain ⟨c, q, h1, _⟩ := l2d_pos n (by omega)
    exact FP.Core.dadd_zero h1.nn h1.nz
theorem dec_fpn (n : Int64) (t : Int32) (h : 0 ≤ n.toInt) (ht : 0 ≤ t.toInt ∧ t.toInt ≤ 9) : (n.toInt = 0 ∧ t.toInt = 0) ∧ DEC n t = 0 ∨ ¬ (n.toInt = 0 ∧ t.toInt = 0) ∧ ∃ (c : Nat) (q : Int), FPN (DEC n t) c q ∧ -64 ≤ q ∧ q ≤ 64 := by
  by_cases ht0 : t.toInt = 0
  · have e : t = 0 := Int32.toInt_inj.mp (by rw [ht0]; rfl)
    subst e
    rw [dec_0 n h]
    by_cases h0 : n.toInt = 0
    · have e : n = 0 := Int64.toInt_inj.mp (by rw [h0]; rfl)
      rw [e]
      exact .inl ⟨⟨rfl, rfl⟩, l2d_0⟩
    · obtain ⟨c, q, h1, h2, h3⟩ := l2d_pos n (by omega)
      exact .inr ⟨fun h9 => h0 h9.1, c, q, h1, by omega, by omega⟩
  · obtain ⟨d, r, k1, k2, k3⟩ := tenth_fpn t ⟨by omega, by omega⟩
    refine .inr ⟨fun h9 => ht0 h9.2, ?_⟩
    by_cases h0 : n.toInt = 0
    · have e : n = 0 := Int64.toInt_inj.mp (by rw [h0]; rfl)
      have e2 : DEC n t = FP.ddiv (FP.i2d t) 4621819117588971520 := by
        unfold DEC
        rw [e, l2d_0]
        have hc : FP.dadd 0 (FP.ddiv (FP.i2d t) 4621819117588971520) = FP.dadd (FP.ddiv (FP.i2d t) 4621819117588971520) 0 := FP.Core.dadd_comm _ _
        rw [hc]
        exact FP.Core.dadd_zero k1.nn k1.nz
      rw [e2]
      exact ⟨d, r, k1, by omega, by omega⟩
    · obtain ⟨c, q, h1, h2, h3⟩ := l2d_pos n (by omega)
      exact h1.add k1 ⟨by omega, by omega⟩ ⟨by omega, by omega⟩
theorem DEC.bits (n : Int64) (t : Int32) (σ : ST) (h : 0 ≤ n.toInt) (ht : 0 ≤ t.toInt ∧ t.toInt ≤ 9) : f_X10_bitsOfPositive (DEC n t) σ = some ((DEC n t).toInt64, σ) ∧ (FP.dneg (DEC n t)).toInt64 = ((DEC n t).toInt64 ||| (-9223372036854775808)) := by
  rcases dec_fpn n t h ht with ⟨_, e⟩ | ⟨_, c, q, h1, h2⟩
  · rw [e]
    exact ⟨fp_zero σ, zero_neg_bits⟩
  · obtain ⟨⟨v, s⟩, e1, e2, e3⟩ := fp_pos (DEC n t) σ h1 h2
    have e2 : s = σ := e2
    have e3 : v = (DEC n t).toInt64 := e3
    rw [e1, e2, e3]
    exact ⟨rfl, h1.neg_bits⟩
