/-! the class's sets of pairs: bits -/
def lbt (L : Int64) (k : Nat) : Bool := L.toBitVec.getLsbD k
def lb1 (k : Nat) : Int64 := Int64.ofBitVec (1#64 <<< k)
theorem shl1 : ∀ k, k < 36 → (1 : Int64) <<< ((Int32.ofNat k).toInt64 &&& 63) = lb1 k := by decide +kernel
theorem shrk : ∀ (k : Nat), k < 36 → ∀ a : Int64, (a >>> ((Int32.ofNat k).toInt64 &&& 63)).toBitVec = a.toBitVec.sshiftRight k
  | 0, _, _ => rfl
  | 1, _, _ => rfl
  | 2, _, _ => rfl
  | 3, _, _ => rfl
  | 4, _, _ => rfl
  | 5, _, _ => rfl
  | 6, _, _ => rfl
  | 7, _, _ => rfl
  | 8, _, _ => rfl
  | 9, _, _ => rfl
  | 10, _, _ => rfl
  | 11, _, _ => rfl
  | 12, _, _ => rfl
  | 13, _, _ => rfl
  | 14, _, _ => rfl
  | 15, _, _ => rfl
  | 16, _, _ => rfl
  | 17, _, _ => rfl
  | 18, _, _ => rfl
  | 19, _, _ => rfl
  | 20, _, _ => rfl
  | 21, _, _ => rfl
  | 22, _, _ => rfl
  | 23, _, _ => rfl
  | 24, _, _ => rfl
  | 25, _, _ => rfl
  | 26, _, _ => rfl
  | 27, _, _ => rfl
  | 28, _, _ => rfl
  | 29, _, _ => rfl
  | 30, _, _ => rfl
  | 31, _, _ => rfl
  | 32, _, _ => rfl
  | 33, _, _ => rfl
  | 34, _, _ => rfl
  | 35, _, _ => rfl
  | k + 36, h, _ => by omega
theorem lb1_bit {k j : Nat} (hk : k < 64) : (1#64 <<< k).getLsbD j = decide (j = k) := by
  rw [BitVec.getLsbD_shiftLeft, BitVec.getLsbD_one]
  by_cases e : j = k
  · subst e
    simp [hk]
  · by_cases h1 : j < k
    · simp [h1, e]
    · have : ¬ j - k = 0 := by omega
      simp [this, e]
theorem lbt_0 (j : Nat) : lbt 0 j = false := by
  show (0#64).getLsbD j = false
  rw [BitVec.getLsbD_zero]
theorem lbt_or {L : Int64} {k j : Nat} (hk : k < 64) : lbt (L ||| lb1 k) j = (lbt L j || decide (j = k)) := by
  show (L.toBitVec ||| (1#64 <<< k)).getLsbD j = _
  rw [BitVec.getLsbD_or, lb1_bit hk]
  rfl
theorem lbt_off {L : Int64} {k j : Nat} (hk : k < 64) (hj : j < 64) : lbt (L &&& (lb1 k ^^^ -1)) j = (lbt L j && !decide (j = k)) := by
  show (L.toBitVec &&& ((1#64 <<< k) ^^^ (-1 : Int64).toBitVec)).getLsbD j = _
  have e : (-1 : Int64).toBitVec = BitVec.allOnes 64 := by decide
  rw [BitVec.getLsbD_and, BitVec.getLsbD_xor, lb1_bit hk, e, BitVec.getLsbD_allOnes]
  simp [hj]
  rfl
theorem lbt_ext {L M : Int64} (h : ∀ j, j < 64 → lbt L j = lbt M j) : L = M := by
  have e : L.toBitVec = M.toBitVec := BitVec.eq_of_getLsbD_eq h
  exact Int64.toBitVec_inj.mp e
theorem lbt_and {L : Int64} {k : Nat} (hk : k < 64) : (L &&& lb1 k) = 0 ↔ lbt L k = false := by
  constructor
  · intro h
    have e : lbt (L &&& lb1 k) k = lbt 0 k := by rw [h]
    rw [lbt_0] at e
    have e2 : lbt (L &&& lb1 k) k = (lbt L k && decide (k = k)) := by
      show (L.toBitVec &&& (1#64 <<< k)).getLsbD k = _
      rw [BitVec.getLsbD_and, lb1_bit hk]
      rfl
    rw [e2] at e
    simpa using e
  · intro h
    refine lbt_ext (fun j hj => ?_)
    rw [lbt_0]
    show (L.toBitVec &&& (1#64 <<< k)).getLsbD j = _
    rw [BitVec.getLsbD_and, lb1_bit hk]
    by_cases e : j = k
    · subst e
      have h : L.toBitVec.getLsbD j = false := h
      rw [h]
      rfl
    · simp [e]
theorem lbt_shr {L : Int64} {k : Nat} (hk : k < 36) : ((L >>> ((Int32.ofNat k).toInt64 &&& 63)) &&& 1) = 0 ↔ lbt L k = false := by
  have h1 : (1 : Int64) = lb1 0 := by decide
  rw [h1, lbt_and (by omega)]
  have e : lbt (L >>> ((Int32.ofNat k).toInt64 &&& 63)) 0 = lbt L k := by
    show (L >>> ((Int32.ofNat k).toInt64 &&& 63)).toBitVec.getLsbD 0 = _
    rw [shrk k hk, BitVec.getLsbD_sshiftRight]
    have : k + 0 < 64 := by omega
    have h64 : k < 64 := by omega
    simp [this, h64]
    rfl
  rw [e]
/-- a set of pairs, as the reference keeps one -/
def RBX (L : Int64) (k : Nat) : Int32 := if lbt L k = true then 1 else 0
theorem RBX_iff {L : Int64} {k : Nat} : RBX L k = 0 ↔ lbt L k = false := by
  unfold RBX
  cases lbt L k with
  | true => exact ⟨fun h => absurd h (by decide), fun h => absurd h (by decide)⟩
  | false => exact ⟨fun _ => rfl, fun _ => rfl⟩
theorem a_bitOf (p0 p1 : Int32) (σ : ST) {a b : Nat} (h0 : p0.toInt = a) (h1 : p1.toInt = b) (ha : a < 36) (hb : b < 36) : f_X0_bitOf p0 p1 σ = some (lb1 (6 * (a % 6) + b % 6), σ) := by
  unfold f_X0_bitOf
  obtain ⟨v, e1, hv⟩ := a_floorMod p0 σ h0 ha
  obtain ⟨u, e2, hu⟩ := a_floorMod p1 σ h1 hb
  have l6 := li_6
  rw [e1, sbnd]
  dsimp only
  rw [e2, sbnd]
  dsimp only
  have m1 : (v * 6).toInt = 6 * v.toInt := by
    rw [Int32.mul_comm]
    exact mlE (k := 6) (y := v) 6 l6 (by omega) (by omega)
  have m2 := il_addE (x := v * 6) (y := u) (by omega) (by omega)
  have e3 : v * 6 + u = Int32.ofNat (6 * (a % 6) + b % 6) := intOf (by omega) (by omega)
  rw [e3, shl1 _ (by omega)]
theorem a_has {L : Int64} {k : Nat} (hk : k < 64) : (lg_cmp (L &&& lb1 k) 0) = 0 ↔ lbt L k = false := by
  rw [lg_cmp_eq, lbt_and hk]
