/-! the letters of a name, counted by the class -/
theorem n5_get : ∀ (m : Nat) (g : Nat → Nat), GL g m → ∀ i : Nat, n5 m g / 32 ^ i % 32 = (if i < m then g i else 0) := by
  intro m
  induction m with
  | zero => intro g _ i; show 0 / 32 ^ i % 32 = _; rw [Nat.zero_div, if_neg (by omega)]
  | succ m ih =>
    intro g hg i
    have h0 := hg 0 (by omega)
    have hg' : GL (fun i => g (i + 1)) m := fun j hj => hg (j + 1) (by omega)
    show (g 0 + 32 * n5 m (fun i => g (i + 1))) / 32 ^ i % 32 = _
    cases i with
    | zero =>
      rw [Nat.pow_zero, Nat.div_one, if_pos (by omega)]
      omega
    | succ i =>
      have e : (g 0 + 32 * n5 m (fun i => g (i + 1))) / 32 ^ (i + 1) = n5 m (fun i => g (i + 1)) / 32 ^ i := by
        rw [Nat.pow_succ, Nat.mul_comm (32 ^ i) 32, ← Nat.div_div_eq_div_mul]
        congr 1
        omega
      rw [e, ih _ hg' i]
      by_cases h : i < m
      · rw [if_pos h, if_pos (by omega)]
      · rw [if_neg h, if_neg (by omega)]
theorem shr5 : ∀ (k : Nat), k ≤ 8 → ∀ a : Int64, (a >>> ((5 * Int32.ofNat k).toInt64 &&& 63)).toBitVec = a.toBitVec.sshiftRight (5 * k)
  | 0, _, _ => rfl
  | 1, _, _ => rfl
  | 2, _, _ => rfl
  | 3, _, _ => rfl
  | 4, _, _ => rfl
  | 5, _, _ => rfl
  | 6, _, _ => rfl
  | 7, _, _ => rfl
  | 8, _, _ => rfl
  | k + 9, h, _ => by omega
theorem and31 (x : Int32) : (x &&& 31).toInt = x.toInt % 32 := by
  have e : (x &&& 31).toInt = ((x.toBitVec &&& 31#32)).toInt := rfl
  have h1 : (x.toBitVec &&& 31#32).toNat = x.toBitVec.toNat % 32 := by
    rw [BitVec.toNat_and]
    exact Nat.and_two_pow_sub_one_eq_mod x.toBitVec.toNat 5
  have h2 : (x.toBitVec &&& 31#32).toInt = ((x.toBitVec.toNat % 32 : Nat) : Int) := by
    rw [BitVec.toInt_eq_toNat_of_lt (by rw [h1]; omega), h1]
  have h3 : x.toInt = x.toBitVec.toInt := rfl
  rw [e, h2, h3, BitVec.toInt_eq_toNat_cond]
  have := x.toBitVec.isLt
  split <;> omega
theorem a_letterOf (x : Int64) (p : Int32) (σ : ST) {X i : Nat} (hx : x.toInt = (X : Int)) (hp : p.toInt = i) (hi : i ≤ 8) : OK (f_X10_letterOf x p σ) (RO σ fun v => v.toInt = ((X / 32 ^ i % 32 : Nat) : Int)) := by
  unfold f_X10_letterOf
  have l0 := li_0
  have l12 := li_12
  refine OK.ilt (fun h => by omega) (fun _ => ?_)
  refine OK.ilt (fun _ => ?_) (fun h => by omega)
  refine OK.roret ?_
  have ep : p = Int32.ofNat i := intOf hp (by omega)
  have e1 : (x >>> ((5 * p).toInt64 &&& 63)).toInt = ((X / 32 ^ i : Nat) : Int) := by
    have h := shr5 i hi x
    rw [← ep] at h
    have h2 : (x >>> ((5 * p).toInt64 &&& 63)).toInt = (x >>> ((5 * p).toInt64 &&& 63)).toBitVec.toInt := rfl
    have h3 : x.toBitVec.toInt = (X : Int) := hx
    rw [h2, h, BitVec.toInt_sshiftRight, h3, Int.shiftRight_eq_div_pow]
    have h4 : 32 ^ i = 2 ^ (5 * i) := by rw [Nat.pow_mul]
    rw [h4]
    rfl
  generalize x >>> ((5 * p).toInt64 &&& 63) = y at e1 ⊢
  rw [and31]
  have e2 : y.toInt32.toInt = y.toInt.bmod (2 ^ 32) := Int64.toInt_toInt32 y
  obtain ⟨k, hk⟩ := i_bm y.toInt
  rw [e2, hk, e1]
  omega
theorem a_lettersIn_2 (x : Int64) (σ : ST) {m : Nat} {g : Nat → Nat} (hm : m ≤ 8) (hg : GL g m) (hx : x.toInt = (n5 m g : Int)) : ∀ (f i : Nat) (p : Int32), p.toInt = i → i ≤ m → m < f + i → OK (f_X10_lettersIn_2 f x p σ) (RO σ fun v => v.toInt = m) := by
  intro f
  have l0 := li_0
  have l1 := li_1
  have l12 := li_12
  induction f with
  | zero => intro i p h1 h2 h3; omega
  | succ f ih =>
    intro i p hp hi hf
    rw [f_X10_lettersIn_2]
    refine OK.ile (fun h => by omega) (fun _ => ?_)
    refine OK.bndR (a_letterOf x p σ hx hp (by omega)) (fun v hv => ?_)
    dsimp only
    rw [n5_get m g hg i] at hv
    have e1 := il_addE (x := p) (y := 1) (by omega) (by omega)
    by_cases h : i < m
    · rw [if_pos h] at hv
      have := hg i h
      refine OK.ieq (fun h9 => by omega) (fun _ => ?_)
      exact ih (i + 1) (p + 1) (by omega) (by omega) (by omega)
    · rw [if_neg h] at hv
      refine OK.ieq (fun _ => ?_) (fun h9 => absurd (hv.trans l0.symm) h9)
      refine OK.roret ?_
      omega
theorem a_lettersIn (x : Int64) (n : Int32) (σ : ST) (h : RLEN x n) : OK (f_X10_lettersIn x σ) (RO σ fun v => v = n) := by
  obtain ⟨m, g, h1, h2, h3, h4⟩ := h
  unfold f_X10_lettersIn
  have lu := FUi
  refine (a_lettersIn_2 x σ h1 h2 h3 FU 0 0 li_0 (by omega) (by omega)).roq (fun v hv => Int32.toInt_inj.mp (by omega))
