/-! the letters of a name, counted by the class -/
theorem n5_get : ∀ (m : Nat) (g : Nat → Nat), GL g m → ∀ i : Nat, n5 m g / 32 ^ i % 32 = (if i < m then g i else 0) := by
  intro m
  induction m with
  | zero => intro g _ i; show 0 / 32 ^ i % 32 = _; rw [Nat.zero_div, if_neg (by omega)]
  | succ m ih =>
    intro g hg i
    have h0 := hg 0 (by omega)
    have hg' : GL (fun i => g (i + 1)) m := fun j hj => hg (j + 1) (by omega)
    show (g 0 + 32 * n5 m (fun i => g (i + 1))) / 32 ^ i % 32 = _
    cases i with
    | zero =>
      rw [Nat.pow_zero, Nat.div_one, if_pos (by omega)]
      omega
    | succ i =>
      have e : (g 0 + 32 * n5 m (fun i => g (i + 1))) / 32 ^ (i + 1) = n5 m (fun i => g (i + 1)) / 32 ^ i := by
        rw [Nat.pow_succ, Nat.mul_comm (32 ^ i) 32, ← Nat.div_div_eq_div_mul]
        congr 1
        omega
      rw [e, ih _ hg' i]
      by_cases h : i < m
      · rw [if_pos h, if_pos (by omega)]
      · rw [if_neg h, if_neg (by omega)]
theorem shr5 : ∀ (k : Nat), k ≤ 8 → ∀ a : Int64, (a >>> ((5 * Int32.ofNat k).toInt64 &&& 63)).toBitVec = a.toBitVec.sshiftRight (5 * k)
  | 0, _, _ => rfl
  | 1, _, _ => rfl
  | 2, _, _ => rfl
  | 3, _, _ => rfl
  | 4, _, _ => rfl
  | 5, _, _ => rfl
  | 6, _, _ => rfl
  | 7, _, _ => rfl
  | 8, _, _ => rfl
  | k + 9, h, _ => by omega
theorem and31 (x : Int32) : (x &&& 31).toInt = x.toInt % 32 := by
  have e : (x &&& 31).toInt = ((x.toBitVec &&& 31#32)).toInt := rfl
  have h1 : (x.toBitVec &&& 31#32).toNat = x.toBitVec.toNat % 32 := by
    rw [BitVec.toNat_and]
    exact Nat.and_two_pow_sub_one_eq_mod x.toBitVec.toNat 5
  have h2 : (x.toBitVec &&& 31#32).toInt = ((x.toBitVec.toNat % 32 : Nat) : Int) := by
    rw [BitVec.toInt_eq_toNat_of_lt (by rw [h1]; omega), h1]
  have h3 : x.toInt = x.toBitVec.toInt := rfl
  rw [e, h2, h3, BitVec.toInt_eq_toNat_cond]
  have := x.toBitVec.isLt
  split <;> omega
theorem a_letterOf (x : Int64) (p : Int32) (σ : ST) {X i : Nat} (hx : x.toInt = (X : Int)) (hp : p.toInt = i) (hi : i ≤ 8) : OK (f_X10_letterOf x p σ) (RO σ fun v => v.toInt = ((X / 32 ^ i % 32 : Nat) : Int)) := by
  unfold f_X10_letterOf
  have l0 := li_0
  have l12 := li_12
  refine OK.ilt (fun h => by omega) (fun _ => ?_)
  refine OK.ilt (fun _ => ?_) (fun h => by omega)
  refine OK.roret ?_
  have ep : p = Int32.ofNat i := intOf hp (by omega)
  have e1 : (x >>> ((5 * p).toInt64 &&& 63)).toInt = ((X / 32 ^ i : Nat) : Int) := by
    have h := shr5 i hi x
    rw [← ep] at h
    have h2 : (x >>> ((5 * p).toInt64 &&& 63)).toInt = (x >>> ((5 * p).toInt64 &&& 63)).toBitVec.toInt := rfl
    have h3 : x.toBitVec.toInt = (X : Int) := hx
    rw [h2, h, BitVec.toInt_sshiftRight, h3, Int.shiftRight_eq_div_pow]
    have h4 : 32 ^ i = 2 ^ (5 * i) := by rw [Nat.pow_mul]
    rw [h4]
    rfl
  generalize x >>> ((5 * p).toInt64 &&& 63) = y at e1 ⊢
  rw [and31]
  have e2 : y.toInt32.toInt = y.toInt.bmod (2 ^ 32) := Int64.toInt_toInt32 y
  obtain ⟨k, hk⟩ := i_bm y.toInt
  rw [e2, hk, e1]
  omega
theorem a_lettersIn_2 (x : Int64) (σ : ST) {m : Nat} {g : Nat → Nat} (hm : m ≤ 8) (hg : GL g m) (hx : x.toInt = (n5 m g : Int)) : ∀ (f i : Nat) (p : Int32), p.toInt = i → i ≤ m → m < f + i → OK (f_X10_lettersIn_2 f x p σ) (RO σ fun v => v.toInt = m) := by
  intro f
  have l0 := li_0
  have l1 := li_1
  have l12 := li_12
  induction f with
  | zero => intro i p h1 h2 h3; omega
  | succ f ih =>
    intro i p hp hi hf
    rw [f_X10_lettersIn_2]
    refine OK.ile (fun h => by omega) (fun _ => ?_)
    refine OK.bndR (a_letterOf x p σ hx hp (by omega)) (fun v hv => ?_)
    dsimp only
    rw [n5_get m g hg i] at hv
    have e1 := il_addE (x := p) (y := 1) (by omega) (by omega)
    by_cases h : i < m
    · rw [if_pos h] at hv
      have := hg i h
      refine OK.ieq (fun h9 => by omega) (fun _ => ?_)
      exact ih (i + 1) (p + 1) (by omega) (by omega) (by omega)
    · rw [if_neg h] at hv
      refine OK.ieq (fun _ => ?_) (fun h9 => absurd (hv.trans l0.symm) h9)
      refine OK.roret ?_
      omega
theorem a_lettersIn (x : Int64) (n : Int32) (σ : ST) (h : RLEN x n) : OK (f_X10_lettersIn x σ) (RO σ fun v => v = n) := by
  obtain ⟨m, g, h1, h2, h3, h4⟩ := h
  unfold f_X10_lettersIn
  have lu := FUi
  refine (a_lettersIn_2 x σ h1 h2 h3 FU 0 0 li_0 (by omega) (by omega)).roq (fun v hv => Int32.toInt_inj.mp (by omega))
/-! the draft becomes what holds: the class -/
def K5A (s σ : ST) : Prop := ∀ c, 4 ≤ c → c < 20 → c ≠ 10 → σ.1 c = s.1 c ∧ σ.2.1 c = s.2.1 c
theorem K5A.rf {s : ST} : K5A s s := fun _ _ _ _ => ⟨rfl, rfl⟩
theorem K5A.i {s σ : ST} {c i : Nat} {v : Int32} (hc : c < 4 ∨ 20 ≤ c ∨ c = 10) (h : K5A s σ) : K5A s (stI σ c i v) := fun d h1 h2 h3 => by
  rw [stI_ne (by omega)]
  exact h d h1 h2 h3
theorem K5A.l {s σ : ST} {c i : Nat} {v : Int64} (hc : c < 4 ∨ 20 ≤ c ∨ c = 10) (h : K5A s σ) : K5A s (stL σ c i v) := fun d h1 h2 h3 => by
  rw [stL_ne (by omega)]
  exact h d h1 h2 h3
theorem K5A.f {s σ : ST} {c : Nat} {f : Nat → Int32} (hc : c < 4 ∨ 20 ≤ c ∨ c = 10) (h : K5A s σ) : K5A s (stF σ c f) := fun d h1 h2 h3 => by
  rw [stF_ne5 (by omega)]
  exact h d h1 h2 h3
theorem K5A.fl {s σ : ST} {c : Nat} {f : Nat → Int64} (hc : c < 4 ∨ 20 ≤ c ∨ c = 10) (h : K5A s σ) : K5A s (stFL σ c f) := fun d h1 h2 h3 => by
  rw [stFL_ne5 (by omega)]
  exact h d h1 h2 h3
theorem K5A.d {s σ : ST} {c i : Nat} {v : UInt64} (h : K5A s σ) : K5A s (stD σ c i v) := h
theorem K5A.r {s σ : ST} {c v : Nat} (h : K5A s σ) : K5A s (stR σ c v) := h
theorem v_J7_fill_53178_5 {s : ST} {u : Nat}  (h_u : (u = 10 ∨ 20 ≤ u)) : ∀ (n : Nat) (x1 : Int32) (x2 : Int32) (x3 : Int32) (σ : ST), K5A s σ → PF st0 (K5A s) (f_J7_fill_53178_5 u n x1 x2 x3 σ) := by
  intro n
  induction n with
  | zero => intro x1 x2 x3 σ h; rw [f_J7_fill_53178_5]; exact PF.none
  | succ n ih =>
    intro x1 x2 x3 σ h
    rw [f_J7_fill_53178_5]
    exact (PF.ite (fun _ => (PF.ret0 h)) (fun _ => (PF.ite (fun _ => (ih _ _ _ _ (K5A.i (by omega) h))) (fun _ => PF.none))))
theorem v_J7_fill_53178 {s : ST} {u : Nat} {p1 : Int32} {σ : ST}  (h_u : (u = 10 ∨ 20 ≤ u)) (h : K5A s σ) : PF st0 (K5A s) (f_J7_fill_53178 u p1 σ) := by
  unfold f_J7_fill_53178
  exact (v_J7_fill_53178_5 (by omega) _ _ _ _ _ h)
theorem v_X5_recordsOf {s : ST} {b : Nat} {p0 : Int32} {σ : ST}   (h : K5A s σ) : PF st1 (K5A s) (f_X5_recordsOf b p0 σ) := by
  unfold f_X5_recordsOf
  exact (PF.ite (fun _ => (PF.ret1 h)) (fun _ => (PF.ite (fun _ => (PF.ret1 h)) (fun _ => (PF.ite (fun _ => (PF.ret1 h)) (fun _ => PF.none))))))
theorem v_X5_isRecord {s : ST} {p0 : Int32} {σ : ST}   (h : K5A s σ) : PF st1 (K5A s) (f_X5_isRecord p0 σ) := by
  unfold f_X5_isRecord
  exact (PF.ite (fun _ => (PF.ret1 h)) (fun _ => (PF.ite (fun _ => (PF.ret1 h)) (fun _ => (PF.ret1 h)))))
theorem v_X5_findEmptyRecords_77 {s : ST} {k10 : Int32 → ST → Option (ST)} {k18 : Int32 → Int32 → ST → Option (ST)} {k28 : Int32 → Int32 → Int32 → ST → Option (ST)} {b : Nat} {x1 : Int32} {x2 : Int32} {x3 : Int32} {σ : ST} (h_k10 : ∀ (x1 : Int32) (σ : ST), K5A s σ → PF st0 (K5A s) (k10 x1 σ)) (h_k18 : ∀ (x1 : Int32) (x2 : Int32) (σ : ST), K5A s σ → PF st0 (K5A s) (k18 x1 x2 σ)) (h_k28 : ∀ (x1 : Int32) (x2 : Int32) (x3 : Int32) (σ : ST), K5A s σ → PF st0 (K5A s) (k28 x1 x2 x3 σ))  (h : K5A s σ) : PF st0 (K5A s) (f_X5_findEmptyRecords_77 k10 k18 k28 b x1 x2 x3 σ) := by
  unfold f_X5_findEmptyRecords_77
  exact (h_k28 _ _ _ _ h)
theorem v_X5_fieldsOf {s : ST} {b : Nat} {p0 : Int32} {σ : ST}   (h : K5A s σ) : PF st1 (K5A s) (f_X5_fieldsOf b p0 σ) := by
  unfold f_X5_fieldsOf
  exact (PF.bnd (v_X5_isRecord  h) (fun q1 hq1 => (PF.ite (fun _ => (PF.ret1 hq1)) (fun _ => (PF.ite (fun _ => (PF.ret1 hq1)) (fun _ => PF.none))))))
theorem v_X5_isFieldOf {s : ST} {p0 : Int32} {p1 : Int32} {σ : ST}   (h : K5A s σ) : PF st1 (K5A s) (f_X5_isFieldOf p0 p1 σ) := by
  unfold f_X5_isFieldOf
  exact (PF.ite (fun _ => (PF.ret1 h)) (fun _ => (PF.ite (fun _ => (PF.ret1 h)) (fun _ => (PF.ite (fun _ => (PF.ret1 h)) (fun _ => (PF.ite (fun _ => (PF.ret1 h)) (fun _ => (PF.ret1 h)))))))))
theorem v_X5_typeOf {s : ST} {b : Nat} {p0 : Int32} {p1 : Int32} {σ : ST}   (h : K5A s σ) : PF st1 (K5A s) (f_X5_typeOf b p0 p1 σ) := by
  unfold f_X5_typeOf
  exact (PF.bnd (v_X5_isFieldOf  h) (fun q1 hq1 => (PF.ite (fun _ => (PF.ret1 hq1)) (fun _ => (PF.ite (fun _ => (PF.ret1 hq1)) (fun _ => PF.none))))))
theorem v_X5_isType {s : ST} {b : Nat} {p0 : Int32} {σ : ST}   (h : K5A s σ) : PF st1 (K5A s) (f_X5_isType b p0 σ) := by
  unfold f_X5_isType
  exact (PF.ite (fun _ => (PF.ret1 h)) (fun _ => (PF.ite (fun _ => (PF.ret1 h)) (fun _ => (PF.ite (fun _ => (PF.ret1 h)) (fun _ => (PF.ret1 h)))))))
theorem v_X5_sortOf {s : ST} {b : Nat} {p0 : Int32} {σ : ST}   (h : K5A s σ) : PF st1 (K5A s) (f_X5_sortOf b p0 σ) := by
  unfold f_X5_sortOf
  exact (PF.bnd (v_X5_isType  h) (fun q1 hq1 => (PF.ite (fun _ => (PF.ret1 hq1)) (fun _ => (PF.ite (fun _ => (PF.ret1 hq1)) (fun _ => PF.none))))))
theorem v_X5_innerOf {s : ST} {b : Nat} {p0 : Int32} {σ : ST}   (h : K5A s σ) : PF st1 (K5A s) (f_X5_innerOf b p0 σ) := by
  unfold f_X5_innerOf
  exact (PF.bnd (v_X5_isType  h) (fun q1 hq1 => (PF.ite (fun _ => (PF.ret1 hq1)) (fun _ => (PF.ite (fun _ => (PF.ret1 hq1)) (fun _ => PF.none))))))
theorem v_X5_emptyHeight {s : ST} {b : Nat} {p0 : Int32} {σ : ST}   (h : K5A s σ) : PF st1 (K5A s) (f_X5_emptyHeight b p0 σ) := by
  unfold f_X5_emptyHeight
  exact (PF.bnd (v_X5_sortOf  h) (fun q1 hq1 => (PF.ite (fun _ => (PF.ret1 hq1)) (fun _ => (PF.bnd (v_X5_innerOf  hq1) (fun q3 hq3 => (PF.bnd (v_X5_sortOf  hq3) (fun q5 hq5 => (PF.ite (fun _ => (PF.bnd (v_X5_isRecord  hq5) (fun q7 hq7 => (PF.ite (fun _ => (PF.ret1 hq7)) (fun _ => (PF.ite (fun _ => (PF.ret1 hq7)) (fun _ => PF.none))))))) (fun _ => (PF.ret1 hq5)))))))))))
theorem v_X5_heightOfFields_4 {s : ST} {b : Nat}   : ∀ (n : Nat) (x1 : Int32) (x2 : Int32) (x3 : Int32) (σ : ST), K5A s σ → PF st1 (K5A s) (f_X5_heightOfFields_4 b n x1 x2 x3 σ) := by
  intro n
  induction n with
  | zero => intro x1 x2 x3 σ h; rw [f_X5_heightOfFields_4]; exact PF.none
  | succ n ih =>
    intro x1 x2 x3 σ h
    rw [f_X5_heightOfFields_4]
    exact (PF.bnd (v_X5_fieldsOf  h) (fun q1 hq1 => (PF.ite (fun _ => (PF.ret1 hq1)) (fun _ => (PF.bnd (v_X5_typeOf  hq1) (fun q3 hq3 => (PF.bnd (v_X5_emptyHeight  hq3) (fun q5 hq5 => (PF.ite (fun _ => (PF.ret1 hq5)) (fun _ => (ih _ _ _ _ hq5)))))))))))
theorem v_X5_heightOfFields {s : ST} {b : Nat} {p0 : Int32} {σ : ST}   (h : K5A s σ) : PF st1 (K5A s) (f_X5_heightOfFields b p0 σ) := by
  unfold f_X5_heightOfFields
  exact (v_X5_heightOfFields_4  _ _ _ _ _ h)
theorem v_X5_findEmptyRecords_28 {s : ST} {k10 : Int32 → ST → Option (ST)} {k18 : Int32 → Int32 → ST → Option (ST)} {b : Nat} (h_k10 : ∀ (x1 : Int32) (σ : ST), K5A s σ → PF st0 (K5A s) (k10 x1 σ)) (h_k18 : ∀ (x1 : Int32) (x2 : Int32) (σ : ST), K5A s σ → PF st0 (K5A s) (k18 x1 x2 σ)) (h_b : (b = 4 ∨ 20 ≤ b)) : ∀ (n : Nat) (x1 : Int32) (x2 : Int32) (x3 : Int32) (σ : ST), K5A s σ → PF st0 (K5A s) (f_X5_findEmptyRecords_28 k10 k18 b n x1 x2 x3 σ) := by
  intro n
  induction n with
  | zero => intro x1 x2 x3 σ h; rw [f_X5_findEmptyRecords_28]; exact PF.none
  | succ n ih =>
    intro x1 x2 x3 σ h
    rw [f_X5_findEmptyRecords_28]
    exact (PF.bnd (v_X5_recordsOf  h) (fun q1 hq1 => (PF.ite (fun _ => (h_k18 _ _ _ hq1)) (fun _ => (PF.bnd (v_X5_isRecord  hq1) (fun q3 hq3 => (PF.ite (fun _ => (v_X5_findEmptyRecords_77 h_k10 h_k18 ih hq3)) (fun _ => (PF.ite (fun _ => (PF.ite (fun _ => (PF.bnd (v_X5_heightOfFields  hq3) (fun q6 hq6 => (v_X5_findEmptyRecords_77 h_k10 h_k18 ih (K5A.i (by omega) hq6))))) (fun _ => (v_X5_findEmptyRecords_77 h_k10 h_k18 ih hq3)))) (fun _ => PF.none))))))))))
theorem v_X5_findEmptyRecords_18 {s : ST} {k10 : Int32 → ST → Option (ST)} {b : Nat} (h_k10 : ∀ (x1 : Int32) (σ : ST), K5A s σ → PF st0 (K5A s) (k10 x1 σ)) (h_b : (b = 4 ∨ 20 ≤ b)) : ∀ (n : Nat) (x1 : Int32) (x2 : Int32) (σ : ST), K5A s σ → PF st0 (K5A s) (f_X5_findEmptyRecords_18 k10 b n x1 x2 σ) := by
  intro n
  induction n with
  | zero => intro x1 x2 σ h; rw [f_X5_findEmptyRecords_18]; exact PF.none
  | succ n ih =>
    intro x1 x2 σ h
    rw [f_X5_findEmptyRecords_18]
    exact (PF.ite (fun _ => (h_k10 _ _ h)) (fun _ => (v_X5_findEmptyRecords_28 h_k10 ih (by omega) _ _ _ _ _ h)))
theorem v_X5_findEmptyRecords_10 {s : ST} {b : Nat}  (h_b : (b = 4 ∨ 20 ≤ b)) : ∀ (n : Nat) (x1 : Int32) (σ : ST), K5A s σ → PF st0 (K5A s) (f_X5_findEmptyRecords_10 b n x1 σ) := by
  intro n
  induction n with
  | zero => intro x1 σ h; rw [f_X5_findEmptyRecords_10]; exact PF.none
  | succ n ih =>
    intro x1 σ h
    rw [f_X5_findEmptyRecords_10]
    exact (PF.ite (fun _ => (PF.ret0 h)) (fun _ => (v_X5_findEmptyRecords_18 ih (by omega) _ _ _ _ h)))
theorem v_X5_findEmptyRecords {s : ST} {b : Nat} {σ : ST}  (h_b : (b = 4 ∨ 20 ≤ b)) (h : K5A s σ) : PF st0 (K5A s) (f_X5_findEmptyRecords b σ) := by
  unfold f_X5_findEmptyRecords
  exact (PF.bnd (v_J7_fill_53178 (by omega) h) (fun q1 hq1 => (v_X5_findEmptyRecords_10 (by omega) _ _ _ hq1)))
theorem v_X1_clear {s : ST}  {σ : ST}   (h : K5A s σ) : PF st0 (K5A s) (f_X1_clear σ) := by
  unfold f_X1_clear
  exact (PF.bnd (v_J7_fill_53178 (by omega) h) (fun q1 hq1 => (PF.ret0 hq1)))
theorem v_X0_clear {s : ST}  {σ : ST}   (h : K5A s σ) : PF st0 (K5A s) (f_X0_clear σ) := by
  unfold f_X0_clear
  exact (PF.bnd (v_J7_fill_53178 (by omega) (K5A.l (by omega) h)) (fun q1 hq1 => (PF.ret0 (K5A.i (by omega) (K5A.i (by omega) hq1)))))
theorem v_X9_clear {s : ST}  {σ : ST}   (h : K5A s σ) : PF st0 (K5A s) (f_X9_clear σ) := by
  unfold f_X9_clear
  exact (PF.ret0 (K5A.i (by omega) (K5A.i (by omega) (K5A.i (by omega) h))))
theorem v_X7_clear {s : ST} {b : Nat} {σ : ST}  (h_b : 20 ≤ b) (h : K5A s σ) : PF st0 (K5A s) (f_X7_clear b σ) := by
  unfold f_X7_clear
  exact (PF.ret0 (K5A.i (by omega) h))
/-- cells of the class's draft, copied -/
def CPS (D E : List (Nat × Nat)) (σ z : ST) : Prop := (z.1 4 1 = σ.1 20 1) ∧ (∀ c, 20 ≤ c → z.1 c = σ.1 c ∧ z.2.1 c = σ.2.1 c) ∧ (∀ q, q ∈ D → ∀ i, i < q.2 → z.1 (4 + q.1) i = σ.1 (20 + q.1) i) ∧ (∀ q, q ∈ E → ∀ i, i < q.2 → z.2.1 (4 + q.1) i = σ.2.1 (20 + q.1) i)
theorem CPS.stepF {D E : List (Nat × Nat)} {σ z : ST} (h : CPS D E σ z) (k n src a b m : Nat) (hs : src = 20 + k) (ha : a = 0) (hb : b = 0) (hm : m = n) (hk : k < 16) (hk0 : 0 < k) (hD : ∀ q, q ∈ D → q.1 ≠ k) : CPS ((k, n) :: D) E σ (stF z (4 + k) (va_cpy (z.1 src) (z.1 (4 + k)) a b m)) := by
  subst hs ha hb hm
  obtain ⟨h0, h1, h2, h3⟩ := h
  refine ⟨by rw [stF_ne5 (by omega)]; exact h0, fun c hc => ⟨by rw [stF_ne5 (by omega)]; exact (h1 c hc).1, (h1 c hc).2⟩, fun q hq i hi => ?_, h3⟩
  rcases List.mem_cons.mp hq with e | e
  · subst e
    have e9 : (stF z (4 + k) (va_cpy (z.1 (20 + k)) (z.1 (4 + k)) 0 0 m)).1 (4 + k) = va_cpy (z.1 (20 + k)) (z.1 (4 + k)) 0 0 m := by
      show (bif Nat.beq (4 + k) (4 + k) then _ else _) = _
      rw [Nat.beq_refl]
      rfl
    show (stF z (4 + k) _).1 (4 + k) i = _
    rw [e9]
    unfold va_cpy
    have hi : i < m := hi
    rw [if_pos ⟨by omega, by omega⟩, (h1 (20 + k) (by omega)).1]
    show σ.1 (20 + k) (0 + (i - 0)) = σ.1 (20 + k) i
    rw [Nat.zero_add, Nat.sub_zero]
  · have hne := hD q e
    rw [stF_ne5 (by omega)]
    exact h2 q e i hi
theorem CPS.stepL {D E : List (Nat × Nat)} {σ z : ST} (h : CPS D E σ z) (k n src a b m : Nat) (hs : src = 20 + k) (ha : a = 0) (hb : b = 0) (hm : m = n) (hk : k < 16) (hk0 : 0 < k) (hE : ∀ q, q ∈ E → q.1 ≠ k) : CPS D ((k, n) :: E) σ (stFL z (4 + k) (va_cpy (z.2.1 src) (z.2.1 (4 + k)) a b m)) := by
  subst hs ha hb hm
  obtain ⟨h0, h1, h2, h3⟩ := h
  refine ⟨h0, fun c hc => ⟨(h1 c hc).1, by rw [stFL_ne5 (by omega)]; exact (h1 c hc).2⟩, h2, fun q hq i hi => ?_⟩
  rcases List.mem_cons.mp hq with e | e
  · subst e
    have e9 : (stFL z (4 + k) (va_cpy (z.2.1 (20 + k)) (z.2.1 (4 + k)) 0 0 m)).2.1 (4 + k) = va_cpy (z.2.1 (20 + k)) (z.2.1 (4 + k)) 0 0 m := by
      show (bif Nat.beq (4 + k) (4 + k) then _ else _) = _
      rw [Nat.beq_refl]
      rfl
    show (stFL z (4 + k) _).2.1 (4 + k) i = _
    rw [e9]
    unfold va_cpy
    have hi : i < m := hi
    rw [if_pos ⟨by omega, by omega⟩, (h1 (20 + k) (by omega)).2]
    show σ.2.1 (20 + k) (0 + (i - 0)) = σ.2.1 (20 + k) i
    rw [Nat.zero_add, Nat.sub_zero]
  · have hne := hE q e
    rw [stFL_ne5 (by omega)]
    exact h3 q e i hi
theorem a_copy (σ z : ST) (h : f_X5_copyFrom 4 σ = some z) : CPS [(13, 262), (12, 262), (11, 262), (9, 288), (5, 36), (3, 36), (2, 6), (1, 6)] [(10, 288), (8, 288), (7, 288), (4, 36)] σ z := by
  unfold f_X5_copyFrom at h
  have n0 : (0 : Int32).toNatClampNeg = 0 := by decide
  have n6 : (6 : Int32).toNatClampNeg = 6 := by decide
  have n36 : (36 : Int32).toNatClampNeg = 36 := by decide
  have n288 : (288 : Int32).toNatClampNeg = 288 := by decide
  have n262 : (262 : Int32).toNatClampNeg = 262 := by decide
  obtain ⟨z1, e1, h⟩ := bnd_some h
  have c1 : CPS [] [] σ z1 := by
    rw [← Option.some.inj e1]
    refine ⟨rfl, fun c hc => ⟨?_, rfl⟩, fun q hq => absurd hq (List.not_mem_nil), fun q hq => absurd hq (List.not_mem_nil)⟩
    rw [stI_ne (by omega), stI_ne (by omega)]
  clear e1
  rw [if_pos (by decide)] at h
  obtain ⟨z2, e2, h⟩ := bnd_some h
  have c2 := c1.stepF 1 6 21 _ _ _ rfl n0 n0 n6 (by decide) (by decide) (by decide)
  rw [Option.some.inj e2] at c2
  clear e2 c1
  rw [if_pos (by decide)] at h
  obtain ⟨z3, e3, h⟩ := bnd_some h
  have c3 := c2.stepF 2 6 22 _ _ _ rfl n0 n0 n6 (by decide) (by decide) (by decide)
  rw [Option.some.inj e3] at c3
  clear e3 c2
  rw [if_pos (by decide)] at h
  obtain ⟨z4, e4, h⟩ := bnd_some h
  have c4 := c3.stepF 3 36 23 _ _ _ rfl n0 n0 n36 (by decide) (by decide) (by decide)
  rw [Option.some.inj e4] at c4
  clear e4 c3
  rw [if_pos (by decide)] at h
  obtain ⟨z5, e5, h⟩ := bnd_some h
  have c5 := c4.stepL 4 36 24 _ _ _ rfl n0 n0 n36 (by decide) (by decide) (by decide)
  rw [Option.some.inj e5] at c5
  clear e5 c4
  rw [if_pos (by decide)] at h
  obtain ⟨z6, e6, h⟩ := bnd_some h
  have c6 := c5.stepF 5 36 25 _ _ _ rfl n0 n0 n36 (by decide) (by decide) (by decide)
  rw [Option.some.inj e6] at c6
  clear e6 c5
  rw [if_pos (by decide)] at h
  obtain ⟨z7, e7, h⟩ := bnd_some h
  have c7 := c6.stepL 7 288 27 _ _ _ rfl n0 n0 n288 (by decide) (by decide) (by decide)
  rw [Option.some.inj e7] at c7
  clear e7 c6
  rw [if_pos (by decide)] at h
  obtain ⟨z8, e8, h⟩ := bnd_some h
  have c8 := c7.stepL 8 288 28 _ _ _ rfl n0 n0 n288 (by decide) (by decide) (by decide)
  rw [Option.some.inj e8] at c8
  clear e8 c7
  rw [if_pos (by decide)] at h
  obtain ⟨z9, e9, h⟩ := bnd_some h
  have c9 := c8.stepF 9 288 29 _ _ _ rfl n0 n0 n288 (by decide) (by decide) (by decide)
  rw [Option.some.inj e9] at c9
  clear e9 c8
  rw [if_pos (by decide)] at h
  obtain ⟨z10, e10, h⟩ := bnd_some h
  have c10 := c9.stepL 10 288 30 _ _ _ rfl n0 n0 n288 (by decide) (by decide) (by decide)
  rw [Option.some.inj e10] at c10
  clear e10 c9
  rw [if_pos (by decide)] at h
  obtain ⟨z11, e11, h⟩ := bnd_some h
  have c11 := c10.stepF 11 262 31 _ _ _ rfl n0 n0 n262 (by decide) (by decide) (by decide)
  rw [Option.some.inj e11] at c11
  clear e11 c10
  rw [if_pos (by decide)] at h
  obtain ⟨z12, e12, h⟩ := bnd_some h
  have c12 := c11.stepF 12 262 32 _ _ _ rfl n0 n0 n262 (by decide) (by decide) (by decide)
  rw [Option.some.inj e12] at c12
  clear e12 c11
  rw [if_pos (by decide)] at h
  obtain ⟨z13, e13, h⟩ := bnd_some h
  have c13 := c12.stepF 13 262 33 _ _ _ rfl n0 n0 n262 (by decide) (by decide) (by decide)
  rw [Option.some.inj e13] at c13
  clear e13 c12
  rw [← Option.some.inj h]
  exact c13
/-! the plans that hold: kept, copied, asked for fields -/
theorem FLH.ext {b b' p N : Nat} {rm : Int} {σ τ a t : ST} (h : FLH b p rm N σ τ) (hn : a.1 b' 1 = σ.1 b 1) (h262 : (σ.1 b 1).toInt ≤ 262) (c : a.2.1 (b' + 7) N = σ.2.1 (b + 7) N ∧ a.2.1 (b' + 8) N = σ.2.1 (b + 8) N ∧ a.2.1 (b' + 10) N = σ.2.1 (b + 10) N ∧ a.1 (b' + 9) N = σ.1 (b + 9) N) (c11 : ∀ i, i < 262 → a.1 (b' + 11) i = σ.1 (b + 11) i ∧ a.1 (b' + 12) i = σ.1 (b + 12) i ∧ a.1 (b' + 13) i = σ.1 (b + 13) i) (k : t.1 15 N = τ.1 15 N ∧ t.1 16 N = τ.1 16 N ∧ TF τ t N N) (k2 : ∀ q, q < 400 → t.1 2 q = τ.1 2 q ∧ t.1 3 q = τ.1 3 q ∧ t.1 4 q = τ.1 4 q) (k5 : ∀ q, q < 1600 → t.1 5 q = τ.1 5 q) : FLH b' p rm N a t := by
  obtain ⟨h1, h2, h3, h4⟩ := h
  obtain ⟨c7, c8, c10, c9⟩ := c
  obtain ⟨k15, k16, k13, k19, k12, k14, k17, k18⟩ := k
  have r := h3.rng.2
  have hb : (τ.1 2 (τ.1 15 N).toNatClampNeg).toInt = 8 → 0 ≤ (τ.1 5 (4 * (τ.1 15 N).toNatClampNeg)).toInt ∧ (τ.1 5 (4 * (τ.1 15 N).toNatClampNeg)).toInt < (400 : Nat) := fun h8 => by
    obtain ⟨_, _, _, _, _, _, u⟩ := h3
    obtain ⟨u1, u2, _⟩ := u h8
    exact (u2 0 (by omega)).1.rng.2
  unfold FLH
  rw [c7, c8, c10, c9, k15, k16, k13, k19, k12, k14, k17, k18, hn, FCS.ext (t := 400) r hb (fun j hj => (k2 j hj).1) (fun j hj => k5 j (by omega))]
  exact ⟨h1, h2, TYR.ext (Int.le_refl _) (fun i hi => c11 i (by omega)) (fun q hq => ⟨(k2 q hq).1, (k2 q hq).2.1, (k2 q hq).2.2, fun w hw => k5 _ (by omega)⟩) 4 _ _ h3, h4⟩
theorem PHB.ext {b b' p : Nat} {σ τ a t : ST} (h : PHB b p σ τ) (hp : p < 6) (hn : a.1 b' 1 = σ.1 b 1) (c1 : ∀ i, i < 6 → a.1 (b' + 1) i = σ.1 (b + 1) i ∧ a.1 (b' + 2) i = σ.1 (b + 2) i) (c3 : ∀ i, i < 36 → a.1 (b' + 3) i = σ.1 (b + 3) i ∧ a.2.1 (b' + 4) i = σ.2.1 (b + 4) i ∧ a.1 (b' + 5) i = σ.1 (b + 5) i) (c7 : ∀ N, N < 288 → a.2.1 (b' + 7) N = σ.2.1 (b + 7) N ∧ a.2.1 (b' + 8) N = σ.2.1 (b + 8) N ∧ a.2.1 (b' + 10) N = σ.2.1 (b + 10) N ∧ a.1 (b' + 9) N = σ.1 (b + 9) N) (c11 : ∀ i, i < 262 → a.1 (b' + 11) i = σ.1 (b + 11) i ∧ a.1 (b' + 12) i = σ.1 (b + 12) i ∧ a.1 (b' + 13) i = σ.1 (b + 13) i) (k : KR τ t) : PHB b' p a t := by
  obtain ⟨⟨h1, h2⟩, ⟨h3, h4, h5⟩, h6, h7⟩ := h
  obtain ⟨k1, k2, k3, k4, k5⟩ := k
  have n3 := nN_ h3.1
  unfold PHB
  rw [k1 p hp, (c1 p hp).1, (c1 p hp).2, hn, (c11 _ (by omega)).1, (c11 _ (by omega)).2.1]
  refine ⟨⟨h1, h2⟩, ⟨h3, h4, h5⟩, h6, fun i hi => ?_⟩
  obtain ⟨x1, x2, ⟨x3, x4⟩, x5, x6⟩ := h7 i hi
  have e1 := k2 (6 * p + i) (by omega)
  have e2 := c3 (6 * p + i) (by omega)
  have x8 := x4.2
  have xd : DNM (a.2.1 (b' + 4)) (6 * p) i := fun j hj => by
    rw [(c3 (6 * p + j) (by omega)).2.1, e2.2.1]
    exact x1.2 j hj
  rw [e1.1, e1.2.1, e1.2.2, e2.1, e2.2.1]
  refine ⟨⟨x1.1, xd⟩, x2, ⟨x3, x4⟩, ?_, fun j hj => (x6 j hj).ext hn h6 (c7 _ (by omega)) c11 (k3 _ (by omega)) k4 k5⟩
  obtain ⟨w, w1, w2, w3⟩ := x5
  refine ⟨w, w1, e2.2.2.trans w2, fun q hq => ?_⟩
  rw [w3 q hq]
  constructor
  · rintro ⟨a1, a2⟩
    exact ⟨a1, by rw [(k3 (8 * (6 * p + i) + q) (by omega)).2.1]; exact a2⟩
  · rintro ⟨a1, a2⟩
    rw [(k3 (8 * (6 * p + i) + q) (by omega)).2.1] at a2
    exact ⟨a1, a2⟩
theorem PHB.keep {p : Nat} {σ τ a t : ST} (h : PHB 4 p σ τ) (hp : p < 6) (hA : KTA σ a) (k : KR τ t) : PHB 4 p a t := by
  have e : ∀ c, c < 16 → a.1 (4 + c) = σ.1 (4 + c) ∧ a.2.1 (4 + c) = σ.2.1 (4 + c) := fun c hc => hA (4 + c) (by omega) (by omega)
  have e0 : a.1 4 = σ.1 4 := (hA 4 (by omega) (by omega)).1
  exact h.ext hp (by rw [e0]) (fun i _ => ⟨by rw [(e 1 (by omega)).1], by rw [(e 2 (by omega)).1]⟩) (fun i _ => ⟨by rw [(e 3 (by omega)).1], by rw [(e 4 (by omega)).2], by rw [(e 5 (by omega)).1]⟩) (fun i _ => ⟨by rw [(e 7 (by omega)).2], by rw [(e 8 (by omega)).2], by rw [(e 10 (by omega)).2], by rw [(e 9 (by omega)).1]⟩) (fun i _ => ⟨by rw [(e 11 (by omega)).1], by rw [(e 12 (by omega)).1], by rw [(e 13 (by omega)).1]⟩) k
theorem PHB.copy {p : Nat} {s z a τ : ST} (h : PHB 20 p s τ) (hp : p < 6) (hc : CPS [(13, 262), (12, 262), (11, 262), (9, 288), (5, 36), (3, 36), (2, 6), (1, 6)] [(10, 288), (8, 288), (7, 288), (4, 36)] s z) (hk : K5A z a) : PHB 4 p a τ := by
  obtain ⟨h0, _, h2, h3⟩ := hc
  have e : ∀ c, c < 16 → c ≠ 6 → a.1 (4 + c) = z.1 (4 + c) ∧ a.2.1 (4 + c) = z.2.1 (4 + c) := fun c hc h6 => hk (4 + c) (by omega) (by omega) (by omega)
  have e0 : a.1 4 = z.1 4 := (hk 4 (by omega) (by omega) (by omega)).1
  have d : ∀ (q : Nat × Nat), q ∈ [(13, 262), (12, 262), (11, 262), (9, 288), (5, 36), (3, 36), (2, 6), (1, 6)] → q.1 < 16 → q.1 ≠ 6 → ∀ i, i < q.2 → a.1 (4 + q.1) i = s.1 (20 + q.1) i := fun q hq h1 h6 i hi => by
    rw [(e q.1 h1 h6).1]
    exact h2 q hq i hi
  have l : ∀ (q : Nat × Nat), q ∈ [(10, 288), (8, 288), (7, 288), (4, 36)] → q.1 < 16 → q.1 ≠ 6 → ∀ i, i < q.2 → a.2.1 (4 + q.1) i = s.2.1 (20 + q.1) i := fun q hq h1 h6 i hi => by
    rw [(e q.1 h1 h6).2]
    exact h3 q hq i hi
  exact h.ext (b' := 4) hp (by rw [e0]; exact h0) (fun i hi => ⟨d (1, 6) (by decide) (by decide) (by decide) i hi, d (2, 6) (by decide) (by decide) (by decide) i hi⟩) (fun i hi => ⟨d (3, 36) (by decide) (by decide) (by decide) i hi, l (4, 36) (by decide) (by decide) (by decide) i hi, d (5, 36) (by decide) (by decide) (by decide) i hi⟩) (fun i hi => ⟨l (7, 288) (by decide) (by decide) (by decide) i hi, l (8, 288) (by decide) (by decide) (by decide) i hi, l (10, 288) (by decide) (by decide) (by decide) i hi, d (9, 288) (by decide) (by decide) (by decide) i hi⟩) (fun i hi => ⟨d (11, 262) (by decide) (by decide) (by decide) i hi, d (12, 262) (by decide) (by decide) (by decide) i hi, d (13, 262) (by decide) (by decide) (by decide) i hi⟩) KR.rf
theorem KTB.kr {s y : ST} (h : KTB s y) : KR s y := by
  unfold KR TF
  rw [h.1 8 (by decide), h.1 11 (by decide), h.1 10 (by decide), h.1 15 (by decide), h.1 16 (by decide), h.1 13 (by decide), h.1 19 (by decide), h.1 4 (by decide), h.1 5 (by decide), h.2.2 9 (by decide), h.2.2 12 (by decide), h.2.2 14 (by decide), h.2.2 17 (by decide), h.2.2 18 (by decide)]
  exact ⟨fun _ _ => rfl, fun _ _ => ⟨rfl, rfl, rfl⟩, fun _ _ => ⟨rfl, rfl, rfl, rfl, rfl, rfl, rfl, rfl⟩, fun q hq => ⟨(h.2.1 q hq).1, (h.2.1 q hq).2, rfl⟩, fun _ _ => rfl⟩
theorem k6_plans (p0 : Int32) (σ : ST) (q : Int32 × ST) (h : f_X10_plans p0 σ = some q) (hr : 0 ≤ p0.toInt ∧ p0.toInt ≤ (σ.1 0 1).toInt) (s1 : ST) (r : Int32) (s2 : ST) (e1 : f_X6_begin p0 (stI σ 0 1 0) = some s1) (e2 : f_X3_parse s1 = some (r, s2)) : (r.toInt = 0 → KTA σ q.2) ∧ (¬ r.toInt = 0 → ∀ (p : Nat) (τ : ST), p < 6 → PHB 20 p s2 τ → PHB 4 p q.2 τ) := by
  have l0 := li_0
  unfold f_X10_plans at h
  rw [if_neg (by rw [Int32.lt_iff_toInt_lt]; omega), if_pos (by rw [Int32.le_iff_toInt_le]; omega), e1, sbnd, e2, sbnd] at h
  dsimp only at h
  refine ⟨fun r0 => ?_, fun r1 => ?_⟩
  · rw [if_pos (Int32.toInt_inj.mp (r0.trans l0.symm))] at h
    obtain ⟨x, ex, h⟩ := bnd_some h
    cases h
    have k1 : KTA σ s1 := w_X6_begin (KTA.i (by omega) KTA.rf) s1 e1
    have k2 : KTA σ s2 := w_X3_parse k1 (r, s2) e2
    exact w_X6_faultAnswer k2 x ex
  · rw [if_neg (fun e => r1 (by rw [e]; exact l0))] at h
    obtain ⟨c, ec, h⟩ := bnd_some h
    obtain ⟨d, ed, h⟩ := bnd_some h
    obtain ⟨x1, e3, h⟩ := bnd_some h
    obtain ⟨x2, e4, h⟩ := bnd_some h
    obtain ⟨x3, e5, h⟩ := bnd_some h
    obtain ⟨x4, e6, h⟩ := bnd_some h
    cases h
    have k1 : K5A c d := v_X5_findEmptyRecords (by omega) K5A.rf d ed
    have k2 : K5A c x1 := v_X1_clear k1 x1 e3
    have k3 : K5A c x2 := v_X0_clear k2 x2 e4
    have k4 : K5A c x3 := v_X9_clear k3 x3 e5
    have k5 : K5A c x4 := v_X7_clear (by omega) k4 x4 e6
    exact fun p τ hp hP => hP.copy hp (a_copy s2 c ec) k5
/-! record: both answer alike -/
/-- a plan that holds, side by side -/
def PH5 (p : Nat) (σ τ : ST) : Prop := σ.1 5 p = τ.1 8 p ∧ (0 ≤ (σ.1 5 p).toInt ∧ (σ.1 5 p).toInt ≤ 6) ∧ ∀ i : Nat, (i : Int) < (σ.1 5 p).toInt → RLEN (σ.2.1 8 (6 * p + i)) (τ.1 10 (6 * p + i)) ∧ σ.1 7 (6 * p + i) = τ.1 11 (6 * p + i)
theorem a4_recordsOf (p0 : Int32) (σ : ST) {p : Nat} (h0 : p0.toInt = p) (hp : p < 6) : f_X5_recordsOf 4 p0 σ = some (σ.1 5 p, σ) := by
  unfold f_X5_recordsOf
  have l0 := li_0
  have l6 := li_6
  have np : p0.toNatClampNeg = p := nC h0
  rw [if_neg (by rw [Int32.lt_iff_toInt_lt]; omega), if_neg (by rw [Int32.le_iff_toInt_le]; omega), if_pos ⟨by omega, by omega⟩, np]
theorem a4_fieldsOf (p0 : Int32) (σ : ST) {r : Nat} (h0 : p0.toInt = r) (hr : r < 36) : f_X5_fieldsOf 4 p0 σ = some (σ.1 7 r, σ) := by
  unfold f_X5_fieldsOf f_X5_isRecord
  have l0 := li_0
  have l36 : (36 : Int32).toInt = 36 := by decide
  have nr : p0.toNatClampNeg = r := nC h0
  rw [if_neg (by rw [Int32.lt_iff_toInt_lt]; omega), if_neg (by rw [Int32.le_iff_toInt_le]; omega), sbnd]
  dsimp only
  rw [if_neg (by decide), if_pos ⟨by omega, by omega⟩, nr]
theorem a4_recordName (p0 : Int32) (σ : ST) {r : Nat} (h0 : p0.toInt = r) (hr : r < 36) : f_X5_recordName 4 p0 σ = some (σ.2.1 8 r, σ) := by
  unfold f_X5_recordName f_X5_isRecord
  have l0 := li_0
  have l36 : (36 : Int32).toInt = 36 := by decide
  have nr : p0.toNatClampNeg = r := nC h0
  rw [if_neg (by rw [Int32.lt_iff_toInt_lt]; omega), if_neg (by rw [Int32.le_iff_toInt_le]; omega), sbnd]
  dsimp only
  rw [if_neg (by decide), if_pos ⟨by omega, by omega⟩, nr]
theorem PHB.ph5 {p : Nat} {σ τ : ST} (h : PHB 4 p σ τ) : PH5 p σ τ := by
  obtain ⟨⟨h1, h2⟩, _, _, h4⟩ := h
  have h1 : σ.1 5 p = τ.1 8 p := h1
  refine ⟨h1, by rw [h1]; omega, fun i hi => ?_⟩
  rw [h1] at hi
  obtain ⟨_, x2, x3, _⟩ := h4 i hi
  exact ⟨x2, x3.1⟩
theorem ab_record5 (p0 p1 p2 : Int32) (σ τ : ST) (hc : σ.1 4 0 = τ.1 0 32) (hb : bI (τ.1 0 32) 0 6) (hT : ∀ p : Nat, (p : Int) < (τ.1 0 32).toInt → PH5 p σ τ) : OK (f_X10_record p0 p1 p2 σ) (fun qa => OK (f_X11_record_ p0 p1 p2 τ) (fun qb => qa.1 = qb.1)) := by
  unfold f_X10_record f_X11_record_
  have l0 := li_0
  have l1 := li_1
  have lm := li_m1
  have k0 := l64_0
  have k1 := l64_1
  have hb' := hb
  unfold bI at hb'
  have hci : (σ.1 4 0).toInt = (τ.1 0 32).toInt := by rw [hc]
  have s32 : (stI τ 0 0 0).1 0 32 = τ.1 0 32 := rfl
  have s8 : (stI τ 0 0 0).1 8 = τ.1 8 := rfl
  have s10 : (stI τ 0 0 0).1 10 = τ.1 10 := rfl
  have s11 : (stI τ 0 0 0).1 11 = τ.1 11 := rfl
  generalize stI τ 0 0 0 = s at s32 s8 s10 s11 ⊢
  refine OK.bndR (k2_isPlan p0 σ) (fun v hv => ?_)
  dsimp only
  refine OK.sw ?_
  refine OK.bndR (b_isPlanAt p0 s (by rw [s32]; exact hb)) (fun w hw => ?_)
  dsimp only
  rw [s32] at hw
  by_cases hp : 0 ≤ p0.toInt ∧ p0.toInt < (τ.1 0 32).toInt
  rotate_left
  · refine OK.ieq (fun _ => ?_) (fun h => by omega)
    refine OK.ret ?_
    refine OK.ieq (fun _ => ?_) (fun h => by omega)
    exact OK.ret rfl
  refine OK.ieq (fun h => by omega) (fun _ => ?_)
  refine OK.sw ?_
  refine OK.ieq (fun h => by omega) (fun _ => ?_)
  obtain ⟨p, hp9⟩ : ∃ p : Nat, p0.toInt = p := ⟨p0.toInt.toNat, by omega⟩
  obtain ⟨t1, t2, t3⟩ := hT p (by omega)
  have np : p0.toNatClampNeg = p := nC hp9
  rw [a4_recordsOf p0 σ hp9 (by omega), sbnd]
  dsimp only
  have t1' : (τ.1 8 p).toInt = (σ.1 5 p).toInt := by rw [t1]
  by_cases h1 : p1.toInt = -1
  · refine OK.ieq (fun _ => ?_) (fun h => by omega)
    refine OK.ret ?_
    refine OK.ieq (fun _ => ?_) (fun h => by omega)
    refine OK.grd ⟨by omega, by omega⟩ ?_
    rw [np, s8]
    exact OK.ret t1
  refine OK.ieq (fun h => by omega) (fun _ => ?_)
  refine OK.sw ?_
  refine OK.ieq (fun h => by omega) (fun _ => ?_)
  have i2 := i64 p2
  have i1 := i64 p1
  refine OK.bndR (b_within _ _ _ _) (fun u hu => ?_)
  dsimp only
  by_cases h2 : 0 ≤ p2.toInt ∧ p2.toInt ≤ 1
  rotate_left
  · refine OK.ieq (fun _ => ?_) (fun h => by omega)
    refine OK.ret ?_
    refine OK.ilt (fun _ => OK.ret rfl) (fun _ => ?_)
    refine OK.ilt (fun _ => ?_) (fun _ => OK.ret rfl)
    refine OK.ieq (fun h => by omega) (fun _ => ?_)
    refine OK.ieq (fun h => by omega) (fun _ => ?_)
    exact OK.ret rfl
  refine OK.ieq (fun h => by omega) (fun _ => ?_)
  refine OK.grd ⟨by omega, by omega⟩ ?_
  rw [np, s8]
  have es := il_subE (x := τ.1 8 p) (y := 1) (by omega) (by omega)
  have i3 := i64 (τ.1 8 p - 1)
  refine OK.bndR (b_within _ _ _ _) (fun u2 hu2 => ?_)
  dsimp only
  by_cases h3 : 0 ≤ p1.toInt ∧ p1.toInt < (σ.1 5 p).toInt
  rotate_left
  · refine OK.ieq (fun _ => ?_) (fun h => by omega)
    refine OK.ret ?_
    refine OK.ilt (fun _ => OK.ret rfl) (fun _ => ?_)
    refine OK.ilt (fun h => by omega) (fun _ => OK.ret rfl)
  refine OK.ieq (fun h => by omega) (fun _ => ?_)
  obtain ⟨i, hi9⟩ : ∃ i : Nat, p1.toInt = i := ⟨p1.toInt.toNat, by omega⟩
  obtain ⟨r1, r2⟩ := t3 i (by omega)
  have em := mlE (k := 6) (y := p0) 6 (by decide) (by omega) (by omega)
  have ea := il_addE (x := 6 * p0) (y := p1) (by omega) (by omega)
  have cA : p0 * 6 = 6 * p0 := Int32.mul_comm _ _
  have nr : (6 * p0 + p1).toNatClampNeg = 6 * p + i := nC (by omega)
  rw [cA, nr, s10, s11]
  by_cases h4 : p2.toInt = 0
  · refine OK.ieq (fun _ => ?_) (fun h => by omega)
    refine OK.grd ⟨by omega, by omega⟩ ?_
    refine OK.ret ?_
    refine OK.ilt (fun h => by omega) (fun _ => ?_)
    refine OK.ilt (fun _ => ?_) (fun h => by omega)
    refine OK.ieq (fun _ => ?_) (fun h => by omega)
    rw [a4_fieldsOf (6 * p0 + p1) σ (r := 6 * p + i) (by omega) (by omega), sbnd]
    exact OK.ret r2
  · refine OK.ieq (fun h => by omega) (fun _ => ?_)
    refine OK.grd ⟨by omega, by omega⟩ ?_
    refine OK.ret ?_
    refine OK.ilt (fun h => by omega) (fun _ => ?_)
    refine OK.ilt (fun _ => ?_) (fun h => by omega)
    refine OK.ieq (fun h => by omega) (fun _ => ?_)
    refine OK.ieq (fun _ => ?_) (fun h => by omega)
    rw [a4_recordName (6 * p0 + p1) σ (r := 6 * p + i) (by omega) (by omega), sbnd]
    refine OK.bndR (a_lettersIn _ _ σ r1) (fun v9 h9 => ?_)
    exact OK.ret h9
/-! what the class asks of the tables that hold -/
theorem a4_isFieldOf (p0 p1 : Int32) (σ : ST) {r j : Nat} (h0 : p0.toInt = r) (h1 : p1.toInt = j) (hr : r < 36) (hj : j < 8) : f_X5_isFieldOf p0 p1 σ = some (1, σ) := by
  unfold f_X5_isFieldOf
  have l0 := li_0
  have l8 := li_8
  have l36 : (36 : Int32).toInt = 36 := by decide
  rw [if_neg (by rw [Int32.lt_iff_toInt_lt]; omega), if_neg (by rw [Int32.le_iff_toInt_le]; omega), if_neg (by rw [Int32.lt_iff_toInt_lt]; omega), if_neg (by rw [Int32.le_iff_toInt_le]; omega)]
theorem n1_0 : ¬ (1 : Int32) = 0 := by decide
theorem a4_typeOf (p0 p1 : Int32) (σ : ST) {r j : Nat} (h0 : p0.toInt = r) (h1 : p1.toInt = j) (hr : r < 36) (hj : j < 8) : f_X5_typeOf 4 p0 p1 σ = some (σ.1 13 (8 * r + j), σ) := by
  unfold f_X5_typeOf
  obtain ⟨i1, i2⟩ := i88 h0 h1 hr hj
  rw [a4_isFieldOf p0 p1 σ h0 h1 hr hj, sbnd]
  dsimp only
  rw [if_neg n1_0, if_pos ⟨by omega, by omega⟩, i2]
theorem a4_fieldName (p0 p1 : Int32) (σ : ST) {r j : Nat} (h0 : p0.toInt = r) (h1 : p1.toInt = j) (hr : r < 36) (hj : j < 8) : f_X5_fieldName 4 p0 p1 σ = some (σ.2.1 11 (8 * r + j), σ) := by
  unfold f_X5_fieldName
  obtain ⟨i1, i2⟩ := i88 h0 h1 hr hj
  rw [a4_isFieldOf p0 p1 σ h0 h1 hr hj, sbnd]
  dsimp only
  rw [if_neg n1_0, if_pos ⟨by omega, by omega⟩, i2]
theorem a4_formerName (p0 p1 : Int32) (σ : ST) {r j : Nat} (h0 : p0.toInt = r) (h1 : p1.toInt = j) (hr : r < 36) (hj : j < 8) : f_X5_formerName 4 p0 p1 σ = some (σ.2.1 12 (8 * r + j), σ) := by
  unfold f_X5_formerName
  obtain ⟨i1, i2⟩ := i88 h0 h1 hr hj
  rw [a4_isFieldOf p0 p1 σ h0 h1 hr hj, sbnd]
  dsimp only
  rw [if_neg n1_0, if_pos ⟨by omega, by omega⟩, i2]
theorem a4_elseWorth (p0 p1 : Int32) (σ : ST) {r j : Nat} (h0 : p0.toInt = r) (h1 : p1.toInt = j) (hr : r < 36) (hj : j < 8) : f_X5_elseWorth 4 p0 p1 σ = some (σ.2.1 14 (8 * r + j), σ) := by
  unfold f_X5_elseWorth
  obtain ⟨i1, i2⟩ := i88 h0 h1 hr hj
  rw [a4_isFieldOf p0 p1 σ h0 h1 hr hj, sbnd]
  dsimp only
  rw [if_neg n1_0, if_pos ⟨by omega, by omega⟩, i2]
theorem a4_hasElse (p0 p1 : Int32) (σ : ST) {r j w : Nat} (h0 : p0.toInt = r) (h1 : p1.toInt = j) (hr : r < 36) (hj : j < 8) (hw : w < 512) (h9 : σ.1 9 r = Int32.ofNat w) : f_X5_hasElse 4 p0 p1 σ = some (if w.testBit j then 1 else 0, σ) := by
  unfold f_X5_hasElse
  have nr : p0.toNatClampNeg = r := nC h0
  have ej : p1 = Int32.ofNat j := intOf h1 (by omega)
  have hb := mk_bit w hw j (by omega)
  have l0 := li_0
  rw [a4_isFieldOf p0 p1 σ h0 h1 hr hj, sbnd]
  dsimp only
  rw [if_neg n1_0, if_pos ⟨by omega, by omega⟩, nr, ej]
  have h9 : σ.1 (4 + 5) r = Int32.ofNat w := h9
  rw [h9]
  cases e : w.testBit j with
  | true =>
    rw [e] at hb
    rw [if_neg (fun h => by rw [h] at hb; revert hb; decide)]
    rfl
  | false =>
    rw [e] at hb
    rw [if_pos (Int32.toInt_inj.mp (by rw [hb]; rfl))]
    rfl
theorem a4_isType (x : Int32) (σ : ST) (h : 0 ≤ x.toInt ∧ x.toInt < (σ.1 4 1).toInt) (hn : (σ.1 4 1).toInt ≤ 262) : f_X5_isType 4 x σ = some (1, σ) := by
  unfold f_X5_isType
  have l0 := li_0
  have l262 : (262 : Int32).toInt = 262 := by decide
  rw [if_neg (by rw [Int32.lt_iff_toInt_lt]; omega), if_neg (by rw [Int32.le_iff_toInt_le]; omega), if_neg (by rw [Int32.le_iff_toInt_le]; omega)]
theorem a4_sortOf (x : Int32) (σ : ST) (h : 0 ≤ x.toInt ∧ x.toInt < (σ.1 4 1).toInt) (hn : (σ.1 4 1).toInt ≤ 262) : f_X5_sortOf 4 x σ = some (σ.1 15 x.toNatClampNeg, σ) := by
  unfold f_X5_sortOf
  rw [a4_isType x σ h hn, sbnd]
  dsimp only
  rw [if_neg n1_0, if_pos ⟨by omega, by omega⟩]
theorem a4_innerOf (x : Int32) (σ : ST) (h : 0 ≤ x.toInt ∧ x.toInt < (σ.1 4 1).toInt) (hn : (σ.1 4 1).toInt ≤ 262) : f_X5_innerOf 4 x σ = some (σ.1 16 x.toNatClampNeg, σ) := by
  unfold f_X5_innerOf
  rw [a4_isType x σ h hn, sbnd]
  dsimp only
  rw [if_neg n1_0, if_pos ⟨by omega, by omega⟩]
theorem a4_branchAfter (x : Int32) (σ : ST) (h : 0 ≤ x.toInt ∧ x.toInt < (σ.1 4 1).toInt) (hn : (σ.1 4 1).toInt ≤ 262) : f_X5_branchAfter 4 x σ = some (σ.1 17 x.toNatClampNeg, σ) := by
  unfold f_X5_branchAfter
  rw [a4_isType x σ h hn, sbnd]
  dsimp only
  rw [if_neg n1_0, if_pos ⟨by omega, by omega⟩]
/-- nothing is no type -/
theorem a4_isType_m1 (σ : ST) : f_X5_isType 4 (-1) σ = some (0, σ) := by
  unfold f_X5_isType
  rw [if_pos (by decide)]
theorem a4_sortOf_m1 (σ : ST) : f_X5_sortOf 4 (-1) σ = some (-1, σ) := by
  unfold f_X5_sortOf
  rw [a4_isType_m1, sbnd]
  rfl
theorem a4_innerOf_m1 (σ : ST) : f_X5_innerOf 4 (-1) σ = some (-1, σ) := by
  unfold f_X5_innerOf
  rw [a4_isType_m1, sbnd]
  rfl
/-- a remainder by six -/
theorem fm_all : ∀ k : Nat, k < 36 → (f_J9_floorMod_7cf53 (Int32.ofNat k) 6 s00).map (fun q => q.1.toInt) = some ((k % 6 : Nat) : Int) := by decide +kernel
theorem fm_any (p0 p1 : Int32) (σ : ST) : f_J9_floorMod_7cf53 p0 p1 σ = (f_J9_floorMod_7cf53 p0 p1 s00).map (fun q => (q.1, σ)) := by
  unfold f_J9_floorMod_7cf53
  by_cases h1 : ¬ p1 = 0
  · rw [if_pos h1, if_pos h1]
    by_cases h2 : 0 ≤ (p0 ^^^ p1)
    · rw [if_pos h2, if_pos h2]; rfl
    · rw [if_neg h2, if_neg h2]
      by_cases h3 : p0 - p0 / p1 * p1 = 0
      · rw [if_pos h3, if_pos h3]; rfl
      · rw [if_neg h3, if_neg h3]; rfl
  · rw [if_neg h1, if_neg h1]; rfl
theorem a_floorMod (x : Int32) (σ : ST) {k : Nat} (h : x.toInt = k) (hk : k < 36) : ∃ v : Int32, f_J9_floorMod_7cf53 x 6 σ = some (v, σ) ∧ v.toInt = ((k % 6 : Nat) : Int) := by
  have e : x = Int32.ofNat k := intOf h (by omega)
  have h9 := fm_all k hk
  rw [fm_any, e]
  cases e2 : f_J9_floorMod_7cf53 (Int32.ofNat k) 6 s00 with
  | none => rw [e2] at h9; cases h9
  | some q =>
    rw [e2] at h9
    exact ⟨q.1, rfl, Option.some.inj h9⟩
/-- a type that both know -/
abbrev TY (p : Nat) (rm : Int) (σ τ : ST) : Nat → Int32 → Int32 → Prop := TYR (σ.1 4 1).toInt (σ.1 15) (σ.1 16) (σ.1 17) (τ.1 2) (τ.1 3) (τ.1 4) (τ.1 5) p rm
theorem a4_branchesOf_20 {p : Nat} {rm : Int} {σ τ : ST} (hn : (σ.1 4 1).toInt ≤ 262) (x0 : Int32) (m : Nat) (hm : m ≤ 4) (hv : ∀ k : Nat, k < m → 0 ≤ (chn (σ.1 17) x0 k).toInt ∧ (chn (σ.1 17) x0 k).toInt < (σ.1 4 1).toInt) (he : (chn (σ.1 17) x0 m).toInt = -1) : ∀ (f k : Nat) (x2 : Int32), x2.toInt = k → k ≤ m → m < f + k → f_X5_branchesOf_20 4 f x2 (chn (σ.1 17) x0 k) σ = some (Int32.ofNat m, σ) := by
  intro f
  have lm := li_m1
  have l1 := li_1
  have l4 := li_4
  induction f with
  | zero => intro k x2 h1 h2 h3; omega
  | succ f ih =>
    intro k x2 h1 h2 h3
    rw [f_X5_branchesOf_20]
    by_cases e : k = m
    · subst e
      rw [if_pos (Int32.toInt_inj.mp (he.trans lm.symm)), intOf h1 (by omega)]
    · have r := hv k (by omega)
      have ex := il_addE (x := x2) (y := 1) (by omega) (by omega)
      rw [if_neg (fun h9 => by rw [h9] at r; omega), if_neg (by rw [Int32.le_iff_toInt_le]; omega), a4_branchAfter _ σ r hn, sbnd]
      exact ih (k + 1) (x2 + 1) (by omega) (by omega) (by omega)
theorem a4_branchesOf {p d : Nat} {rm : Int} {σ τ : ST} {x y : Int32} (hn : (σ.1 4 1).toInt ≤ 262) (h : TY p rm σ τ (d + 1) x y) : f_X5_branchesOf 4 x σ = some (τ.1 4 y.toNatClampNeg, σ) := by
  obtain ⟨⟨h1, h2⟩, h3, h4, h5, h6, h7, h8⟩ := h
  have l8 := li_8
  have lu := FUi
  unfold f_X5_branchesOf
  rw [a4_sortOf x σ h1 hn, sbnd]
  dsimp only
  rw [h3]
  by_cases e : (τ.1 2 y.toNatClampNeg).toInt = 8
  · rw [if_pos (Int32.toInt_inj.mp (e.trans l8.symm)), a4_innerOf x σ h1 hn, sbnd]
    obtain ⟨u1, u2, u3, _⟩ := h8 e
    obtain ⟨m, hm⟩ : ∃ m : Nat, (τ.1 4 y.toNatClampNeg).toInt = m := ⟨_, (Int.toNat_of_nonneg (by omega)).symm⟩
    have em : (τ.1 4 y.toNatClampNeg).toInt.toNat = m := by omega
    rw [em] at u3
    have := a4_branchesOf_20 (p := p) (rm := rm) (τ := τ) hn (σ.1 16 x.toNatClampNeg) m (by omega) (fun k hk => (u2 k (by omega)).1.rng.1) u3 FU 0 0 li_0 (by omega) (by omega)
    rw [intOf hm (by omega)]
    exact this
  · rw [if_neg (fun h9 => e (by rw [h9]; exact l8))]
    have h0 := h7 e
    rw [Int32.toInt_inj.mp (h0.trans li_0.symm)]
theorem ab_within {p : Nat} {rm : Int} {σ τ : ST} (hp : p < 6) (hrm : rm ≤ 6) (hn : (σ.1 4 1).toInt ≤ 262) : ∀ (d : Nat) (x y x3 : Int32) (f g : Nat), TY p rm σ τ d x y → d ≤ f → d ≤ g → 0 ≤ x3.toInt → x3.toInt + d ≤ 4 → OK (f_X5_recordWithin_4 4 f x x3 σ) (fun qa => OK (f_X11_recordIn_2 g y τ) (fun qb => qa.1 = qb.1)) := by
  intro d
  have lm := li_m1
  have l1 := li_1
  have l3 := li_3
  have l6 := li_6
  have l7 := li_7
  induction d with
  | zero => intro x y x3 f g h; exact h.elim
  | succ d ih =>
    intro x y x3 f g h hf hg h3 h4
    cases f with
    | zero => omega
    | succ f =>
    cases g with
    | zero => omega
    | succ g =>
    obtain ⟨⟨h1, h2⟩, e3, s4, s6, s7, _, _⟩ := h
    have ex := il_addE (x := x3) (y := 1) (by omega) (by omega)
    rw [f_X5_recordWithin_4, f_X11_recordIn_2]
    refine OK.ilt (fun h => by omega) (fun _ => ?_)
    rw [a4_sortOf x σ h1 hn, sbnd]
    dsimp only
    refine OK.sw ?_
    refine OK.grd ⟨by omega, by omega⟩ ?_
    rw [e3]
    refine OK.ieq (fun e6 => ?_) (fun e6 => ?_)
    · refine OK.sw ?_
      refine OK.ieq (fun _ => ?_) (fun h => absurd e6 h)
      rw [a4_innerOf x σ h1 hn, sbnd]
      exact ih _ _ (x3 + 1) f g (s6 (by omega)) (by omega) (by omega) (by omega) (by omega)
    · refine OK.sw ?_
      refine OK.ieq (fun h => absurd h e6) (fun _ => ?_)
      unfold f_X5_recordWithin_31
      rw [a4_sortOf x σ h1 hn, sbnd]
      dsimp only
      rw [e3]
      refine OK.ieq (fun e7 => ?_) (fun e7 => ?_)
      · rw [a4_innerOf x σ h1 hn, sbnd]
        dsimp only
        obtain ⟨r1, r2⟩ := s7 (by omega)
        obtain ⟨k, hk⟩ : ∃ k : Nat, (τ.1 3 y.toNatClampNeg).toInt = k := ⟨_, (Int.toNat_of_nonneg r1.1).symm⟩
        obtain ⟨v, e, hv⟩ := a_floorMod (σ.1 16 x.toNatClampNeg) σ (k := 6 * p + k) (by omega) (by omega)
        rw [e, sbnd]
        refine OK.ret ?_
        refine OK.ieq (fun _ => ?_) (fun h => absurd e7 h)
        exact OK.ret (Int32.toInt_inj.mp (by show v.toInt = (τ.1 3 y.toNatClampNeg).toInt; omega))
      · refine OK.ret ?_
        refine OK.ieq (fun h => absurd h e7) (fun _ => ?_)
        exact OK.ret rfl
/-! field: both answer alike -/
theorem FMR.pos {x y : Int64} (h : FMR x y) : x = 0 ↔ ¬ 0 < y.toInt := by
  rcases h with ⟨h1, h2⟩ | ⟨⟨m, g, hm, hg, e1, e2⟩, h2⟩
  · rw [h1, h2]
    exact ⟨fun _ => by decide, fun _ => rfl⟩
  · refine ⟨fun h => absurd h h2, fun h => ?_⟩
    exfalso
    apply h2
    have e3 : n27 g m = 0 := by omega
    have e4 : m = 0 := by
      cases m with
      | zero => rfl
      | succ m =>
        have := hg m (by omega)
        have e3 : 27 * n27 g m + g m = 0 := e3
        omega
    subst e4
    have e1 : x.toInt = 0 := e1
    exact Int64.toInt_inj.mp (e1.trans l64_0.symm)
theorem b_field53_0 (x3 x4 y0 : Int32) (s : ST) : f_X11_field__53 x3 x4 0 y0 s = some (-1, s) := by
  unfold f_X11_field__53
  rw [if_pos rfl]
theorem ab_field6 (p0 p1 p2 p3 : Int32) (σ τ : ST) (hc : σ.1 4 0 = τ.1 0 32) (hb : bI (τ.1 0 32) 0 6) (hT : ∀ p : Nat, (p : Int) < (τ.1 0 32).toInt → PHB 4 p σ τ) : OK (f_X10_field p0 p1 p2 p3 σ) (fun qa => OK (f_X11_field_ p0 p1 p2 p3 τ) (fun qb => qa.1 = qb.1)) := by
  unfold f_X10_field f_X11_field_ f_X11_field__35 f_X11_field__36
  have l0 := li_0
  have l1 := li_1
  have l2 := li_2
  have l3 := li_3
  have l4 := li_4
  have l5 := li_5
  have lm := li_m1
  have k0 := l64_0
  have hb' := hb
  unfold bI at hb'
  have hci : (σ.1 4 0).toInt = (τ.1 0 32).toInt := by rw [hc]
  have s32 : (stI τ 0 0 0).1 0 32 = τ.1 0 32 := rfl
  have s1 : ∀ c, c ≠ 0 → (stI τ 0 0 0).1 c = τ.1 c := fun c hc => stI_ne hc
  have sL : (stI τ 0 0 0).2.1 = τ.2.1 := rfl
  generalize stI τ 0 0 0 = s at s32 s1 sL ⊢
  refine OK.bndR (k2_isPlan p0 σ) (fun v hv => ?_)
  dsimp only
  refine OK.sw ?_
  refine OK.bndR (b_isPlanAt p0 s (by rw [s32]; exact hb)) (fun w hw => ?_)
  dsimp only
  rw [s32] at hw
  by_cases hp : 0 ≤ p0.toInt ∧ p0.toInt < (τ.1 0 32).toInt
  rotate_left
  · refine OK.ieq (fun _ => ?_) (fun h => by omega)
    rw [if_pos rfl, b_field53_0]
    refine OK.ret ?_
    refine OK.ieq (fun _ => ?_) (fun h => by omega)
    exact OK.ret rfl
  refine OK.ieq (fun h => by omega) (fun _ => ?_)
  refine OK.grd ⟨by omega, by omega⟩ ?_
  obtain ⟨p, hp9⟩ : ∃ p : Nat, p0.toInt = p := ⟨p0.toInt.toNat, by omega⟩
  obtain ⟨⟨t1, t2⟩, _, t3, t4⟩ := hT p (by omega)
  have t1 : σ.1 5 p = τ.1 8 p := t1
  have np : p0.toNatClampNeg = p := nC hp9
  rw [np, s1 8 (by decide)]
  have es := il_subE (x := τ.1 8 p) (y := 1) (by omega) (by omega)
  have i1 := i64 p1
  have i3 := i64 (τ.1 8 p - 1)
  refine OK.bndR (b_within _ _ _ _) (fun u hu => ?_)
  dsimp only
  rw [k0, i1, i3] at hu
  have t1' : (σ.1 5 p).toInt = (τ.1 8 p).toInt := by rw [t1]
  by_cases h1 : 0 ≤ p1.toInt ∧ p1.toInt < (τ.1 8 p).toInt
  rotate_left
  · refine OK.ieq (fun _ => ?_) (fun h => by omega)
    rw [if_pos rfl, b_field53_0]
    refine OK.ret ?_
    refine OK.ieq (fun h => by omega) (fun _ => ?_)
    refine OK.ilt (fun _ => OK.ret rfl) (fun _ => ?_)
    rw [a4_recordsOf p0 σ hp9 (by omega), sbnd]
    dsimp only
    exact OK.ilt (fun h => by omega) (fun _ => OK.ret rfl)
  refine OK.ieq (fun h => by omega) (fun _ => ?_)
  rw [if_neg n1_0]
  obtain ⟨i, hi9⟩ : ∃ i : Nat, p1.toInt = i := ⟨p1.toInt.toNat, by omega⟩
  obtain ⟨_, _, ⟨x3, x4⟩, x5, x6⟩ := t4 i (by omega)
  have x3 : σ.1 7 (6 * p + i) = τ.1 11 (6 * p + i) := x3
  have x3' : (σ.1 7 (6 * p + i)).toInt = (τ.1 11 (6 * p + i)).toInt := by rw [x3]
  have x4' := x4
  unfold bI at x4'
  have em := mlE (k := 6) (y := p0) 6 (by decide) (by omega) (by omega)
  have ea := il_addE (x := 6 * p0) (y := p1) (by omega) (by omega)
  have cA : p0 * 6 = 6 * p0 := Int32.mul_comm _ _
  have hr : (6 * p0 + p1).toInt = ((6 * p + i : Nat) : Int) := by omega
  have nr : (6 * p0 + p1).toNatClampNeg = 6 * p + i := nC hr
  unfold f_X11_field__53
  rw [if_neg n1_0, cA, nr, s1 11 (by decide)]
  refine OK.grd ⟨by omega, by omega⟩ ?_
  have es2 := il_subE (x := τ.1 11 (6 * p + i)) (y := 1) (by omega) (by omega)
  have i4 := i64 p2
  have i5 := i64 (τ.1 11 (6 * p + i) - 1)
  refine OK.bndR (b_within _ _ _ _) (fun u2 hu2 => ?_)
  dsimp only
  rw [k0, i4, i5] at hu2
  by_cases h2 : 0 ≤ p2.toInt ∧ p2.toInt < (τ.1 11 (6 * p + i)).toInt
  rotate_left
  · refine OK.ieq (fun _ => ?_) (fun h => by omega)
    refine OK.ret ?_
    refine OK.ieq (fun h => by omega) (fun _ => ?_)
    refine OK.ilt (fun h => by omega) (fun _ => ?_)
    rw [a4_recordsOf p0 σ hp9 (by omega), sbnd]
    dsimp only
    refine OK.ilt (fun _ => ?_) (fun h => by omega)
    refine OK.ilt (fun _ => OK.ret rfl) (fun _ => ?_)
    rw [a4_fieldsOf _ σ hr (by omega), sbnd]
    dsimp only
    exact OK.ilt (fun h => by omega) (fun _ => OK.ret rfl)
  refine OK.ieq (fun h => by omega) (fun _ => ?_)
  obtain ⟨j, hj9⟩ : ∃ j : Nat, p2.toInt = j := ⟨p2.toInt.toNat, by omega⟩
  obtain ⟨⟨f1, f1'⟩, f2, f3, f4⟩ := x6 j (by omega)
  have f1' : RLEN (σ.2.1 11 (8 * (6 * p + i) + j)) (τ.1 13 (8 * (6 * p + i) + j)) := f1'
  have f2 : FMR (σ.2.1 12 (8 * (6 * p + i) + j)) (τ.2.1 14 (8 * (6 * p + i) + j)) := f2
  have f3 : TY p (τ.1 8 p).toInt σ τ 4 (σ.1 13 (8 * (6 * p + i) + j)) (τ.1 15 (8 * (6 * p + i) + j)) := f3
  have e8 := mlE (k := 8) (y := 6 * p0 + p1) 8 li_8 (by omega) (by omega)
  have ea8 := il_addE (x := 8 * (6 * p0 + p1)) (y := p2) (by omega) (by omega)
  have n8 : (8 * (6 * p0 + p1) + p2).toNatClampNeg = 8 * (6 * p + i) + j := nC (by omega)
  have fr := f3.rng
  rw [n8, s1 15 (by decide), s1 2 (by decide), s1 16 (by decide), sL, s1 13 (by decide), s1 4 (by decide)]
  -- the class comes as far
  refine OK.sw ?_
  refine OK.ieq (fun h => by omega) (fun _ => ?_)
  refine OK.ilt (fun h => by omega) (fun _ => ?_)
  rw [a4_recordsOf p0 σ hp9 (by omega), sbnd]
  dsimp only
  refine OK.ilt (fun _ => ?_) (fun h => by omega)
  refine OK.ilt (fun h => by omega) (fun _ => ?_)
  rw [a4_fieldsOf _ σ hr (by omega), sbnd]
  dsimp only
  refine OK.ilt (fun _ => ?_) (fun h => by omega)
  rw [a4_typeOf _ p2 σ hr hj9 (by omega) (by omega), sbnd]
  dsimp only
  have g8 : 0 ≤ (8 * (6 * p0 + p1) + p2).toInt ∧ (8 * (6 * p0 + p1) + p2).toInt < 576 := ⟨by omega, by omega⟩
  have g15 : 0 ≤ (τ.1 15 (8 * (6 * p + i) + j)).toInt ∧ (τ.1 15 (8 * (6 * p + i) + j)).toInt < 800 := ⟨by omega, by omega⟩
  refine OK.ieq (fun q0 => ?_) (fun q0 => ?_)
  · rw [a4_sortOf _ σ fr.1 t3, sbnd]
    refine OK.ret ?_
    refine OK.ieq (fun _ => ?_) (fun h => absurd q0 h)
    refine OK.grd g8 ?_
    refine OK.grd g15 ?_
    exact OK.ret f3.2.1
  refine OK.ieq (fun q1 => ?_) (fun q1 => ?_)
  · obtain ⟨w9, w1, w2, w3⟩ := x5
    rw [a4_hasElse _ p2 σ hr hj9 (by omega) (by omega) w1 w2, sbnd]
    dsimp only
    have hw3 := w3 j (by omega)
    cases eb : w9.testBit j with
    | true =>
      have := (hw3.mp eb).2
      rw [if_pos rfl, if_neg n1_0]
      refine OK.ret ?_
      refine OK.ieq (fun h => absurd h q0) (fun _ => ?_)
      refine OK.ieq (fun _ => ?_) (fun h => absurd q1 h)
      refine OK.grd g8 ?_
      refine OK.ieq (fun h => by omega) (fun _ => ?_)
      exact OK.ret rfl
    | false =>
      have hn : ¬ (τ.1 16 (8 * (6 * p + i) + j)).toInt = 1 := fun h => by
        rw [hw3.mpr ⟨by omega, h⟩] at eb
        cases eb
      rw [if_pos (by decide)]
      refine OK.ret ?_
      refine OK.ieq (fun h => absurd h q0) (fun _ => ?_)
      refine OK.ieq (fun _ => ?_) (fun h => absurd q1 h)
      refine OK.grd g8 ?_
      refine OK.ieq (fun _ => ?_) (fun h => ?_)
      · exact OK.ret rfl
      · rcases f4 with h0 | h0
        · omega
        · exact absurd h0.1 hn
  refine OK.ieq (fun q2 => ?_) (fun q2 => ?_)
  · rw [a4_formerName _ p2 σ hr hj9 (by omega) (by omega), sbnd]
    dsimp only
    have hf := f2.pos
    have hlt : (lg_cmp (τ.2.1 14 (8 * (6 * p + i) + j)) 0) ≤ 0 ↔ (τ.2.1 14 (8 * (6 * p + i) + j)).toInt ≤ 0 := by
      rw [lg_cmp_le, Int64.le_iff_toInt_le, k0]
    by_cases e0 : σ.2.1 12 (8 * (6 * p + i) + j) = 0
    · have := hf.mp e0
      rw [if_pos ((lg_cmp_eq _ _).mpr e0)]
      refine OK.ret ?_
      refine OK.ieq (fun h => absurd h q0) (fun _ => ?_)
      refine OK.ieq (fun h => absurd h q1) (fun _ => ?_)
      refine OK.ieq (fun _ => ?_) (fun h => absurd q2 h)
      refine OK.grd g8 ?_
      rw [if_pos (hlt.mpr (by omega))]
      exact OK.ret rfl
    · have h9 : 0 < (τ.2.1 14 (8 * (6 * p + i) + j)).toInt := Decidable.not_not.mp (fun h => e0 (hf.mpr h))
      rw [if_neg (fun h => e0 ((lg_cmp_eq _ _).mp h))]
      refine OK.ret ?_
      refine OK.ieq (fun h => absurd h q0) (fun _ => ?_)
      refine OK.ieq (fun h => absurd h q1) (fun _ => ?_)
      refine OK.ieq (fun _ => ?_) (fun h => absurd q2 h)
      refine OK.grd g8 ?_
      rw [if_neg (fun h => by have := hlt.mp h; omega)]
      exact OK.ret rfl
  refine OK.ieq (fun q3 => ?_) (fun q3 => ?_)
  · rw [a4_fieldName _ p2 σ hr hj9 (by omega) (by omega), sbnd]
    refine OK.bndR (a_lettersIn _ _ σ f1') (fun v9 h9 => ?_)
    refine OK.ret ?_
    refine OK.ieq (fun h => absurd h q0) (fun _ => ?_)
    refine OK.ieq (fun h => absurd h q1) (fun _ => ?_)
    refine OK.ieq (fun h => absurd h q2) (fun _ => ?_)
    refine OK.ieq (fun _ => ?_) (fun h => absurd q3 h)
    refine OK.grd g8 ?_
    exact OK.ret h9
  refine OK.ieq (fun q4 => ?_) (fun q4 => ?_)
  · rw [a4_branchesOf t3 f3, sbnd]
    refine OK.ret ?_
    refine OK.ieq (fun h => absurd h q0) (fun _ => ?_)
    refine OK.ieq (fun h => absurd h q1) (fun _ => ?_)
    refine OK.ieq (fun h => absurd h q2) (fun _ => ?_)
    refine OK.ieq (fun h => absurd h q3) (fun _ => ?_)
    refine OK.ieq (fun _ => ?_) (fun h => absurd q4 h)
    refine OK.grd g8 ?_
    refine OK.grd g15 ?_
    exact OK.ret rfl
  refine OK.ieq (fun q5 => ?_) (fun q5 => ?_)
  · refine OK.sw ?_
    refine OK.ieq (fun h => absurd h q0) (fun _ => ?_)
    refine OK.ieq (fun h => absurd h q1) (fun _ => ?_)
    refine OK.ieq (fun h => absurd h q2) (fun _ => ?_)
    refine OK.ieq (fun h => absurd h q3) (fun _ => ?_)
    refine OK.ieq (fun h => absurd h q4) (fun _ => ?_)
    refine OK.ieq (fun _ => ?_) (fun h => absurd q5 h)
    refine OK.grd g8 ?_
    refine OK.sw ?_
    unfold f_X5_recordWithin f_X11_recordIn
    have lu : 4 ≤ FU := by decide
    have tx : TY p (τ.1 8 p).toInt σ s 4 (σ.1 13 (8 * (6 * p + i) + j)) (τ.1 15 (8 * (6 * p + i) + j)) := by
      unfold TY
      rw [s1 2 (by decide), s1 3 (by decide), s1 4 (by decide), s1 5 (by decide)]
      exact f3
    refine OK.bnd2 (ab_within (p := p) (by omega) (by omega) t3 4 _ _ 0 FU FU tx lu lu (by omega) (by omega)) (fun qa qb hq => ?_)
    exact OK.ret (OK.ret hq)
  · refine OK.ret ?_
    refine OK.ieq (fun h => absurd h q0) (fun _ => ?_)
    refine OK.ieq (fun h => absurd h q1) (fun _ => ?_)
    refine OK.ieq (fun h => absurd h q2) (fun _ => ?_)
    refine OK.ieq (fun h => absurd h q3) (fun _ => ?_)
    refine OK.ieq (fun h => absurd h q4) (fun _ => ?_)
    refine OK.ieq (fun h => absurd h q5) (fun _ => ?_)
    exact OK.ret rfl
/-! what holds between two calls, and that each call keeps it -/
def T8 (σ : ST) : Prop := ∀ i, bI (σ.1 1 i) (-128) 127
theorem t8_four_3 : ∀ (n : Nat) (x1 x2 : Int32) (σ q : ST), f_X10_feedFour_3 n x1 x2 σ = some q → T8 σ → T8 q := by
  intro n
  induction n with
  | zero => intro x1 x2 σ q h; rw [f_X10_feedFour_3] at h; cases h
  | succ n ih =>
    intro x1 x2 σ q h hT
    rw [f_X10_feedFour_3] at h
    unfold f_X10_feedFour_40 at h
    by_cases h1 : x2 < 0
    · rw [if_pos h1] at h
      cases h
      exact hT
    rw [if_neg h1] at h
    by_cases h2 : 1000 ≤ σ.1 0 1
    · rw [if_pos h2] at h
      exact ih _ _ _ _ h hT
    rw [if_neg h2] at h
    by_cases h3 : 0 ≤ (σ.1 0 1).toInt ∧ (σ.1 0 1).toInt < 1000
    · rw [if_pos h3, sbnd] at h
      refine ih _ _ _ _ h (fun i => ?_)
      have hb : bI (vp_nar .byte ((x1 >>> (x2 &&& 31)).toInt8.toInt32)) (-128) 127 := by rw [vp_nar_byte]; exact by8 _
      exact upd_all (P := fun x => bI x (-128) 127) hT hb i
    · rw [if_neg h3] at h
      cases h
theorem t8_four (p : Int32) (σ q : ST) (h : f_X10_feedFour p σ = some q) (hT : T8 σ) : T8 q := t8_four_3 _ _ _ _ _ h hT
theorem t8_feed (p0 p1 p2 p3 p4 v : Int32) (σ q : ST) (h : f_X10_feed p0 p1 p2 p3 p4 σ = some (v, q)) (hT : T8 σ) : T8 q := by
  unfold f_X10_feed at h
  by_cases h1 : σ.1 0 1 + 20 ≤ 1000
  · rw [if_pos h1] at h
    obtain ⟨s1, e1, h⟩ := bnd_some h
    obtain ⟨s2, e2, h⟩ := bnd_some h
    obtain ⟨s3, e3, h⟩ := bnd_some h
    obtain ⟨s4, e4, h⟩ := bnd_some h
    obtain ⟨s5, e5, h⟩ := bnd_some h
    cases h
    exact t8_four _ _ _ e5 (t8_four _ _ _ e4 (t8_four _ _ _ e3 (t8_four _ _ _ e2 (t8_four _ _ _ e1 hT))))
  · rw [if_neg h1] at h
    cases h
    exact hT
theorem ib_0 : IB s0B := by
  have l0 := li_0
  have e32 : (s0B.1 0 32).toInt = 0 := l0
  have z : ∀ (c i : Nat), c ≠ 32 → s0B.1 c i = 0 := fun c i hc => by
    have e : Nat.beq c 32 = false := by
      cases h : Nat.beq c 32 with
      | false => rfl
      | true => exact absurd (Nat.eq_of_beq_eq_true h) hc
    show (bif Nat.beq c 32 then _ else (fun _ => 0 : Nat → Int32)) i = 0
    rw [e]
    rfl
  have b0 : ∀ (n : Int), 0 ≤ n → ∀ c i : Nat, c ≠ 32 → bI (s0B.1 c i) 0 n := fun n hn c i hc => by
    rw [z c i hc]
    unfold bI
    omega
  refine ⟨⟨b0 6 (by omega) 0 32 (by decide), fun p hp => by omega, fun i => b0 12 (by omega) 19 i (by decide)⟩, fun k => .inl ?_, fun i hi => ?_, fun i => b0 400 (by omega) 33 i (by decide), fun i => b0 256 (by omega) 38 i (by decide), b0 256 (by omega) 0 68 (by decide), b0 400 (by omega) 0 73 (by decide), b0 256 (by omega) 0 83 (by decide), b0 4 (by omega) 0 92 (by decide), fun i => b0 500 (by omega) 45 i (by decide)⟩
  · rw [z 35 k (by decide)]
    exact l0
  · have h : ∀ i : Nat, i < 4 → -1 ≤ (s0B.1 32 i).toInt ∧ (s0B.1 32 i).toInt < 0 := by decide
    have := h i hi
    omega
/-- what holds after n calls, with k cells spelt -/
def Inv (n : Nat) (σ τ : ST) (κ : Nat) : Prop := n ≤ 512 ∧ IA σ ∧ IB τ ∧ FE σ τ ∧ σ.1 4 0 = τ.1 0 32 ∧ σ.2.1 3 = kw0 ∧ T8 σ ∧ (κ : Int) + 40 * (σ.1 0 1).toInt ≤ 950 * n
theorem inv_0 : Inv 0 s0A s0B 0 := by
  have e3 : s0A.2.1 3 = kw0 := by
    unfold s0A
    generalize kw0 = k
    rfl
  refine ⟨by omega, ia_0, ib_0, ⟨rfl, rfl⟩, rfl, e3, fun i => ?_, ?_⟩
  · have e : s0A.1 1 i = 0 := rfl
    have l0 := li_0
    rw [e]
    unfold bI
    omega
  · have e : (s0A.1 0 1).toInt = 0 := li_0
    rw [e]
    omega
theorem inv_feed {n κ : Nat} {σ τ : ST} (h : Inv n σ τ κ) (hn : n < 512) (p0 p1 p2 p3 p4 : Int32) : ∃ (qa : Int32 × ST) (qb : (Int32 × ST) × Nat), f_X10_feed p0 p1 p2 p3 p4 σ = some qa ∧ ((f_X11_feed p0 p1 p2 p3 p4 τ).bind fun q => some ((q.1, q.2), 0)) = some qb ∧ qa.1 = qb.1.1 ∧ Inv (n + 1) qa.2 qb.1.2 (κ + qb.2) := by
  obtain ⟨_, hA, hB, hF, h32, hk, hT, hc⟩ := h
  obtain ⟨v, σ', τ', e1, e2, i1, i2, i3, i4, i5⟩ := feedAB p0 p1 p2 p3 p4 σ τ hA hF
  refine ⟨(v, σ'), ((v, τ'), 0), e1, by rw [e2, sbnd], rfl, by omega, i1, ?_, i2, ?_, i3.2.trans hk, t8_feed _ _ _ _ _ _ _ _ e1 hT, ?_⟩
  · show IB τ'
    have hs := hB.th 0
    generalize stI τ 0 0 0 = s at i4 hs
    obtain ⟨f1, f2, f3⟩ := i4
    refine hs.ch (C := [1]) (I := [2]) ⟨fun c h0 h1 => f1 c h0 (fun e => h1 (by rw [e]; decide)), fun i hi => f3 i (fun e => hi (by rw [e]; decide)), by rw [f2], by rw [f2], by rw [f2], by rw [f2], by rw [f2]⟩ (by decide) (by decide)
  · show σ'.1 4 0 = τ'.1 0 32
    rw [i3.1, i4.2.2 32 (by decide), h32]
    rfl
  · show ((κ + 0 : Nat) : Int) + 40 * (σ'.1 0 1).toInt ≤ 950 * ((n + 1 : Nat) : Int)
    omega
/-- the plans that hold, side by side -/
def T5 (σ τ : ST) : Prop := ∀ p : Nat, (p : Int) < (τ.1 0 32).toInt → PHB 4 p σ τ
theorem T5.keep {σ τ a b : ST} (h : T5 σ τ) (h1 : b.1 0 32 = τ.1 0 32) (hb : bI (τ.1 0 32) 0 6) (hA : KTA σ a) (hB : KR τ b) : T5 a b := fun p hp => by
  rw [h1] at hp
  have := hb.2
  exact (h p hp).keep (by omega) hA hB
theorem inv_plans {n κ : Nat} {σ τ : ST} (h : Inv n σ τ κ) (hn : n < 512) (p0 : Int32) : ∃ (qa : Int32 × ST) (qb : (Int32 × ST) × Nat), f_X10_plans p0 σ = some qa ∧ f_X11_plans p0 τ = some qb ∧ Inv (n + 1) qa.2 qb.1.2 (κ + qb.2) ∧ (T5 σ τ → T5 qa.2 qb.1.2) := by
  obtain ⟨_, hA, hB, hF, h32, hk, hT, hc⟩ := h
  have ht := hA.tape
  have e2 : (τ.1 0 2).toInt = (σ.1 0 1).toInt := by rw [hF.1]
  have l0 := l64_0
  have i0 := i64 p0
  have l0' := li_0
  obtain ⟨qa, ea, q1, ⟨q2, q3⟩, q4⟩ := k_X10_plans p0 σ hA
  have hs := hB.th 0
  have s1 : (stI τ 0 0 0).1 1 = τ.1 1 := rfl
  have s2 : (stI τ 0 0 0).1 0 2 = τ.1 0 2 := rfl
  have s32 : (stI τ 0 0 0).1 0 32 = τ.1 0 32 := rfl
  have s9 : ∀ c, c ≠ 0 → (stI τ 0 0 0).1 c = τ.1 c := fun c hc => stI_ne hc
  have sL : (stI τ 0 0 0).2.1 = τ.2.1 := rfl
  have hb : ∃ qb : (Int32 × ST) × Nat, f_X11_plans p0 τ = some qb ∧ Inv (n + 1) qa.2 qb.1.2 (κ + qb.2) ∧ (T5 σ τ → T5 qa.2 qb.1.2) := by
    unfold f_X11_plans
    generalize stI τ 0 0 0 = s at hs s1 s2 s32 s9 sL
    have kr : KR τ s := KR.eq (fun c hc => s9 c (fun e => by rw [e] at hc; revert hc; decide)) (fun c _ => by rw [sL])
    have i2 := i64 (s.1 0 2)
    have e2' : (s.1 0 2).toInt = (σ.1 0 1).toInt := by rw [s2]; exact e2
    have ok : OK ((f_X11_within (p0.toInt64) 0 ((s.1 0 2).toInt64) s).bind fun q1 => if q1.1 = 0 then (some (((-1), q1.2), 0)) else ((f_X11_begins p0 q1.2).bind fun q3 => (f_X11_plan (stI (stI q3 0 33 0) 0 34 400)).bind fun q5 => ac q5.2 (f_X11_plans_43 FU q5.1.1 q5.1.2))) (fun qb => Inv (n + 1) qa.2 qb.1.2 (κ + qb.2) ∧ (T5 σ τ → T5 qa.2 qb.1.2)) := by
      refine OK.bndR (b_within _ _ _ _) (fun v hv => ?_)
      dsimp only
      rcases q4 with ⟨c, q4⟩ | ⟨c, q01, t1, r, t2, e1, e3, q5, q6⟩
      · refine OK.ieq (fun _ => ?_) (fun h => by omega)
        refine OK.ret ⟨⟨by omega, q1, hs, ⟨?_, ?_⟩, ?_, ?_, ?_, ?_⟩, fun hT5 => hT5.keep s32 hB.1.1 (by rw [q4]; exact KTA.rf) kr⟩
        · show qa.2.1 0 1 = s.1 0 2
          rw [q4, s2, hF.1]
        · show qa.2.1 1 = s.1 1
          rw [q4, s1, hF.2]
        · show qa.2.1 4 0 = s.1 0 32
          rw [q4, s32, h32]
        · rw [q4]
          exact hk
        · rw [q4]
          exact hT
        · show ((κ + 0 : Nat) : Int) + 40 * (qa.2.1 0 1).toInt ≤ 950 * ((n + 1 : Nat) : Int)
          rw [q4]
          omega
      · refine OK.ieq (fun h => by omega) (fun _ => ?_)
        have hp1000 : p0.toInt ≤ 1000 := by
          have := ht.2
          omega
        have hb := ab_plans p0 (stI σ 0 1 0) s (by rw [s1]; exact hF.2) (by rw [s1, ← hF.2]; exact hT) hk hs ⟨c.1, hp1000⟩ t1 e1 r t2 e3
        refine hb.mono (fun y hy => ?_)
        obtain ⟨y0, y1, y2, y3, y4⟩ := hy
        have k5 := k6_plans p0 σ qa ea c t1 r t2 e1 e3
        refine ⟨⟨by omega, q1, y1, ⟨?_, ?_⟩, ?_, ?_, ?_, ?_⟩, fun hT5 => ?_⟩
        · rw [q01, y3]
        · rw [q2, y2, s1, hF.2]
        · rcases y4 with ⟨r0, y5, _⟩ | ⟨r0, y5, _⟩
          · rw [q5 r0, y5, s32, h32]
          · rw [q6 r0]
            exact Int32.toInt_inj.mp y5.symm
        · rw [q3]
          exact hk
        · show T8 qa.2
          unfold T8
          rw [q2]
          exact hT
        · rw [q01, l0']
          omega
        · rcases y4 with ⟨r0, y5, yK⟩ | ⟨r0, y5, yT⟩
          · exact (hT5.keep s32 hB.1.1 KTA.rf kr).keep y5 hs.1.1 (k5.1 r0) yK
          · intro p hp
            have h6 := y1.1.1.2
            exact k5.2 r0 p _ (by omega) (yT p (by omega))
    obtain ⟨qb, eb, hq⟩ := ok
    exact ⟨qb, eb, hq⟩
  obtain ⟨qb, eb, hq⟩ := hb
  exact ⟨qa, qb, ea, eb, hq⟩
theorem inv_write {n κ : Nat} {σ τ : ST} (h : Inv n σ τ κ) (hn : n < 512) (p0 p1 p2 : Int32) : ∃ (qa : Int32 × ST) (qb : (Int32 × ST) × Nat), f_X10_write p0 p1 p2 σ = some qa ∧ f_X11_write p0 p1 p2 τ = some qb ∧ Inv (n + 1) qa.2 qb.1.2 (κ + qb.2) := by
  obtain ⟨_, hA, hB, hF, h32, hk, hT, hc⟩ := h
  have ht := hA.tape
  have l0 := li_0
  have e2 : (τ.1 0 2).toInt = (σ.1 0 1).toInt := by rw [hF.1]
  have e32 : (τ.1 0 32).toInt = (σ.1 4 0).toInt := by rw [h32]
  have hw : WRc σ p0 p1 p2 ↔ WRd τ p0 p1 p2 := by
    unfold WRc WRd
    rw [e2, e32]
  obtain ⟨qa, ea, a1, a2, ⟨a3, a4⟩, a5⟩ := k_X10_write p0 p1 p2 σ hA
  obtain ⟨qb, eb, b1, b2, b3, b5⟩ := b_write p0 p1 p2 τ hB (by rw [← hF.1]; exact ht)
  refine ⟨qa, qb, ea, eb, by omega, a1, b1, ⟨?_, ?_⟩, ?_, ?_, ?_, ?_⟩
  · rcases a5 with ⟨c, a5⟩ | ⟨c, a5⟩
    · rcases b5 with ⟨_, b5, _⟩ | ⟨d, _⟩
      · rw [a5, b5]
      · exact absurd (hw.mp c) d
    · rcases b5 with ⟨d, _⟩ | ⟨_, b5, _⟩
      · exact absurd (hw.mpr d) c
      · rw [a5, b5]
        exact hF.1
  · rw [a2, b2]
    exact hF.2
  · rw [a3, b3]
    exact h32
  · rw [a4]
    exact hk
  · unfold T8
    rw [a2]
    exact hT
  · rcases a5 with ⟨c, a5⟩ | ⟨c, a5⟩
    · rcases b5 with ⟨_, _, b6⟩ | ⟨d, _⟩
      · have hp := c.2.2.2
        rw [a5, l0]
        omega
      · exact absurd (hw.mp c) d
    · rcases b5 with ⟨d, _⟩ | ⟨_, _, b6⟩
      · exact absurd (hw.mpr d) c
      · rw [a5]
        omega
/-- what a call other than plans leaves of the plans -/
theorem w_L_byteAt {s : ST} {p0 p1 : Int32} {σ : ST} (h : KTA s σ) : PF st1 (KTA s) (f_L_byteAt p0 p1 σ) := by
  unfold f_L_byteAt
  refine PF.bnd (w_X10_byteAt h) (fun q hq => ?_)
  cases q.1 with
  | none => exact PF.ret1 hq
  | some r => exact PF.ret1 (KTA.l (by omega) hq)
theorem w_L_node {s : ST} {p0 p1 : Int32} {σ : ST} (h : KTA s σ) : PF st1 (KTA s) (f_L_node p0 p1 σ) := by
  unfold f_L_node
  refine PF.bnd (w_X10_node h) (fun q hq => ?_)
  cases q.1 with
  | none => exact PF.ret1 hq
  | some r => exact PF.ret1 (KTA.l (by omega) hq)
theorem w_L_letter {s : ST} {p0 p1 : Int32} {σ : ST} (h : KTA s σ) : PF st1 (KTA s) (f_L_letter p0 p1 σ) := by
  unfold f_L_letter
  refine PF.bnd (w_X10_letter h) (fun q hq => ?_)
  cases q.1 with
  | none => exact PF.ret1 hq
  | some r => exact PF.ret1 (KTA.l (by omega) hq)
theorem w_L_value {s : ST} {p0 : Int32} {σ : ST} (h : KTA s σ) : PF st1 (KTA s) (f_L_value p0 σ) := by
  unfold f_L_value
  refine PF.bnd (w_X10_value h) (fun q hq => ?_)
  cases q.1 with
  | none => exact PF.ret1 hq
  | some r => exact PF.ret1 (KTA.l (by omega) hq)
theorem w_fA (j : Nat) (h1 : j ≠ 1) (pr : Nat → Int32) (σ : ST) : PF st1 (KTA σ) (fA j pr σ) := by
  match j, h1 with
  | 0, _ => exact w_X10_feed KTA.rf
  | 2, _ => exact w_X10_write KTA.rf
  | 3, _ => exact w_X10_record KTA.rf
  | 4, _ => exact w_X10_field KTA.rf
  | 5, _ => exact w_X10_message KTA.rf
  | 6, _ => exact w_L_byteAt KTA.rf
  | 7, _ => exact w_X10_spoil KTA.rf
  | 8, _ => exact w_X10_cut KTA.rf
  | 9, _ => exact w_X10_matches KTA.rf
  | 10, _ => exact w_X10_miss KTA.rf
  | 11, _ => exact w_X10_missStep KTA.rf
  | 12, _ => exact w_X10_readers KTA.rf
  | 13, _ => exact w_X10_read KTA.rf
  | 14, _ => exact w_X10_failure KTA.rf
  | 15, _ => exact w_X10_failureStep KTA.rf
  | 16, _ => exact w_L_node KTA.rf
  | 17, _ => exact w_L_value KTA.rf
  | 18, _ => exact w_L_letter KTA.rf
  | 19, _ => exact w_X10_convert KTA.rf
  | 20, _ => exact w_X10_alike KTA.rf
  | 21, _ => exact w_X10_kept KTA.rf
  | 22, _ => exact w_X10_count KTA.rf
  | j + 23, _ => exact PF.ret1 KTA.rf
theorem w_fB (j : Nat) (h1 : j ≠ 1) (pr : Nat → Int32) (τ : ST) : PF st2 (KTB τ) (fB j pr τ) := by
  match j, h1 with
  | 0, _ => exact PF.bnd (w_X11_feed KTB.rf) (fun q hq => PF.ret2 hq)
  | 2, _ => exact w_X11_write KTB.rf
  | 3, _ => exact PF.bnd (w_X11_record_ KTB.rf) (fun q hq => PF.ret2 hq)
  | 4, _ => exact PF.bnd (w_X11_field_ KTB.rf) (fun q hq => PF.ret2 hq)
  | 5, _ => exact PF.bnd (w_X11_message KTB.rf) (fun q hq => PF.ret2 hq)
  | 6, _ => exact PF.bnd (w_X11_byteAt_ KTB.rf) (fun q hq => PF.ret2 hq)
  | 7, _ => exact PF.bnd (w_X11_spoil KTB.rf) (fun q hq => PF.ret2 hq)
  | 8, _ => exact PF.bnd (w_X11_cut KTB.rf) (fun q hq => PF.ret2 hq)
  | 9, _ => exact PF.bnd (w_X11_matches KTB.rf) (fun q hq => PF.ret2 hq)
  | 10, _ => exact PF.bnd (w_X11_miss KTB.rf) (fun q hq => PF.ret2 hq)
  | 11, _ => exact PF.bnd (w_X11_missStep KTB.rf) (fun q hq => PF.ret2 hq)
  | 12, _ => exact PF.bnd (w_X11_readers KTB.rf) (fun q hq => PF.ret2 hq)
  | 13, _ => exact PF.bnd (w_X11_read KTB.rf) (fun q hq => PF.ret2 hq)
  | 14, _ => exact PF.bnd (w_X11_failure KTB.rf) (fun q hq => PF.ret2 hq)
  | 15, _ => exact PF.bnd (w_X11_failureStep KTB.rf) (fun q hq => PF.ret2 hq)
  | 16, _ => exact PF.bnd (w_X11_node KTB.rf) (fun q hq => PF.ret2 hq)
  | 17, _ => exact PF.bnd (w_X11_value_ KTB.rf) (fun q hq => PF.ret2 hq)
  | 18, _ => exact PF.bnd (w_X11_letter KTB.rf) (fun q hq => PF.ret2 hq)
  | 19, _ => exact PF.bnd (w_X11_convert KTB.rf) (fun q hq => PF.ret2 hq)
  | 20, _ => exact PF.bnd (w_X11_alike KTB.rf) (fun q hq => PF.ret2 hq)
  | 21, _ => exact PF.bnd (w_X11_kept KTB.rf) (fun q hq => PF.ret2 hq)
  | 22, _ => exact PF.bnd (w_X11_count KTB.rf) (fun q hq => PF.ret2 hq)
  | j + 23, _ => exact PF.ret2 KTB.rf
theorem inv_call (n : Nat) (σ τ : ST) (κ : Nat) (h : Inv n σ τ κ) (hn : n < 512) (j : Nat) (pr : Nat → Int32) : ∃ (qa : Int32 × ST) (qb : (Int32 × ST) × Nat), fA j pr σ = some qa ∧ fB j pr τ = some qb ∧ Inv (n + 1) qa.2 qb.1.2 (κ + qb.2) ∧ (T5 σ τ → T5 qa.2 qb.1.2) := by
  by_cases h1 : j = 1
  · subst h1
    exact inv_plans h hn (pr 1)
  have hB := h.2.2.1.1.1
  have h4 : σ.1 4 0 = τ.1 0 32 := h.2.2.2.2.1
  have main : ∃ (qa : Int32 × ST) (qb : (Int32 × ST) × Nat), fA j pr σ = some qa ∧ fB j pr τ = some qb ∧ Inv (n + 1) qa.2 qb.1.2 (κ + qb.2) := by
    by_cases h0 : j = 0
    · subst h0
      obtain ⟨qa, qb, e1, e2, e3, e4⟩ := inv_feed h hn (pr 1) (pr 2) (pr 3) (pr 4) (pr 5)
      exact ⟨qa, qb, e1, e2, e4⟩
    by_cases h2 : j = 2
    · subst h2
      exact inv_write h hn (pr 1) (pr 2) (pr 3)
    obtain ⟨_, hA, hB, hF, h32, hk, hT, hc⟩ := h
    obtain ⟨qa, ea, a1, a2, a3, a4, a5⟩ := callsA j (by omega) pr σ hA
    obtain ⟨qb, eb, ⟨b1, b2, b3, b4⟩, b5⟩ := callsB j (by omega) pr τ hB
    refine ⟨qa, qb, ea, eb, by omega, a1, b1, ⟨?_, ?_⟩, ?_, ?_, ?_, ?_⟩
    · rw [a2, b2]
      exact hF.1
    · rw [a3, b3]
      exact hF.2
    · rw [a4, b4]
      exact h32
    · rw [a5]
      exact hk
    · unfold T8
      rw [a3]
      exact hT
    · rw [a2, b5]
      omega
  obtain ⟨qa, qb, ea, eb, hI⟩ := main
  have kA : KTA σ qa.2 := w_fA j h1 pr σ qa ea
  have kB : KTB τ qb.1.2 := w_fB j h1 pr τ qb eb
  have h5 : qa.2.1 4 0 = qb.1.2.1 0 32 := hI.2.2.2.2.1
  have e4 : qa.2.1 4 = σ.1 4 := (kA 4 (by omega) (by omega)).1
  exact ⟨qa, qb, ea, eb, hI, fun hT5 => hT5.keep (by rw [← h5, e4, h4]) hB kA kB.kr⟩
theorem inv_room (n : Nat) (σ τ : ST) (κ : Nat) (h : Inv n σ τ κ) : κ ≤ 500000 := by
  obtain ⟨h1, hA, _, _, _, _, _, hc⟩ := h
  have := hA.tape.1
  omega
theorem t5_0 : T5 s0A s0B := fun p hp => by
  have e : (s0B.1 0 32).toInt = 0 := li_0
  omega
/-- what holds after n calls -/
def Inv5 (n : Nat) (σ τ : ST) (κ : Nat) : Prop := Inv n σ τ κ ∧ T5 σ τ
theorem inv5_call (n : Nat) (σ τ : ST) (κ : Nat) (h : Inv5 n σ τ κ) (hn : n < 512) (j : Nat) (pr : Nat → Int32) : ∃ (qa : Int32 × ST) (qb : (Int32 × ST) × Nat), fA j pr σ = some qa ∧ fB j pr τ = some qb ∧ Inv5 (n + 1) qa.2 qb.1.2 (κ + qb.2) := by
  obtain ⟨h1, h2⟩ := h
  obtain ⟨qa, qb, ea, eb, e1, e2⟩ := inv_call n σ τ κ h1 hn j pr
  exact ⟨qa, qb, ea, eb, e1, e2 h2⟩
theorem inv5_room (n : Nat) (σ τ : ST) (κ : Nat) (h : Inv5 n σ τ κ) : κ ≤ 500000 := inv_room n σ τ κ h.1
theorem inv5_0 : Inv5 0 s0A s0B 0 := ⟨inv_0, t5_0⟩
/-! the reference's pairs: the greatest set in which each pair holds -/
theorem mt.mono {hi : Int} {S A M B PR PR' : Nat → Int32} {a b : Int} (ha : a ≤ 6) (hb : b ≤ 6) (hp : ∀ k, k < 36 → ¬ PR k = 0 → ¬ PR' k = 0) : ∀ {n d e : Nat} {w r : Int32}, VT hi S A M B a d w → VT hi S A M B b e r → mt S A M B PR n w r → mt S A M B PR' n w r := by
  intro n
  induction n with
  | zero => intro d e w r hw hr h; exact h.elim
  | succ n ih =>
    intro d e w r hw hr h
    rcases h with ⟨h1, k, hk, h2⟩ | ⟨h1, h2, k, hk, h3⟩ | ⟨h1, h2, ⟨h3, h4, h5⟩ | ⟨h3, h4, h5⟩ | h⟩
    · exact .inl ⟨h1, k, hk, ih ((hw.eit h1).2.2.1 k hk).1 hr h2⟩
    · exact .inr (.inl ⟨h1, h2, k, hk, ih hw ((hr.eit h2).2.2.1 k hk).1 h3⟩)
    · exact .inr (.inr ⟨h1, h2, .inl ⟨h3, h4, ih (hw.lst h3).2 (hr.lst h4).2 h5⟩⟩)
    · have x := hw.rcd h3
      have y := hr.rcd h4
      have n1 := nN_ x.1
      have n2 := nN_ y.1
      exact .inr (.inr ⟨h1, h2, .inr (.inl ⟨h3, h4, hp _ (by omega) h5⟩)⟩)
    · exact .inr (.inr ⟨h1, h2, .inr (.inr h)⟩)
theorem MT.mono {hi : Int} {S A M B PR PR' : Nat → Int32} {a b : Int} {d e : Nat} {w r : Int32} (h : MT S A M B PR w r) (ha : a ≤ 6) (hb : b ≤ 6) (hp : ∀ k, k < 36 → ¬ PR k = 0 → ¬ PR' k = 0) (hw : VT hi S A M B a d w) (hr : VT hi S A M B b e r) : MT S A M B PR' w r := by
  obtain ⟨n, h⟩ := h
  exact ⟨n, mt.mono ha hb hp hw hr h⟩
theorem MT.same {hi : Int} {S A M B PR PR' : Nat → Int32} {a b : Int} {d e : Nat} {w r : Int32} (ha : a ≤ 6) (hb : b ≤ 6) (hp : ∀ k, k < 36 → (PR k = 0 ↔ PR' k = 0)) (hw : VT hi S A M B a d w) (hr : VT hi S A M B b e r) : MT S A M B PR w r ↔ MT S A M B PR' w r := ⟨fun h => h.mono ha hb (fun k hk h1 h2 => h1 ((hp k hk).mpr h2)) hw hr, fun h => h.mono ha hb (fun k hk h1 h2 => h1 ((hp k hk).mp h2)) hw hr⟩
theorem CH.symm {C I : List Nat} {σ τ : ST} (h : CH C I σ τ) : CH C I τ σ := ⟨fun c h0 hc => (h.1 c h0 hc).symm, fun i hi => (h.2.1 i hi).symm, h.2.2.1.symm, h.2.2.2.1.symm, h.2.2.2.2.1.symm, h.2.2.2.2.2.1.symm, h.2.2.2.2.2.2.symm⟩
/-- two records whose names let them pair -/
def NYS (σ : ST) (w r : Int32) : Prop := (w.toInt = 0 ∧ r.toInt = 0) ∨ σ.2.1 9 (6 * (σ.1 0 53).toNatClampNeg + w.toNatClampNeg) = σ.2.1 9 (6 * (σ.1 0 54).toNatClampNeg + r.toNatClampNeg)
/-- whose fields fit, if the pairs that stand are PR -/
def HXP (σ : ST) (PR : Nat → Int32) (w r : Int32) : Prop := ∀ (k : Nat) (f v : Int32), (k : Int) < (σ.1 11 (6 * (σ.1 0 54).toNatClampNeg + r.toNatClampNeg)).toInt → f.toInt = 8 * (6 * (σ.1 0 54).toInt + r.toInt) + k → f_X11_fieldFor w f σ = some (v, σ) → (0 ≤ v.toInt → MT (σ.1 2) (σ.1 3) (σ.1 4) (σ.1 5) PR (σ.1 15 v.toNatClampNeg) (σ.1 15 f.toNatClampNeg)) ∧ (v.toInt < 0 → ¬ σ.1 16 f.toNatClampNeg = 0)
/-- each pair of PR holds -/
def PSX (σ : ST) (PR : Nat → Int32) : Prop := ∀ (w r : Int32), 0 ≤ w.toInt → w.toInt < 6 → 0 ≤ r.toInt → r.toInt < 6 → ¬ PR (6 * w.toNatClampNeg + r.toNatClampNeg) = 0 → (w.toInt < rmW σ ∧ r.toInt < rmR σ) ∧ NYS σ w r ∧ HXP σ PR w r
/-- no pair of such a set is wanting in PR -/
def GMX (σ : ST) (PR : Nat → Int32) : Prop := ∀ PR', PSX σ PR' → ∀ k, k < 36 → ¬ PR' k = 0 → ¬ PR k = 0
def GFX (σ : ST) (PR : Nat → Int32) : Prop := PSX σ PR ∧ GMX σ PR
theorem GFX.uniq {σ : ST} {P Q : Nat → Int32} (h : GFX σ P) (k : GFX σ Q) : ∀ i, i < 36 → (P i = 0 ↔ Q i = 0) := fun i hi => by
  have a := k.2 P h.1 i hi
  have b := h.2 Q k.1 i hi
  by_cases h1 : P i = 0 <;> by_cases h2 : Q i = 0 <;> simp_all
theorem NYS.tr {C I : List Nat} {σ t : ST} {w r : Int32} (h : NYS σ w r) (c : CH C I σ t) (h53 : 53 ∉ I) (h54 : 54 ∉ I) : NYS t w r := by
  unfold NYS
  rw [c.2.2.1, c.2.1 53 h53, c.2.1 54 h54]
  exact h
theorem HXP.tr {C I : List Nat} {σ t : ST} {PR : Nat → Int32} {w r : Int32} (h : HXP σ PR w r) (c : CH C I σ t) (hC : ∀ c, c ∈ [2, 3, 4, 5, 11, 15, 16] → c ∉ C) (h53 : 53 ∉ I) (h54 : 54 ∉ I) : HXP t PR w r := by
  intro k f v k1 k2 k3
  rw [c.2.1 54 h54] at k1 k2
  rw [c.1 11 (by decide) (hC 11 (by decide))] at k1
  rw [c.1 2 (by decide) (hC 2 (by decide)), c.1 3 (by decide) (hC 3 (by decide)), c.1 4 (by decide) (hC 4 (by decide)), c.1 5 (by decide) (hC 5 (by decide)), c.1 15 (by decide) (hC 15 (by decide)), c.1 16 (by decide) (hC 16 (by decide))]
  exact h k f v k1 k2 (ff_tr (c.2.1 53 h53).symm (c.1 11 (by decide) (hC 11 (by decide))).symm c.2.2.2.1.symm c.2.2.2.2.1.symm w f v k3)
theorem PSX.tr {C I : List Nat} {σ t : ST} {PR : Nat → Int32} (h : PSX σ PR) (c : CH C I σ t) (hC : ∀ c, c ∈ [2, 3, 4, 5, 8, 11, 15, 16] → c ∉ C) (h53 : 53 ∉ I) (h54 : 54 ∉ I) : PSX t PR := by
  intro w r a1 a2 a3 a4 a5
  obtain ⟨x1, x2, x3⟩ := h w r a1 a2 a3 a4 a5
  obtain ⟨e1, e2⟩ := rm_ch c (hC 8 (by decide)) h53 h54
  rw [e1, e2]
  exact ⟨x1, x2.tr c h53 h54, x3.tr c (fun d hd => hC d (by revert hd; simp only [List.mem_cons, List.not_mem_nil, or_false]; omega)) h53 h54⟩
theorem GFX.tr {C I : List Nat} {σ t : ST} {PR : Nat → Int32} (h : GFX σ PR) (c : CH C I σ t) (hC : ∀ c, c ∈ [2, 3, 4, 5, 8, 11, 15, 16] → c ∉ C) (h53 : 53 ∉ I) (h54 : 54 ∉ I) : GFX t PR := ⟨h.1.tr c hC h53 h54, fun Q hQ => h.2 Q (hQ.tr c.symm hC h53 h54)⟩
theorem HXP.mono {σ : ST} {PR PR' : Nat → Int32} {w r : Int32} (hM : ME σ) (hw : wrec σ w) (hr : rrec σ r) (hp : ∀ k, k < 36 → ¬ PR k = 0 → ¬ PR' k = 0) (h : HXP σ PR w r) : HXP σ PR' w r := by
  intro k f v k1 k2 k3
  obtain ⟨x, y⟩ := h k f v k1 k2 k3
  refine ⟨fun h0 => ?_, y⟩
  obtain ⟨b1, b2, b3, b4⟩ := hM.w
  obtain ⟨c1, c2⟩ := hM.rf hr
  have r1 := hr.1
  have r2 : r.toInt < rmR σ := hr.2
  have n1 := nN_ b2.1
  have n2 := nN_ r1
  have b21 := b2.1
  have b22 := b2.2
  have c12 := c1.2
  obtain ⟨⟨u, s⟩, ef, es, hv⟩ := hM.ff hw (f := f) (by omega)
  rw [k3] at ef
  have ev : v = u := (Prod.mk.inj (Option.some.inj ef)).1
  have hv : u.toInt = -1 ∨ (0 ≤ u.toInt ∧ u.toInt < 576) ∧ VS σ (rmW σ) 4 (σ.1 15 u.toNatClampNeg) := hv
  rw [← ev] at hv
  rcases hv with hv | hv
  · omega
  have hc := c2 k k1
  have e5 : f.toNatClampNeg = 8 * (6 * (σ.1 0 54).toNatClampNeg + r.toNatClampNeg) + k := nC (by omega)
  rw [← e5] at hc
  exact (x h0).mono (by omega) (by omega) hp hv.2 hc
theorem HXP.same {σ : ST} {PR PR' : Nat → Int32} {w r : Int32} (hM : ME σ) (hw : wrec σ w) (hr : rrec σ r) (hp : ∀ k, k < 36 → (PR k = 0 ↔ PR' k = 0)) : HXP σ PR w r ↔ HXP σ PR' w r := ⟨HXP.mono hM hw hr (fun k hk h1 h2 => h1 ((hp k hk).mpr h2)), HXP.mono hM hw hr (fun k hk h1 h2 => h1 ((hp k hk).mp h2))⟩
theorem bx_namesMay (p0 p1 : Int32) (σ : ST) (h0 : 0 ≤ p0.toInt ∧ p0.toInt < 6) (h1 : 0 ≤ p1.toInt ∧ p1.toInt < 6) (hw : bI (σ.1 0 53) 0 5) (hr : bI (σ.1 0 54) 0 5) : OK (f_X11_namesMay p0 p1 σ) (RO σ fun v => v.toInt = 0 ∧ ¬ NYS σ p0 p1 ∨ v.toInt = 1 ∧ NYS σ p0 p1) := by
  obtain ⟨w1, w2⟩ := hw
  obtain ⟨r1, r2⟩ := hr
  have lt_0 := li_0
  have lt_1 := li_1
  have lt_6 := li_6
  have e1 := mlE (k := 6) (y := σ.1 0 53) 6 li_6 (by omega) (by omega)
  have e2 := il_addE (x := 6 * σ.1 0 53) (y := p0) (by omega) (by omega)
  have e3 := mlE (k := 6) (y := σ.1 0 54) 6 li_6 (by omega) (by omega)
  have e4 := il_addE (x := 6 * σ.1 0 54) (y := p1) (by omega) (by omega)
  have n1 := nN_ w1
  have n2 := nN_ r1
  have n3 := nN_ h0.1
  have n4 := nN_ h1.1
  have i1 : (6 * σ.1 0 53 + p0).toNatClampNeg = 6 * (σ.1 0 53).toNatClampNeg + p0.toNatClampNeg := nC (by omega)
  have i2 : (6 * σ.1 0 54 + p1).toNatClampNeg = 6 * (σ.1 0 54).toNatClampNeg + p1.toNatClampNeg := nC (by omega)
  have h8 : ¬ (p0.toInt = 0 ∧ p1.toInt = 0) → OK (f_X11_namesMay_8 p0 p1 σ) (RO σ fun v => v.toInt = 0 ∧ ¬ NYS σ p0 p1 ∨ v.toInt = 1 ∧ NYS σ p0 p1) := fun hn => by
    unfold f_X11_namesMay_8 f_X11_namesMay_40
    refine OK.grd ⟨by omega, by omega⟩ ?_
    refine OK.grd ⟨by omega, by omega⟩ ?_
    rw [i1, i2]
    refine OK.ite (fun h => ?_) (fun h => ?_)
    · rw [lg_cmp_eq] at h
      exact OK.roret (.inr ⟨lt_1, .inr h⟩)
    · rw [lg_cmp_eq] at h
      exact OK.roret (.inl ⟨lt_0, fun h9 => h9.elim hn h⟩)
  unfold f_X11_namesMay f_X11_namesMay_40
  refine OK.ieq (fun _ => ?_) (fun _ => h8 (by omega))
  exact OK.ieq (fun _ => OK.roret (.inr ⟨lt_1, .inl ⟨by omega, by omega⟩⟩)) (fun _ => h8 (by omega))
theorem bx_holds_24 (w r x3 : Int32) (σ : ST) (hM : ME σ) (hw : wrec σ w) (hr : rrec σ r) (h3 : x3.toInt = 6 * (σ.1 0 54).toInt + r.toInt) : ∀ (n : Nat) (x4 : Int32), (0 ≤ x4.toInt ∧ x4.toInt ≤ 8 ∧ (8 : Int) - x4.toInt < n) → (∀ (k : Nat) (f v : Int32), (k : Int) < x4.toInt → f.toInt = 8 * (6 * (σ.1 0 54).toInt + r.toInt) + k → f_X11_fieldFor w f σ = some (v, σ) → (0 ≤ v.toInt → MS σ (σ.1 15 v.toNatClampNeg) (σ.1 15 f.toNatClampNeg)) ∧ (v.toInt < 0 → ¬ σ.1 16 f.toNatClampNeg = 0)) → OK (f_X11_holds_24 n w x3 x4 σ) (RO σ fun v => v.toInt = 0 ∧ ¬ HXP σ (σ.1 35) w r ∨ v.toInt = 1 ∧ HXP σ (σ.1 35) w r) := by
  intro n
  obtain ⟨b1, b2, b3, b4⟩ := hM.w
  have r1 := hr.1
  have r2 : r.toInt < rmR σ := hr.2
  obtain ⟨c1, c2⟩ := hM.rf hr
  have n1 := nN_ b2.1
  have n2 := nN_ r1
  have b11 := b2.1
  have b12 := b2.2
  have c11 := c1.1
  have c12 := c1.2
  have e3 : x3.toNatClampNeg = 6 * (σ.1 0 54).toNatClampNeg + r.toNatClampNeg := nC (by omega)
  have lt_0 := li_0
  have lt_1 := li_1
  have lt_8 := li_8
  induction n with
  | zero => intro x4 h; omega
  | succ n ih =>
    intro x4 h4 hk
    rw [f_X11_holds_24]
    unfold f_X11_holds_94
    have a1 := mlE (k := 8) (y := x3) 8 li_8 (by omega) (by omega)
    have a2 := il_addE (x := 8 * x3) (y := x4) (by omega) (by omega)
    have a3 := il_addE (x := x4) (y := 1) (by omega) (by omega)
    have n4 := nN_ h4.1
    have e5 : (8 * x3 + x4).toNatClampNeg = 8 * (6 * (σ.1 0 54).toNatClampNeg + r.toNatClampNeg) + x4.toNatClampNeg := nC (by omega)
    refine OK.grd ⟨by omega, by omega⟩ ?_
    rw [e3]
    refine OK.ile (fun h => OK.roret (.inr ⟨by omega, ?_⟩)) (fun h => ?_)
    · intro k f v k1 k2 k3
      exact hk k f v (by omega) k2 k3
    have hf := hM.ff hw (f := 8 * x3 + x4) (by omega)
    obtain ⟨⟨v, s⟩, ef, es, hv⟩ := hf
    have es : s = σ := es
    subst es
    rw [ef]
    show OK (if (0 : Int32) ≤ v then _ else _) _
    have bad : ¬ ((0 ≤ v.toInt → MS s (s.1 15 v.toNatClampNeg) (s.1 15 (8 * x3 + x4).toNatClampNeg)) ∧ (v.toInt < 0 → ¬ s.1 16 (8 * x3 + x4).toNatClampNeg = 0)) → ¬ HXP s (s.1 35) w r := fun hm h9 => hm (h9 x4.toNatClampNeg (8 * x3 + x4) v (by omega) (by omega) ef)
    have next : ((0 ≤ v.toInt → MS s (s.1 15 v.toNatClampNeg) (s.1 15 (8 * x3 + x4).toNatClampNeg)) ∧ (v.toInt < 0 → ¬ s.1 16 (8 * x3 + x4).toNatClampNeg = 0)) → OK (f_X11_holds_24 n w x3 (x4 + 1) s) (RO s fun v => v.toInt = 0 ∧ ¬ HXP s (s.1 35) w r ∨ v.toInt = 1 ∧ HXP s (s.1 35) w r) := fun hm => by
      refine ih (x4 + 1) (by omega) (fun k f u k1 k2 k3 => ?_)
      by_cases e : (k : Int) < x4.toInt
      · exact hk k f u e k2 k3
      · have ef2 : f = 8 * x3 + x4 := Int32.toInt_inj.mp (by omega)
        rw [ef2] at k3 ⊢
        rw [ef] at k3
        have ev : v = u := (Prod.mk.inj (Option.some.inj k3)).1
        rw [← ev]
        exact hm
    refine OK.ile (fun h0 => ?_) (fun h0 => ?_)
    · have hv' : (0 ≤ v.toInt ∧ v.toInt < 576) ∧ VS s (rmW s) 4 (s.1 15 v.toNatClampNeg) := by
        rcases hv with hv | hv
        · have hv : v.toInt = -1 := hv
          omega
        · exact hv
      refine OK.grd hv'.1 ?_
      refine OK.grd ⟨by omega, by omega⟩ ?_
      have hc := c2 x4.toNatClampNeg (by omega)
      rw [← e5] at hc
      refine OK.bndR (bT_match _ _ s (by omega) (by omega) hM.2.2 hv'.2 hc (by omega) (by omega)) (fun u hu => ?_)
      dsimp only
      refine OK.ieq (fun _ => OK.roret (.inl ⟨by omega, bad (fun h9 => ?_)⟩)) (fun _ => next ⟨fun _ => ?_, fun _ => by omega⟩)
      · rcases hu with hu | hu
        · exact hu.2 (h9.1 (by omega))
        · omega
      · rcases hu with hu | hu
        · omega
        · exact hu.2
    · refine OK.grd ⟨by omega, by omega⟩ ?_
      refine OK.ieq (fun hz => OK.roret (.inl ⟨by omega, bad (fun h9 => h9.2 (by omega) (Int32.toInt_inj.mp hz))⟩)) (fun hz => next ⟨fun h9 => by omega, fun _ h9 => hz (by rw [h9])⟩)
theorem bx_holds (w r : Int32) (σ : ST) (hM : ME σ) (hw : wrec σ w) (hr : rrec σ r) : OK (f_X11_holds w r σ) (RO σ fun v => v.toInt = 0 ∧ ¬ (NYS σ w r ∧ HXP σ (σ.1 35) w r) ∨ v.toInt = 1 ∧ NYS σ w r ∧ HXP σ (σ.1 35) w r) := by
  unfold f_X11_holds
  obtain ⟨b1, b2, b3, b4⟩ := hM.w
  have w1 := hw.1
  have w2 : w.toInt < rmW σ := hw.2
  have r1 := hr.1
  have r2 : r.toInt < rmR σ := hr.2
  have b21 := b2.1
  have b22 := b2.2
  have lt_0 := li_0
  have lt_6 := li_6
  have lu := FUi
  have a1 := mlE (k := 6) (y := σ.1 0 54) 6 li_6 (by omega) (by omega)
  have a2 := il_addE (x := 6 * σ.1 0 54) (y := r) (by omega) (by omega)
  refine OK.bndR (bx_namesMay w r σ (by omega) (by omega) b1 b2) (fun v hv => ?_)
  dsimp only
  refine OK.ieq (fun _ => OK.roret (.inl ⟨by omega, fun h9 => ?_⟩)) (fun _ => ?_)
  · rcases hv with hv | hv
    · exact hv.2 h9.1
    · omega
  have hN : NYS σ w r := by
    rcases hv with hv | hv
    · omega
    · exact hv.2
  refine (bx_holds_24 w r _ σ hM hw hr (by omega) FU 0 (by omega) (fun k f v k1 => by omega)).roq (fun u hu => ?_)
  rcases hu with hu | hu
  · exact .inl ⟨hu.1, fun h9 => hu.2 h9.2⟩
  · exact .inr ⟨hu.1, hN, hu.2⟩
/-- what laying the pairs ends with -/
def PPX (σ : ST) : Prop := ME σ ∧ PC σ 36 ∧ GFX σ (σ.1 35)
theorem bx_lp_72 {k63 : Int32 → ST → Option ST} {P : ST → Prop} (c0 : Nat) : ∀ (n : Nat) (x3 x4 : Int32) (σ : ST), ME σ → PC σ 36 → GMX σ (σ.1 35) → (0 ≤ x4.toInt ∧ x4.toInt ≤ 36 ∧ (36 : Int) - x4.toInt < n) → (x3.toInt = 0 ∨ x3.toInt = 1) → cnt36 σ ≤ c0 → (x3.toInt = 1 → cnt36 σ + 1 ≤ c0) → (x3.toInt = 0 → ∀ (w r : Int32), 0 ≤ w.toInt → w.toInt < 6 → 0 ≤ r.toInt → r.toInt < 6 → 6 * w.toInt + r.toInt < x4.toInt → ¬ σ.1 35 (6 * w.toNatClampNeg + r.toNatClampNeg) = 0 → NYS σ w r ∧ HXP σ (σ.1 35) w r) → (∀ (x3 : Int32) (t : ST), CH [35] [] σ t → ME t → PC t 36 → GMX t (t.1 35) → (x3.toInt = 0 ∧ PPX t ∨ x3.toInt = 1 ∧ cnt36 t + 1 ≤ c0) → OK (k63 x3 t) P) → OK (f_X11_laysPairs_72 k63 n x3 x4 σ) P := by
  intro n
  induction n with
  | zero => intro x3 x4 σ hM hC hG h4; omega
  | succ n ih =>
    intro x3 x4 σ hM hC hG h4 h3 hc hc1 hh hk
    rw [f_X11_laysPairs_72]
    unfold f_X11_laysPairs_116
    have lt_0 := li_0
    have lt_1 := li_1
    have lt_36 := li_36
    refine OK.ile (fun h => ?_) (fun h => ?_)
    · refine hk x3 σ CH.rf hM hC hG ?_
      rcases h3 with h3 | h3
      · refine .inl ⟨h3, hM, hC, fun w r a1 a2 a3 a4 a5 => ?_, hG⟩
        have n1 := nN_ a1
        have n2 := nN_ a3
        have := hC (6 * w.toNatClampNeg + r.toNatClampNeg) (by omega) a5
        exact ⟨⟨by omega, by omega⟩, hh h3 w r a1 a2 a3 a4 (by omega) a5⟩
      · exact .inr ⟨h3, hc1 h3⟩
    have a3 := il_addE (x := x4) (y := 1) (by omega) (by omega)
    obtain ⟨d1, d2⟩ := d6 (x := x4) h4.1 (by omega)
    have n4 := nN_ h4.1
    have n5 := nN_ (x := x4 / 6) (by omega)
    have n6 := nN_ (x := x4 - x4 / 6 * 6) (by omega)
    have same : ∀ w r : Int32, 0 ≤ w.toInt → w.toInt < 6 → 0 ≤ r.toInt → r.toInt < 6 → 6 * w.toInt + r.toInt = x4.toInt → w = x4 / 6 ∧ r = x4 - x4 / 6 * 6 := fun w r a1 a2 a3 a4 a5 => ⟨Int32.toInt_inj.mp (by omega), Int32.toInt_inj.mp (by omega)⟩
    have e66 : 6 * (x4 / 6).toNatClampNeg + (x4 - x4 / 6 * 6).toNatClampNeg = x4.toNatClampNeg := by omega
    refine OK.grd ⟨by omega, by omega⟩ ?_
    refine OK.ite (fun h0 => ?_) (fun h0 => ?_)
    · refine ih _ _ _ hM hC hG (by omega) h3 hc hc1 (fun h30 w r a1 a2 a3 a4 a5 a6 => ?_) hk
      by_cases e : 6 * w.toInt + r.toInt = x4.toInt
      · obtain ⟨rfl, rfl⟩ := same w r a1 a2 a3 a4 e
        rw [e66] at a6
        exact absurd h0 a6
      · exact hh h30 w r a1 a2 a3 a4 (by omega) a6
    · have hp := hC x4.toNatClampNeg (by omega) h0
      have hw : wrec σ (x4 / 6) := wrec_i (by omega) (by omega)
      have hr : rrec σ (x4 - x4 / 6 * 6) := rrec_i (by omega) (by omega)
      refine OK.bndR (bx_holds _ _ σ hM hw hr) (fun v hv => ?_)
      dsimp only
      refine OK.ieq (fun hv0 => ?_) (fun hv0 => ?_)
      · have v0 : (vp_nar .boolean (0 : Int32)) = 0 := rfl
        rw [v0]
        have ch : CH [35] [] σ (stI σ 35 x4.toNatClampNeg 0) := CH.rf.i (by decide) (by decide)
        have hM1 : ME (stI σ 35 x4.toNatClampNeg 0) := ⟨hM.1, hM.2.1, hM.2.2.up (by omega)⟩
        have mono : ∀ k, ¬ (stI σ 35 x4.toNatClampNeg 0).1 35 k = 0 → ¬ σ.1 35 k = 0 := fun k hk => by
          have hk : ¬ upd (σ.1 35) x4.toNatClampNeg 0 k = 0 := hk
          unfold upd at hk
          split at hk
          · exact absurd rfl hk
          · exact hk
        have hlt : cnt36 (stI σ 35 x4.toNatClampNeg 0) + 1 ≤ cnt36 σ := cntZ_lt (p := fun k => ¬ (stI σ 35 x4.toNatClampNeg 0).1 35 k = 0) (q := fun k => ¬ σ.1 35 k = 0) mono (c := x4.toNatClampNeg) (fun h9 => h9 (show upd (σ.1 35) x4.toNatClampNeg 0 x4.toNatClampNeg = 0 from upd_at)) h0 36 (by omega)
        have hG1 : GMX (stI σ 35 x4.toNatClampNeg 0) ((stI σ 35 x4.toNatClampNeg 0).1 35) := by
          intro Q hQ k hk h1
          have hQ0 : PSX σ Q := hQ.tr ch.symm (by decide) (by decide) (by decide)
          have h2 := hG Q hQ0 k hk h1
          show ¬ upd (σ.1 35) x4.toNatClampNeg 0 k = 0
          by_cases e : k = x4.toNatClampNeg
          · subst e
            exfalso
            rw [← e66] at h1
            obtain ⟨y1, y2, y3⟩ := hQ0 _ _ (by omega) (by omega) (by omega) (by omega) h1
            rcases hv with hv | hv
            · exact hv.2 ⟨y2, y3.mono hM hw hr (fun k hk h => hG Q hQ0 k hk h)⟩
            · omega
          · rw [upd_no e]
            exact h2
        refine ih 1 _ _ hM1 (fun k k1 k2 => hC k k1 (mono k k2)) hG1 (by omega) (by omega) (by omega) (fun _ => by omega) (fun h9 => by omega) (fun y t ct => ?_)
        exact hk y t (ch.trans ct)
      · have hH : NYS σ (x4 / 6) (x4 - x4 / 6 * 6) ∧ HXP σ (σ.1 35) (x4 / 6) (x4 - x4 / 6 * 6) := by
          rcases hv with hv | hv
          · omega
          · exact hv.2
        refine ih _ _ _ hM hC hG (by omega) h3 hc hc1 (fun h30 w r a1 a2 a3 a4 a5 a6 => ?_) hk
        by_cases e : 6 * w.toInt + r.toInt = x4.toInt
        · obtain ⟨rfl, rfl⟩ := same w r a1 a2 a3 a4 e
          exact hH
        · exact hh h30 w r a1 a2 a3 a4 (by omega) a6
theorem bx_lp_63 : ∀ (n : Nat) (x3 : Int32) (σ : ST), ME σ → PC σ 36 → GMX σ (σ.1 35) → (x3.toInt = 0 ∧ PPX σ ∨ x3.toInt = 1 ∧ cnt36 σ + 1 < n) → 0 < n → OK (f_X11_laysPairs_63 n x3 σ) (RZ [35] [] σ PPX) := by
  intro n
  induction n with
  | zero => intro x3 σ hM hC hG h h0; omega
  | succ n ih =>
    intro x3 σ hM hC hG h h0
    rw [f_X11_laysPairs_63]
    have lt_0 := li_0
    have lu := FUi
    refine OK.ieq (fun h3 => ?_) (fun h3 => ?_)
    · rcases h with h | h
      · exact OK.zret CH.rf h.2
      · omega
    · have h1 : cnt36 σ + 1 < n + 1 := by omega
      refine bx_lp_72 (cnt36 σ) FU 0 0 σ hM hC hG (by omega) (by omega) (Nat.le_refl _) (fun h9 => by omega) (fun _ w r a1 a2 a3 a4 a5 => by omega) (fun y t ct hMt hCt hGt hy => ?_)
      refine OK.trZ (ih y t hMt hCt hGt ?_ (by omega)) ct (fun _ h => h) (fun _ h => h) (fun _ _ h => h)
      rcases hy with hy | hy
      · exact .inl hy
      · exact .inr ⟨hy.1, by omega⟩
theorem bx_lp_12 (x1 x2 : Int32) : ∀ (n : Nat) (x3 : Int32) (σ : ST), ME σ → x1 = σ.1 0 53 → x2 = σ.1 0 54 → PC σ x3.toInt → (∀ k : Nat, (k : Int) < x3.toInt → ((k : Int) / 6) < rmW σ → ((k : Int) % 6) < rmR σ → ¬ σ.1 35 k = 0) → (0 ≤ x3.toInt ∧ x3.toInt ≤ 36 ∧ (36 : Int) - x3.toInt < n) → OK (f_X11_laysPairs_12 n x1 x2 x3 σ) (RZ [35] [] σ PPX) := by
  intro n
  induction n with
  | zero => intro x3 σ hM h1 h2 hC hD h3; omega
  | succ n ih =>
    intro x3 σ hM h1 h2 hC hD h3
    rw [f_X11_laysPairs_12]
    unfold f_X11_laysPairs_53
    have lt_0 := li_0
    have lt_1 := li_1
    have lt_36 := li_36
    have lu := FUi
    obtain ⟨⟨b11, b12⟩, ⟨b21, b22⟩, b3, b4⟩ := hM.w
    refine OK.ile (fun h => ?_) (fun h => ?_)
    · have e : x3.toInt = 36 := by omega
      rw [e] at hC hD
      have := cntZ_le (p := fun k => ¬ σ.1 35 k = 0) 36
      have e2 : cnt36 σ = cntZ (fun k => ¬ σ.1 35 k = 0) 36 := rfl
      refine bx_lp_63 FU 1 σ hM hC (fun Q hQ k hk h9 => ?_) (.inr ⟨by omega, by omega⟩) (by omega)
      obtain ⟨w, hw⟩ : ∃ w : Nat, w = k / 6 := ⟨_, rfl⟩
      obtain ⟨r, hr⟩ : ∃ r : Nat, r = k % 6 := ⟨_, rfl⟩
      have e6 : k = 6 * w + r := by omega
      have iw := ofNatI (w := w) (by omega)
      have ir := ofNatI (w := r) (by omega)
      have nw : (Int32.ofNat w).toNatClampNeg = w := nC iw
      have nr : (Int32.ofNat r).toNatClampNeg = r := nC ir
      have := hQ (Int32.ofNat w) (Int32.ofNat r) (by omega) (by omega) (by omega) (by omega) (by rw [nw, nr, ← e6]; exact h9)
      exact hD k (by omega) (by omega) (by omega)
    have a3 := il_addE (x := x3) (y := 1) (by omega) (by omega)
    obtain ⟨d1, d2⟩ := d6 (x := x3) h3.1 (by omega)
    have n3 := nN_ h3.1
    have e53 : rmW σ = (σ.1 8 x1.toNatClampNeg).toInt := by rw [h1]; rfl
    have e54 : rmR σ = (σ.1 8 x2.toNatClampNeg).toInt := by rw [h2]; rfl
    have hx1 : x1.toInt = (σ.1 0 53).toInt := by rw [h1]
    have hx2 : x2.toInt = (σ.1 0 54).toInt := by rw [h2]
    have k54 : ∀ y0 : Int32, (y0 = 0 ∧ ¬ ((x3.toInt / 6) < rmW σ ∧ (x3.toInt % 6) < rmR σ) ∨ y0 = 1 ∧ (x3.toInt / 6) < rmW σ ∧ (x3.toInt % 6) < rmR σ) → OK (f_X11_laysPairs_54 (f_X11_laysPairs_12 n) x1 x2 x3 y0 x3 σ) (RZ [35] [] σ PPX) := fun y0 hy => by
      unfold f_X11_laysPairs_54
      have v0 : vp_nar .boolean y0 = y0 := by
        rcases hy with hy | hy
        · rw [hy.1]; rfl
        · rw [hy.1]; rfl
      rw [v0]
      refine OK.grd ⟨by omega, by omega⟩ ?_
      have ch : CH [35] [] σ (stI σ 35 x3.toNatClampNeg y0) := CH.rf.i (by decide) (by decide)
      have yb : y0.toInt = 0 ∨ y0.toInt = 1 := by
        rcases hy with hy | hy
        · rw [hy.1]; omega
        · rw [hy.1]; omega
      refine OK.trZ (ih (x3 + 1) (stI σ 35 x3.toNatClampNeg y0) ⟨hM.1, hM.2.1, hM.2.2.up yb⟩ h1 h2 (fun k k1 k2 => ?_) (fun k k1 k2 k3 => ?_) (by omega)) ch (fun _ h => h) (fun _ h => h) (fun _ _ h => h)
      · have k2 : ¬ upd (σ.1 35) x3.toNatClampNeg y0 k = 0 := k2
        show ((k : Int) / 6) < rmW σ ∧ ((k : Int) % 6) < rmR σ
        unfold upd at k2
        split at k2
        · rename_i e
          rcases hy with hy | hy
          · exact absurd hy.1 k2
          · have : (k : Int) = x3.toInt := by omega
            rw [this]; exact hy.2
        · rename_i e
          exact hC k (by omega) k2
      · have k2 : ((k : Int) / 6) < rmW σ := k2
        have k3 : ((k : Int) % 6) < rmR σ := k3
        show ¬ upd (σ.1 35) x3.toNatClampNeg y0 k = 0
        unfold upd
        split
        · rename_i e
          rcases hy with hy | hy
          · exfalso
            apply hy.2
            have : (k : Int) = x3.toInt := by omega
            rw [← this]
            exact ⟨k2, k3⟩
          · rw [hy.1]; decide
        · rename_i e
          exact hD k (by omega) k2 k3
    refine OK.grd ⟨by omega, by omega⟩ ?_
    refine OK.ile (fun _ => k54 0 (.inl ⟨rfl, by omega⟩)) (fun g1 => ?_)
    refine OK.grd ⟨by omega, by omega⟩ ?_
    refine OK.ile (fun _ => k54 0 (.inl ⟨rfl, by omega⟩)) (fun g2 => ?_)
    exact k54 1 (.inr ⟨rfl, by omega, by omega⟩)
theorem bx_laysPairs (p0 p1 : Int32) (σ : ST) (hP : PLs σ) (hB : PB σ) (h0 : 0 ≤ p0.toInt ∧ p0.toInt < (σ.1 0 32).toInt) (h1 : 0 ≤ p1.toInt ∧ p1.toInt < (σ.1 0 32).toInt) : OK (f_X11_laysPairs p0 p1 σ) (RZ [35] [53, 54] σ fun t => PPX t ∧ t.1 0 53 = p0 ∧ t.1 0 54 = p1) := by
  unfold f_X11_laysPairs
  have lt_0 := li_0
  have lu := FUi
  have hM : ME (stI (stI σ 0 53 p0) 0 54 p1) := ⟨hP.of rfl rfl rfl rfl rfl rfl rfl rfl rfl, ⟨h0, h1⟩, hB⟩
  refine OK.trZ (bx_lp_12 p0 p1 FU 0 (stI (stI σ 0 53 p0) 0 54 p1) hM rfl rfl (fun k k1 => by omega) (fun k k1 => by omega) (by omega)) ((CH.rf.o (by decide)).o (by decide)) (fun _ h => h) (fun _ h => by cases h) (fun t ct hPP => ⟨hPP, ?_, ?_⟩)
  · rw [ct.2.1 53 (by decide)]; rfl
  · rw [ct.2.1 54 (by decide)]; rfl
/-! the class's sets of pairs: bits -/
def lbt (L : Int64) (k : Nat) : Bool := L.toBitVec.getLsbD k
def lb1 (k : Nat) : Int64 := Int64.ofBitVec (1#64 <<< k)
theorem shl1 : ∀ k, k < 36 → (1 : Int64) <<< ((Int32.ofNat k).toInt64 &&& 63) = lb1 k := by decide +kernel
theorem shrk : ∀ (k : Nat), k < 36 → ∀ a : Int64, (a >>> ((Int32.ofNat k).toInt64 &&& 63)).toBitVec = a.toBitVec.sshiftRight k
  | 0, _, _ => rfl
  | 1, _, _ => rfl
  | 2, _, _ => rfl
  | 3, _, _ => rfl
  | 4, _, _ => rfl
  | 5, _, _ => rfl
  | 6, _, _ => rfl
  | 7, _, _ => rfl
  | 8, _, _ => rfl
  | 9, _, _ => rfl
  | 10, _, _ => rfl
  | 11, _, _ => rfl
  | 12, _, _ => rfl
  | 13, _, _ => rfl
  | 14, _, _ => rfl
  | 15, _, _ => rfl
  | 16, _, _ => rfl
  | 17, _, _ => rfl
  | 18, _, _ => rfl
  | 19, _, _ => rfl
  | 20, _, _ => rfl
  | 21, _, _ => rfl
  | 22, _, _ => rfl
  | 23, _, _ => rfl
  | 24, _, _ => rfl
  | 25, _, _ => rfl
  | 26, _, _ => rfl
  | 27, _, _ => rfl
  | 28, _, _ => rfl
  | 29, _, _ => rfl
  | 30, _, _ => rfl
  | 31, _, _ => rfl
  | 32, _, _ => rfl
  | 33, _, _ => rfl
  | 34, _, _ => rfl
  | 35, _, _ => rfl
  | k + 36, h, _ => by omega
theorem lb1_bit {k j : Nat} (hk : k < 64) : (1#64 <<< k).getLsbD j = decide (j = k) := by
  rw [BitVec.getLsbD_shiftLeft, BitVec.getLsbD_one]
  by_cases e : j = k
  · subst e
    simp [hk]
  · by_cases h1 : j < k
    · simp [h1, e]
    · have : ¬ j - k = 0 := by omega
      simp [this, e]
theorem lbt_0 (j : Nat) : lbt 0 j = false := by
  show (0#64).getLsbD j = false
  rw [BitVec.getLsbD_zero]
theorem lbt_or {L : Int64} {k j : Nat} (hk : k < 64) : lbt (L ||| lb1 k) j = (lbt L j || decide (j = k)) := by
  show (L.toBitVec ||| (1#64 <<< k)).getLsbD j = _
  rw [BitVec.getLsbD_or, lb1_bit hk]
  rfl
theorem lbt_off {L : Int64} {k j : Nat} (hk : k < 64) (hj : j < 64) : lbt (L &&& (lb1 k ^^^ -1)) j = (lbt L j && !decide (j = k)) := by
  show (L.toBitVec &&& ((1#64 <<< k) ^^^ (-1 : Int64).toBitVec)).getLsbD j = _
  have e : (-1 : Int64).toBitVec = BitVec.allOnes 64 := by decide
  rw [BitVec.getLsbD_and, BitVec.getLsbD_xor, lb1_bit hk, e, BitVec.getLsbD_allOnes]
  simp [hj]
  rfl
theorem lbt_ext {L M : Int64} (h : ∀ j, j < 64 → lbt L j = lbt M j) : L = M := by
  have e : L.toBitVec = M.toBitVec := BitVec.eq_of_getLsbD_eq h
  exact Int64.toBitVec_inj.mp e
theorem lbt_and {L : Int64} {k : Nat} (hk : k < 64) : (L &&& lb1 k) = 0 ↔ lbt L k = false := by
  constructor
  · intro h
    have e : lbt (L &&& lb1 k) k = lbt 0 k := by rw [h]
    rw [lbt_0] at e
    have e2 : lbt (L &&& lb1 k) k = (lbt L k && decide (k = k)) := by
      show (L.toBitVec &&& (1#64 <<< k)).getLsbD k = _
      rw [BitVec.getLsbD_and, lb1_bit hk]
      rfl
    rw [e2] at e
    simpa using e
  · intro h
    refine lbt_ext (fun j hj => ?_)
    rw [lbt_0]
    show (L.toBitVec &&& (1#64 <<< k)).getLsbD j = _
    rw [BitVec.getLsbD_and, lb1_bit hk]
    by_cases e : j = k
    · subst e
      have h : L.toBitVec.getLsbD j = false := h
      rw [h]
      rfl
    · simp [e]
theorem lbt_shr {L : Int64} {k : Nat} (hk : k < 36) : ((L >>> ((Int32.ofNat k).toInt64 &&& 63)) &&& 1) = 0 ↔ lbt L k = false := by
  have h1 : (1 : Int64) = lb1 0 := by decide
  rw [h1, lbt_and (by omega)]
  have e : lbt (L >>> ((Int32.ofNat k).toInt64 &&& 63)) 0 = lbt L k := by
    show (L >>> ((Int32.ofNat k).toInt64 &&& 63)).toBitVec.getLsbD 0 = _
    rw [shrk k hk, BitVec.getLsbD_sshiftRight]
    have : k + 0 < 64 := by omega
    have h64 : k < 64 := by omega
    simp [this, h64]
    rfl
  rw [e]
/-- a set of pairs, as the reference keeps one -/
def RBX (L : Int64) (k : Nat) : Int32 := if lbt L k = true then 1 else 0
theorem RBX_iff {L : Int64} {k : Nat} : RBX L k = 0 ↔ lbt L k = false := by
  unfold RBX
  cases lbt L k with
  | true => exact ⟨fun h => absurd h (by decide), fun h => absurd h (by decide)⟩
  | false => exact ⟨fun _ => rfl, fun _ => rfl⟩
theorem a_bitOf (p0 p1 : Int32) (σ : ST) {a b : Nat} (h0 : p0.toInt = a) (h1 : p1.toInt = b) (ha : a < 36) (hb : b < 36) : f_X0_bitOf p0 p1 σ = some (lb1 (6 * (a % 6) + b % 6), σ) := by
  unfold f_X0_bitOf
  obtain ⟨v, e1, hv⟩ := a_floorMod p0 σ h0 ha
  obtain ⟨u, e2, hu⟩ := a_floorMod p1 σ h1 hb
  have l6 := li_6
  rw [e1, sbnd]
  dsimp only
  rw [e2, sbnd]
  dsimp only
  have m1 : (v * 6).toInt = 6 * v.toInt := by
    rw [Int32.mul_comm]
    exact mlE (k := 6) (y := v) 6 l6 (by omega) (by omega)
  have m2 := il_addE (x := v * 6) (y := u) (by omega) (by omega)
  have e3 : v * 6 + u = Int32.ofNat (6 * (a % 6) + b % 6) := intOf (by omega) (by omega)
  rw [e3, shl1 _ (by omega)]
theorem a_has {L : Int64} {k : Nat} (hk : k < 64) : (lg_cmp (L &&& lb1 k) 0) = 0 ↔ lbt L k = false := by
  rw [lg_cmp_eq, lbt_and hk]
/-! what the class's matcher answers of two types -/
/-- the first that is alike, else the first: as far as k -/
def CHI (k : Nat) (m e : Nat → Prop) (val : Nat → Int) (z : Int) : Prop := (∀ j, j < k → ¬ (m j ∧ e j)) ∧ (z = -1 ∧ (∀ j, j < k → ¬ m j) ∨ ∃ i, i < k ∧ z = val i ∧ m i ∧ ∀ j, j < i → ¬ m j)
/-- and in the end -/
def CHR (M : Nat) (m e : Nat → Prop) (val : Nat → Int) (z : Int) : Prop := z = -1 ∧ (∀ j, j < M → ¬ m j) ∨ ∃ i, i < M ∧ z = val i ∧ m i ∧ (e i ∧ (∀ j, j < i → ¬ (m j ∧ e j)) ∨ (∀ j, j < M → ¬ (m j ∧ e j)) ∧ ∀ j, j < i → ¬ m j)
theorem CHI.zero {m e : Nat → Prop} {val : Nat → Int} : CHI 0 m e val (-1) := ⟨fun j h => by omega, .inl ⟨rfl, fun j h => by omega⟩⟩
theorem CHI.fin {M : Nat} {m e : Nat → Prop} {val : Nat → Int} {z : Int} (h : CHI M m e val z) : CHR M m e val z := by
  obtain ⟨h1, h2 | ⟨i, a, b, c, d⟩⟩ := h
  · exact .inl h2
  · exact .inr ⟨i, a, b, c, .inr ⟨h1, d⟩⟩
theorem CHI.hit {k M : Nat} {m e : Nat → Prop} {val : Nat → Int} {z y : Int} (h : CHI k m e val z) (hk : k < M) (hm : m k) (he : e k) (hy : y = val k) : CHR M m e val y := .inr ⟨k, hk, hy, hm, .inl ⟨he, h.1⟩⟩
theorem CHI.miss {k : Nat} {m e : Nat → Prop} {val : Nat → Int} {z : Int} (h : CHI k m e val z) (hm : ¬ m k) : CHI (k + 1) m e val z := by
  obtain ⟨h1, h2⟩ := h
  refine ⟨fun j hj => ?_, ?_⟩
  · by_cases e : j = k
    · subst e
      exact fun h => hm h.1
    · exact h1 j (by omega)
  · rcases h2 with ⟨a, b⟩ | ⟨i, a, b, c, d⟩
    · refine .inl ⟨a, fun j hj => ?_⟩
      by_cases e : j = k
      · subst e
        exact hm
      · exact b j (by omega)
    · exact .inr ⟨i, by omega, b, c, d⟩
theorem CHI.take {k : Nat} {m e : Nat → Prop} {val : Nat → Int} {z y : Int} (h : CHI k m e val z) (hm : m k) (he : ¬ e k) (h0 : ∀ i, i < k → 0 ≤ val i) (hy : z = -1 → y = val k) (hn : ¬ z = -1 → y = z) : CHI (k + 1) m e val y := by
  obtain ⟨h1, h2⟩ := h
  refine ⟨fun j hj => ?_, ?_⟩
  · by_cases e : j = k
    · subst e
      exact fun h => he h.2
    · exact h1 j (by omega)
  · rcases h2 with ⟨a, b⟩ | ⟨i, a, b, c, d⟩
    · exact .inr ⟨k, by omega, hy a, hm, b⟩
    · have := h0 i a
      exact .inr ⟨i, by omega, (hn (by omega)).trans b, c, d⟩
theorem CHR.uniq {M : Nat} {m e : Nat → Prop} {u v : Nat → Int} {z y : Int} (h : CHR M m e u z) (k : CHR M m e v y) : z = -1 ∧ y = -1 ∨ ∃ i, i < M ∧ z = u i ∧ y = v i ∧ m i := by
  rcases h with ⟨a, b⟩ | ⟨i, a, b, c, d⟩
  · rcases k with ⟨a', b'⟩ | ⟨i', a', b', c', d'⟩
    · exact .inl ⟨a, a'⟩
    · exact absurd c' (b i' a')
  · rcases k with ⟨a', b'⟩ | ⟨i', a', b', c', d'⟩
    · exact absurd c (b' i a)
    · have e : i = i' := by
        rcases d with ⟨d1, d2⟩ | ⟨d1, d2⟩ <;> rcases d' with ⟨d1', d2'⟩ | ⟨d1', d2'⟩
        · by_cases h1 : i < i'
          · exact absurd ⟨c, d1⟩ (d2' i h1)
          · by_cases h2 : i' < i
            · exact absurd ⟨c', d1'⟩ (d2 i' h2)
            · omega
        · exact absurd ⟨c, d1⟩ (d1' i a)
        · exact absurd ⟨c', d1'⟩ (d1 i' a')
        · by_cases h1 : i < i'
          · exact absurd c (d2' i h1)
          · by_cases h2 : i' < i
            · exact absurd c' (d2 i' h2)
            · omega
      subst e
      exact .inr ⟨i, a, b, b', c⟩
/-- two types of the reference, the pairs being PR -/
abbrev MTt (τ : ST) (PR : Nat → Int32) (w r : Int32) : Prop := MT (τ.1 2) (τ.1 3) (τ.1 4) (τ.1 5) PR w r
def cFits (N : Nat) (rf : Int32 → Int32 → Int32 → ST → Option (Int32 × ST)) (p q : Nat) (a b : Int) (σ τ : ST) (PR : Nat → Int32) : Prop := ∀ (x y u v lev : Int32) (d e : Nat), TY p a σ τ d x u → TY q b σ τ e y v → 0 ≤ lev.toInt → lev.toInt + d + 2 * e ≤ 13 → d + 2 * e ≤ N → OK (rf x y lev σ) (RO σ fun z => z.toInt = 0 ∧ ¬ MTt τ PR u v ∨ z.toInt = 1 ∧ MTt τ PR u v)
def cChn (N : Nat) (rc : Int32 → Int32 → Int32 → ST → Option (Int32 × ST)) (p q : Nat) (a b : Int) (σ τ : ST) (PR : Nat → Int32) : Prop := ∀ (x y u v lev : Int32) (d e : Nat), TY p a σ τ d x u → TY q b σ τ e y v → (τ.1 2 v.toNatClampNeg).toInt = 8 → 0 ≤ lev.toInt → lev.toInt + d + 2 * e ≤ 14 → d + 2 * e ≤ N + 1 → OK (rc x y lev σ) (RO σ fun z => CHR (τ.1 4 v.toNatClampNeg).toInt.toNat (fun k => MTt τ PR u (τ.1 5 (4 * v.toNatClampNeg + k))) (fun k => (τ.1 2 (τ.1 5 (4 * v.toNatClampNeg + k)).toNatClampNeg).toInt = (τ.1 2 u.toNatClampNeg).toInt) (fun k => (chn (σ.1 17) (σ.1 16 y.toNatClampNeg) k).toInt) z.toInt)
theorem chn_v {q e : Nat} {b : Int} {σ τ : ST} {y v : Int32} (h : TY q b σ τ e y v) (h8 : (τ.1 2 v.toNatClampNeg).toInt = 8) : ∃ m : Nat, 1 ≤ m ∧ m ≤ 4 ∧ 1 ≤ e ∧ (τ.1 4 v.toNatClampNeg).toInt = m ∧ (∀ k : Nat, k < m → TY q b σ τ (e - 1) (chn (σ.1 17) (σ.1 16 y.toNatClampNeg) k) (τ.1 5 (4 * v.toNatClampNeg + k)) ∧ ¬ (τ.1 2 (τ.1 5 (4 * v.toNatClampNeg + k)).toNatClampNeg).toInt = 8) ∧ (chn (σ.1 17) (σ.1 16 y.toNatClampNeg) m).toInt = -1 := by
  cases e with
  | zero => exact h.elim
  | succ e =>
    obtain ⟨u1, u2, u3, _⟩ := h.2.2.2.2.2.2 h8
    obtain ⟨m, hm⟩ : ∃ m : Nat, (τ.1 4 v.toNatClampNeg).toInt = m := ⟨_, (Int.toNat_of_nonneg (by omega)).symm⟩
    have em : (τ.1 4 v.toNatClampNeg).toInt.toNat = m := by omega
    rw [em] at u3
    exact ⟨m, by omega, by omega, by omega, hm, fun k hk => u2 k (by omega), u3⟩
theorem TY.sort {q e : Nat} {b : Int} {σ τ : ST} {y v : Int32} (h : TY q b σ τ e y v) (hn : (σ.1 4 1).toInt ≤ 262) : f_X5_sortOf 4 y σ = some (τ.1 2 v.toNatClampNeg, σ) ∧ f_X5_innerOf 4 y σ = some (σ.1 16 y.toNatClampNeg, σ) ∧ (0 ≤ (τ.1 2 v.toNatClampNeg).toInt ∧ (τ.1 2 v.toNatClampNeg).toInt ≤ 8) ∧ 1 ≤ e := by
  cases e with
  | zero => exact h.elim
  | succ e =>
    obtain ⟨⟨h1, h2⟩, h3, h4, _⟩ := h
    exact ⟨by rw [a4_sortOf y σ h1 hn, h3], a4_innerOf y σ h1 hn, h4, by omega⟩
theorem a_chosen_16 {N p q : Nat} {a b : Int} {σ τ : ST} {PR : Nat → Int32} {rc rf : Int32 → Int32 → Int32 → ST → Option (Int32 × ST)} (hf : cFits N rf p q a b σ τ PR) (hn : (σ.1 4 1).toInt ≤ 262) (x u y v lev : Int32) (d e m : Nat) (hx : TY p a σ τ d x u) (hm : m ≤ 4) (hM : (τ.1 4 v.toNatClampNeg).toInt = m) (hv : ∀ k : Nat, k < m → TY q b σ τ e (chn (σ.1 17) (σ.1 16 y.toNatClampNeg) k) (τ.1 5 (4 * v.toNatClampNeg + k)) ∧ ¬ (τ.1 2 (τ.1 5 (4 * v.toNatClampNeg + k)).toNatClampNeg).toInt = 8) (hz : (chn (σ.1 17) (σ.1 16 y.toNatClampNeg) m).toInt = -1) (hl : 0 ≤ lev.toInt) (hl2 : lev.toInt + d + 2 * e ≤ 12) (hN : d + 2 * e ≤ N) : ∀ (n k : Nat) (x4 x6 : Int32), x6.toInt = k → k ≤ m → m < n + k → CHI k (fun k => MTt τ PR u (τ.1 5 (4 * v.toNatClampNeg + k))) (fun k => (τ.1 2 (τ.1 5 (4 * v.toNatClampNeg + k)).toNatClampNeg).toInt = (τ.1 2 u.toNatClampNeg).toInt) (fun k => (chn (σ.1 17) (σ.1 16 y.toNatClampNeg) k).toInt) x4.toInt → OK (f_X0_chosenWithin_16 rc rf n x lev x4 (chn (σ.1 17) (σ.1 16 y.toNatClampNeg) k) x6 σ) (RO σ fun z => CHR m (fun k => MTt τ PR u (τ.1 5 (4 * v.toNatClampNeg + k))) (fun k => (τ.1 2 (τ.1 5 (4 * v.toNatClampNeg + k)).toNatClampNeg).toInt = (τ.1 2 u.toNatClampNeg).toInt) (fun k => (chn (σ.1 17) (σ.1 16 y.toNatClampNeg) k).toInt) z.toInt) := by
  intro n
  have l0 := li_0
  have lm := li_m1
  have l1 := li_1
  have l4 := li_4
  induction n with
  | zero => intro k x4 x6 h1 h2 h3; omega
  | succ n ih =>
    intro k x4 x6 h1 h2 h3 hI
    rw [f_X0_chosenWithin_16]
    unfold f_X0_chosenWithin_77 f_X0_chosenWithin_79
    by_cases ek : k = m
    · subst ek
      refine OK.ile (fun _ => OK.roret hI.fin) (fun _ => ?_)
      exact OK.ieq (fun _ => OK.roret hI.fin) (fun h => by omega)
    obtain ⟨t1, t2⟩ := hv k (by omega)
    have r1 := t1.rng
    refine OK.ile (fun h => by omega) (fun _ => ?_)
    refine OK.ieq (fun h => by omega) (fun _ => ?_)
    have el := il_addE (x := lev) (y := 1) (by omega) (by omega)
    have e6 := il_addE (x := x6) (y := 1) (by omega) (by omega)
    refine OK.bndR (hf x _ u _ (lev + 1) d e hx t1 (by omega) (by omega) (by omega)) (fun w hw => ?_)
    dsimp only
    have hba := a4_branchAfter _ σ r1.1 hn
    have nx : ∀ z, CHI (k + 1) (fun k => MTt τ PR u (τ.1 5 (4 * v.toNatClampNeg + k))) (fun k => (τ.1 2 (τ.1 5 (4 * v.toNatClampNeg + k)).toNatClampNeg).toInt = (τ.1 2 u.toNatClampNeg).toInt) (fun k => (chn (σ.1 17) (σ.1 16 y.toNatClampNeg) k).toInt) (Int32.toInt z) → OK (f_X0_chosenWithin_16 rc rf n x lev z (σ.1 17 (chn (σ.1 17) (σ.1 16 y.toNatClampNeg) k).toNatClampNeg) (x6 + 1) σ) (RO σ fun z => CHR m (fun k => MTt τ PR u (τ.1 5 (4 * v.toNatClampNeg + k))) (fun k => (τ.1 2 (τ.1 5 (4 * v.toNatClampNeg + k)).toNatClampNeg).toInt = (τ.1 2 u.toNatClampNeg).toInt) (fun k => (chn (σ.1 17) (σ.1 16 y.toNatClampNeg) k).toInt) z.toInt) := fun z hz => ih (k + 1) z (x6 + 1) (by omega) (by omega) (by omega) hz
    have s1 := (t1.sort hn).1
    have s2 := (hx.sort hn).1
    refine OK.ieq (fun hw0 => ?_) (fun hw0 => ?_)
    · rw [hba, sbnd]
      refine nx x4 (hI.miss ?_)
      rcases hw with hw | hw
      · exact hw.2
      · omega
    have hmt : MTt τ PR u (τ.1 5 (4 * v.toNatClampNeg + k)) := by
      rcases hw with hw | hw
      · omega
      · exact hw.2
    rw [s1, sbnd]
    dsimp only
    rw [s2, sbnd]
    dsimp only
    have h0 : ∀ i, i < k → 0 ≤ (chn (σ.1 17) (σ.1 16 y.toNatClampNeg) i).toInt := fun i hi => (hv i (by omega)).1.rng.1.1
    refine OK.ieq (fun he => OK.roret (hI.hit (by omega) hmt he rfl)) (fun he => ?_)
    refine OK.ieq (fun hz => ?_) (fun hz => ?_)
    · rw [hba, sbnd]
      exact nx _ (hI.take hmt he h0 (fun _ => rfl) (fun h => by omega))
    · rw [hba, sbnd]
      exact nx _ (hI.take hmt he h0 (fun h => by omega) (fun _ => rfl))
theorem a_chosen_top {N p q : Nat} {a b : Int} {σ τ : ST} {PR : Nat → Int32} {rc rf : Int32 → Int32 → Int32 → ST → Option (Int32 × ST)} (hf : cFits N rf p q a b σ τ PR) (hn : (σ.1 4 1).toInt ≤ 262) : cChn (N + 1) (f_X0_chosenWithin rc rf) p q a b σ τ PR := by
  intro x y u v lev d e hx hy h8 hl hl2 hN
  unfold f_X0_chosenWithin
  obtain ⟨m, m1, m2, m3, m4, m5, m6⟩ := chn_v hy h8
  have lu := FUi
  rw [(hy.sort hn).2.1, sbnd]
  dsimp only
  have em : (τ.1 4 v.toNatClampNeg).toInt.toNat = m := by omega
  rw [em]
  exact a_chosen_16 hf hn x u y v lev d (e - 1) m hx m2 m4 m5 m6 hl (by omega) (by omega) FU 0 (-1) 0 li_0 (by omega) (by omega) (by rw [li_m1]; exact CHI.zero)
theorem a_fits_48 {N p q : Nat} {a b : Int} {σ τ : ST} {PR : Nat → Int32} {rc rf : Int32 → Int32 → Int32 → ST → Option (Int32 × ST)} (hf : cFits N rf p q a b σ τ PR) (hn : (σ.1 4 1).toInt ≤ 262) (x u y v lev : Int32) (d e m : Nat) (hy : TY q b σ τ e y v) (hm : m ≤ 4) (hv : ∀ k : Nat, k < m → TY p a σ τ d (chn (σ.1 17) (σ.1 16 x.toNatClampNeg) k) (τ.1 5 (4 * u.toNatClampNeg + k)) ∧ ¬ (τ.1 2 (τ.1 5 (4 * u.toNatClampNeg + k)).toNatClampNeg).toInt = 8) (hz : (chn (σ.1 17) (σ.1 16 x.toNatClampNeg) m).toInt = -1) (hl : 0 ≤ lev.toInt) (hl2 : lev.toInt + d + 2 * e ≤ 12) (hN : d + 2 * e ≤ N) : ∀ (n k : Nat) (x7 : Int32), x7.toInt = k → k ≤ m → m < n + k → (∀ j, j < k → ¬ MTt τ PR (τ.1 5 (4 * u.toNatClampNeg + j)) v) → OK (f_X0_fitsWithin_48 rc rf n y lev (chn (σ.1 17) (σ.1 16 x.toNatClampNeg) k) x7 σ) (RO σ fun z => z.toInt = 0 ∧ (∀ j, j < m → ¬ MTt τ PR (τ.1 5 (4 * u.toNatClampNeg + j)) v) ∨ z.toInt = 1 ∧ ∃ j, j < m ∧ MTt τ PR (τ.1 5 (4 * u.toNatClampNeg + j)) v) := by
  intro n
  have l0 := li_0
  have lm := li_m1
  have l1 := li_1
  have l4 := li_4
  induction n with
  | zero => intro k x7 h1 h2 h3; omega
  | succ n ih =>
    intro k x7 h1 h2 h3 hI
    rw [f_X0_fitsWithin_48]
    by_cases ek : k = m
    · subst ek
      refine OK.ile (fun _ => OK.roret (.inl ⟨l0, hI⟩)) (fun _ => ?_)
      exact OK.ieq (fun _ => OK.roret (.inl ⟨l0, hI⟩)) (fun h => by omega)
    obtain ⟨t1, t2⟩ := hv k (by omega)
    have r1 := t1.rng
    refine OK.ile (fun h => by omega) (fun _ => ?_)
    refine OK.ieq (fun h => by omega) (fun _ => ?_)
    have el := il_addE (x := lev) (y := 1) (by omega) (by omega)
    have e6 := il_addE (x := x7) (y := 1) (by omega) (by omega)
    refine OK.bndR (hf _ y _ v (lev + 1) d e t1 hy (by omega) (by omega) (by omega)) (fun w hw => ?_)
    dsimp only
    refine OK.ieq (fun hw0 => ?_) (fun hw0 => ?_)
    · rw [a4_branchAfter _ σ r1.1 hn, sbnd]
      refine ih (k + 1) (x7 + 1) (by omega) (by omega) (by omega) (fun j hj => ?_)
      by_cases e : j = k
      · subst e
        rcases hw with hw | hw
        · exact hw.2
        · omega
      · exact hI j (by omega)
    · refine OK.roret (.inr ⟨l1, k, by omega, ?_⟩)
      rcases hw with hw | hw
      · omega
      · exact hw.2
theorem a_plainFits (p0 p1 : Int32) (σ : ST) (h0 : 0 ≤ p0.toInt) (h6 : p0.toInt ≤ 5 ∨ ¬ p0.toInt = p1.toInt) (h8 : ¬ p0.toInt = 8) : OK (f_X0_plainFits p0 p1 σ) (RO σ fun z => z.toInt = 0 ∧ ¬ (p0.toInt = p1.toInt ∨ p0.toInt = 2 ∧ (p1.toInt = 3 ∨ p1.toInt = 4) ∨ p0.toInt = 3 ∧ p1.toInt = 4) ∨ z.toInt = 1 ∧ (p0.toInt = p1.toInt ∨ p0.toInt = 2 ∧ (p1.toInt = 3 ∨ p1.toInt = 4) ∨ p0.toInt = 3 ∧ p1.toInt = 4)) := by
  unfold f_X0_plainFits f_X0_plainFits_31 f_X0_plainFits_41
  have l0 := li_0
  have l1 := li_1
  have l2 := li_2
  have l3 := li_3
  have l4 := li_4
  have l5 := li_5
  refine OK.ilt (fun h => by omega) (fun _ => ?_)
  refine OK.ile (fun h => ?_) (fun h => OK.roret (.inl ⟨l0, by omega⟩))
  refine OK.ieq (fun h1 => OK.roret (.inr ⟨l1, by omega⟩)) (fun h1 => ?_)
  refine OK.ieq (fun h2 => ?_) (fun h2 => ?_)
  · refine OK.ieq (fun h3 => OK.roret (.inr ⟨l1, by omega⟩)) (fun h3 => ?_)
    refine OK.ieq (fun h4 => OK.roret (.inr ⟨l1, by omega⟩)) (fun h4 => ?_)
    refine OK.ieq (fun h5 => ?_) (fun h5 => OK.roret (.inl ⟨l0, by omega⟩))
    exact OK.ieq (fun h3 => OK.roret (.inr ⟨l1, by omega⟩)) (fun h3 => OK.roret (.inl ⟨l0, by omega⟩))
  · refine OK.ieq (fun h5 => ?_) (fun h5 => OK.roret (.inl ⟨l0, by omega⟩))
    exact OK.ieq (fun h3 => OK.roret (.inr ⟨l1, by omega⟩)) (fun h3 => OK.roret (.inl ⟨l0, by omega⟩))
theorem a_fits_top {N p q : Nat} {a b : Int} {σ τ : ST} {PR : Nat → Int32} {rc rf : Int32 → Int32 → Int32 → ST → Option (Int32 × ST)} (hf : cFits N rf p q a b σ τ PR) (hc : cChn N rc p q a b σ τ PR) (hn : (σ.1 4 1).toInt ≤ 262) (hp : p < 6) (hq : q < 6) (ha : a ≤ 6) (hb : b ≤ 6) (hPR : ∀ k, k < 36 → (PR k = 0 ↔ lbt (σ.2.1 41 4) k = false)) : cFits (N + 1) (f_X0_fitsWithin rc rf) p q a b σ τ PR := by
  intro x y u v lev d e hx hy hl hl2 hN
  unfold f_X0_fitsWithin
  obtain ⟨x1, x2, x3, x4⟩ := hx.sort hn
  obtain ⟨y1, y2, y3, y4⟩ := hy.sort hn
  have l0 := li_0
  have l1 := li_1
  have lm := li_m1
  have l6 := li_6
  have l7 := li_7
  have l8 := li_8
  have l10 := li_10
  have lu := FUi
  have el := il_addE (x := lev) (y := 1) (by omega) (by omega)
  refine OK.ile (fun _ => ?_) (fun h => by omega)
  rw [x1, sbnd]
  dsimp only
  rw [y1, sbnd]
  dsimp only
  refine OK.ieq (fun hw8 => ?_) (fun hw8 => ?_)
  · have hw8 : (τ.1 2 u.toNatClampNeg).toInt = 8 := by omega
    obtain ⟨m, m1, m2, m3, m4, m5, m6⟩ := chn_v hx hw8
    rw [x2, sbnd]
    dsimp only
    refine (a_fits_48 hf hn x u y v lev (d - 1) e m hy m2 m5 m6 hl (by omega) (by omega) FU 0 0 l0 (by omega) (by omega) (fun j hj => by omega)).roq (fun z hz => ?_)
    rcases hz with ⟨z1, z2⟩ | ⟨z1, j, z2, z3⟩
    · refine .inl ⟨z1, fun h => ?_⟩
      obtain ⟨k, k1, k2⟩ := (MT.iffW hw8).mp h
      exact z2 k (by omega) k2
    · exact .inr ⟨z1, (MT.iffW hw8).mpr ⟨j, by omega, z3⟩⟩
  have hw8 : ¬ (τ.1 2 u.toNatClampNeg).toInt = 8 := by omega
  refine OK.ieq (fun hv8 => ?_) (fun hv8 => ?_)
  · have hv8 : (τ.1 2 v.toNatClampNeg).toInt = 8 := by omega
    obtain ⟨m, m1, m2, m3, m4, m5, m6⟩ := chn_v hy hv8
    refine OK.bndR (hc x y u v (lev + 1) d e hx hy hv8 (by omega) (by omega) (by omega)) (fun z hz => ?_)
    dsimp only
    have em : (τ.1 4 v.toNatClampNeg).toInt.toNat = m := by omega
    rw [em] at hz
    refine OK.ieq (fun hz0 => OK.roret (.inl ⟨l0, fun h => ?_⟩)) (fun hz0 => OK.roret (.inr ⟨l1, ?_⟩))
    · obtain ⟨k, k1, k2⟩ := (MT.iffR hw8 hv8).mp h
      rcases hz with ⟨_, hz⟩ | ⟨i, i1, i2, _⟩
      · exact hz k (by omega) k2
      · have i2 : z.toInt = (chn (σ.1 17) (σ.1 16 y.toNatClampNeg) i).toInt := i2
        have := (m5 i i1).1.rng
        omega
    · rcases hz with ⟨hz, _⟩ | ⟨i, i1, i2, i3, _⟩
      · omega
      · exact (MT.iffR hw8 hv8).mpr ⟨i, by omega, i3⟩
  have hv8 : ¬ (τ.1 2 v.toNatClampNeg).toInt = 8 := by omega
  have h158 : ¬ ((τ.1 2 u.toNatClampNeg).toInt = 6 ∧ (τ.1 2 v.toNatClampNeg).toInt = 6) → OK (f_X0_fitsWithin_158 rc rf x y (τ.1 2 u.toNatClampNeg) (τ.1 2 v.toNatClampNeg) σ) (RO σ fun z => z.toInt = 0 ∧ ¬ MTt τ PR u v ∨ z.toInt = 1 ∧ MTt τ PR u v) := fun h66 => by
    unfold f_X0_fitsWithin_158 f_X0_fitsWithin_207
    have h207 : ¬ ((τ.1 2 u.toNatClampNeg).toInt = 7 ∧ (τ.1 2 v.toNatClampNeg).toInt = 7) → OK ((f_X0_plainFits (τ.1 2 u.toNatClampNeg) (τ.1 2 v.toNatClampNeg) σ).bind fun q1 => if q1.1 = 0 ∨ q1.1 = 1 then some (q1.1, q1.2) else none) (RO σ fun z => z.toInt = 0 ∧ ¬ MTt τ PR u v ∨ z.toInt = 1 ∧ MTt τ PR u v) := fun h77 => by
      refine OK.bndR (a_plainFits _ _ σ x3.1 (by omega) hw8) (fun z hz => ?_)
      dsimp only
      refine OK.grd (b01 (hz.elim (fun h => .inl h.1) (fun h => .inr h.1))) ?_
      refine OK.roret ?_
      rcases hz with ⟨z1, z2⟩ | ⟨z1, z2⟩
      · exact .inl ⟨z1, fun h => z2 ((MT.iffE hw8 hv8 h66 h77).mp h)⟩
      · exact .inr ⟨z1, (MT.iffE hw8 hv8 h66 h77).mpr z2⟩
    refine OK.ieq (fun hw7 => ?_) (fun hw7 => h207 (by omega))
    refine OK.ieq (fun hv7 => ?_) (fun hv7 => h207 (by omega))
    have hw7 : (τ.1 2 u.toNatClampNeg).toInt = 7 := by omega
    have hv7 : (τ.1 2 v.toNatClampNeg).toInt = 7 := by omega
    rw [x2, sbnd]
    dsimp only
    rw [y2, sbnd]
    dsimp only
    have rx : (0 ≤ (τ.1 3 u.toNatClampNeg).toInt ∧ (τ.1 3 u.toNatClampNeg).toInt < a) ∧ (σ.1 16 x.toNatClampNeg).toInt = 6 * (p : Int) + (τ.1 3 u.toNatClampNeg).toInt := by
      cases d with
      | zero => exact hx.elim
      | succ d => exact hx.2.2.2.2.1 hw7
    have ry : (0 ≤ (τ.1 3 v.toNatClampNeg).toInt ∧ (τ.1 3 v.toNatClampNeg).toInt < b) ∧ (σ.1 16 y.toNatClampNeg).toInt = 6 * (q : Int) + (τ.1 3 v.toNatClampNeg).toInt := by
      cases e with
      | zero => exact hy.elim
      | succ e => exact hy.2.2.2.2.1 hv7
    have n1 := nN_ rx.1.1
    have n2 := nN_ ry.1.1
    rw [a_bitOf _ _ σ (a := 6 * p + (τ.1 3 u.toNatClampNeg).toNatClampNeg) (b := 6 * q + (τ.1 3 v.toNatClampNeg).toNatClampNeg) (by omega) (by omega) (by omega) (by omega), sbnd]
    dsimp only
    have ek : 6 * ((6 * p + (τ.1 3 u.toNatClampNeg).toNatClampNeg) % 6) + (6 * q + (τ.1 3 v.toNatClampNeg).toNatClampNeg) % 6 = 6 * (τ.1 3 u.toNatClampNeg).toNatClampNeg + (τ.1 3 v.toNatClampNeg).toNatClampNeg := by omega
    rw [ek]
    have hk := hPR (6 * (τ.1 3 u.toNatClampNeg).toNatClampNeg + (τ.1 3 v.toNatClampNeg).toNatClampNeg) (by omega)
    refine OK.ite (fun h => OK.roret (.inl ⟨l0, fun h9 => ?_⟩)) (fun h => OK.roret (.inr ⟨l1, ?_⟩))
    · rw [a_has (by omega)] at h
      exact (MT.iffP hw7 hv7).mp h9 (hk.mpr h)
    · rw [a_has (by omega)] at h
      exact (MT.iffP hw7 hv7).mpr (fun h9 => h (hk.mp h9))
  refine OK.ieq (fun hw6 => ?_) (fun hw6 => h158 (by omega))
  refine OK.ieq (fun hv6 => ?_) (fun hv6 => h158 (by omega))
  have hw6 : (τ.1 2 u.toNatClampNeg).toInt = 6 := by omega
  have hv6 : (τ.1 2 v.toNatClampNeg).toInt = 6 := by omega
  rw [x2, sbnd]
  dsimp only
  rw [y2, sbnd]
  dsimp only
  have tx : TY p a σ τ (d - 1) (σ.1 16 x.toNatClampNeg) (τ.1 3 u.toNatClampNeg) := by
    cases d with
    | zero => exact hx.elim
    | succ d => exact hx.2.2.2.1 hw6
  have ty : TY q b σ τ (e - 1) (σ.1 16 y.toNatClampNeg) (τ.1 3 v.toNatClampNeg) := by
    cases e with
    | zero => exact hy.elim
    | succ e => exact hy.2.2.2.1 hv6
  refine OK.bndR (hf _ _ _ _ (lev + 1) (d - 1) (e - 1) tx ty (by omega) (by omega) (by omega)) (fun z hz => ?_)
  dsimp only
  refine OK.grd (b01 (hz.elim (fun h => .inl h.1) (fun h => .inr h.1))) ?_
  refine OK.roret ?_
  rcases hz with ⟨z1, z2⟩ | ⟨z1, z2⟩
  · exact .inl ⟨z1, fun h => z2 ((MT.iffL hw6 hv6).mp h)⟩
  · exact .inr ⟨z1, (MT.iffL hw6 hv6).mpr z2⟩
theorem a_RF {p q : Nat} {a b : Int} {σ τ : ST} {PR : Nat → Int32} (hn : (σ.1 4 1).toInt ≤ 262) (hp : p < 6) (hq : q < 6) (ha : a ≤ 6) (hb : b ≤ 6) (hPR : ∀ k, k < 36 → (PR k = 0 ↔ lbt (σ.2.1 41 4) k = false)) : ∀ N : Nat, cChn N (R_X0_chosenWithin N).1 p q a b σ τ PR ∧ cFits N (R_X0_chosenWithin N).2 p q a b σ τ PR := by
  intro N
  induction N with
  | zero =>
    refine ⟨fun x y u v lev d e hx hy h8 _ _ hN => ?_, fun x y u v lev d e hx hy _ _ hN => ?_⟩
    · have := (hx.sort hn).2.2.2
      have := (hy.sort hn).2.2.2
      omega
    · have := (hx.sort hn).2.2.2
      omega
  | succ N ih => exact ⟨a_chosen_top ih.2 hn, a_fits_top ih.2 ih.1 hn hp hq ha hb hPR⟩
/-- the class at a pair of plans that hold, its pairs being PR -/
theorem aT_fits {p q : Nat} {a b : Int} {σ τ : ST} {PR : Nat → Int32} (hn : (σ.1 4 1).toInt ≤ 262) (hp : p < 6) (hq : q < 6) (ha : a ≤ 6) (hb : b ≤ 6) (hPR : ∀ k, k < 36 → (PR k = 0 ↔ lbt (σ.2.1 41 4) k = false)) (x y u v : Int32) (d e : Nat) (hx : TY p a σ τ d x u) (hy : TY q b σ τ e y v) (hd : d ≤ 4) (he : e ≤ 4) : OK (f_T_X0_fitsWithin x y 0 σ) (RO σ fun z => z.toInt = 0 ∧ ¬ MTt τ PR u v ∨ z.toInt = 1 ∧ MTt τ PR u v) := (a_RF hn hp hq ha hb hPR FR).2 x y u v 0 d e hx hy (by rw [li_0]; omega) (by rw [li_0]; omega) (by have : FR = 160 := rfl; omega)
theorem ax_fits {p q : Nat} {a b : Int} {σ τ : ST} {PR : Nat → Int32} (hn : (σ.1 4 1).toInt ≤ 262) (hp : p < 6) (hq : q < 6) (ha : a ≤ 6) (hb : b ≤ 6) (hPR : ∀ k, k < 36 → (PR k = 0 ↔ lbt (σ.2.1 41 4) k = false)) (x y u v : Int32) (d e : Nat) (hx : TY p a σ τ d x u) (hy : TY q b σ τ e y v) (hd : d ≤ 4) (he : e ≤ 4) : OK (f_X0_fits x y σ) (RO σ fun z => z.toInt = 0 ∧ ¬ MTt τ PR u v ∨ z.toInt = 1 ∧ MTt τ PR u v) := by
  unfold f_X0_fits
  refine OK.bndR (aT_fits hn hp hq ha hb hPR x y u v d e hx hy hd he) (fun z hz => ?_)
  dsimp only
  exact OK.grd (b01 (hz.elim (fun h => .inl h.1) (fun h => .inr h.1))) (OK.roret hz)
theorem ax_chosen {p q : Nat} {a b : Int} {σ τ : ST} {PR : Nat → Int32} (hn : (σ.1 4 1).toInt ≤ 262) (hp : p < 6) (hq : q < 6) (ha : a ≤ 6) (hb : b ≤ 6) (hPR : ∀ k, k < 36 → (PR k = 0 ↔ lbt (σ.2.1 41 4) k = false)) (x y u v : Int32) (d e : Nat) (hx : TY p a σ τ d x u) (hy : TY q b σ τ e y v) (h8 : (τ.1 2 v.toNatClampNeg).toInt = 8) (hd : d ≤ 4) (he : e ≤ 4) : OK (f_X0_chosen x y σ) (RO σ fun z => CHR (τ.1 4 v.toNatClampNeg).toInt.toNat (fun k => MTt τ PR u (τ.1 5 (4 * v.toNatClampNeg + k))) (fun k => (τ.1 2 (τ.1 5 (4 * v.toNatClampNeg + k)).toNatClampNeg).toInt = (τ.1 2 u.toNatClampNeg).toInt) (fun k => (chn (σ.1 17) (σ.1 16 y.toNatClampNeg) k).toInt) z.toInt) := by
  unfold f_X0_chosen
  refine OK.bndR ((a_RF hn hp hq ha hb hPR FR).1 x y u v 0 d e hx hy h8 (by rw [li_0]; omega) (by rw [li_0]; omega) (by have : FR = 160 := rfl; omega)) (fun z hz => ?_)
  exact OK.roret hz
/-! the class's fields of a pair of records, beside the reference's -/
theorem PHB.acc {p : Nat} {σ τ : ST} (h : PHB 4 p σ τ) {i : Nat} (hi : (i : Int) < (τ.1 8 p).toInt) : WL (σ.2.1 8 (6 * p + i)) (τ.2.1 9 (6 * p + i)) ∧ σ.1 7 (6 * p + i) = τ.1 11 (6 * p + i) ∧ bI (τ.1 11 (6 * p + i)) 0 8 ∧ ELH 4 (6 * p + i) (τ.1 11 (6 * p + i)).toInt.toNat σ τ ∧ ∀ j : Nat, (j : Int) < (τ.1 11 (6 * p + i)).toInt → FLH 4 p (τ.1 8 p).toInt (8 * (6 * p + i) + j) σ τ := by
  obtain ⟨⟨x1, _⟩, _, ⟨x2, x3⟩, x4, x5⟩ := h.2.2.2 i hi
  exact ⟨x1, x2, x3, x4, x5⟩
theorem PHB.cnt {p : Nat} {σ τ : ST} (h : PHB 4 p σ τ) : σ.1 5 p = τ.1 8 p ∧ (1 ≤ (τ.1 8 p).toInt ∧ (τ.1 8 p).toInt ≤ 6) ∧ (σ.1 4 1).toInt ≤ 262 := ⟨h.1.1, h.1.2, h.2.2.1⟩
/-- the first of so many -/
def FIX (m : Nat) (P : Nat → Prop) (val : Nat → Int) (z : Int) : Prop := z = -1 ∧ (∀ i, i < m → ¬ P i) ∨ ∃ i, i < m ∧ z = val i ∧ P i ∧ ∀ j, j < i → ¬ P j
theorem FIX.uniq {m : Nat} {P Q : Nat → Prop} {u v : Nat → Int} {z y : Int} (hPQ : ∀ i, i < m → (P i ↔ Q i)) (h : FIX m P u z) (k : FIX m Q v y) : z = -1 ∧ y = -1 ∨ ∃ i, i < m ∧ z = u i ∧ y = v i := by
  rcases h with ⟨a, b⟩ | ⟨i, a, b, c, d⟩
  · rcases k with ⟨a', b'⟩ | ⟨i', a', b', c', d'⟩
    · exact .inl ⟨a, a'⟩
    · exact absurd ((hPQ i' a').mpr c') (b i' a')
  · rcases k with ⟨a', b'⟩ | ⟨i', a', b', c', d'⟩
    · exact absurd ((hPQ i a).mp c) (b' i a)
    · have e : i = i' := by
        by_cases h1 : i < i'
        · exact absurd ((hPQ i a).mp c) (d' i h1)
        · by_cases h2 : i' < i
          · exact absurd ((hPQ i' a').mpr c') (d i' h2)
          · omega
      subst e
      exact .inr ⟨i, a, b, b'⟩
theorem a4_fieldNamed_29 (x2 : Int64) (x4 x5 : Int32) (σ : ST) (r m : Nat) (hr : r < 36) (h4 : x4.toInt = 8 * (r : Int)) (h5 : x5.toInt = m) (hm : m ≤ 8) : ∀ (f k : Nat) (x6 : Int32), x6.toInt = k → k ≤ m → m < f + k → (∀ i : Nat, i < k → ¬ σ.2.1 11 (8 * r + i) = x2) → OK (f_X5_fieldNamed_29 4 f x2 x4 x5 x6 σ) (RO σ fun v => FIX m (fun i => σ.2.1 11 (8 * r + i) = x2) (fun i => i) v.toInt) := by
  intro f
  induction f with
  | zero => intro k x6 h1 h2 h3; omega
  | succ f ih =>
    intro k x6 h6 hk hf hn
    rw [f_X5_fieldNamed_29]
    have lm := li_m1
    have l1 := li_1
    have l8 := li_8
    refine OK.ile (fun h => OK.roret (.inl ⟨lm, fun i hi => hn i (by omega)⟩)) (fun h => ?_)
    refine OK.ile (fun h => by omega) (fun _ => ?_)
    have e := il_addE (x := x4) (y := x6) (by omega) (by omega)
    have e1 := il_addE (x := x6) (y := 1) (by omega) (by omega)
    have np : (x4 + x6).toNatClampNeg = 8 * r + k := nC (by omega)
    refine OK.grd ⟨by omega, by omega⟩ ?_
    rw [np]
    refine OK.ite (fun h9 => ?_) (fun h9 => ?_)
    · rw [lg_cmp_eq] at h9
      exact OK.roret (.inr ⟨k, by omega, h6, h9, hn⟩)
    · rw [lg_cmp_eq] at h9
      refine ih (k + 1) (x6 + 1) (by omega) (by omega) (by omega) (fun i hi => ?_)
      by_cases e9 : i = k
      · rw [e9]; exact h9
      · exact hn i (by omega)
theorem a4_fieldNamed (p0 : Int32) (p1 : Int64) (σ : ST) (r m : Nat) (hr : r < 36) (h0 : p0.toInt = r) (hm : (σ.1 7 r).toInt = m) (hm8 : m ≤ 8) : OK (f_X5_fieldNamed 4 p0 p1 σ) (RO σ fun v => FIX m (fun i => σ.2.1 11 (8 * r + i) = p1) (fun i => i) v.toInt) := by
  unfold f_X5_fieldNamed f_X5_fieldNamed_24
  have l0 := li_0
  have l8 := li_8
  have lu := FUi
  have nr : p0.toNatClampNeg = r := nC h0
  have e8 : (p0 * 8).toInt = 8 * p0.toInt := by
    rw [Int32.mul_comm]
    exact mlE (k := 8) (y := p0) 8 l8 (by omega) (by omega)
  refine OK.bndR (a_isFieldOf p0 0 σ ⟨by omega, by omega⟩ (by omega)) (fun v hv => ?_)
  dsimp only
  refine OK.ieq (fun h => by omega) (fun _ => ?_)
  refine OK.grd ⟨by omega, by omega⟩ ?_
  rw [nr]
  exact a4_fieldNamed_29 p1 (p0 * 8) (σ.1 7 r) σ r m hr (by omega) hm hm8 FU 0 0 l0 (by omega) (by omega) (fun i hi => by omega)
theorem by_fieldOf_3 (x1 : Int32) (x2 : Int64) (τ : ST) (r m : Nat) (hr : r < 72) (h1 : x1.toInt = r) (hm : (τ.1 11 r).toInt = m) (hm8 : m ≤ 8) : ∀ (f k : Nat) (x4 : Int32), x4.toInt = k → k ≤ m → m < f + k → (∀ i : Nat, i < k → ¬ τ.2.1 12 (8 * r + i) = x2) → OK (f_X11_fieldOf_3 f x1 x2 x4 τ) (RO τ fun v => FIX m (fun i => τ.2.1 12 (8 * r + i) = x2) (fun i => 8 * (r : Int) + i) v.toInt) := by
  intro f
  induction f with
  | zero => intro k x4 h1 h2 h3; omega
  | succ f ih =>
    intro k x4 h4 hk hf hn
    rw [f_X11_fieldOf_3]
    have lm := li_m1
    have l1 := li_1
    have l8 := li_8
    have nr : x1.toNatClampNeg = r := nC h1
    refine OK.grd ⟨by omega, by omega⟩ ?_
    rw [nr]
    refine OK.ile (fun h => OK.roret (.inl ⟨lm, fun i hi => hn i (by omega)⟩)) (fun h => ?_)
    have em := mlE (k := 8) (y := x1) 8 l8 (by omega) (by omega)
    have e := il_addE (x := 8 * x1) (y := x4) (by omega) (by omega)
    have e1 := il_addE (x := x4) (y := 1) (by omega) (by omega)
    have np : (8 * x1 + x4).toNatClampNeg = 8 * r + k := nC (by omega)
    refine OK.grd ⟨by omega, by omega⟩ ?_
    rw [np]
    refine OK.ite (fun h9 => ?_) (fun h9 => ?_)
    · rw [lg_cmp_eq] at h9
      exact OK.roret (.inr ⟨k, by omega, by show (8 * x1 + x4).toInt = 8 * (r : Int) + (k : Int); omega, h9, hn⟩)
    · rw [lg_cmp_eq] at h9
      refine ih (k + 1) (x4 + 1) (by omega) (by omega) (by omega) (fun i hi => ?_)
      by_cases e9 : i = k
      · rw [e9]; exact h9
      · exact hn i (by omega)
theorem by_fieldOf (p0 : Int32) (p1 : Int64) (τ : ST) (r m : Nat) (hr : r < 72) (h0 : p0.toInt = r) (hm : (τ.1 11 r).toInt = m) (hm8 : m ≤ 8) : OK (f_X11_fieldOf p0 p1 τ) (RO τ fun v => FIX m (fun i => τ.2.1 12 (8 * r + i) = p1) (fun i => 8 * (r : Int) + i) v.toInt) := by
  have lu := FUi
  unfold f_X11_fieldOf
  exact by_fieldOf_3 p0 p1 τ r m hr h0 hm hm8 FU 0 0 li_0 (by omega) (by omega) (fun i hi => by omega)
/-- two plans, both sides -/
def PQ (p q : Nat) (σ τ : ST) : Prop := (p < 6 ∧ q < 6) ∧ ((τ.1 0 53).toInt = p ∧ (τ.1 0 54).toInt = q) ∧ (PHB 4 p σ τ ∧ PHB 4 q σ τ) ∧ ME τ
theorem PQ.rm {p q : Nat} {σ τ : ST} (h : PQ p q σ τ) : rmW τ = (τ.1 8 p).toInt ∧ rmR τ = (τ.1 8 q).toInt := by
  have e1 : (τ.1 0 53).toNatClampNeg = p := nC h.2.1.1
  have e2 : (τ.1 0 54).toNatClampNeg = q := nC h.2.1.2
  unfold rmW rmR
  rw [e1, e2]
  exact ⟨rfl, rfl⟩
theorem ab_source {p q : Nat} {σ τ : ST} (h : PQ p q σ τ) (p0 p1 p2 wi f : Int32) (w r j : Nat) (hw : (w : Int) < (τ.1 8 p).toInt) (hr : (r : Int) < (τ.1 8 q).toInt) (hj : (j : Int) < (τ.1 11 (6 * q + r)).toInt) (h0 : p0.toInt = 6 * (p : Int) + w) (h1 : p1.toInt = 6 * (q : Int) + r) (h2 : p2.toInt = j) (hwi : wi.toInt = w) (hf : f.toInt = 8 * (6 * (q : Int) + r) + j) : OK (f_X5_sourceOf 4 p0 p1 p2 σ) (RO σ fun z => ∃ y : Int32, f_X11_fieldFor wi f τ = some (y, τ) ∧ (z.toInt = -1 ∧ y.toInt = -1 ∨ ∃ i : Nat, (i : Int) < (τ.1 11 (6 * p + w)).toInt ∧ z.toInt = i ∧ y.toInt = 8 * (6 * (p : Int) + w) + i)) := by
  obtain ⟨⟨hp, hq⟩, ⟨e53, e54⟩, ⟨hP, hQ⟩, hM⟩ := h
  obtain ⟨a1, a2, a3, a4, a5⟩ := hP.acc hw
  obtain ⟨b1, b2, b3, b4, b5⟩ := hQ.acc hr
  have cP := hP.cnt
  have cQ := hQ.cnt
  have g3 := a3.1
  have g4 := a3.2
  have g5 := b3.1
  have g6 := b3.2
  obtain ⟨m, hm⟩ : ∃ m : Nat, (τ.1 11 (6 * p + w)).toInt = m := ⟨_, (Int.toNat_of_nonneg (by omega)).symm⟩
  obtain ⟨⟨n1, n2⟩, n3, n4, n5⟩ := b5 j hj
  have n1 : WL (σ.2.1 11 (8 * (6 * q + r) + j)) (τ.2.1 12 (8 * (6 * q + r) + j)) := n1
  have n3 : FMR (σ.2.1 12 (8 * (6 * q + r) + j)) (τ.2.1 14 (8 * (6 * q + r) + j)) := n3
  have nf : f.toNatClampNeg = 8 * (6 * q + r) + j := nC (by omega)
  have l0 := li_0
  have lm := li_m1
  have l6 := li_6
  have m7 : (σ.1 7 (6 * p + w)).toInt = m := by rw [a2]; exact hm
  have wl : ∀ {x y : Int64}, WL x y → ∀ i, i < m → (σ.2.1 11 (8 * (6 * p + w) + i) = x ↔ τ.2.1 12 (8 * (6 * p + w) + i) = y) := fun {x y} hx i hi => by
    have hh : WL (σ.2.1 11 (8 * (6 * p + w) + i)) (τ.2.1 12 (8 * (6 * p + w) + i)) := (a5 i (by omega)).1.1
    exact hh.iff hx
  have x1 := mlE (k := 6) (y := τ.1 0 53) 6 l6 (by omega) (by omega)
  have x2 := il_addE (x := 6 * τ.1 0 53) (y := wi) (by omega) (by omega)
  have fo : ∀ x : Int64, OK (f_X11_fieldOf (6 * τ.1 0 53 + wi) x τ) (RO τ fun v => FIX m (fun i => τ.2.1 12 (8 * (6 * p + w) + i) = x) (fun i => 8 * ((6 * p + w : Nat) : Int) + i) v.toInt) := fun x => by_fieldOf _ x τ (6 * p + w) m (by omega) (by omega) hm (by omega)
  unfold f_X5_sourceOf
  rw [a4_fieldName p1 p2 σ (r := 6 * q + r) (j := j) (by omega) h2 (by omega) (by omega), sbnd]
  dsimp only
  refine OK.bndR (a4_fieldNamed p0 _ σ (6 * p + w) m (by omega) (by omega) m7 (by omega)) (fun z hz => ?_)
  dsimp only
  rw [a4_formerName p1 p2 σ (r := 6 * q + r) (j := j) (by omega) h2 (by omega) (by omega), sbnd]
  dsimp only
  have hB : f_X11_fieldFor wi f τ = (f_X11_fieldOf (6 * τ.1 0 53 + wi) (τ.2.1 12 (8 * (6 * q + r) + j)) τ).bind fun q2 => if 0 ≤ q2.1 then (some (q2.1, q2.2)) else (if (lg_cmp (q2.2.2.1 14 (8 * (6 * q + r) + j)) 0) ≤ 0 then (some (q2.1, q2.2)) else ((f_X11_fieldOf ((6 * (q2.2.1 0 53)) + wi) (q2.2.2.1 14 (8 * (6 * q + r) + j)) q2.2).bind fun q4 => some (q4.1, q4.2))) := by
    unfold f_X11_fieldFor
    rw [if_pos ⟨by omega, by omega⟩, nf]
  obtain ⟨⟨y, s⟩, ey, es, hy⟩ := fo (τ.2.1 12 (8 * (6 * q + r) + j))
  have es : s = τ := es
  subst es
  have hy : FIX m (fun i => s.2.1 12 (8 * (6 * p + w) + i) = s.2.1 12 (8 * (6 * q + r) + j)) (fun i => 8 * ((6 * p + w : Nat) : Int) + i) y.toInt := hy
  rw [ey, sbnd] at hB
  dsimp only at hB
  rcases hz.uniq (wl n1) hy with ⟨z1, y1⟩ | ⟨i, i1, i2, i3⟩
  rotate_left
  · rw [if_pos (by rw [Int32.le_iff_toInt_le]; omega)] at hB
    refine OK.ieq (fun h => by omega) (fun _ => ?_)
    exact OK.roret ⟨y, hB, .inr ⟨i, by omega, i2, by omega⟩⟩
  rw [if_neg (by rw [Int32.le_iff_toInt_le]; omega)] at hB
  have hpos := n3.pos
  refine OK.ieq (fun _ => ?_) (fun h => by omega)
  have hle : (lg_cmp (s.2.1 14 (8 * (6 * q + r) + j)) 0) ≤ 0 ↔ ¬ 0 < (s.2.1 14 (8 * (6 * q + r) + j)).toInt := by
    rw [lg_cmp_le, Int64.le_iff_toInt_le, l64_0]
    omega
  refine OK.ite (fun h => ?_) (fun h => ?_)
  · rw [lg_cmp_eq] at h
    rw [if_pos (hle.mpr (hpos.mp h))] at hB
    exact OK.roret ⟨y, hB, .inl ⟨z1, y1⟩⟩
  · rw [lg_cmp_eq] at h
    rw [if_neg (fun h9 => h (hpos.mpr (hle.mp h9)))] at hB
    have n3 : WL (σ.2.1 12 (8 * (6 * q + r) + j)) (s.2.1 14 (8 * (6 * q + r) + j)) := by
      rcases n3 with n3 | n3
      · exact absurd n3.1 h
      · exact n3.1
    refine OK.bndR (a4_fieldNamed p0 _ σ (6 * p + w) m (by omega) (by omega) m7 (by omega)) (fun z2 hz2 => ?_)
    dsimp only
    obtain ⟨⟨y2, t⟩, ey2, es2, hy2⟩ := fo (s.2.1 14 (8 * (6 * q + r) + j))
    have es2 : t = s := es2
    subst es2
    have hy2 : FIX m (fun i => t.2.1 12 (8 * (6 * p + w) + i) = t.2.1 14 (8 * (6 * q + r) + j)) (fun i => 8 * ((6 * p + w : Nat) : Int) + i) y2.toInt := hy2
    rw [ey2, sbnd] at hB
    refine OK.roret ⟨y2, hB, ?_⟩
    rcases hz2.uniq (wl n3) hy2 with h9 | ⟨i, i1, i2, i3⟩
    · exact .inl h9
    · exact .inr ⟨i, by omega, i2, by omega⟩
theorem ab_mayPair {p q : Nat} {σ τ : ST} (h : PQ p q σ τ) (p0 p1 wi ri : Int32) (w r : Nat) (hw : (w : Int) < (τ.1 8 p).toInt) (hr : (r : Int) < (τ.1 8 q).toInt) (h0 : p0.toInt = 6 * (p : Int) + w) (h1 : p1.toInt = 6 * (q : Int) + r) (hwi : wi.toInt = w) (hri : ri.toInt = r) : OK (f_X0_mayPair p0 p1 σ) (RO σ fun z => z.toInt = 0 ∧ ¬ NYS τ wi ri ∨ z.toInt = 1 ∧ NYS τ wi ri) := by
  obtain ⟨⟨hp, hq⟩, ⟨e53, e54⟩, ⟨hP, hQ⟩, hM⟩ := h
  have a1 := (hP.acc hw).1
  have b1 := (hQ.acc hr).1
  have cP := hP.cnt
  have cQ := hQ.cnt
  have l0 := li_0
  have l1 := li_1
  have n53 : (τ.1 0 53).toNatClampNeg = p := nC e53
  have n54 : (τ.1 0 54).toNatClampNeg = q := nC e54
  have nw : wi.toNatClampNeg = w := nC hwi
  have nr : ri.toNatClampNeg = r := nC hri
  have h18 : ¬ (w = 0 ∧ r = 0) → OK (f_X0_mayPair_18 p0 p1 σ) (RO σ fun z => z.toInt = 0 ∧ ¬ NYS τ wi ri ∨ z.toInt = 1 ∧ NYS τ wi ri) := fun hn => by
    unfold f_X0_mayPair_18 f_X0_mayPair_38
    rw [a4_recordName p0 σ (r := 6 * p + w) (by omega) (by omega), sbnd]
    dsimp only
    rw [a4_recordName p1 σ (r := 6 * q + r) (by omega) (by omega), sbnd]
    dsimp only
    have hi := a1.iff b1
    have hN : NYS τ wi ri ↔ σ.2.1 8 (6 * p + w) = σ.2.1 8 (6 * q + r) := by
      unfold NYS
      rw [n53, n54, nw, nr, hi]
      exact ⟨fun h => h.elim (fun h => absurd ⟨by omega, by omega⟩ hn) id, .inr⟩
    refine OK.ite (fun h => ?_) (fun h => ?_)
    · rw [lg_cmp_eq] at h
      exact OK.roret (.inr ⟨l1, hN.mpr h⟩)
    · rw [lg_cmp_eq] at h
      exact OK.roret (.inl ⟨l0, fun h9 => h (hN.mp h9)⟩)
  unfold f_X0_mayPair f_X0_mayPair_38
  obtain ⟨v1, ev1, hv1⟩ := a_floorMod p0 σ (k := 6 * p + w) (by omega) (by omega)
  obtain ⟨v2, ev2, hv2⟩ := a_floorMod p1 σ (k := 6 * q + r) (by omega) (by omega)
  rw [ev1, sbnd]
  dsimp only
  refine OK.ieq (fun hz1 => ?_) (fun hz1 => h18 (by omega))
  rw [ev2, sbnd]
  dsimp only
  exact OK.ieq (fun hz2 => OK.roret (.inr ⟨l1, .inl ⟨by omega, by omega⟩⟩)) (fun hz2 => h18 (by omega))
theorem ELH.has {r m : Nat} {σ τ : ST} (h : ELH 4 r m σ τ) (hr : r < 36) (p0 p1 : Int32) {j : Nat} (h0 : p0.toInt = r) (h1 : p1.toInt = j) (hj : j < m) (hj8 : j < 8) (hb : (τ.1 16 (8 * r + j)).toInt = 0 ∨ (τ.1 16 (8 * r + j)).toInt = 1) : OK (f_X5_hasElse 4 p0 p1 σ) (RO σ fun z => z.toInt = 0 ∧ τ.1 16 (8 * r + j) = 0 ∨ z.toInt = 1 ∧ ¬ τ.1 16 (8 * r + j) = 0) := by
  obtain ⟨w, w1, w2, w3⟩ := h
  rw [a4_hasElse p0 p1 σ h0 h1 hr hj8 w1 w2]
  refine OK.roret ?_
  have hk := w3 j (by omega)
  cases e : w.testBit j with
  | true =>
    have := (hk.mp e).2
    exact .inr ⟨li_1, fun h9 => by rw [h9] at this; revert this; decide⟩
  | false =>
    refine .inl ⟨li_0, ?_⟩
    rcases hb with hb | hb
    · exact Int32.toInt_inj.mp (hb.trans li_0.symm)
    · exact absurd (hk.mpr ⟨hj, hb⟩) (by rw [e]; decide)
theorem ab_fieldsFit_2 {p q : Nat} {σ τ : ST} {PR : Nat → Int32} (h : PQ p q σ τ) (hPR : ∀ k, k < 36 → (PR k = 0 ↔ lbt (σ.2.1 41 4) k = false)) (p0 p1 wi ri : Int32) (w r : Nat) (hw : (w : Int) < (τ.1 8 p).toInt) (hr : (r : Int) < (τ.1 8 q).toInt) (h0 : p0.toInt = 6 * (p : Int) + w) (h1 : p1.toInt = 6 * (q : Int) + r) (hwi : wi.toInt = w) (hri : ri.toInt = r) : ∀ (n j : Nat) (x3 : Int32), x3.toInt = j → (j : Int) ≤ (τ.1 11 (6 * q + r)).toInt → 9 < n + j → (∀ (k : Nat) (f v : Int32), k < j → f.toInt = 8 * (6 * (τ.1 0 54).toInt + ri.toInt) + k → f_X11_fieldFor wi f τ = some (v, τ) → (0 ≤ v.toInt → MTt τ PR (τ.1 15 v.toNatClampNeg) (τ.1 15 f.toNatClampNeg)) ∧ (v.toInt < 0 → ¬ τ.1 16 f.toNatClampNeg = 0)) → OK (f_X0_fieldsFit_2 n p0 p1 x3 σ) (RO σ fun z => z.toInt = 0 ∧ ¬ HXP τ PR wi ri ∨ z.toInt = 1 ∧ HXP τ PR wi ri) := by
  intro n
  have h' := h
  obtain ⟨⟨hp, hq⟩, ⟨e53, e54⟩, ⟨hP, hQ⟩, hM⟩ := h'
  obtain ⟨a1, a2, a3, a4, a5⟩ := hP.acc hw
  obtain ⟨b1, b2, b3, b4, b5⟩ := hQ.acc hr
  have cP := hP.cnt
  have cQ := hQ.cnt
  have g3 := a3.1
  have g4 := a3.2
  have g5 := b3.1
  have g6 := b3.2
  have l0 := li_0
  have l1 := li_1
  have lm := li_m1
  have n54 : (τ.1 0 54).toNatClampNeg = q := nC e54
  have nr : ri.toNatClampNeg = r := nC hri
  induction n with
  | zero => intro j x3 k1 k2 k3; omega
  | succ n ih =>
    intro j x3 k1 k2 k3 hI
    rw [f_X0_fieldsFit_2]
    unfold f_X0_fieldsFit_68
    rw [a4_fieldsOf p1 σ (r := 6 * q + r) (by omega) (by omega), sbnd]
    dsimp only
    rw [b2]
    refine OK.ile (fun hle => OK.roret (.inr ⟨l1, fun k f v kk1 kk2 kk3 => ?_⟩)) (fun hlt => ?_)
    · rw [n54, nr] at kk1
      exact hI k f v (by omega) kk2 kk3
    have hj : (j : Int) < (τ.1 11 (6 * q + r)).toInt := by omega
    have e3 := il_addE (x := x3) (y := 1) (by omega) (by omega)
    have hN : 8 * (6 * q + r) + j ≤ 1000 := by omega
    have iF := ofNatI hN
    have nF : (Int32.ofNat (8 * (6 * q + r) + j)).toNatClampNeg = 8 * (6 * q + r) + j := nC iF
    refine OK.bndR (ab_source h p0 p1 x3 wi (Int32.ofNat (8 * (6 * q + r) + j)) w r j hw hr hj h0 h1 k1 hwi (by omega)) (fun z hz => ?_)
    dsimp only
    obtain ⟨y, ey, hy⟩ := hz
    have bad : ¬ ((0 ≤ y.toInt → MTt τ PR (τ.1 15 y.toNatClampNeg) (τ.1 15 (8 * (6 * q + r) + j))) ∧ (y.toInt < 0 → ¬ τ.1 16 (8 * (6 * q + r) + j) = 0)) → ¬ HXP τ PR wi ri := fun hm h9 => by
      have x := h9 j _ y (by rw [n54, nr]; exact hj) (by omega) ey
      rw [nF] at x
      exact hm x
    have next : ((0 ≤ y.toInt → MTt τ PR (τ.1 15 y.toNatClampNeg) (τ.1 15 (8 * (6 * q + r) + j))) ∧ (y.toInt < 0 → ¬ τ.1 16 (8 * (6 * q + r) + j) = 0)) → OK (f_X0_fieldsFit_2 n p0 p1 (x3 + 1) σ) (RO σ fun z => z.toInt = 0 ∧ ¬ HXP τ PR wi ri ∨ z.toInt = 1 ∧ HXP τ PR wi ri) := fun hm => by
      refine ih (j + 1) (x3 + 1) (by omega) (by omega) (by omega) (fun k f v kk1 kk2 kk3 => ?_)
      by_cases e : k < j
      · exact hI k f v e kk2 kk3
      · have ef : f = Int32.ofNat (8 * (6 * q + r) + j) := Int32.toInt_inj.mp (by omega)
        rw [ef] at kk3 ⊢
        rw [ey] at kk3
        have ev : y = v := (Prod.mk.inj (Option.some.inj kk3)).1
        rw [← ev, nF]
        exact hm
    have b16 := (b5 j hj).2.2.2
    have b16 : (τ.1 16 (8 * (6 * q + r) + j)).toInt = 0 ∨ (τ.1 16 (8 * (6 * q + r) + j)).toInt = 1 := b16.elim .inl (fun h => .inr h.1)
    rcases hy with ⟨y1, y2⟩ | ⟨i, i1, i2, i3⟩
    · refine OK.ieq (fun _ => ?_) (fun h9 => by omega)
      refine OK.bndR (b4.has (by omega) p1 x3 (by omega) k1 (by omega) (by omega) b16) (fun u hu => ?_)
      dsimp only
      refine OK.ieq (fun hu0 => OK.roret (.inl ⟨l0, bad (fun h9 => ?_)⟩)) (fun hu0 => next ⟨fun h9 => by omega, fun _ => ?_⟩)
      · rcases hu with hu | hu
        · exact h9.2 (by omega) hu.2
        · omega
      · rcases hu with hu | hu
        · omega
        · exact hu.2
    · refine OK.ieq (fun h9 => by omega) (fun _ => ?_)
      rw [a4_typeOf p0 z σ (r := 6 * p + w) (j := i) (by omega) i2 (by omega) (by omega), sbnd]
      dsimp only
      rw [a4_typeOf p1 x3 σ (r := 6 * q + r) (j := j) (by omega) k1 (by omega) (by omega), sbnd]
      dsimp only
      have ny : y.toNatClampNeg = 8 * (6 * p + w) + i := nC (by omega)
      have tW : TY p (τ.1 8 p).toInt σ τ 4 (σ.1 13 (8 * (6 * p + w) + i)) (τ.1 15 (8 * (6 * p + w) + i)) := (a5 i i1).2.2.1
      have tR : TY q (τ.1 8 q).toInt σ τ 4 (σ.1 13 (8 * (6 * q + r) + j)) (τ.1 15 (8 * (6 * q + r) + j)) := (b5 j hj).2.2.1
      rw [ny] at bad next
      refine OK.bndR (aT_fits cP.2.2 hp hq cP.2.1.2 cQ.2.1.2 hPR _ _ _ _ 4 4 tW tR (by omega) (by omega)) (fun u hu => ?_)
      dsimp only
      refine OK.ieq (fun hu0 => OK.roret (.inl ⟨l0, bad (fun h9 => ?_)⟩)) (fun hu0 => next ⟨fun _ => ?_, fun h9 => by omega⟩)
      · rcases hu with hu | hu
        · exact hu.2 (h9.1 (by omega))
        · omega
      · rcases hu with hu | hu
        · omega
        · exact hu.2
theorem ab_fieldsFit {p q : Nat} {σ τ : ST} {PR : Nat → Int32} (h : PQ p q σ τ) (hPR : ∀ k, k < 36 → (PR k = 0 ↔ lbt (σ.2.1 41 4) k = false)) (p0 p1 wi ri : Int32) (w r : Nat) (hw : (w : Int) < (τ.1 8 p).toInt) (hr : (r : Int) < (τ.1 8 q).toInt) (h0 : p0.toInt = 6 * (p : Int) + w) (h1 : p1.toInt = 6 * (q : Int) + r) (hwi : wi.toInt = w) (hri : ri.toInt = r) : OK (f_X0_fieldsFit p0 p1 σ) (RO σ fun z => z.toInt = 0 ∧ ¬ HXP τ PR wi ri ∨ z.toInt = 1 ∧ HXP τ PR wi ri) := by
  unfold f_X0_fieldsFit
  have lu := FUi
  have b3 := (h.2.2.1.2.acc hr).2.2.1
  have g := b3.1
  exact ab_fieldsFit_2 h hPR p0 p1 wi ri w r hw hr h0 h1 hwi hri FU 0 0 li_0 (by omega) (by omega) (fun k f v hk => by omega)
/-! the class's relation of two plans: the reference's pairs -/
def K41 (σ s : ST) : Prop := s.1 = σ.1 ∧ s.2.2 = σ.2.2 ∧ (∀ c, c ≠ 41 → s.2.1 c = σ.2.1 c) ∧ ∀ i, i ≠ 4 → s.2.1 41 i = σ.2.1 41 i
theorem K41.rf {σ : ST} : K41 σ σ := ⟨rfl, rfl, fun _ _ => rfl, fun _ _ => rfl⟩
theorem K41.trans {a b c : ST} (h : K41 a b) (k : K41 b c) : K41 a c := ⟨k.1.trans h.1, k.2.1.trans h.2.1, fun d hd => (k.2.2.1 d hd).trans (h.2.2.1 d hd), fun i hi => (k.2.2.2 i hi).trans (h.2.2.2 i hi)⟩
theorem K41.l {σ : ST} {v : Int64} : K41 σ (stL σ 41 4 v) := ⟨rfl, rfl, fun c hc => stL_ne hc, fun i hi => by
  show vp_updL (σ.2.1 41) 4 v i = _
  rw [updL_no hi]⟩
theorem stL_at {σ : ST} {c i : Nat} {v : Int64} : (stL σ c i v).2.1 c i = v := by
  show (bif Nat.beq c c then vp_updL (σ.2.1 c) i v else σ.2.1 c) i = v
  rw [Nat.beq_refl]
  exact updL_at
theorem cntZ_eq {p q : Nat → Prop} [DecidablePred p] [DecidablePred q] : ∀ n : Nat, (∀ k, k < n → (p k ↔ q k)) → cntZ p n = cntZ q n := by
  intro n
  induction n with
  | zero => intro _; rfl
  | succ n ih =>
    intro h
    show cntZ p n + (if p n then 1 else 0) = cntZ q n + (if q n then 1 else 0)
    rw [ih (fun k hk => h k (by omega))]
    have hn := h n (by omega)
    by_cases e : p n
    · rw [if_pos e, if_pos (hn.mp e)]
    · rw [if_neg e, if_neg (fun h9 => e (hn.mpr h9))]
theorem K41.kta {σ s : ST} (h : K41 σ s) : KTA σ s := fun c h1 h2 => ⟨by rw [h.1], h.2.2.1 c (by omega)⟩
theorem KR.self {s : ST} : KR s s := KR.rf
theorem PQ.keep {p q : Nat} {σ s τ : ST} (h : PQ p q σ τ) (k : KTA σ s) : PQ p q s τ := ⟨h.1, h.2.1, ⟨h.2.2.1.1.keep h.1.1 k KR.rf, h.2.2.1.2.keep h.1.2 k KR.rf⟩, h.2.2.2⟩
def cnL (L : Int64) : Nat := cntZ (fun k => lbt L k = true) 36
/-- the pairs so far: in the tables' range, none wanting -/
def IVL (p q : Nat) (τ : ST) (L : Int64) : Prop := ∀ a b : Nat, a < 6 → b < 6 → lbt L (6 * a + b) = true → ((a : Int) < (τ.1 8 p).toInt ∧ (b : Int) < (τ.1 8 q).toInt) ∧ NYS τ (Int32.ofNat a) (Int32.ofNat b)
def JRL (p q : Nat) (L0 : Int64) (w r : Nat) (s τ : ST) : Prop := PQ p q s τ ∧ IVL p q τ (s.2.1 41 4) ∧ GMX τ (RBX (s.2.1 41 4)) ∧ (s.2.1 41 4 = L0 ∧ (∀ a b : Nat, a < 6 → b < 6 → (a < w ∨ a = w ∧ b < r) → lbt (s.2.1 41 4) (6 * a + b) = true → HXP τ (RBX (s.2.1 41 4)) (Int32.ofNat a) (Int32.ofNat b)) ∨ cnL (s.2.1 41 4) + 1 ≤ cnL L0)
theorem ar_121 {p q : Nat} {τ : ST} {L0 : Int64} {k87 : Int32 → Int32 → Int64 → Int32 → ST → Option ST} {k111 : Int32 → Int32 → Int64 → Int32 → Int32 → ST → Option ST} {P : ST → Prop} (x1 x2 : Int32) (x3 : Int64) (x5 x6 : Int32) (w : Nat) (h1 : x1.toInt = p) (h2 : x2.toInt = q) (h6 : x6.toInt = w) (hw : w < 6) : ∀ (n r : Nat) (x7 : Int32) (s : ST), x7.toInt = r → r ≤ 6 → 6 < n + r → JRL p q L0 w r s τ → (∀ t, K41 s t → JRL p q L0 (w + 1) 0 t τ → OK (k111 x1 x2 x3 x5 (x6 + 1) t) P) → OK (f_X0_relate_121 k87 k111 n x1 x2 x3 x5 x6 x7 s) P := by
  intro n
  have l1 := li_1
  have l0 := li_0
  have l6 := li_6
  induction n with
  | zero => intro r x7 s h7 h8 h9; omega
  | succ n ih =>
    intro r x7 s h7 hr hn hJ hk
    rw [f_X0_relate_121]
    unfold f_X0_relate_186
    obtain ⟨hPQ, hV, hG, hD⟩ := hJ
    by_cases er : r = 6
    · subst er
      refine OK.ile (fun _ => ?_) (fun h => by omega)
      refine hk s K41.rf ⟨hPQ, hV, hG, ?_⟩
      rcases hD with ⟨d1, d2⟩ | hD
      · exact .inl ⟨d1, fun a b ha hb hab => d2 a b ha hb (by omega)⟩
      · exact .inr hD
    refine OK.ile (fun h => by omega) (fun _ => ?_)
    have e7 := il_addE (x := x7) (y := 1) (by omega) (by omega)
    have hp6 := hPQ.1.1
    have hq6 := hPQ.1.2
    have ek : 6 * (w % 6) + r % 6 = 6 * w + r := by omega
    have hbit := a_bitOf x6 x7 s (a := w) (b := r) h6 h7 (by omega) (by omega)
    rw [ek] at hbit
    rw [hbit, sbnd]
    dsimp only
    have iw := ofNatI (w := w) (by omega)
    have ir := ofNatI (w := r) (by omega)
    have nw : (Int32.ofNat w).toNatClampNeg = w := nC iw
    have nr : (Int32.ofNat r).toNatClampNeg = r := nC ir
    refine OK.ite (fun hb => ?_) (fun hb => ?_)
    · rw [a_has (by omega)] at hb
      refine ih (r + 1) (x7 + 1) s (by omega) (by omega) (by omega) ⟨hPQ, hV, hG, ?_⟩ hk
      rcases hD with ⟨d1, d2⟩ | hD
      · refine .inl ⟨d1, fun a b ha hb' hab h9 => ?_⟩
        by_cases e : a = w ∧ b = r
        · rw [e.1, e.2] at h9
          rw [hb] at h9
          cases h9
        · exact d2 a b ha hb' (by omega) h9
      · exact .inr hD
    · rw [a_has (by omega)] at hb
      have hb1 : lbt (s.2.1 41 4) (6 * w + r) = true := by
        cases e : lbt (s.2.1 41 4) (6 * w + r) with
        | true => rfl
        | false => exact absurd e hb
      obtain ⟨⟨v1, v2⟩, v3⟩ := hV w r hw (by omega) hb1
      have m1 : (x1 * 6).toInt = 6 * x1.toInt := by
        rw [Int32.mul_comm]
        exact mlE (k := 6) (y := x1) 6 l6 (by omega) (by omega)
      have m2 : (x2 * 6).toInt = 6 * x2.toInt := by
        rw [Int32.mul_comm]
        exact mlE (k := 6) (y := x2) 6 l6 (by omega) (by omega)
      have m3 := il_addE (x := x1 * 6) (y := x6) (by omega) (by omega)
      have m4 := il_addE (x := x2 * 6) (y := x7) (by omega) (by omega)
      refine OK.bndR (ab_fieldsFit hPQ (PR := RBX (s.2.1 41 4)) (fun k _ => RBX_iff) (x1 * 6 + x6) (x2 * 6 + x7) (Int32.ofNat w) (Int32.ofNat r) w r v1 v2 (by omega) (by omega) iw ir) (fun z hz => ?_)
      dsimp only
      refine OK.ieq (fun hz0 => ?_) (fun hz0 => ?_)
      · have hno : ¬ HXP τ (RBX (s.2.1 41 4)) (Int32.ofNat w) (Int32.ofNat r) := by
          rcases hz with hz | hz
          · exact hz.2
          · omega
        rw [hbit, sbnd]
        dsimp only
        have ev : (stL s 41 4 (s.2.1 41 4 &&& (lb1 (6 * w + r) ^^^ -1))).2.1 41 4 = (s.2.1 41 4 &&& (lb1 (6 * w + r) ^^^ -1)) := stL_at
        have kk : K41 s (stL s 41 4 (s.2.1 41 4 &&& (lb1 (6 * w + r) ^^^ -1))) := K41.l
        have hoff : ∀ j, j < 64 → lbt (s.2.1 41 4 &&& (lb1 (6 * w + r) ^^^ -1)) j = (lbt (s.2.1 41 4) j && !decide (j = 6 * w + r)) := fun j hj => lbt_off (by omega) hj
        generalize stL s 41 4 (s.2.1 41 4 &&& (lb1 (6 * w + r) ^^^ -1)) = t at ev kk ⊢
        generalize (s.2.1 41 4 &&& (lb1 (6 * w + r) ^^^ -1)) = L' at ev hoff
        have hsub : ∀ j, j < 36 → lbt L' j = true → lbt (s.2.1 41 4) j = true ∧ ¬ j = 6 * w + r := fun j hj h9 => by
          rw [hoff j (by omega)] at h9
          simpa using h9
        have hcn : cnL L' + 1 ≤ cnL (s.2.1 41 4) := by
          have := cntZ_lt (p := fun k => k < 36 ∧ lbt L' k = true) (q := fun k => k < 36 ∧ lbt (s.2.1 41 4) k = true) (fun k hk => ⟨hk.1, (hsub k hk.1 hk.2).1⟩) (c := 6 * w + r) (fun h9 => (hsub _ h9.1 h9.2).2 rfl) ⟨by omega, hb1⟩ 36 (by omega)
          have z : ∀ M : Int64, cnL M = cntZ (fun k => k < 36 ∧ lbt M k = true) 36 := fun M => cntZ_eq 36 (fun k hk => ⟨fun h => ⟨hk, h⟩, fun h => h.2⟩)
          rw [z, z]
          exact this
        refine ih (r + 1) (x7 + 1) t (by omega) (by omega) (by omega) ⟨hPQ.keep kk.kta, ?_, ?_, ?_⟩ (fun u hu => hk u (kk.trans hu))
        · rw [ev]
          exact fun a b ha hb' h9 => hV a b ha hb' (hsub _ (by omega) h9).1
        · rw [ev]
          intro Q hQ k hk' h9
          have h8 := hG Q hQ k hk' h9
          intro h7'
          apply h8
          rw [RBX_iff] at h7' ⊢
          rw [hoff k (by omega)] at h7'
          by_cases e : k = 6 * w + r
          · exfalso
            rw [e] at h9
            have n1 : 6 * (Int32.ofNat w).toNatClampNeg + (Int32.ofNat r).toNatClampNeg = 6 * w + r := by rw [nw, nr]
            obtain ⟨y1, y2, y3⟩ := hQ (Int32.ofNat w) (Int32.ofNat r) (by omega) (by omega) (by omega) (by omega) (by rw [n1]; exact h9)
            have hrm := hPQ.rm
            exact hno (y3.mono hPQ.2.2.2 (wrec_i (by omega) y1.1) (rrec_i (by omega) y1.2) (fun k hk h => hG Q hQ k hk h))
          · simpa [e] using h7'
        · rw [ev]
          rcases hD with ⟨d1, _⟩ | hD
          · rw [← d1]
            exact .inr hcn
          · exact .inr (by omega)
      · have hyes : HXP τ (RBX (s.2.1 41 4)) (Int32.ofNat w) (Int32.ofNat r) := by
          rcases hz with hz | hz
          · omega
          · exact hz.2
        refine ih (r + 1) (x7 + 1) s (by omega) (by omega) (by omega) ⟨hPQ, hV, hG, ?_⟩ hk
        rcases hD with ⟨d1, d2⟩ | hD
        · refine .inl ⟨d1, fun a b ha hb' hab h9 => ?_⟩
          by_cases e : a = w ∧ b = r
          · rw [e.1, e.2]
            exact hyes
          · exact d2 a b ha hb' (by omega) h9
        · exact .inr hD
theorem ar_111 {p q : Nat} {τ : ST} {L0 : Int64} {k87 : Int32 → Int32 → Int64 → Int32 → ST → Option ST} {P : ST → Prop} (x1 x2 : Int32) (x3 : Int64) (x5 : Int32) (h1 : x1.toInt = p) (h2 : x2.toInt = q) : ∀ (n w : Nat) (x6 : Int32) (s : ST), x6.toInt = w → w ≤ 6 → 6 < n + w → JRL p q L0 w 0 s τ → (∀ t, K41 s t → JRL p q L0 6 0 t τ → OK (k87 x1 x2 x3 (x5 + 1) t) P) → OK (f_X0_relate_111 k87 n x1 x2 x3 x5 x6 s) P := by
  intro n
  have l1 := li_1
  have l0 := li_0
  have l6 := li_6
  have lu := FUi
  induction n with
  | zero => intro w x6 s h7 h8 h9; omega
  | succ n ih =>
    intro w x6 s h6 hw hn hJ hk
    rw [f_X0_relate_111]
    by_cases ew : w = 6
    · subst ew
      refine OK.ile (fun _ => hk s K41.rf hJ) (fun h => by omega)
    refine OK.ile (fun h => by omega) (fun _ => ?_)
    have e7 := il_addE (x := x6) (y := 1) (by omega) (by omega)
    exact ar_121 x1 x2 x3 x5 x6 w h1 h2 h6 (by omega) FU 0 0 s l0 (by omega) (by omega) hJ (fun t kt hJt => ih (w + 1) (x6 + 1) t (by omega) (by omega) (by omega) hJt (fun u ku hJu => hk u (kt.trans ku) hJu))
theorem ar_psx {p q : Nat} {s τ : ST} {L : Int64} (hPQ : PQ p q s τ) (hV : IVL p q τ L) (hH : ∀ a b : Nat, a < 6 → b < 6 → lbt L (6 * a + b) = true → HXP τ (RBX L) (Int32.ofNat a) (Int32.ofNat b)) : PSX τ (RBX L) := by
  intro w r a1 a2 a3 a4 a5
  obtain ⟨a, ea⟩ : ∃ a : Nat, w.toInt = a := ⟨_, (Int.toNat_of_nonneg a1).symm⟩
  obtain ⟨b, eb⟩ : ∃ b : Nat, r.toInt = b := ⟨_, (Int.toNat_of_nonneg a3).symm⟩
  have e1 : w = Int32.ofNat a := intOf ea (by omega)
  have e2 : r = Int32.ofNat b := intOf eb (by omega)
  have n1 : w.toNatClampNeg = a := nC ea
  have n2 : r.toNatClampNeg = b := nC eb
  rw [n1, n2] at a5
  have hb : lbt L (6 * a + b) = true := by
    cases e : lbt L (6 * a + b) with
    | true => rfl
    | false => exact absurd (RBX_iff.mpr e) a5
  obtain ⟨⟨v1, v2⟩, v3⟩ := hV a b (by omega) (by omega) hb
  have hrm := hPQ.rm
  have h9 := hH a b (by omega) (by omega) hb
  rw [e1, e2]
  have iw := ofNatI (w := a) (by omega)
  have ir := ofNatI (w := b) (by omega)
  exact ⟨⟨by omega, by omega⟩, v3, h9⟩
theorem ar_87 {p q : Nat} {τ : ST} (x1 x2 : Int32) (h1 : x1.toInt = p) (h2 : x2.toInt = q) : ∀ (n : Nat) (x3 : Int64) (x5 : Int32) (s : ST), 0 ≤ x5.toInt → x5.toInt ≤ 37 → (38 : Int) - x5.toInt < n → PQ p q s τ → IVL p q τ (s.2.1 41 4) → GMX τ (RBX (s.2.1 41 4)) → (PSX τ (RBX (s.2.1 41 4)) ∧ s.2.1 41 4 = x3 ∨ ¬ s.2.1 41 4 = x3 ∧ x5.toInt + cnL (s.2.1 41 4) ≤ 36) → OK (f_X0_relate_87 n x1 x2 x3 x5 s) (fun t => K41 s t ∧ GFX τ (RBX (t.2.1 41 4))) := by
  intro n
  have l1 := li_1
  have l0 := li_0
  have l36 := li_36
  have lu := FUi
  induction n with
  | zero => intro x3 x5 s a b c; omega
  | succ n ih =>
    intro x3 x5 s a b c hPQ hV hG hD
    rw [f_X0_relate_87]
    have e5 := il_addE (x := x5) (y := 1) (by omega) (by omega)
    refine OK.ilt (fun h => ?_) (fun h => ?_)
    · refine OK.ret ⟨K41.rf, ?_, hG⟩
      rcases hD with hD | hD
      · exact hD.1
      · omega
    refine OK.ite (fun h9 => ?_) (fun h9 => ?_)
    · rw [lg_cmp_eq] at h9
      refine OK.ret ⟨K41.rf, ?_, hG⟩
      rcases hD with hD | hD
      · exact hD.1
      · exact absurd h9 hD.1
    · rw [lg_cmp_eq] at h9
      have hD : ¬ s.2.1 41 4 = x3 ∧ x5.toInt + cnL (s.2.1 41 4) ≤ 36 := by
        rcases hD with hD | hD
        · exact absurd hD.2 h9
        · exact hD
      refine ar_111 x1 x2 (s.2.1 41 4) x5 h1 h2 FU 0 0 s l0 (by omega) (by omega) ⟨hPQ, hV, hG, .inl ⟨rfl, fun a b ha hb h => by omega⟩⟩ (fun t kt hJ => ?_)
      obtain ⟨tPQ, tV, tG, tD⟩ := hJ
      refine (ih (s.2.1 41 4) (x5 + 1) t (by omega) (by omega) (by omega) tPQ tV tG ?_).mono (fun u hu => ⟨kt.trans hu.1, hu.2⟩)
      rcases tD with ⟨d1, d2⟩ | d
      · exact .inl ⟨ar_psx tPQ tV (fun a b ha hb => d2 a b ha hb (by omega)), d1⟩
      · refine .inr ⟨fun e => ?_, by omega⟩
        rw [e] at d
        omega
def IVI (p q : Nat) (w r : Nat) (τ : ST) (L : Int64) : Prop := ∀ a b : Nat, a < 6 → b < 6 → (lbt L (6 * a + b) = true ↔ (a < w ∨ a = w ∧ b < r) ∧ ((a : Int) < (τ.1 8 p).toInt ∧ (b : Int) < (τ.1 8 q).toInt) ∧ NYS τ (Int32.ofNat a) (Int32.ofNat b))
theorem ar_22 {p q : Nat} {τ : ST} {k7 : Int32 → Int32 → Int32 → ST → Option ST} {P : ST → Prop} (x1 x2 x3 : Int32) (w : Nat) (h1 : x1.toInt = p) (h2 : x2.toInt = q) (h3 : x3.toInt = w) (hw : (w : Int) < (τ.1 8 p).toInt) : ∀ (n r : Nat) (x4 : Int32) (s : ST), x4.toInt = r → (r : Int) ≤ (τ.1 8 q).toInt → 7 < n + r → PQ p q s τ → IVI p q w r τ (s.2.1 41 4) → (∀ t, K41 s t → PQ p q t τ → IVI p q (w + 1) 0 τ (t.2.1 41 4) → OK (k7 x1 x2 (x3 + 1) t) P) → OK (f_X0_relate_22 k7 n x1 x2 x3 x4 s) P := by
  intro n
  have l1 := li_1
  have l0 := li_0
  have l6 := li_6
  induction n with
  | zero =>
    intro r x4 s h7 h8 h9 hPQ
    have := hPQ.2.2.1.2.cnt
    omega
  | succ n ih =>
    intro r x4 s h4 hr hn hPQ hI hk
    rw [f_X0_relate_22]
    unfold f_X0_relate_70
    have cP := hPQ.2.2.1.1.cnt
    have cQ := hPQ.2.2.1.2.cnt
    have hp6 := hPQ.1.1
    have hq6 := hPQ.1.2
    rw [a4_recordsOf x2 s h2 hq6, sbnd]
    dsimp only
    rw [cQ.1]
    refine OK.ile (fun h => ?_) (fun h => ?_)
    · refine hk s K41.rf hPQ (fun a b ha hb => ?_)
      rw [hI a b ha hb]
      exact ⟨fun h => ⟨by omega, h.2⟩, fun h => ⟨by omega, h.2⟩⟩
    have e4 := il_addE (x := x4) (y := 1) (by omega) (by omega)
    have m1 : (x1 * 6).toInt = 6 * x1.toInt := by
      rw [Int32.mul_comm]
      exact mlE (k := 6) (y := x1) 6 l6 (by omega) (by omega)
    have m2 : (x2 * 6).toInt = 6 * x2.toInt := by
      rw [Int32.mul_comm]
      exact mlE (k := 6) (y := x2) 6 l6 (by omega) (by omega)
    have m3 := il_addE (x := x1 * 6) (y := x3) (by omega) (by omega)
    have m4 := il_addE (x := x2 * 6) (y := x4) (by omega) (by omega)
    have iw := ofNatI (w := w) (by omega)
    have ir := ofNatI (w := r) (by omega)
    refine OK.bndR (ab_mayPair hPQ (x1 * 6 + x3) (x2 * 6 + x4) (Int32.ofNat w) (Int32.ofNat r) w r hw (by omega) (by omega) (by omega) iw ir) (fun z hz => ?_)
    dsimp only
    refine OK.ieq (fun hz0 => ?_) (fun hz0 => ?_)
    · refine ih (r + 1) (x4 + 1) s (by omega) (by omega) (by omega) hPQ (fun a b ha hb => ?_) hk
      rw [hI a b ha hb]
      by_cases e : a = w ∧ b = r
      · obtain ⟨rfl, rfl⟩ := e
        refine ⟨fun h => by omega, fun h => ?_⟩
        rcases hz with hz | hz
        · exact absurd h.2.2 hz.2
        · omega
      · exact ⟨fun h => ⟨by omega, h.2⟩, fun h => ⟨by omega, h.2⟩⟩
    · have hN : NYS τ (Int32.ofNat w) (Int32.ofNat r) := by
        rcases hz with hz | hz
        · omega
        · exact hz.2
      have ek : 6 * (w % 6) + r % 6 = 6 * w + r := by omega
      have hbit := a_bitOf x3 x4 s (a := w) (b := r) h3 h4 (by omega) (by omega)
      rw [ek] at hbit
      rw [hbit, sbnd]
      dsimp only
      have ev : (stL s 41 4 (s.2.1 41 4 ||| lb1 (6 * w + r))).2.1 41 4 = (s.2.1 41 4 ||| lb1 (6 * w + r)) := stL_at
      have kk : K41 s (stL s 41 4 (s.2.1 41 4 ||| lb1 (6 * w + r))) := K41.l
      have hon : ∀ j, lbt (s.2.1 41 4 ||| lb1 (6 * w + r)) j = (lbt (s.2.1 41 4) j || decide (j = 6 * w + r)) := fun j => lbt_or (by omega)
      generalize stL s 41 4 (s.2.1 41 4 ||| lb1 (6 * w + r)) = t at ev kk ⊢
      generalize (s.2.1 41 4 ||| lb1 (6 * w + r)) = L' at ev hon
      refine ih (r + 1) (x4 + 1) t (by omega) (by omega) (by omega) (hPQ.keep kk.kta) (fun a b ha hb => ?_) (fun u ku => hk u (kk.trans ku))
      rw [ev, hon]
      have h9 := hI a b ha hb
      by_cases e : a = w ∧ b = r
      · obtain ⟨rfl, rfl⟩ := e
        exact ⟨fun _ => ⟨by omega, ⟨hw, by omega⟩, hN⟩, fun _ => by simp⟩
      · have e2 : ¬ 6 * a + b = 6 * w + r := by omega
        simp only [e2, decide_false, Bool.or_false]
        rw [h9]
        exact ⟨fun h => ⟨by omega, h.2⟩, fun h => ⟨by omega, h.2⟩⟩
theorem ar_7 {p q : Nat} {τ : ST} (x1 x2 : Int32) (h1 : x1.toInt = p) (h2 : x2.toInt = q) : ∀ (n w : Nat) (x3 : Int32) (s : ST), x3.toInt = w → (w : Int) ≤ (τ.1 8 p).toInt → 7 < n + w → PQ p q s τ → IVI p q w 0 τ (s.2.1 41 4) → OK (f_X0_relate_7 n x1 x2 x3 s) (fun t => K41 s t ∧ GFX τ (RBX (t.2.1 41 4))) := by
  intro n
  have l1 := li_1
  have l0 := li_0
  have lu := FUi
  induction n with
  | zero =>
    intro w x3 s h7 h8 h9 hPQ
    have := hPQ.2.2.1.1.cnt
    omega
  | succ n ih =>
    intro w x3 s h3 hw hn hPQ hI
    rw [f_X0_relate_7]
    have cP := hPQ.2.2.1.1.cnt
    have cQ := hPQ.2.2.1.2.cnt
    have hp6 := hPQ.1.1
    rw [a4_recordsOf x1 s h1 hp6, sbnd]
    dsimp only
    rw [cP.1]
    have e3 := il_addE (x := x3) (y := 1) (by omega) (by omega)
    refine OK.ile (fun h => ?_) (fun h => ?_)
    · have hG : GMX τ (RBX (s.2.1 41 4)) := by
        intro Q hQ k hk h9 h8
        rw [RBX_iff] at h8
        obtain ⟨a, ea⟩ : ∃ a : Nat, a = k / 6 := ⟨_, rfl⟩
        obtain ⟨b, eb⟩ : ∃ b : Nat, b = k % 6 := ⟨_, rfl⟩
        have e6 : k = 6 * a + b := by omega
        have iw := ofNatI (w := a) (by omega)
        have ir := ofNatI (w := b) (by omega)
        have nw : (Int32.ofNat a).toNatClampNeg = a := nC iw
        have nr : (Int32.ofNat b).toNatClampNeg = b := nC ir
        obtain ⟨y1, y2, y3⟩ := hQ (Int32.ofNat a) (Int32.ofNat b) (by omega) (by omega) (by omega) (by omega) (by rw [nw, nr, ← e6]; exact h9)
        have hrm := hPQ.rm
        have h7 := (hI a b (by omega) (by omega)).mpr ⟨by omega, ⟨by omega, by omega⟩, y2⟩
        rw [e6, h7] at h8
        cases h8
      have hV : IVL p q τ (s.2.1 41 4) := fun a b ha hb h9 => ((hI a b ha hb).mp h9).2
      refine ar_87 x1 x2 h1 h2 FU 0 0 s (by omega) (by omega) (by omega) hPQ hV hG ?_
      by_cases e : s.2.1 41 4 = 0
      · refine .inl ⟨ar_psx hPQ hV (fun a b ha hb h9 => ?_), e⟩
        rw [e, lbt_0] at h9
        cases h9
      · have := cntZ_le (p := fun k => lbt (s.2.1 41 4) k = true) 36
        have e2 : cnL (s.2.1 41 4) = cntZ (fun k => lbt (s.2.1 41 4) k = true) 36 := rfl
        exact .inr ⟨e, by omega⟩
    · exact ar_22 x1 x2 x3 w h1 h2 h3 (by omega) FU 0 0 s l0 (by omega) (by omega) hPQ hI (fun t kt tPQ tI => (ih (w + 1) (x3 + 1) t (by omega) (by omega) (by omega) tPQ tI).mono (fun u hu => ⟨kt.trans hu.1, hu.2⟩))
/-- the class relates two plans as the reference pairs their records -/
theorem ab_relate {p q : Nat} {σ τ : ST} (h : PQ p q σ τ) (p0 p1 : Int32) (h0 : p0.toInt = p) (h1 : p1.toInt = q) : OK (f_X0_relate p0 p1 σ) (fun t => K41 σ t ∧ GFX τ (RBX (t.2.1 41 4))) := by
  unfold f_X0_relate
  have lu := FUi
  have cP := h.2.2.1.1.cnt
  have kk : K41 σ (stL σ 41 4 0) := K41.l
  have ev : (stL σ 41 4 0).2.1 41 4 = 0 := stL_at
  refine (ar_7 p0 p1 h0 h1 FU 0 0 (stL σ 41 4 0) li_0 (by omega) (by omega) (h.keep kk.kta) (fun a b ha hb => ?_)).mono (fun u hu => ⟨kk.trans hu.1, hu.2⟩)
  rw [ev, lbt_0]
  exact ⟨fun h => (by cases h), fun h => by omega⟩
/-! whatever a run answers, if it answers -/
def PT {α : Type} (o : Option α) (P : α → Prop) : Prop := ∀ q, o = some q → P q
theorem PT.none {α : Type} {P : α → Prop} : PT (none : Option α) P := fun _ h => by cases h
theorem PT.ret {α : Type} {q : α} {P : α → Prop} (h : P q) : PT (some q) P := fun z e => by
  cases e
  exact h
theorem PT.mono {α : Type} {o : Option α} {P Q : α → Prop} (h : PT o P) (k : ∀ q, P q → Q q) : PT o Q := fun q e => k q (h q e)
theorem PT.ok {α : Type} {o : Option α} {P : α → Prop} (h : OK o P) : PT o P := fun q e => by
  obtain ⟨z, e2, hz⟩ := h
  rw [e] at e2
  cases e2
  exact hz
theorem PT.ite {α : Type} {c : Prop} {i : Decidable c} {x y : Option α} {P : α → Prop} (h1 : c → PT x P) (h2 : ¬ c → PT y P) : PT (@_root_.ite (Option α) c i x y) P := by
  by_cases h : c
  · rw [if_pos h]; exact h1 h
  · rw [if_neg h]; exact h2 h
theorem PT.grd {α : Type} {c : Prop} {i : Decidable c} {x : Option α} {P : α → Prop} (h : c → PT x P) : PT (@_root_.ite (Option α) c i x Option.none) P := PT.ite h (fun _ => PT.none)
theorem PT.ilt {α : Type} {a b : Int32} {i : Decidable (a < b)} {x y : Option α} {P : α → Prop} (h1 : a.toInt < b.toInt → PT x P) (h2 : b.toInt ≤ a.toInt → PT y P) : PT (@_root_.ite (Option α) (a < b) i x y) P := PT.ite (fun h => h1 (il_lt h)) (fun h => h2 (il_nlt h))
theorem PT.ile {α : Type} {a b : Int32} {i : Decidable (a ≤ b)} {x y : Option α} {P : α → Prop} (h1 : a.toInt ≤ b.toInt → PT x P) (h2 : b.toInt < a.toInt → PT y P) : PT (@_root_.ite (Option α) (a ≤ b) i x y) P := PT.ite (fun h => h1 (il_le h)) (fun h => h2 (il_nle h))
theorem PT.ieq {α : Type} {a b : Int32} {i : Decidable (a = b)} {x y : Option α} {P : α → Prop} (h1 : a.toInt = b.toInt → PT x P) (h2 : ¬ a.toInt = b.toInt → PT y P) : PT (@_root_.ite (Option α) (a = b) i x y) P := PT.ite (fun h => h1 (il_eq h)) (fun h => h2 (il_ne h))
theorem PT.bnd {α β : Type} {o : Option α} {f : α → Option β} {Q : α → Prop} {P : β → Prop} (h : PT o Q) (k : ∀ q, Q q → PT (f q) P) : PT (o.bind f) P := by
  cases o with
  | none => exact PT.none
  | some x => exact k x (h x rfl)
theorem PT.lt {α β : Type} {e : α} {f : α → Option β} {P : β → Prop} (k : ∀ z, z = e → PT (f z) P) : PT ((some e).bind f) P := k e rfl
theorem PT.bndR {α β : Type} {o : Option (α × ST)} {f : α × ST → Option β} {s : ST} {Q : α → Prop} {P : β → Prop} (h : OK o (RO s Q)) (k : ∀ v, Q v → PT (f (v, s)) P) : PT (o.bind f) P := by
  obtain ⟨⟨v, t⟩, e, e2, hq⟩ := h
  have e2 : t = s := e2
  subst e2
  rw [e]
  exact k v hq
theorem PT.sw {α β : Type} {a : Option α} {b : Option β} {P : α → β → Prop} (h : PT b (fun y => PT a (fun x => P x y))) : PT a (fun x => PT b (fun y => P x y)) := fun x ex y ey => h y ey x ex
theorem PT.bnd2 {α β γ δ : Type} {a : Option α} {b : Option β} {f : α → Option γ} {g : β → Option δ} {Q : α → β → Prop} {P : γ → δ → Prop} (h : PT a (fun x => PT b (Q x))) (k : ∀ x y, Q x y → PT (f x) (fun u => PT (g y) (P u))) : PT (a.bind f) (fun u => PT (b.bind g) (P u)) := by
  cases a with
  | none => exact PT.none
  | some x =>
    cases b with
    | none => exact fun _ _ => PT.none
    | some y => exact k x y (h x rfl y rfl)
theorem PT.mono2 {α β : Type} {a : Option α} {b : Option β} {P Q : α → β → Prop} (h : PT a (fun x => PT b (P x))) (k : ∀ x y, P x y → Q x y) : PT a (fun x => PT b (Q x)) := fun x ex y ey => k x y (h x ex y ey)
theorem PT.pf {α : Type} {st : α → ST} {K : ST → Prop} {o : Option α} (h : PF st K o) : PT o (fun q => K (st q)) := h
/-- the reference's misses are full: they stay -/
def K20 (s σ : ST) : Prop := CH LC LI s σ ∧ ((s.1 0 61).toInt = 20 → (σ.1 0 61).toInt = 20 ∧ σ.1 37 = s.1 37 ∧ σ.1 38 = s.1 38 ∧ σ.1 39 = s.1 39)
theorem K20.i {s σ : ST} {c i : Nat} {v : Int32} (hc : c = 36 ∨ c = 40 ∨ c = 0 ∧ i = 57) (h : K20 s σ) : K20 s (stI σ c i v) := by
  rcases hc with e | e | ⟨e1, e2⟩
  · subst e
    exact ⟨h.1.i (by decide) (by decide), h.2⟩
  · subst e
    exact ⟨h.1.i (by decide) (by decide), h.2⟩
  · subst e1 e2
    exact ⟨h.1.o (by decide), h.2⟩
theorem bp_misses_35 : ∀ (n : Nat) (x2 : Int32) (σ : ST), PT (f_X11_misses_35 n x2 σ) (fun t => CH [39] [61] σ t) := by
  intro n
  induction n with
  | zero => intro x2 σ; exact PT.none
  | succ n ih =>
    intro x2 σ
    rw [f_X11_misses_35]
    refine PT.ile (fun _ => PT.ret (CH.rf.o (by decide))) (fun _ => ?_)
    refine PT.grd (fun _ => ?_)
    refine PT.grd (fun _ => ?_)
    exact (ih (x2 + 1) _).mono (fun t ct => (CH.rf.i (by decide) (by decide)).trans ct)
theorem w20_X11_misses {s : ST} {p0 : Int32} {σ : ST} (h : K20 s σ) : PF st0 (K20 s) (f_X11_misses p0 σ) := by
  have l20 := li_20
  unfold f_X11_misses
  show PT _ (fun q => K20 s q)
  refine PT.ieq (fun _ => PT.ret h) (fun hne => ?_)
  refine PT.grd (fun _ => ?_)
  refine PT.grd (fun _ => ?_)
  refine PT.lt (fun z hz => ?_)
  have c : CH [37, 38, 39] [61] σ z := by rw [hz]; exact (CH.rf.i (by decide) (by decide)).i (by decide) (by decide)
  refine (bp_misses_35 FU 0 z).mono (fun t ct => ⟨h.1.trans ((c.trans (ct.mono (by decide) (by decide))).mono (by decide) (by decide)), fun h9 => ?_⟩)
  have := (h.2 h9).1
  omega
theorem w20_X11_namesMay_40 {s : ST}  {σ : ST}   (h : K20 s σ) : PF st1 (K20 s) (f_X11_namesMay_40 σ) := by
  unfold f_X11_namesMay_40
  exact (PF.ret1 h)
theorem w20_X11_namesMay_8 {s : ST} {x1 : Int32} {x2 : Int32} {σ : ST}   (h : K20 s σ) : PF st1 (K20 s) (f_X11_namesMay_8 x1 x2 σ) := by
  unfold f_X11_namesMay_8
  exact (PF.ite (fun _ => (PF.ite (fun _ => (PF.ite (fun _ => (w20_X11_namesMay_40  h)) (fun _ => (PF.ret1 h)))) (fun _ => PF.none))) (fun _ => PF.none))
theorem w20_X11_namesMay {s : ST} {p0 : Int32} {p1 : Int32} {σ : ST}   (h : K20 s σ) : PF st1 (K20 s) (f_X11_namesMay p0 p1 σ) := by
  unfold f_X11_namesMay
  exact (PF.ite (fun _ => (PF.ite (fun _ => (w20_X11_namesMay_40  h)) (fun _ => (w20_X11_namesMay_8  h)))) (fun _ => (w20_X11_namesMay_8  h)))
theorem w20_X11_fieldOf_3 {s : ST}    : ∀ (n : Nat) (x1 : Int32) (x2 : Int64) (x3 : Int32) (σ : ST), K20 s σ → PF st1 (K20 s) (f_X11_fieldOf_3  n x1 x2 x3 σ) := by
  intro n
  induction n with
  | zero => intro x1 x2 x3 σ h; rw [f_X11_fieldOf_3]; exact PF.none
  | succ n ih =>
    intro x1 x2 x3 σ h
    rw [f_X11_fieldOf_3]
    exact (PF.ite (fun _ => (PF.ite (fun _ => (PF.ret1 h)) (fun _ => (PF.ite (fun _ => (PF.ite (fun _ => (PF.ret1 h)) (fun _ => (ih _ _ _ _ h)))) (fun _ => PF.none))))) (fun _ => PF.none))
theorem w20_X11_fieldOf {s : ST} {p0 : Int32} {p1 : Int64} {σ : ST}   (h : K20 s σ) : PF st1 (K20 s) (f_X11_fieldOf p0 p1 σ) := by
  unfold f_X11_fieldOf
  exact (w20_X11_fieldOf_3  _ _ _ _ _ h)
theorem w20_X11_fieldFor {s : ST} {p0 : Int32} {p1 : Int32} {σ : ST}   (h : K20 s σ) : PF st1 (K20 s) (f_X11_fieldFor p0 p1 σ) := by
  unfold f_X11_fieldFor
  exact (PF.ite (fun _ => (PF.bnd (w20_X11_fieldOf  h) (fun q2 hq2 => (PF.ite (fun _ => (PF.ret1 hq2)) (fun _ => (PF.ite (fun _ => (PF.ret1 hq2)) (fun _ => (PF.bnd (w20_X11_fieldOf  hq2) (fun q4 hq4 => (PF.ret1 hq4)))))))))) (fun _ => PF.none))
theorem w20_X11_chosen_69 {s : ST} {r_X11_chosen : Int32 → Int32 → ST → Option (Int32 × ST)} {r_X11_match : Int32 → Int32 → ST → Option (Int32 × ST)} {k5 : Int32 → Int32 → Int32 → Int32 → ST → Option (Int32 × ST)} {x1 : Int32} {x2 : Int32} {x3 : Int32} {x4 : Int32} {σ : ST} (h_r_X11_chosen : ∀ (x1 : Int32) (x2 : Int32) (σ : ST), K20 s σ → PF st1 (K20 s) (r_X11_chosen x1 x2 σ)) (h_r_X11_match : ∀ (x1 : Int32) (x2 : Int32) (σ : ST), K20 s σ → PF st1 (K20 s) (r_X11_match x1 x2 σ)) (h_k5 : ∀ (x1 : Int32) (x2 : Int32) (x3 : Int32) (x4 : Int32) (σ : ST), K20 s σ → PF st1 (K20 s) (k5 x1 x2 x3 x4 σ))  (h : K20 s σ) : PF st1 (K20 s) (f_X11_chosen_69 r_X11_chosen r_X11_match k5 x1 x2 x3 x4 σ) := by
  unfold f_X11_chosen_69
  exact (h_k5 _ _ _ _ _ h)
theorem w20_X11_chosen_68 {s : ST} {r_X11_chosen : Int32 → Int32 → ST → Option (Int32 × ST)} {r_X11_match : Int32 → Int32 → ST → Option (Int32 × ST)} {k5 : Int32 → Int32 → Int32 → Int32 → ST → Option (Int32 × ST)} {x1 : Int32} {x2 : Int32} {x4 : Int32} {y0 : Int32} {σ : ST} (h_r_X11_chosen : ∀ (x1 : Int32) (x2 : Int32) (σ : ST), K20 s σ → PF st1 (K20 s) (r_X11_chosen x1 x2 σ)) (h_r_X11_match : ∀ (x1 : Int32) (x2 : Int32) (σ : ST), K20 s σ → PF st1 (K20 s) (r_X11_match x1 x2 σ)) (h_k5 : ∀ (x1 : Int32) (x2 : Int32) (x3 : Int32) (x4 : Int32) (σ : ST), K20 s σ → PF st1 (K20 s) (k5 x1 x2 x3 x4 σ))  (h : K20 s σ) : PF st1 (K20 s) (f_X11_chosen_68 r_X11_chosen r_X11_match k5 x1 x2 x4 y0 σ) := by
  unfold f_X11_chosen_68
  exact (w20_X11_chosen_69 h_r_X11_chosen h_r_X11_match h_k5 h)
theorem w20_X11_chosen_5 {s : ST} {r_X11_chosen : Int32 → Int32 → ST → Option (Int32 × ST)} {r_X11_match : Int32 → Int32 → ST → Option (Int32 × ST)} (h_r_X11_chosen : ∀ (x1 : Int32) (x2 : Int32) (σ : ST), K20 s σ → PF st1 (K20 s) (r_X11_chosen x1 x2 σ)) (h_r_X11_match : ∀ (x1 : Int32) (x2 : Int32) (σ : ST), K20 s σ → PF st1 (K20 s) (r_X11_match x1 x2 σ))  : ∀ (n : Nat) (x1 : Int32) (x2 : Int32) (x3 : Int32) (x4 : Int32) (σ : ST), K20 s σ → PF st1 (K20 s) (f_X11_chosen_5 r_X11_chosen r_X11_match n x1 x2 x3 x4 σ) := by
  intro n
  induction n with
  | zero => intro x1 x2 x3 x4 σ h; rw [f_X11_chosen_5]; exact PF.none
  | succ n ih =>
    intro x1 x2 x3 x4 σ h
    rw [f_X11_chosen_5]
    exact (PF.ite (fun _ => (PF.ite (fun _ => (PF.ret1 h)) (fun _ => (PF.ite (fun _ => (PF.bnd (h_r_X11_match _ _ _ h) (fun q3 hq3 => (PF.ite (fun _ => (w20_X11_chosen_69 h_r_X11_chosen h_r_X11_match ih hq3)) (fun _ => (PF.ite (fun _ => (PF.ite (fun _ => (PF.ite (fun _ => (PF.ret1 hq3)) (fun _ => (PF.ite (fun _ => (w20_X11_chosen_68 h_r_X11_chosen h_r_X11_match ih hq3)) (fun _ => (w20_X11_chosen_68 h_r_X11_chosen h_r_X11_match ih hq3)))))) (fun _ => PF.none))) (fun _ => PF.none))))))) (fun _ => PF.none))))) (fun _ => PF.none))
theorem w20_X11_chosen {s : ST} {r_X11_chosen : Int32 → Int32 → ST → Option (Int32 × ST)} {r_X11_match : Int32 → Int32 → ST → Option (Int32 × ST)} {p0 : Int32} {p1 : Int32} {σ : ST} (h_r_X11_chosen : ∀ (x1 : Int32) (x2 : Int32) (σ : ST), K20 s σ → PF st1 (K20 s) (r_X11_chosen x1 x2 σ)) (h_r_X11_match : ∀ (x1 : Int32) (x2 : Int32) (σ : ST), K20 s σ → PF st1 (K20 s) (r_X11_match x1 x2 σ))  (h : K20 s σ) : PF st1 (K20 s) (f_X11_chosen r_X11_chosen r_X11_match p0 p1 σ) := by
  unfold f_X11_chosen
  exact (w20_X11_chosen_5 h_r_X11_chosen h_r_X11_match _ _ _ _ _ _ h)
theorem w20_X11_match_55 {s : ST} {r_X11_chosen : Int32 → Int32 → ST → Option (Int32 × ST)} {r_X11_match : Int32 → Int32 → ST → Option (Int32 × ST)} {k16 : Int32 → Int32 → Int32 → Int32 → ST → Option (Int32 × ST)} {x1 : Int32} {x2 : Int32} {x4 : Int32} {y0 : Int32} {σ : ST} (h_r_X11_chosen : ∀ (x1 : Int32) (x2 : Int32) (σ : ST), K20 s σ → PF st1 (K20 s) (r_X11_chosen x1 x2 σ)) (h_r_X11_match : ∀ (x1 : Int32) (x2 : Int32) (σ : ST), K20 s σ → PF st1 (K20 s) (r_X11_match x1 x2 σ)) (h_k16 : ∀ (x1 : Int32) (x2 : Int32) (x3 : Int32) (x4 : Int32) (σ : ST), K20 s σ → PF st1 (K20 s) (k16 x1 x2 x3 x4 σ))  (h : K20 s σ) : PF st1 (K20 s) (f_X11_match_55 r_X11_chosen r_X11_match k16 x1 x2 x4 y0 σ) := by
  unfold f_X11_match_55
  exact (h_k16 _ _ _ _ _ h)
theorem w20_X11_match_50 {s : ST} {r_X11_chosen : Int32 → Int32 → ST → Option (Int32 × ST)} {r_X11_match : Int32 → Int32 → ST → Option (Int32 × ST)} {k16 : Int32 → Int32 → Int32 → Int32 → ST → Option (Int32 × ST)} {x1 : Int32} {x2 : Int32} {x4 : Int32} {σ : ST} (h_r_X11_chosen : ∀ (x1 : Int32) (x2 : Int32) (σ : ST), K20 s σ → PF st1 (K20 s) (r_X11_chosen x1 x2 σ)) (h_r_X11_match : ∀ (x1 : Int32) (x2 : Int32) (σ : ST), K20 s σ → PF st1 (K20 s) (r_X11_match x1 x2 σ)) (h_k16 : ∀ (x1 : Int32) (x2 : Int32) (x3 : Int32) (x4 : Int32) (σ : ST), K20 s σ → PF st1 (K20 s) (k16 x1 x2 x3 x4 σ))  (h : K20 s σ) : PF st1 (K20 s) (f_X11_match_50 r_X11_chosen r_X11_match k16 x1 x2 x4 σ) := by
  unfold f_X11_match_50
  exact (w20_X11_match_55 h_r_X11_chosen h_r_X11_match h_k16 h)
theorem w20_X11_match_16 {s : ST} {r_X11_chosen : Int32 → Int32 → ST → Option (Int32 × ST)} {r_X11_match : Int32 → Int32 → ST → Option (Int32 × ST)} (h_r_X11_chosen : ∀ (x1 : Int32) (x2 : Int32) (σ : ST), K20 s σ → PF st1 (K20 s) (r_X11_chosen x1 x2 σ)) (h_r_X11_match : ∀ (x1 : Int32) (x2 : Int32) (σ : ST), K20 s σ → PF st1 (K20 s) (r_X11_match x1 x2 σ))  : ∀ (n : Nat) (x1 : Int32) (x2 : Int32) (x3 : Int32) (x4 : Int32) (σ : ST), K20 s σ → PF st1 (K20 s) (f_X11_match_16 r_X11_chosen r_X11_match n x1 x2 x3 x4 σ) := by
  intro n
  induction n with
  | zero => intro x1 x2 x3 x4 σ h; rw [f_X11_match_16]; exact PF.none
  | succ n ih =>
    intro x1 x2 x3 x4 σ h
    rw [f_X11_match_16]
    exact (PF.ite (fun _ => (PF.ite (fun _ => (PF.ite (fun _ => (PF.ret1 h)) (fun _ => PF.none))) (fun _ => (PF.ite (fun _ => (PF.ite (fun _ => (PF.bnd (h_r_X11_match _ _ _ h) (fun q3 hq3 => (PF.ite (fun _ => (w20_X11_match_55 h_r_X11_chosen h_r_X11_match ih hq3)) (fun _ => (w20_X11_match_50 h_r_X11_chosen h_r_X11_match ih hq3)))))) (fun _ => PF.none))) (fun _ => (w20_X11_match_50 h_r_X11_chosen h_r_X11_match ih h)))))) (fun _ => PF.none))
theorem w20_X11_match_204 {s : ST} {r_X11_chosen : Int32 → Int32 → ST → Option (Int32 × ST)} {r_X11_match : Int32 → Int32 → ST → Option (Int32 × ST)} {σ : ST} (h_r_X11_chosen : ∀ (x1 : Int32) (x2 : Int32) (σ : ST), K20 s σ → PF st1 (K20 s) (r_X11_chosen x1 x2 σ)) (h_r_X11_match : ∀ (x1 : Int32) (x2 : Int32) (σ : ST), K20 s σ → PF st1 (K20 s) (r_X11_match x1 x2 σ))  (h : K20 s σ) : PF st1 (K20 s) (f_X11_match_204 r_X11_chosen r_X11_match σ) := by
  unfold f_X11_match_204
  exact (PF.ret1 h)
theorem w20_X11_match_193 {s : ST} {r_X11_chosen : Int32 → Int32 → ST → Option (Int32 × ST)} {r_X11_match : Int32 → Int32 → ST → Option (Int32 × ST)} {x3 : Int32} {x4 : Int32} {σ : ST} (h_r_X11_chosen : ∀ (x1 : Int32) (x2 : Int32) (σ : ST), K20 s σ → PF st1 (K20 s) (r_X11_chosen x1 x2 σ)) (h_r_X11_match : ∀ (x1 : Int32) (x2 : Int32) (σ : ST), K20 s σ → PF st1 (K20 s) (r_X11_match x1 x2 σ))  (h : K20 s σ) : PF st1 (K20 s) (f_X11_match_193 r_X11_chosen r_X11_match x3 x4 σ) := by
  unfold f_X11_match_193
  exact (PF.ite (fun _ => (PF.ite (fun _ => (w20_X11_match_204 h_r_X11_chosen h_r_X11_match h)) (fun _ => (PF.ret1 h)))) (fun _ => (PF.ret1 h)))
theorem w20_X11_match_170 {s : ST} {r_X11_chosen : Int32 → Int32 → ST → Option (Int32 × ST)} {r_X11_match : Int32 → Int32 → ST → Option (Int32 × ST)} {x3 : Int32} {x4 : Int32} {σ : ST} (h_r_X11_chosen : ∀ (x1 : Int32) (x2 : Int32) (σ : ST), K20 s σ → PF st1 (K20 s) (r_X11_chosen x1 x2 σ)) (h_r_X11_match : ∀ (x1 : Int32) (x2 : Int32) (σ : ST), K20 s σ → PF st1 (K20 s) (r_X11_match x1 x2 σ))  (h : K20 s σ) : PF st1 (K20 s) (f_X11_match_170 r_X11_chosen r_X11_match x3 x4 σ) := by
  unfold f_X11_match_170
  exact (PF.ite (fun _ => (w20_X11_match_204 h_r_X11_chosen h_r_X11_match h)) (fun _ => (PF.ite (fun _ => (PF.ite (fun _ => (w20_X11_match_204 h_r_X11_chosen h_r_X11_match h)) (fun _ => (PF.ite (fun _ => (w20_X11_match_204 h_r_X11_chosen h_r_X11_match h)) (fun _ => (w20_X11_match_193 h_r_X11_chosen h_r_X11_match h)))))) (fun _ => (w20_X11_match_193 h_r_X11_chosen h_r_X11_match h)))))
theorem w20_X11_match_135 {s : ST} {r_X11_chosen : Int32 → Int32 → ST → Option (Int32 × ST)} {r_X11_match : Int32 → Int32 → ST → Option (Int32 × ST)} {x1 : Int32} {x2 : Int32} {x3 : Int32} {x4 : Int32} {σ : ST} (h_r_X11_chosen : ∀ (x1 : Int32) (x2 : Int32) (σ : ST), K20 s σ → PF st1 (K20 s) (r_X11_chosen x1 x2 σ)) (h_r_X11_match : ∀ (x1 : Int32) (x2 : Int32) (σ : ST), K20 s σ → PF st1 (K20 s) (r_X11_match x1 x2 σ))  (h : K20 s σ) : PF st1 (K20 s) (f_X11_match_135 r_X11_chosen r_X11_match x1 x2 x3 x4 σ) := by
  unfold f_X11_match_135
  exact (PF.ite (fun _ => (PF.ite (fun _ => (PF.ite (fun _ => (PF.ite (fun _ => (PF.ite (fun _ => (PF.ite (fun _ => (PF.ret1 h)) (fun _ => PF.none))) (fun _ => PF.none))) (fun _ => PF.none))) (fun _ => PF.none))) (fun _ => (w20_X11_match_170 h_r_X11_chosen h_r_X11_match h)))) (fun _ => (w20_X11_match_170 h_r_X11_chosen h_r_X11_match h)))
theorem w20_X11_match {s : ST} {r_X11_chosen : Int32 → Int32 → ST → Option (Int32 × ST)} {r_X11_match : Int32 → Int32 → ST → Option (Int32 × ST)} {p0 : Int32} {p1 : Int32} {σ : ST} (h_r_X11_chosen : ∀ (x1 : Int32) (x2 : Int32) (σ : ST), K20 s σ → PF st1 (K20 s) (r_X11_chosen x1 x2 σ)) (h_r_X11_match : ∀ (x1 : Int32) (x2 : Int32) (σ : ST), K20 s σ → PF st1 (K20 s) (r_X11_match x1 x2 σ))  (h : K20 s σ) : PF st1 (K20 s) (f_X11_match r_X11_chosen r_X11_match p0 p1 σ) := by
  unfold f_X11_match
  exact (PF.ite (fun _ => (PF.ite (fun _ => (w20_X11_match_16 h_r_X11_chosen h_r_X11_match _ _ _ _ _ _ h)) (fun _ => (PF.ite (fun _ => (PF.ite (fun _ => (PF.bnd (h_r_X11_chosen _ _ _ h) (fun q5 hq5 => (PF.ite (fun _ => (PF.ret1 hq5)) (fun _ => (PF.ret1 hq5)))))) (fun _ => (PF.ite (fun _ => (PF.ite (fun _ => (PF.bnd (h_r_X11_match _ _ _ h) (fun q3 hq3 => (PF.ite (fun _ => (PF.ret1 hq3)) (fun _ => PF.none))))) (fun _ => (w20_X11_match_135 h_r_X11_chosen h_r_X11_match h)))) (fun _ => (w20_X11_match_135 h_r_X11_chosen h_r_X11_match h)))))) (fun _ => PF.none))))) (fun _ => PF.none))
theorem w20R_X11_chosen {s : ST} : ∀ n : Nat, (∀ (p0 : Int32) (p1 : Int32) (σ : ST), K20 s σ → PF st1 (K20 s) ((R_X11_chosen n).1 p0 p1 σ)) ∧ (∀ (p0 : Int32) (p1 : Int32) (σ : ST), K20 s σ → PF st1 (K20 s) ((R_X11_chosen n).2 p0 p1 σ)) := by
  intro n
  induction n with
  | zero => exact ⟨fun _ _ _ _ => PF.none, fun _ _ _ _ => PF.none⟩
  | succ n ih => exact ⟨fun _ _ _ h => w20_X11_chosen (ih.1) (ih.2)  h, fun _ _ _ h => w20_X11_match (ih.1) (ih.2)  h⟩
theorem w20_T_X11_match {s : ST} {p0 : Int32} {p1 : Int32} {σ : ST} (h : K20 s σ) : PF st1 (K20 s) (f_T_X11_match p0 p1 σ) := (w20R_X11_chosen FRB).2 _ _ _  h
theorem w20_X11_enters {s : ST} {p0 : Int32} {σ : ST}   (h : K20 s σ) : PF st0 (K20 s) (f_X11_enters p0 σ) := by
  unfold f_X11_enters
  exact (PF.ite (fun _ => (PF.bnd (PF.ret0 (K20.i (by omega) (K20.i (by omega) h))) (fun z2 hz2 => (PF.ret0 hz2)))) (fun _ => PF.none))
theorem w20_X11_looksAt_69 {s : ST} {r_X11_looksAt : Int32 → Int32 → ST → Option (ST)} {r_X11_looksAtRecords : Int32 → Int32 → ST → Option (ST)} {k13 : Int32 → Int32 → Int32 → ST → Option (ST)} {x1 : Int32} {x2 : Int32} {x3 : Int32} {σ : ST} (h_r_X11_looksAt : ∀ (x1 : Int32) (x2 : Int32) (σ : ST), K20 s σ → PF st0 (K20 s) (r_X11_looksAt x1 x2 σ)) (h_r_X11_looksAtRecords : ∀ (x1 : Int32) (x2 : Int32) (σ : ST), K20 s σ → PF st0 (K20 s) (r_X11_looksAtRecords x1 x2 σ)) (h_k13 : ∀ (x1 : Int32) (x2 : Int32) (x3 : Int32) (σ : ST), K20 s σ → PF st0 (K20 s) (k13 x1 x2 x3 σ))  (h : K20 s σ) : PF st0 (K20 s) (f_X11_looksAt_69 r_X11_looksAt r_X11_looksAtRecords k13 x1 x2 x3 σ) := by
  unfold f_X11_looksAt_69
  exact (h_k13 _ _ _ _ (K20.i (by omega) h))
theorem w20_X11_looksAt_13 {s : ST} {r_X11_looksAt : Int32 → Int32 → ST → Option (ST)} {r_X11_looksAtRecords : Int32 → Int32 → ST → Option (ST)} (h_r_X11_looksAt : ∀ (x1 : Int32) (x2 : Int32) (σ : ST), K20 s σ → PF st0 (K20 s) (r_X11_looksAt x1 x2 σ)) (h_r_X11_looksAtRecords : ∀ (x1 : Int32) (x2 : Int32) (σ : ST), K20 s σ → PF st0 (K20 s) (r_X11_looksAtRecords x1 x2 σ))  : ∀ (n : Nat) (x1 : Int32) (x2 : Int32) (x3 : Int32) (σ : ST), K20 s σ → PF st0 (K20 s) (f_X11_looksAt_13 r_X11_looksAt r_X11_looksAtRecords n x1 x2 x3 σ) := by
  intro n
  induction n with
  | zero => intro x1 x2 x3 σ h; rw [f_X11_looksAt_13]; exact PF.none
  | succ n ih =>
    intro x1 x2 x3 σ h
    rw [f_X11_looksAt_13]
    exact (PF.ite (fun _ => (PF.ite (fun _ => (PF.ret0 h)) (fun _ => (PF.bnd (w20_X11_enters  h) (fun q2 hq2 => (PF.ite (fun _ => (PF.bnd (w20_T_X11_match hq2) (fun q5 hq5 => (PF.ite (fun _ => (PF.bnd (w20_X11_misses  hq5) (fun q7 hq7 => (w20_X11_looksAt_69 h_r_X11_looksAt h_r_X11_looksAtRecords ih hq7)))) (fun _ => (PF.bnd (h_r_X11_looksAt _ _ _ hq5) (fun q9 hq9 => (w20_X11_looksAt_69 h_r_X11_looksAt h_r_X11_looksAtRecords ih hq9)))))))) (fun _ => PF.none))))))) (fun _ => PF.none))
theorem w20_T_X11_chosen {s : ST} {p0 : Int32} {p1 : Int32} {σ : ST} (h : K20 s σ) : PF st1 (K20 s) (f_T_X11_chosen p0 p1 σ) := (w20R_X11_chosen FRB).1 _ _ _  h
theorem w20_X11_looksAt_253 {s : ST} {r_X11_looksAt : Int32 → Int32 → ST → Option (ST)} {r_X11_looksAtRecords : Int32 → Int32 → ST → Option (ST)} {x1 : Int32} {x2 : Int32} {σ : ST} (h_r_X11_looksAt : ∀ (x1 : Int32) (x2 : Int32) (σ : ST), K20 s σ → PF st0 (K20 s) (r_X11_looksAt x1 x2 σ)) (h_r_X11_looksAtRecords : ∀ (x1 : Int32) (x2 : Int32) (σ : ST), K20 s σ → PF st0 (K20 s) (r_X11_looksAtRecords x1 x2 σ))  (h : K20 s σ) : PF st0 (K20 s) (f_X11_looksAt_253 r_X11_looksAt r_X11_looksAtRecords x1 x2 σ) := by
  unfold f_X11_looksAt_253
  exact (PF.bnd (w20_T_X11_match h) (fun q1 hq1 => (PF.ite (fun _ => (PF.bnd (w20_X11_misses  hq1) (fun q3 hq3 => (PF.ret0 hq3)))) (fun _ => (PF.ret0 hq1)))))
theorem w20_X11_looksAt_196 {s : ST} {r_X11_looksAt : Int32 → Int32 → ST → Option (ST)} {r_X11_looksAtRecords : Int32 → Int32 → ST → Option (ST)} {x1 : Int32} {x2 : Int32} {σ : ST} (h_r_X11_looksAt : ∀ (x1 : Int32) (x2 : Int32) (σ : ST), K20 s σ → PF st0 (K20 s) (r_X11_looksAt x1 x2 σ)) (h_r_X11_looksAtRecords : ∀ (x1 : Int32) (x2 : Int32) (σ : ST), K20 s σ → PF st0 (K20 s) (r_X11_looksAtRecords x1 x2 σ))  (h : K20 s σ) : PF st0 (K20 s) (f_X11_looksAt_196 r_X11_looksAt r_X11_looksAtRecords x1 x2 σ) := by
  unfold f_X11_looksAt_196
  exact (PF.ite (fun _ => (PF.ite (fun _ => (PF.ite (fun _ => (PF.ite (fun _ => (PF.bnd (w20_X11_enters  h) (fun q3 hq3 => (PF.bnd (h_r_X11_looksAt _ _ _ hq3) (fun q5 hq5 => (PF.ret0 (K20.i (by omega) hq5))))))) (fun _ => (w20_X11_looksAt_253 h_r_X11_looksAt h_r_X11_looksAtRecords h)))) (fun _ => PF.none))) (fun _ => (w20_X11_looksAt_253 h_r_X11_looksAt h_r_X11_looksAtRecords h)))) (fun _ => PF.none))
theorem w20_X11_looksAt {s : ST} {r_X11_looksAt : Int32 → Int32 → ST → Option (ST)} {r_X11_looksAtRecords : Int32 → Int32 → ST → Option (ST)} {p0 : Int32} {p1 : Int32} {σ : ST} (h_r_X11_looksAt : ∀ (x1 : Int32) (x2 : Int32) (σ : ST), K20 s σ → PF st0 (K20 s) (r_X11_looksAt x1 x2 σ)) (h_r_X11_looksAtRecords : ∀ (x1 : Int32) (x2 : Int32) (σ : ST), K20 s σ → PF st0 (K20 s) (r_X11_looksAtRecords x1 x2 σ))  (h : K20 s σ) : PF st0 (K20 s) (f_X11_looksAt r_X11_looksAt r_X11_looksAtRecords p0 p1 σ) := by
  unfold f_X11_looksAt
  exact (PF.ite (fun _ => (PF.ite (fun _ => (w20_X11_looksAt_13 h_r_X11_looksAt h_r_X11_looksAtRecords _ _ _ _ _ h)) (fun _ => (PF.ite (fun _ => (PF.ite (fun _ => (PF.bnd (w20_T_X11_chosen h) (fun q7 hq7 => (PF.ite (fun _ => (PF.ite (fun _ => (PF.bnd (h_r_X11_looksAt _ _ _ hq7) (fun q10 hq10 => (PF.ret0 hq10)))) (fun _ => PF.none))) (fun _ => (PF.bnd (w20_X11_misses  hq7) (fun q12 hq12 => (PF.ret0 hq12)))))))) (fun _ => (PF.ite (fun _ => (PF.ite (fun _ => (PF.bnd (w20_X11_namesMay  h) (fun q3 hq3 => (PF.ite (fun _ => (w20_X11_looksAt_196 h_r_X11_looksAt h_r_X11_looksAtRecords hq3)) (fun _ => (PF.bnd (h_r_X11_looksAtRecords _ _ _ hq3) (fun q5 hq5 => (PF.ret0 hq5)))))))) (fun _ => (w20_X11_looksAt_196 h_r_X11_looksAt h_r_X11_looksAtRecords h)))) (fun _ => (w20_X11_looksAt_196 h_r_X11_looksAt h_r_X11_looksAtRecords h)))))) (fun _ => PF.none))))) (fun _ => PF.none))
theorem w20_X11_looksAtRecords_116 {s : ST} {r_X11_looksAt : Int32 → Int32 → ST → Option (ST)} {r_X11_looksAtRecords : Int32 → Int32 → ST → Option (ST)} {k40 : Int32 → Int32 → Int32 → ST → Option (ST)} {x1 : Int32} {x3 : Int32} {x4 : Int32} {σ : ST} (h_r_X11_looksAt : ∀ (x1 : Int32) (x2 : Int32) (σ : ST), K20 s σ → PF st0 (K20 s) (r_X11_looksAt x1 x2 σ)) (h_r_X11_looksAtRecords : ∀ (x1 : Int32) (x2 : Int32) (σ : ST), K20 s σ → PF st0 (K20 s) (r_X11_looksAtRecords x1 x2 σ)) (h_k40 : ∀ (x1 : Int32) (x2 : Int32) (x3 : Int32) (σ : ST), K20 s σ → PF st0 (K20 s) (k40 x1 x2 x3 σ))  (h : K20 s σ) : PF st0 (K20 s) (f_X11_looksAtRecords_116 r_X11_looksAt r_X11_looksAtRecords k40 x1 x3 x4 σ) := by
  unfold f_X11_looksAtRecords_116
  exact (h_k40 _ _ _ _ (K20.i (by omega) h))
theorem w20_X11_looksAtRecords_40 {s : ST} {r_X11_looksAt : Int32 → Int32 → ST → Option (ST)} {r_X11_looksAtRecords : Int32 → Int32 → ST → Option (ST)} (h_r_X11_looksAt : ∀ (x1 : Int32) (x2 : Int32) (σ : ST), K20 s σ → PF st0 (K20 s) (r_X11_looksAt x1 x2 σ)) (h_r_X11_looksAtRecords : ∀ (x1 : Int32) (x2 : Int32) (σ : ST), K20 s σ → PF st0 (K20 s) (r_X11_looksAtRecords x1 x2 σ))  : ∀ (n : Nat) (x1 : Int32) (x2 : Int32) (x3 : Int32) (σ : ST), K20 s σ → PF st0 (K20 s) (f_X11_looksAtRecords_40 r_X11_looksAt r_X11_looksAtRecords n x1 x2 x3 σ) := by
  intro n
  induction n with
  | zero => intro x1 x2 x3 σ h; rw [f_X11_looksAtRecords_40]; exact PF.none
  | succ n ih =>
    intro x1 x2 x3 σ h
    rw [f_X11_looksAtRecords_40]
    exact (PF.ite (fun _ => (PF.ite (fun _ => (PF.ret0 h)) (fun _ => (PF.bnd (w20_X11_fieldFor  h) (fun q2 hq2 => (PF.bnd (w20_X11_enters  hq2) (fun q4 hq4 => (PF.ite (fun _ => (PF.ite (fun _ => (PF.ite (fun _ => (PF.bnd (w20_X11_misses  hq4) (fun q7 hq7 => (w20_X11_looksAtRecords_116 h_r_X11_looksAt h_r_X11_looksAtRecords ih hq7)))) (fun _ => (w20_X11_looksAtRecords_116 h_r_X11_looksAt h_r_X11_looksAtRecords ih hq4)))) (fun _ => PF.none))) (fun _ => (PF.ite (fun _ => (PF.ite (fun _ => (PF.bnd (h_r_X11_looksAt _ _ _ hq4) (fun q11 hq11 => (w20_X11_looksAtRecords_116 h_r_X11_looksAt h_r_X11_looksAtRecords ih hq11)))) (fun _ => PF.none))) (fun _ => PF.none))))))))))) (fun _ => PF.none))
theorem w20_X11_looksAtRecords {s : ST} {r_X11_looksAt : Int32 → Int32 → ST → Option (ST)} {r_X11_looksAtRecords : Int32 → Int32 → ST → Option (ST)} {p0 : Int32} {p1 : Int32} {σ : ST} (h_r_X11_looksAt : ∀ (x1 : Int32) (x2 : Int32) (σ : ST), K20 s σ → PF st0 (K20 s) (r_X11_looksAt x1 x2 σ)) (h_r_X11_looksAtRecords : ∀ (x1 : Int32) (x2 : Int32) (σ : ST), K20 s σ → PF st0 (K20 s) (r_X11_looksAtRecords x1 x2 σ))  (h : K20 s σ) : PF st0 (K20 s) (f_X11_looksAtRecords r_X11_looksAt r_X11_looksAtRecords p0 p1 σ) := by
  unfold f_X11_looksAtRecords
  exact (PF.ite (fun _ => (PF.ite (fun _ => (PF.val (w20_X11_looksAtRecords_40 h_r_X11_looksAt h_r_X11_looksAtRecords _ _ _ _ _ (K20.i (by omega) h)))) (fun _ => (PF.ret0 h)))) (fun _ => PF.none))
theorem w20R_X11_looksAt {s : ST} : ∀ n : Nat, (∀ (p0 : Int32) (p1 : Int32) (σ : ST), K20 s σ → PF st0 (K20 s) ((R_X11_looksAt n).1 p0 p1 σ)) ∧ (∀ (p0 : Int32) (p1 : Int32) (σ : ST), K20 s σ → PF st0 (K20 s) ((R_X11_looksAt n).2 p0 p1 σ)) := by
  intro n
  induction n with
  | zero => exact ⟨fun _ _ _ _ => PF.none, fun _ _ _ _ => PF.none⟩
  | succ n ih => exact ⟨fun _ _ _ h => w20_X11_looksAt (ih.1) (ih.2)  h, fun _ _ _ h => w20_X11_looksAtRecords (ih.1) (ih.2)  h⟩
theorem w20_T_X11_looksAtRecords {s : ST} {p0 : Int32} {p1 : Int32} {σ : ST} (h : K20 s σ) : PF st0 (K20 s) (f_T_X11_looksAtRecords p0 p1 σ) := (w20R_X11_looksAt FRB).2 _ _ _  h
