/-! the class's stores while a field is read -/
theorem i88 {p0 p1 : Int32} {r j : Nat} (h0 : p0.toInt = r) (h1 : p1.toInt = j) (hr : r < 36) (hj : j < 8) : (p0 * 8 + p1).toInt = 8 * (r : Int) + j ∧ (p0 * 8 + p1).toNatClampNeg = 8 * r + j := by
  have l8 := li_8
  have e8 : (p0 * 8).toInt = 8 * p0.toInt := by
    rw [Int32.mul_comm]
    exact mlE (k := 8) (y := p0) 8 l8 (by omega) (by omega)
  have e := il_addE (x := p0 * 8) (y := p1) (by omega) (by omega)
  exact ⟨by omega, nC (by omega)⟩
theorem a_isFieldE (p0 p1 : Int32) (σ : ST) {r j : Nat} (h0 : p0.toInt = r) (h1 : p1.toInt = j) (hr : r < 36) (hj : j < 8) : ∃ v : Int32, f_X5_isFieldOf p0 p1 σ = some (v, σ) ∧ ¬ v = 0 := by
  obtain ⟨⟨v, s⟩, e, e2, hv⟩ := a_isFieldOf p0 p1 σ ⟨by omega, by omega⟩ ⟨by omega, by omega⟩
  have e2 : s = σ := e2
  subst e2
  have hv : v.toInt = 1 := hv
  have l0 := li_0
  exact ⟨v, e, fun e9 => by rw [e9] at hv; omega⟩
theorem a_setType (p0 p1 p2 : Int32) (σ : ST) {r j : Nat} (h0 : p0.toInt = r) (h1 : p1.toInt = j) (hr : r < 36) (hj : j < 8) : f_X5_setType 20 p0 p1 p2 σ = some (stI σ 29 (8 * r + j) p2) := by
  unfold f_X5_setType
  obtain ⟨v, e, hv⟩ := a_isFieldE p0 p1 σ h0 h1 hr hj
  obtain ⟨i1, i2⟩ := i88 h0 h1 hr hj
  rw [e]
  show (if v = 0 then some σ else if 0 ≤ (p0 * 8 + p1).toInt ∧ (p0 * 8 + p1).toInt < 288 then some (stI σ (20 + 9) (p0 * 8 + p1).toNatClampNeg p2) else none) = _
  rw [if_neg hv, if_pos ⟨by omega, by omega⟩, i2]
theorem a_setFormerName (p0 p1 : Int32) (p2 : Int64) (σ : ST) {r j : Nat} (h0 : p0.toInt = r) (h1 : p1.toInt = j) (hr : r < 36) (hj : j < 8) : f_X5_setFormerName 20 p0 p1 p2 σ = some (stL σ 28 (8 * r + j) p2) := by
  unfold f_X5_setFormerName
  obtain ⟨v, e, hv⟩ := a_isFieldE p0 p1 σ h0 h1 hr hj
  obtain ⟨i1, i2⟩ := i88 h0 h1 hr hj
  rw [e]
  show (if v = 0 then some σ else if 0 ≤ (p0 * 8 + p1).toInt ∧ (p0 * 8 + p1).toInt < 288 then some (stL σ (20 + 8) (p0 * 8 + p1).toNatClampNeg p2) else none) = _
  rw [if_neg hv, if_pos ⟨by omega, by omega⟩, i2]
theorem a_fieldName (p0 p1 : Int32) (σ : ST) {r j : Nat} (h0 : p0.toInt = r) (h1 : p1.toInt = j) (hr : r < 36) (hj : j < 8) : f_X5_fieldName 20 p0 p1 σ = some (σ.2.1 27 (8 * r + j), σ) := by
  unfold f_X5_fieldName
  obtain ⟨v, e, hv⟩ := a_isFieldE p0 p1 σ h0 h1 hr hj
  obtain ⟨i1, i2⟩ := i88 h0 h1 hr hj
  rw [e]
  show (if v = 0 then some (0, σ) else if 0 ≤ (p0 * 8 + p1).toInt ∧ (p0 * 8 + p1).toInt < 288 then some (σ.2.1 (20 + 7) (p0 * 8 + p1).toNatClampNeg, σ) else none) = _
  rw [if_neg hv, if_pos ⟨by omega, by omega⟩, i2]
theorem a_typeOf (p0 p1 : Int32) (σ : ST) {r j : Nat} (h0 : p0.toInt = r) (h1 : p1.toInt = j) (hr : r < 36) (hj : j < 8) : f_X5_typeOf 20 p0 p1 σ = some (σ.1 29 (8 * r + j), σ) := by
  unfold f_X5_typeOf
  obtain ⟨v, e, hv⟩ := a_isFieldE p0 p1 σ h0 h1 hr hj
  obtain ⟨i1, i2⟩ := i88 h0 h1 hr hj
  rw [e]
  show (if v = 0 then some ((-1), σ) else if 0 ≤ (p0 * 8 + p1).toInt ∧ (p0 * 8 + p1).toInt < 288 then some (σ.1 (20 + 9) (p0 * 8 + p1).toNatClampNeg, σ) else none) = _
  rw [if_neg hv, if_pos ⟨by omega, by omega⟩, i2]
/-- the first choice of a type, by the rows of both -/
theorem a_firstChoice (p0 : Int32) (σ : ST) (c : Nat) (h : p0.toInt = c) (hc : c < 262) (hn : (c : Int) < (σ.1 20 1).toInt) : OK (f_X5_firstChoice 20 p0 σ) (RO σ fun v => (σ.1 31 c).toInt = 8 ∧ v = σ.1 32 c ∨ ¬ (σ.1 31 c).toInt = 8 ∧ v = p0) := by
  unfold f_X5_firstChoice f_X5_innerOf
  have l0 := li_0
  have l8 := li_8
  have nc : p0.toNatClampNeg = c := nC h
  refine OK.bndR (a_sortOf p0 σ c h hc hn) (fun v hv => ?_)
  dsimp only
  rw [hv]
  refine OK.ieq (fun h8 => ?_) (fun h8 => OK.roret (.inr ⟨by omega, rfl⟩))
  refine OK.bndR (s := σ) (Q := fun u => u = σ.1 32 c) ?_ (fun u hu => OK.roret (.inl ⟨by omega, hu⟩))
  refine OK.bndR (a_isType p0 σ c h hc hn) (fun w hw => ?_)
  dsimp only
  refine OK.ieq (fun h9 => by omega) (fun _ => ?_)
  refine OK.grd ⟨by omega, by omega⟩ ?_
  rw [nc]
  exact OK.roret rfl
