/-! record: both answer alike -/
/-- a plan that holds, side by side -/
def PH5 (p : Nat) (σ τ : ST) : Prop := σ.1 5 p = τ.1 8 p ∧ (0 ≤ (σ.1 5 p).toInt ∧ (σ.1 5 p).toInt ≤ 6) ∧ ∀ i : Nat, (i : Int) < (σ.1 5 p).toInt → RLEN (σ.2.1 8 (6 * p + i)) (τ.1 10 (6 * p + i)) ∧ σ.1 7 (6 * p + i) = τ.1 11 (6 * p + i)
theorem a4_recordsOf (p0 : Int32) (σ : ST) {p : Nat} (h0 : p0.toInt = p) (hp : p < 6) : f_X5_recordsOf 4 p0 σ = some (σ.1 5 p, σ) := by
  unfold f_X5_recordsOf
  have l0 := li_0
  have l6 := li_6
  have np : p0.toNatClampNeg = p := nC h0
  rw [if_neg (by rw [Int32.lt_iff_toInt_lt]; omega), if_neg (by rw [Int32.le_iff_toInt_le]; omega), if_pos ⟨by omega, by omega⟩, np]
theorem a4_fieldsOf (p0 : Int32) (σ : ST) {r : Nat} (h0 : p0.toInt = r) (hr : r < 36) : f_X5_fieldsOf 4 p0 σ = some (σ.1 7 r, σ) := by
  unfold f_X5_fieldsOf f_X5_isRecord
  have l0 := li_0
  have l36 : (36 : Int32).toInt = 36 := by decide
  have nr : p0.toNatClampNeg = r := nC h0
  rw [if_neg (by rw [Int32.lt_iff_toInt_lt]; omega), if_neg (by rw [Int32.le_iff_toInt_le]; omega), sbnd]
  dsimp only
  rw [if_neg (by decide), if_pos ⟨by omega, by omega⟩, nr]
theorem a4_recordName (p0 : Int32) (σ : ST) {r : Nat} (h0 : p0.toInt = r) (hr : r < 36) : f_X5_recordName 4 p0 σ = some (σ.2.1 8 r, σ) := by
  unfold f_X5_recordName f_X5_isRecord
  have l0 := li_0
  have l36 : (36 : Int32).toInt = 36 := by decide
  have nr : p0.toNatClampNeg = r := nC h0
  rw [if_neg (by rw [Int32.lt_iff_toInt_lt]; omega), if_neg (by rw [Int32.le_iff_toInt_le]; omega), sbnd]
  dsimp only
  rw [if_neg (by decide), if_pos ⟨by omega, by omega⟩, nr]
theorem PHB.ph5 {p : Nat} {σ τ : ST} (h : PHB 4 p σ τ) : PH5 p σ τ := by
  obtain ⟨⟨h1, h2⟩, _, _, h4⟩ := h
  have h1 : σ.1 5 p = τ.1 8 p := h1
  refine ⟨h1, by rw [h1]; omega, fun i hi => ?_⟩
  rw [h1] at hi
  obtain ⟨_, x2, x3, _⟩ := h4 i hi
  exact ⟨x2, x3.1⟩
theorem ab_record5 (p0 p1 p2 : Int32) (σ τ : ST) (hc : σ.1 4 0 = τ.1 0 32) (hb : bI (τ.1 0 32) 0 6) (hT : ∀ p : Nat, (p : Int) < (τ.1 0 32).toInt → PH5 p σ τ) : OK (f_X10_record p0 p1 p2 σ) (fun qa => OK (f_X11_record_ p0 p1 p2 τ) (fun qb => qa.1 = qb.1)) := by
  unfold f_X10_record f_X11_record_
  have l0 := li_0
  have l1 := li_1
  have lm := li_m1
  have k0 := l64_0
  have k1 := l64_1
  have hb' := hb
  unfold bI at hb'
  have hci : (σ.1 4 0).toInt = (τ.1 0 32).toInt := by rw [hc]
  have s32 : (stI τ 0 0 0).1 0 32 = τ.1 0 32 := rfl
  have s8 : (stI τ 0 0 0).1 8 = τ.1 8 := rfl
  have s10 : (stI τ 0 0 0).1 10 = τ.1 10 := rfl
  have s11 : (stI τ 0 0 0).1 11 = τ.1 11 := rfl
  generalize stI τ 0 0 0 = s at s32 s8 s10 s11 ⊢
  refine OK.bndR (k2_isPlan p0 σ) (fun v hv => ?_)
  dsimp only
  refine OK.sw ?_
  refine OK.bndR (b_isPlanAt p0 s (by rw [s32]; exact hb)) (fun w hw => ?_)
  dsimp only
  rw [s32] at hw
  by_cases hp : 0 ≤ p0.toInt ∧ p0.toInt < (τ.1 0 32).toInt
  rotate_left
  · refine OK.ieq (fun _ => ?_) (fun h => by omega)
    refine OK.ret ?_
    refine OK.ieq (fun _ => ?_) (fun h => by omega)
    exact OK.ret rfl
  refine OK.ieq (fun h => by omega) (fun _ => ?_)
  refine OK.sw ?_
  refine OK.ieq (fun h => by omega) (fun _ => ?_)
  obtain ⟨p, hp9⟩ : ∃ p : Nat, p0.toInt = p := ⟨p0.toInt.toNat, by omega⟩
  obtain ⟨t1, t2, t3⟩ := hT p (by omega)
  have np : p0.toNatClampNeg = p := nC hp9
  rw [a4_recordsOf p0 σ hp9 (by omega), sbnd]
  dsimp only
  have t1' : (τ.1 8 p).toInt = (σ.1 5 p).toInt := by rw [t1]
  by_cases h1 : p1.toInt = -1
  · refine OK.ieq (fun _ => ?_) (fun h => by omega)
    refine OK.ret ?_
    refine OK.ieq (fun _ => ?_) (fun h => by omega)
    refine OK.grd ⟨by omega, by omega⟩ ?_
    rw [np, s8]
    exact OK.ret t1
  refine OK.ieq (fun h => by omega) (fun _ => ?_)
  refine OK.sw ?_
  refine OK.ieq (fun h => by omega) (fun _ => ?_)
  have i2 := i64 p2
  have i1 := i64 p1
  refine OK.bndR (b_within _ _ _ _) (fun u hu => ?_)
  dsimp only
  by_cases h2 : 0 ≤ p2.toInt ∧ p2.toInt ≤ 1
  rotate_left
  · refine OK.ieq (fun _ => ?_) (fun h => by omega)
    refine OK.ret ?_
    refine OK.ilt (fun _ => OK.ret rfl) (fun _ => ?_)
    refine OK.ilt (fun _ => ?_) (fun _ => OK.ret rfl)
    refine OK.ieq (fun h => by omega) (fun _ => ?_)
    refine OK.ieq (fun h => by omega) (fun _ => ?_)
    exact OK.ret rfl
  refine OK.ieq (fun h => by omega) (fun _ => ?_)
  refine OK.grd ⟨by omega, by omega⟩ ?_
  rw [np, s8]
  have es := il_subE (x := τ.1 8 p) (y := 1) (by omega) (by omega)
  have i3 := i64 (τ.1 8 p - 1)
  refine OK.bndR (b_within _ _ _ _) (fun u2 hu2 => ?_)
  dsimp only
  by_cases h3 : 0 ≤ p1.toInt ∧ p1.toInt < (σ.1 5 p).toInt
  rotate_left
  · refine OK.ieq (fun _ => ?_) (fun h => by omega)
    refine OK.ret ?_
    refine OK.ilt (fun _ => OK.ret rfl) (fun _ => ?_)
    refine OK.ilt (fun h => by omega) (fun _ => OK.ret rfl)
  refine OK.ieq (fun h => by omega) (fun _ => ?_)
  obtain ⟨i, hi9⟩ : ∃ i : Nat, p1.toInt = i := ⟨p1.toInt.toNat, by omega⟩
  obtain ⟨r1, r2⟩ := t3 i (by omega)
  have em := mlE (k := 6) (y := p0) 6 (by decide) (by omega) (by omega)
  have ea := il_addE (x := 6 * p0) (y := p1) (by omega) (by omega)
  have cA : p0 * 6 = 6 * p0 := Int32.mul_comm _ _
  have nr : (6 * p0 + p1).toNatClampNeg = 6 * p + i := nC (by omega)
  rw [cA, nr, s10, s11]
  by_cases h4 : p2.toInt = 0
  · refine OK.ieq (fun _ => ?_) (fun h => by omega)
    refine OK.grd ⟨by omega, by omega⟩ ?_
    refine OK.ret ?_
    refine OK.ilt (fun h => by omega) (fun _ => ?_)
    refine OK.ilt (fun _ => ?_) (fun h => by omega)
    refine OK.ieq (fun _ => ?_) (fun h => by omega)
    rw [a4_fieldsOf (6 * p0 + p1) σ (r := 6 * p + i) (by omega) (by omega), sbnd]
    exact OK.ret r2
  · refine OK.ieq (fun h => by omega) (fun _ => ?_)
    refine OK.grd ⟨by omega, by omega⟩ ?_
    refine OK.ret ?_
    refine OK.ilt (fun h => by omega) (fun _ => ?_)
    refine OK.ilt (fun _ => ?_) (fun h => by omega)
    refine OK.ieq (fun h => by omega) (fun _ => ?_)
    refine OK.ieq (fun _ => ?_) (fun h => by omega)
    rw [a4_recordName (6 * p0 + p1) σ (r := 6 * p + i) (by omega) (by omega), sbnd]
    refine OK.bndR (a_lettersIn _ _ σ r1) (fun v9 h9 => ?_)
    exact OK.ret h9
