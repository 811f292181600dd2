/-! record: both answer alike -/
theorem k5_plans (p0 : Int32) (σ : ST) (q : Int32 × ST) (h : f_X10_plans p0 σ = some q) (hr : 0 ≤ p0.toInt ∧ p0.toInt ≤ (σ.1 0 1).toInt) (s1 : ST) (r : Int32) (s2 : ST) (e1 : f_X6_begin p0 (stI σ 0 1 0) = some s1) (e2 : f_X3_parse s1 = some (r, s2)) : (r.toInt = 0 → KTA σ q.2) ∧ (¬ r.toInt = 0 → (∀ i, i < 6 → q.2.1 5 i = s2.1 21 i) ∧ ∀ i, i < 36 → q.2.1 7 i = s2.1 23 i ∧ q.2.2.1 8 i = s2.2.1 24 i) := by
  have l0 := li_0
  unfold f_X10_plans at h
  rw [if_neg (by rw [Int32.lt_iff_toInt_lt]; omega), if_pos (by rw [Int32.le_iff_toInt_le]; omega), e1, sbnd, e2, sbnd] at h
  dsimp only at h
  refine ⟨fun r0 => ?_, fun r1 => ?_⟩
  · rw [if_pos (Int32.toInt_inj.mp (r0.trans l0.symm))] at h
    obtain ⟨x, ex, h⟩ := bnd_some h
    cases h
    have k1 : KTA σ s1 := w_X6_begin (KTA.i (by omega) KTA.rf) s1 e1
    have k2 : KTA σ s2 := w_X3_parse k1 (r, s2) e2
    exact w_X6_faultAnswer k2 x ex
  · rw [if_neg (fun e => r1 (by rw [e]; exact l0))] at h
    obtain ⟨c, ec, h⟩ := bnd_some h
    obtain ⟨d, ed, h⟩ := bnd_some h
    obtain ⟨x1, e3, h⟩ := bnd_some h
    obtain ⟨x2, e4, h⟩ := bnd_some h
    obtain ⟨x3, e5, h⟩ := bnd_some h
    obtain ⟨x4, e6, h⟩ := bnd_some h
    cases h
    have k1 : K5A c d := v_X5_findEmptyRecords (by omega) K5A.rf d ed
    have k2 : K5A c x1 := v_X1_clear k1 x1 e3
    have k3 : K5A c x2 := v_X0_clear k2 x2 e4
    have k4 : K5A c x3 := v_X9_clear k3 x3 e5
    have k5 : K5A c x4 := v_X7_clear (by omega) k4 x4 e6
    obtain ⟨_, c2, c3⟩ := a_copy s2 c ec
    refine ⟨fun i hi => ?_, fun i hi => ⟨?_, ?_⟩⟩
    · show x4.1 5 i = _
      rw [k5.1]
      exact c2 (1, 6) (by decide) i hi
    · show x4.1 7 i = _
      rw [k5.2.1]
      exact c2 (3, 36) (by decide) i hi
    · show x4.2.1 8 i = _
      rw [k5.2.2]
      exact c3 (4, 36) (by decide) i hi
/-- a plan that holds, side by side -/
def PH5 (p : Nat) (σ τ : ST) : Prop := σ.1 5 p = τ.1 8 p ∧ (0 ≤ (σ.1 5 p).toInt ∧ (σ.1 5 p).toInt ≤ 6) ∧ ∀ i : Nat, (i : Int) < (σ.1 5 p).toInt → RLEN (σ.2.1 8 (6 * p + i)) (τ.1 10 (6 * p + i)) ∧ σ.1 7 (6 * p + i) = τ.1 11 (6 * p + i)
theorem PH5.keep {p : Nat} {σ τ a b : ST} (h : PH5 p σ τ) (hp : p < 6) (hA : KTA σ a) (hK : KR τ b) : PH5 p a b := by
  obtain ⟨h1, h2, h3⟩ := h
  have e5 := (hA 5 (by omega) (by omega)).1
  have e7 := (hA 7 (by omega) (by omega)).1
  have e8 := (hA 8 (by omega) (by omega)).2
  refine ⟨by rw [e5, hK.1 p hp]; exact h1, by rw [e5]; exact h2, ?_⟩
  rw [e5]
  intro i hi
  have e := hK.2 (6 * p + i) (by omega)
  rw [e7, e8, e.1, e.2]
  exact h3 i hi
theorem PT5.ph5 {p : Nat} {s a y : ST} (h : PT5 p s y) (hp : p < 6) (h5 : ∀ i, i < 6 → a.1 5 i = s.1 21 i) (h7 : ∀ i, i < 36 → a.1 7 i = s.1 23 i ∧ a.2.1 8 i = s.2.1 24 i) : PH5 p a y := by
  obtain ⟨h1, h2, h3⟩ := h
  refine ⟨by rw [h5 p hp]; exact h1, by rw [h5 p hp]; exact h2, ?_⟩
  rw [h5 p hp]
  intro i hi
  have e := h7 (6 * p + i) (by omega)
  rw [e.1, e.2]
  exact h3 i hi
theorem KTB.kr {s y : ST} (h : KTB s y) : KR s y := ⟨fun p _ => by rw [h.1 8 (by decide)], fun i _ => ⟨by rw [h.1 11 (by decide)], by rw [h.1 10 (by decide)]⟩⟩
theorem a4_recordsOf (p0 : Int32) (σ : ST) {p : Nat} (h0 : p0.toInt = p) (hp : p < 6) : f_X5_recordsOf 4 p0 σ = some (σ.1 5 p, σ) := by
  unfold f_X5_recordsOf
  have l0 := li_0
  have l6 := li_6
  have np : p0.toNatClampNeg = p := nC h0
  rw [if_neg (by rw [Int32.lt_iff_toInt_lt]; omega), if_neg (by rw [Int32.le_iff_toInt_le]; omega), if_pos ⟨by omega, by omega⟩, np]
theorem a4_fieldsOf (p0 : Int32) (σ : ST) {r : Nat} (h0 : p0.toInt = r) (hr : r < 36) : f_X5_fieldsOf 4 p0 σ = some (σ.1 7 r, σ) := by
  unfold f_X5_fieldsOf f_X5_isRecord
  have l0 := li_0
  have l36 : (36 : Int32).toInt = 36 := by decide
  have nr : p0.toNatClampNeg = r := nC h0
  rw [if_neg (by rw [Int32.lt_iff_toInt_lt]; omega), if_neg (by rw [Int32.le_iff_toInt_le]; omega), sbnd]
  dsimp only
  rw [if_neg (by decide), if_pos ⟨by omega, by omega⟩, nr]
theorem a4_recordName (p0 : Int32) (σ : ST) {r : Nat} (h0 : p0.toInt = r) (hr : r < 36) : f_X5_recordName 4 p0 σ = some (σ.2.1 8 r, σ) := by
  unfold f_X5_recordName f_X5_isRecord
  have l0 := li_0
  have l36 : (36 : Int32).toInt = 36 := by decide
  have nr : p0.toNatClampNeg = r := nC h0
  rw [if_neg (by rw [Int32.lt_iff_toInt_lt]; omega), if_neg (by rw [Int32.le_iff_toInt_le]; omega), sbnd]
  dsimp only
  rw [if_neg (by decide), if_pos ⟨by omega, by omega⟩, nr]
theorem ab_record5 (p0 p1 p2 : Int32) (σ τ : ST) (hc : σ.1 4 0 = τ.1 0 32) (hb : bI (τ.1 0 32) 0 6) (hT : ∀ p : Nat, (p : Int) < (τ.1 0 32).toInt → PH5 p σ τ) : OK (f_X10_record p0 p1 p2 σ) (fun qa => OK (f_X11_record_ p0 p1 p2 τ) (fun qb => qa.1 = qb.1)) := by
  unfold f_X10_record f_X11_record_
  have l0 := li_0
  have l1 := li_1
  have lm := li_m1
  have k0 := l64_0
  have k1 := l64_1
  have hb' := hb
  unfold bI at hb'
  have hci : (σ.1 4 0).toInt = (τ.1 0 32).toInt := by rw [hc]
  have s32 : (stI τ 0 0 0).1 0 32 = τ.1 0 32 := rfl
  have s8 : (stI τ 0 0 0).1 8 = τ.1 8 := rfl
  have s10 : (stI τ 0 0 0).1 10 = τ.1 10 := rfl
  have s11 : (stI τ 0 0 0).1 11 = τ.1 11 := rfl
  generalize stI τ 0 0 0 = s at s32 s8 s10 s11 ⊢
  refine OK.bndR (k2_isPlan p0 σ) (fun v hv => ?_)
  dsimp only
  refine OK.sw ?_
  refine OK.bndR (b_isPlanAt p0 s (by rw [s32]; exact hb)) (fun w hw => ?_)
  dsimp only
  rw [s32] at hw
  by_cases hp : 0 ≤ p0.toInt ∧ p0.toInt < (τ.1 0 32).toInt
  rotate_left
  · refine OK.ieq (fun _ => ?_) (fun h => by omega)
    refine OK.ret ?_
    refine OK.ieq (fun _ => ?_) (fun h => by omega)
    exact OK.ret rfl
  refine OK.ieq (fun h => by omega) (fun _ => ?_)
  refine OK.sw ?_
  refine OK.ieq (fun h => by omega) (fun _ => ?_)
  obtain ⟨p, hp9⟩ : ∃ p : Nat, p0.toInt = p := ⟨p0.toInt.toNat, by omega⟩
  obtain ⟨t1, t2, t3⟩ := hT p (by omega)
  have np : p0.toNatClampNeg = p := nC hp9
  rw [a4_recordsOf p0 σ hp9 (by omega), sbnd]
  dsimp only
  have t1' : (τ.1 8 p).toInt = (σ.1 5 p).toInt := by rw [t1]
  by_cases h1 : p1.toInt = -1
  · refine OK.ieq (fun _ => ?_) (fun h => by omega)
    refine OK.ret ?_
    refine OK.ieq (fun _ => ?_) (fun h => by omega)
    refine OK.grd ⟨by omega, by omega⟩ ?_
    rw [np, s8]
    exact OK.ret t1
  refine OK.ieq (fun h => by omega) (fun _ => ?_)
  refine OK.sw ?_
  refine OK.ieq (fun h => by omega) (fun _ => ?_)
  have i2 := i64 p2
  have i1 := i64 p1
  refine OK.bndR (b_within _ _ _ _) (fun u hu => ?_)
  dsimp only
  by_cases h2 : 0 ≤ p2.toInt ∧ p2.toInt ≤ 1
  rotate_left
  · refine OK.ieq (fun _ => ?_) (fun h => by omega)
    refine OK.ret ?_
    refine OK.ilt (fun _ => OK.ret rfl) (fun _ => ?_)
    refine OK.ilt (fun _ => ?_) (fun _ => OK.ret rfl)
    refine OK.ieq (fun h => by omega) (fun _ => ?_)
    refine OK.ieq (fun h => by omega) (fun _ => ?_)
    exact OK.ret rfl
  refine OK.ieq (fun h => by omega) (fun _ => ?_)
  refine OK.grd ⟨by omega, by omega⟩ ?_
  rw [np, s8]
  have es := il_subE (x := τ.1 8 p) (y := 1) (by omega) (by omega)
  have i3 := i64 (τ.1 8 p - 1)
  refine OK.bndR (b_within _ _ _ _) (fun u2 hu2 => ?_)
  dsimp only
  by_cases h3 : 0 ≤ p1.toInt ∧ p1.toInt < (σ.1 5 p).toInt
  rotate_left
  · refine OK.ieq (fun _ => ?_) (fun h => by omega)
    refine OK.ret ?_
    refine OK.ilt (fun _ => OK.ret rfl) (fun _ => ?_)
    refine OK.ilt (fun h => by omega) (fun _ => OK.ret rfl)
  refine OK.ieq (fun h => by omega) (fun _ => ?_)
  obtain ⟨i, hi9⟩ : ∃ i : Nat, p1.toInt = i := ⟨p1.toInt.toNat, by omega⟩
  obtain ⟨r1, r2⟩ := t3 i (by omega)
  have em := mlE (k := 6) (y := p0) 6 (by decide) (by omega) (by omega)
  have ea := il_addE (x := 6 * p0) (y := p1) (by omega) (by omega)
  have cA : p0 * 6 = 6 * p0 := Int32.mul_comm _ _
  have nr : (6 * p0 + p1).toNatClampNeg = 6 * p + i := nC (by omega)
  rw [cA, nr, s10, s11]
  by_cases h4 : p2.toInt = 0
  · refine OK.ieq (fun _ => ?_) (fun h => by omega)
    refine OK.grd ⟨by omega, by omega⟩ ?_
    refine OK.ret ?_
    refine OK.ilt (fun h => by omega) (fun _ => ?_)
    refine OK.ilt (fun _ => ?_) (fun h => by omega)
    refine OK.ieq (fun _ => ?_) (fun h => by omega)
    rw [a4_fieldsOf (6 * p0 + p1) σ (r := 6 * p + i) (by omega) (by omega), sbnd]
    exact OK.ret r2
  · refine OK.ieq (fun h => by omega) (fun _ => ?_)
    refine OK.grd ⟨by omega, by omega⟩ ?_
    refine OK.ret ?_
    refine OK.ilt (fun h => by omega) (fun _ => ?_)
    refine OK.ilt (fun _ => ?_) (fun h => by omega)
    refine OK.ieq (fun h => by omega) (fun _ => ?_)
    refine OK.ieq (fun _ => ?_) (fun h => by omega)
    rw [a4_recordName (6 * p0 + p1) σ (r := 6 * p + i) (by omega) (by omega), sbnd]
    refine OK.bndR (a_lettersIn _ _ σ r1) (fun v9 h9 => ?_)
    exact OK.ret h9
