/-! the names that there are: both look them up -/
theorem a_isFieldOf (p0 p1 : Int32) (σ : ST) (h0 : 0 ≤ p0.toInt ∧ p0.toInt < 36) (h1 : 0 ≤ p1.toInt ∧ p1.toInt < 8) : OK (f_X5_isFieldOf p0 p1 σ) (RO σ fun v => v.toInt = 1) := by
  unfold f_X5_isFieldOf
  have l0 := li_0
  have l8 := li_8
  have l36 : (36 : Int32).toInt = 36 := by decide
  refine OK.ilt (fun h => by omega) (fun _ => ?_)
  refine OK.ile (fun h => by omega) (fun _ => ?_)
  refine OK.ilt (fun h => by omega) (fun _ => ?_)
  exact OK.ile (fun h => by omega) (fun _ => OK.roret li_1)
theorem a_fieldNamed_29 (x2 : Int64) (x4 x5 : Int32) (σ : ST) (r m : Nat) (hr : r < 36) (h4 : x4.toInt = 8 * (r : Int)) (h5 : x5.toInt = m) (hm : m ≤ 8) : ∀ (f k : Nat) (x6 : Int32), x6.toInt = k → k ≤ m → m < f + k → (∀ i : Nat, i < k → ¬ σ.2.1 27 (8 * r + i) = x2) → OK (f_X5_fieldNamed_29 20 f x2 x4 x5 x6 σ) (RO σ fun v => v.toInt = -1 ∧ (∀ i : Nat, i < m → ¬ σ.2.1 27 (8 * r + i) = x2) ∨ 0 ≤ v.toInt ∧ ∃ i : Nat, i < m ∧ σ.2.1 27 (8 * r + i) = x2) := by
  intro f
  induction f with
  | zero => intro k x6 h1 h2 h3; omega
  | succ f ih =>
    intro k x6 h6 hk hf hn
    rw [f_X5_fieldNamed_29]
    have lm := li_m1
    have l1 := li_1
    have l8 := li_8
    refine OK.ile (fun h => OK.roret (.inl ⟨lm, fun i hi => hn i (by omega)⟩)) (fun h => ?_)
    refine OK.ile (fun h => by omega) (fun _ => ?_)
    have e := il_addE (x := x4) (y := x6) (by omega) (by omega)
    have e1 := il_addE (x := x6) (y := 1) (by omega) (by omega)
    have np : (x4 + x6).toNatClampNeg = 8 * r + k := nC (by omega)
    refine OK.grd ⟨by omega, by omega⟩ ?_
    rw [np]
    refine OK.ite (fun h9 => ?_) (fun h9 => ?_)
    · rw [lg_cmp_eq] at h9
      exact OK.roret (.inr ⟨by omega, k, by omega, h9⟩)
    · rw [lg_cmp_eq] at h9
      refine ih (k + 1) (x6 + 1) (by omega) (by omega) (by omega) (fun i hi => ?_)
      by_cases e9 : i = k
      · rw [e9]; exact h9
      · exact hn i (by omega)
theorem a_fieldNamed (p0 : Int32) (p1 : Int64) (σ : ST) (r m : Nat) (hr : r < 36) (h0 : p0.toInt = r) (hm : (σ.1 23 r).toInt = m) (hm8 : m ≤ 8) : OK (f_X5_fieldNamed 20 p0 p1 σ) (RO σ fun v => v.toInt = -1 ∧ (∀ i : Nat, i < m → ¬ σ.2.1 27 (8 * r + i) = p1) ∨ 0 ≤ v.toInt ∧ ∃ i : Nat, i < m ∧ σ.2.1 27 (8 * r + i) = p1) := by
  unfold f_X5_fieldNamed f_X5_fieldNamed_24
  have l0 := li_0
  have l8 := li_8
  have lu := FUi
  have nr : p0.toNatClampNeg = r := nC h0
  have e8 : (p0 * 8).toInt = 8 * p0.toInt := by
    rw [Int32.mul_comm]
    exact mlE (k := 8) (y := p0) 8 l8 (by omega) (by omega)
  refine OK.bndR (a_isFieldOf p0 0 σ ⟨by omega, by omega⟩ (by omega)) (fun v hv => ?_)
  dsimp only
  refine OK.ieq (fun h => by omega) (fun _ => ?_)
  refine OK.grd ⟨by omega, by omega⟩ ?_
  rw [nr]
  exact a_fieldNamed_29 p1 (p0 * 8) (σ.1 23 r) σ r m hr (by omega) hm hm8 FU 0 0 l0 (by omega) (by omega) (fun i hi => by omega)
theorem bx_fieldOf_3 (x1 : Int32) (x2 : Int64) (τ : ST) (r m : Nat) (hr : r < 72) (h1 : x1.toInt = r) (hm : (τ.1 11 r).toInt = m) (hm8 : m ≤ 8) : ∀ (f k : Nat) (x4 : Int32), x4.toInt = k → k ≤ m → m < f + k → (∀ i : Nat, i < k → ¬ τ.2.1 12 (8 * r + i) = x2) → OK (f_X11_fieldOf_3 f x1 x2 x4 τ) (RO τ fun v => v.toInt = -1 ∧ (∀ i : Nat, i < m → ¬ τ.2.1 12 (8 * r + i) = x2) ∨ 0 ≤ v.toInt ∧ ∃ i : Nat, i < m ∧ τ.2.1 12 (8 * r + i) = x2) := by
  intro f
  induction f with
  | zero => intro k x6 h1 h2 h3; omega
  | succ f ih =>
    intro k x4 h4 hk hf hn
    rw [f_X11_fieldOf_3]
    have lm := li_m1
    have l1 := li_1
    have l8 := li_8
    have nr : x1.toNatClampNeg = r := nC h1
    refine OK.grd ⟨by omega, by omega⟩ ?_
    rw [nr]
    refine OK.ile (fun h => OK.roret (.inl ⟨lm, fun i hi => hn i (by omega)⟩)) (fun h => ?_)
    have e8 := mlE (k := 8) (y := x1) 8 l8 (by omega) (by omega)
    have e := il_addE (x := 8 * x1) (y := x4) (by omega) (by omega)
    have e1 := il_addE (x := x4) (y := 1) (by omega) (by omega)
    have np : (8 * x1 + x4).toNatClampNeg = 8 * r + k := nC (by omega)
    refine OK.grd ⟨by omega, by omega⟩ ?_
    rw [np]
    refine OK.ite (fun h9 => ?_) (fun h9 => ?_)
    · rw [lg_cmp_eq] at h9
      exact OK.roret (.inr ⟨by omega, k, by omega, h9⟩)
    · rw [lg_cmp_eq] at h9
      refine ih (k + 1) (x4 + 1) (by omega) (by omega) (by omega) (fun i hi => ?_)
      by_cases e9 : i = k
      · rw [e9]; exact h9
      · exact hn i (by omega)
theorem bx_fieldOf (p0 : Int32) (p1 : Int64) (τ : ST) (r m : Nat) (hr : r < 72) (h0 : p0.toInt = r) (hm : (τ.1 11 r).toInt = m) (hm8 : m ≤ 8) : OK (f_X11_fieldOf p0 p1 τ) (RO τ fun v => v.toInt = -1 ∧ (∀ i : Nat, i < m → ¬ τ.2.1 12 (8 * r + i) = p1) ∨ 0 ≤ v.toInt ∧ ∃ i : Nat, i < m ∧ τ.2.1 12 (8 * r + i) = p1) := by
  have lu := FUi
  unfold f_X11_fieldOf
  exact bx_fieldOf_3 p0 p1 τ r m hr h0 hm hm8 FU 0 0 li_0 (by omega) (by omega) (fun i hi => by omega)
theorem a_recordNamed_3 (x1 : Int32) (x2 : Int64) (σ : ST) (p m : Nat) (hp : p < 6) (h1 : x1.toInt = p) (hm : (σ.1 21 p).toInt = m) (hm6 : m ≤ 6) : ∀ (f k : Nat) (x4 : Int32), x4.toInt = k → k ≤ m → m < f + k → (∀ i : Nat, i < k → ¬ σ.2.1 24 (6 * p + i) = x2) → OK (f_X5_recordNamed_3 20 f x1 x2 x4 σ) (RO σ fun v => v.toInt = -1 ∧ (∀ i : Nat, i < m → ¬ σ.2.1 24 (6 * p + i) = x2) ∨ ∃ i : Nat, i < m ∧ (σ.2.1 24 (6 * p + i) = x2 ∧ ∀ q : Nat, q < i → ¬ σ.2.1 24 (6 * p + q) = x2) ∧ v.toInt = 6 * (p : Int) + i) := by
  intro f
  induction f with
  | zero => intro k x6 h1 h2 h3; omega
  | succ f ih =>
    intro k x4 h4 hk hf hn
    rw [f_X5_recordNamed_3]
    unfold f_X5_recordsOf f_X5_recordName f_X5_isRecord
    have lm := li_m1
    have l0 := li_0
    have l1 := li_1
    have l6 := li_6
    have l36 : (36 : Int32).toInt = 36 := by decide
    have np1 : x1.toNatClampNeg = p := nC h1
    have e6 : (x1 * 6).toInt = 6 * x1.toInt := by
      rw [Int32.mul_comm]
      exact mlE (k := 6) (y := x1) 6 l6 (by omega) (by omega)
    have e := il_addE (x := x1 * 6) (y := x4) (by omega) (by omega)
    have e1 := il_addE (x := x4) (y := 1) (by omega) (by omega)
    have np : (x1 * 6 + x4).toNatClampNeg = 6 * p + k := nC (by omega)
    refine OK.bndR (s := σ) (Q := fun v => v = σ.1 21 p) ?_ (fun v hv => ?_)
    · refine OK.ilt (fun h => by omega) (fun _ => ?_)
      refine OK.ile (fun h => by omega) (fun _ => ?_)
      refine OK.grd ⟨by omega, by omega⟩ ?_
      rw [np1]
      exact OK.roret rfl
    dsimp only
    rw [hv]
    refine OK.ile (fun h => OK.roret (.inl ⟨lm, fun i hi => hn i (by omega)⟩)) (fun h => ?_)
    refine OK.bndR (s := σ) (Q := fun v => v = σ.2.1 24 (6 * p + k)) ?_ (fun v2 hv2 => ?_)
    · refine OK.bndR (s := σ) (Q := fun v => v.toInt = 1) ?_ (fun v3 hv3 => ?_)
      · refine OK.ilt (fun h => by omega) (fun _ => ?_)
        exact OK.ile (fun h => by omega) (fun _ => OK.roret l1)
      dsimp only
      refine OK.ieq (fun h => by omega) (fun _ => ?_)
      refine OK.grd ⟨by omega, by omega⟩ ?_
      rw [np]
      exact OK.roret rfl
    dsimp only
    rw [hv2]
    refine OK.ite (fun h9 => ?_) (fun h9 => ?_)
    · rw [lg_cmp_eq] at h9
      exact OK.roret (.inr ⟨k, by omega, ⟨h9, hn⟩, by omega⟩)
    · rw [lg_cmp_eq] at h9
      refine ih (k + 1) (x4 + 1) (by omega) (by omega) (by omega) (fun i hi => ?_)
      by_cases e9 : i = k
      · rw [e9]; exact h9
      · exact hn i (by omega)
theorem a_recordNamed (p0 : Int32) (p1 : Int64) (σ : ST) (p m : Nat) (hp : p < 6) (h0 : p0.toInt = p) (hm : (σ.1 21 p).toInt = m) (hm6 : m ≤ 6) : OK (f_X5_recordNamed 20 p0 p1 σ) (RO σ fun v => v.toInt = -1 ∧ (∀ i : Nat, i < m → ¬ σ.2.1 24 (6 * p + i) = p1) ∨ ∃ i : Nat, i < m ∧ (σ.2.1 24 (6 * p + i) = p1 ∧ ∀ q : Nat, q < i → ¬ σ.2.1 24 (6 * p + q) = p1) ∧ v.toInt = 6 * (p : Int) + i) := by
  have lu := FUi
  unfold f_X5_recordNamed
  exact a_recordNamed_3 p0 p1 σ p m hp h0 hm hm6 FU 0 0 li_0 (by omega) (by omega) (fun i hi => by omega)
theorem bx_recordOf_3 (x1 : Int32) (x2 : Int64) (τ : ST) (p m : Nat) (hp : p < 12) (h1 : x1.toInt = p) (hm : (τ.1 8 p).toInt = m) (hm6 : m ≤ 6) : ∀ (f k : Nat) (x4 : Int32), x4.toInt = k → k ≤ m → m < f + k → (∀ i : Nat, i < k → ¬ τ.2.1 9 (6 * p + i) = x2) → OK (f_X11_recordOf_3 f x1 x2 x4 τ) (RO τ fun v => v.toInt = -1 ∧ (∀ i : Nat, i < m → ¬ τ.2.1 9 (6 * p + i) = x2) ∨ ∃ i : Nat, i < m ∧ (τ.2.1 9 (6 * p + i) = x2 ∧ ∀ q : Nat, q < i → ¬ τ.2.1 9 (6 * p + q) = x2) ∧ v.toInt = i) := by
  intro f
  induction f with
  | zero => intro k x6 h1 h2 h3; omega
  | succ f ih =>
    intro k x4 h4 hk hf hn
    rw [f_X11_recordOf_3]
    have lm := li_m1
    have l1 := li_1
    have l6 := li_6
    have nr : x1.toNatClampNeg = p := nC h1
    refine OK.grd ⟨by omega, by omega⟩ ?_
    rw [nr]
    refine OK.ile (fun h => OK.roret (.inl ⟨lm, fun i hi => hn i (by omega)⟩)) (fun h => ?_)
    have e6 := mlE (k := 6) (y := x1) 6 l6 (by omega) (by omega)
    have e := il_addE (x := 6 * x1) (y := x4) (by omega) (by omega)
    have e1 := il_addE (x := x4) (y := 1) (by omega) (by omega)
    have np : (6 * x1 + x4).toNatClampNeg = 6 * p + k := nC (by omega)
    refine OK.grd ⟨by omega, by omega⟩ ?_
    rw [np]
    refine OK.ite (fun h9 => ?_) (fun h9 => ?_)
    · rw [lg_cmp_eq] at h9
      exact OK.roret (.inr ⟨k, by omega, ⟨h9, hn⟩, h4⟩)
    · rw [lg_cmp_eq] at h9
      refine ih (k + 1) (x4 + 1) (by omega) (by omega) (by omega) (fun i hi => ?_)
      by_cases e9 : i = k
      · rw [e9]; exact h9
      · exact hn i (by omega)
theorem bx_recordOf (p0 : Int32) (p1 : Int64) (τ : ST) (p m : Nat) (hp : p < 12) (h0 : p0.toInt = p) (hm : (τ.1 8 p).toInt = m) (hm6 : m ≤ 6) : OK (f_X11_recordOf p0 p1 τ) (RO τ fun v => v.toInt = -1 ∧ (∀ i : Nat, i < m → ¬ τ.2.1 9 (6 * p + i) = p1) ∨ ∃ i : Nat, i < m ∧ (τ.2.1 9 (6 * p + i) = p1 ∧ ∀ q : Nat, q < i → ¬ τ.2.1 9 (6 * p + q) = p1) ∧ v.toInt = i) := by
  have lu := FUi
  unfold f_X11_recordOf
  exact bx_recordOf_3 p0 p1 τ p m hp h0 hm hm6 FU 0 0 li_0 (by omega) (by omega) (fun i hi => by omega)
