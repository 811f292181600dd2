/-! what the class asks of the tables that hold -/
theorem a4_isFieldOf (p0 p1 : Int32) (σ : ST) {r j : Nat} (h0 : p0.toInt = r) (h1 : p1.toInt = j) (hr : r < 36) (hj : j < 8) : f_X5_isFieldOf p0 p1 σ = some (1, σ) := by
  unfold f_X5_isFieldOf
  have l0 := li_0
  have l8 := li_8
  have l36 : (36 : Int32).toInt = 36 := by decide
  rw [if_neg (by rw [Int32.lt_iff_toInt_lt]; omega), if_neg (by rw [Int32.le_iff_toInt_le]; omega), if_neg (by rw [Int32.lt_iff_toInt_lt]; omega), if_neg (by rw [Int32.le_iff_toInt_le]; omega)]
theorem n1_0 : ¬ (1 : Int32) = 0 := by decide
theorem a4_typeOf (p0 p1 : Int32) (σ : ST) {r j : Nat} (h0 : p0.toInt = r) (h1 : p1.toInt = j) (hr : r < 36) (hj : j < 8) : f_X5_typeOf 4 p0 p1 σ = some (σ.1 13 (8 * r + j), σ) := by
  unfold f_X5_typeOf
  obtain ⟨i1, i2⟩ := i88 h0 h1 hr hj
  rw [a4_isFieldOf p0 p1 σ h0 h1 hr hj, sbnd]
  dsimp only
  rw [if_neg n1_0, if_pos ⟨by omega, by omega⟩, i2]
theorem a4_fieldName (p0 p1 : Int32) (σ : ST) {r j : Nat} (h0 : p0.toInt = r) (h1 : p1.toInt = j) (hr : r < 36) (hj : j < 8) : f_X5_fieldName 4 p0 p1 σ = some (σ.2.1 11 (8 * r + j), σ) := by
  unfold f_X5_fieldName
  obtain ⟨i1, i2⟩ := i88 h0 h1 hr hj
  rw [a4_isFieldOf p0 p1 σ h0 h1 hr hj, sbnd]
  dsimp only
  rw [if_neg n1_0, if_pos ⟨by omega, by omega⟩, i2]
theorem a4_formerName (p0 p1 : Int32) (σ : ST) {r j : Nat} (h0 : p0.toInt = r) (h1 : p1.toInt = j) (hr : r < 36) (hj : j < 8) : f_X5_formerName 4 p0 p1 σ = some (σ.2.1 12 (8 * r + j), σ) := by
  unfold f_X5_formerName
  obtain ⟨i1, i2⟩ := i88 h0 h1 hr hj
  rw [a4_isFieldOf p0 p1 σ h0 h1 hr hj, sbnd]
  dsimp only
  rw [if_neg n1_0, if_pos ⟨by omega, by omega⟩, i2]
theorem a4_elseWorth (p0 p1 : Int32) (σ : ST) {r j : Nat} (h0 : p0.toInt = r) (h1 : p1.toInt = j) (hr : r < 36) (hj : j < 8) : f_X5_elseWorth 4 p0 p1 σ = some (σ.2.1 14 (8 * r + j), σ) := by
  unfold f_X5_elseWorth
  obtain ⟨i1, i2⟩ := i88 h0 h1 hr hj
  rw [a4_isFieldOf p0 p1 σ h0 h1 hr hj, sbnd]
  dsimp only
  rw [if_neg n1_0, if_pos ⟨by omega, by omega⟩, i2]
theorem a4_hasElse (p0 p1 : Int32) (σ : ST) {r j w : Nat} (h0 : p0.toInt = r) (h1 : p1.toInt = j) (hr : r < 36) (hj : j < 8) (hw : w < 512) (h9 : σ.1 9 r = Int32.ofNat w) : f_X5_hasElse 4 p0 p1 σ = some (if w.testBit j then 1 else 0, σ) := by
  unfold f_X5_hasElse
  have nr : p0.toNatClampNeg = r := nC h0
  have ej : p1 = Int32.ofNat j := intOf h1 (by omega)
  have hb := mk_bit w hw j (by omega)
  have l0 := li_0
  rw [a4_isFieldOf p0 p1 σ h0 h1 hr hj, sbnd]
  dsimp only
  rw [if_neg n1_0, if_pos ⟨by omega, by omega⟩, nr, ej]
  have h9 : σ.1 (4 + 5) r = Int32.ofNat w := h9
  rw [h9]
  cases e : w.testBit j with
  | true =>
    rw [e] at hb
    rw [if_neg (fun h => by rw [h] at hb; revert hb; decide)]
    rfl
  | false =>
    rw [e] at hb
    rw [if_pos (Int32.toInt_inj.mp (by rw [hb]; rfl))]
    rfl
theorem a4_isType (x : Int32) (σ : ST) (h : 0 ≤ x.toInt ∧ x.toInt < (σ.1 4 1).toInt) (hn : (σ.1 4 1).toInt ≤ 262) : f_X5_isType 4 x σ = some (1, σ) := by
  unfold f_X5_isType
  have l0 := li_0
  have l262 : (262 : Int32).toInt = 262 := by decide
  rw [if_neg (by rw [Int32.lt_iff_toInt_lt]; omega), if_neg (by rw [Int32.le_iff_toInt_le]; omega), if_neg (by rw [Int32.le_iff_toInt_le]; omega)]
theorem a4_sortOf (x : Int32) (σ : ST) (h : 0 ≤ x.toInt ∧ x.toInt < (σ.1 4 1).toInt) (hn : (σ.1 4 1).toInt ≤ 262) : f_X5_sortOf 4 x σ = some (σ.1 15 x.toNatClampNeg, σ) := by
  unfold f_X5_sortOf
  rw [a4_isType x σ h hn, sbnd]
  dsimp only
  rw [if_neg n1_0, if_pos ⟨by omega, by omega⟩]
theorem a4_innerOf (x : Int32) (σ : ST) (h : 0 ≤ x.toInt ∧ x.toInt < (σ.1 4 1).toInt) (hn : (σ.1 4 1).toInt ≤ 262) : f_X5_innerOf 4 x σ = some (σ.1 16 x.toNatClampNeg, σ) := by
  unfold f_X5_innerOf
  rw [a4_isType x σ h hn, sbnd]
  dsimp only
  rw [if_neg n1_0, if_pos ⟨by omega, by omega⟩]
theorem a4_branchAfter (x : Int32) (σ : ST) (h : 0 ≤ x.toInt ∧ x.toInt < (σ.1 4 1).toInt) (hn : (σ.1 4 1).toInt ≤ 262) : f_X5_branchAfter 4 x σ = some (σ.1 17 x.toNatClampNeg, σ) := by
  unfold f_X5_branchAfter
  rw [a4_isType x σ h hn, sbnd]
  dsimp only
  rw [if_neg n1_0, if_pos ⟨by omega, by omega⟩]
/-- nothing is no type -/
theorem a4_isType_m1 (σ : ST) : f_X5_isType 4 (-1) σ = some (0, σ) := by
  unfold f_X5_isType
  rw [if_pos (by decide)]
theorem a4_sortOf_m1 (σ : ST) : f_X5_sortOf 4 (-1) σ = some (-1, σ) := by
  unfold f_X5_sortOf
  rw [a4_isType_m1, sbnd]
  rfl
theorem a4_innerOf_m1 (σ : ST) : f_X5_innerOf 4 (-1) σ = some (-1, σ) := by
  unfold f_X5_innerOf
  rw [a4_isType_m1, sbnd]
  rfl
/-- a remainder by six -/
theorem fm_all : ∀ k : Nat, k < 36 → (f_J9_floorMod_7cf53 (Int32.ofNat k) 6 s00).map (fun q => q.1.toInt) = some ((k % 6 : Nat) : Int) := by decide +kernel
theorem fm_any (p0 p1 : Int32) (σ : ST) : f_J9_floorMod_7cf53 p0 p1 σ = (f_J9_floorMod_7cf53 p0 p1 s00).map (fun q => (q.1, σ)) := by
  unfold f_J9_floorMod_7cf53
  by_cases h1 : ¬ p1 = 0
  · rw [if_pos h1, if_pos h1]
    by_cases h2 : 0 ≤ (p0 ^^^ p1)
    · rw [if_pos h2, if_pos h2]; rfl
    · rw [if_neg h2, if_neg h2]
      by_cases h3 : p0 - p0 / p1 * p1 = 0
      · rw [if_pos h3, if_pos h3]; rfl
      · rw [if_neg h3, if_neg h3]; rfl
  · rw [if_neg h1, if_neg h1]; rfl
theorem a_floorMod (x : Int32) (σ : ST) {k : Nat} (h : x.toInt = k) (hk : k < 36) : ∃ v : Int32, f_J9_floorMod_7cf53 x 6 σ = some (v, σ) ∧ v.toInt = ((k % 6 : Nat) : Int) := by
  have e : x = Int32.ofNat k := intOf h (by omega)
  have h9 := fm_all k hk
  rw [fm_any, e]
  cases e2 : f_J9_floorMod_7cf53 (Int32.ofNat k) 6 s00 with
  | none => rw [e2] at h9; cases h9
  | some q =>
    rw [e2] at h9
    exact ⟨q.1, rfl, Option.some.inj h9⟩
/-- a type that both know -/
abbrev TY (p : Nat) (rm : Int) (σ τ : ST) : Nat → Int32 → Int32 → Prop := TYR (σ.1 4 1).toInt (σ.1 15) (σ.1 16) (σ.1 17) (τ.1 2) (τ.1 3) (τ.1 4) (τ.1 5) p rm
theorem a4_branchesOf_20 {p : Nat} {rm : Int} {σ τ : ST} (hn : (σ.1 4 1).toInt ≤ 262) (x0 : Int32) (m : Nat) (hm : m ≤ 4) (hv : ∀ k : Nat, k < m → 0 ≤ (chn (σ.1 17) x0 k).toInt ∧ (chn (σ.1 17) x0 k).toInt < (σ.1 4 1).toInt) (he : (chn (σ.1 17) x0 m).toInt = -1) : ∀ (f k : Nat) (x2 : Int32), x2.toInt = k → k ≤ m → m < f + k → f_X5_branchesOf_20 4 f x2 (chn (σ.1 17) x0 k) σ = some (Int32.ofNat m, σ) := by
  intro f
  have lm := li_m1
  have l1 := li_1
  have l4 := li_4
  induction f with
  | zero => intro k x2 h1 h2 h3; omega
  | succ f ih =>
    intro k x2 h1 h2 h3
    rw [f_X5_branchesOf_20]
    by_cases e : k = m
    · subst e
      rw [if_pos (Int32.toInt_inj.mp (he.trans lm.symm)), intOf h1 (by omega)]
    · have r := hv k (by omega)
      have ex := il_addE (x := x2) (y := 1) (by omega) (by omega)
      rw [if_neg (fun h9 => by rw [h9] at r; omega), if_neg (by rw [Int32.le_iff_toInt_le]; omega), a4_branchAfter _ σ r hn, sbnd]
      exact ih (k + 1) (x2 + 1) (by omega) (by omega) (by omega)
theorem a4_branchesOf {p d : Nat} {rm : Int} {σ τ : ST} {x y : Int32} (hn : (σ.1 4 1).toInt ≤ 262) (h : TY p rm σ τ (d + 1) x y) : f_X5_branchesOf 4 x σ = some (τ.1 4 y.toNatClampNeg, σ) := by
  obtain ⟨⟨h1, h2⟩, h3, h4, h5, h6, h7, h8⟩ := h
  have l8 := li_8
  have lu := FUi
  unfold f_X5_branchesOf
  rw [a4_sortOf x σ h1 hn, sbnd]
  dsimp only
  rw [h3]
  by_cases e : (τ.1 2 y.toNatClampNeg).toInt = 8
  · rw [if_pos (Int32.toInt_inj.mp (e.trans l8.symm)), a4_innerOf x σ h1 hn, sbnd]
    obtain ⟨u1, u2, u3, _⟩ := h8 e
    obtain ⟨m, hm⟩ : ∃ m : Nat, (τ.1 4 y.toNatClampNeg).toInt = m := ⟨_, (Int.toNat_of_nonneg (by omega)).symm⟩
    have em : (τ.1 4 y.toNatClampNeg).toInt.toNat = m := by omega
    rw [em] at u3
    have := a4_branchesOf_20 (p := p) (rm := rm) (τ := τ) hn (σ.1 16 x.toNatClampNeg) m (by omega) (fun k hk => (u2 k (by omega)).1.rng.1) u3 FU 0 0 li_0 (by omega) (by omega)
    rw [intOf hm (by omega)]
    exact this
  · rw [if_neg (fun h9 => e (by rw [h9]; exact l8))]
    have h0 := h7 e
    rw [Int32.toInt_inj.mp (h0.trans li_0.symm)]
theorem ab_within {p : Nat} {rm : Int} {σ τ : ST} (hp : p < 6) (hrm : rm ≤ 6) (hn : (σ.1 4 1).toInt ≤ 262) : ∀ (d : Nat) (x y x3 : Int32) (f g : Nat), TY p rm σ τ d x y → d ≤ f → d ≤ g → 0 ≤ x3.toInt → x3.toInt + d ≤ 4 → OK (f_X5_recordWithin_4 4 f x x3 σ) (fun qa => OK (f_X11_recordIn_2 g y τ) (fun qb => qa.1 = qb.1)) := by
  intro d
  have lm := li_m1
  have l1 := li_1
  have l3 := li_3
  have l6 := li_6
  have l7 := li_7
  induction d with
  | zero => intro x y x3 f g h; exact h.elim
  | succ d ih =>
    intro x y x3 f g h hf hg h3 h4
    cases f with
    | zero => omega
    | succ f =>
    cases g with
    | zero => omega
    | succ g =>
    obtain ⟨⟨h1, h2⟩, e3, s4, s6, s7, _, _⟩ := h
    have ex := il_addE (x := x3) (y := 1) (by omega) (by omega)
    rw [f_X5_recordWithin_4, f_X11_recordIn_2]
    refine OK.ilt (fun h => by omega) (fun _ => ?_)
    rw [a4_sortOf x σ h1 hn, sbnd]
    dsimp only
    refine OK.sw ?_
    refine OK.grd ⟨by omega, by omega⟩ ?_
    rw [e3]
    refine OK.ieq (fun e6 => ?_) (fun e6 => ?_)
    · refine OK.sw ?_
      refine OK.ieq (fun _ => ?_) (fun h => absurd e6 h)
      rw [a4_innerOf x σ h1 hn, sbnd]
      exact ih _ _ (x3 + 1) f g (s6 (by omega)) (by omega) (by omega) (by omega) (by omega)
    · refine OK.sw ?_
      refine OK.ieq (fun h => absurd h e6) (fun _ => ?_)
      unfold f_X5_recordWithin_31
      rw [a4_sortOf x σ h1 hn, sbnd]
      dsimp only
      rw [e3]
      refine OK.ieq (fun e7 => ?_) (fun e7 => ?_)
      · rw [a4_innerOf x σ h1 hn, sbnd]
        dsimp only
        obtain ⟨r1, r2⟩ := s7 (by omega)
        obtain ⟨k, hk⟩ : ∃ k : Nat, (τ.1 3 y.toNatClampNeg).toInt = k := ⟨_, (Int.toNat_of_nonneg r1.1).symm⟩
        obtain ⟨v, e, hv⟩ := a_floorMod (σ.1 16 x.toNatClampNeg) σ (k := 6 * p + k) (by omega) (by omega)
        rw [e, sbnd]
        refine OK.ret ?_
        refine OK.ieq (fun _ => ?_) (fun h => absurd e7 h)
        exact OK.ret (Int32.toInt_inj.mp (by show v.toInt = (τ.1 3 y.toNatClampNeg).toInt; omega))
      · refine OK.ret ?_
        refine OK.ieq (fun h => absurd h e7) (fun _ => ?_)
        exact OK.ret rfl
