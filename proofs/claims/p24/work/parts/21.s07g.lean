theorem k_X7_nextOf_50 (p0 : Int32) (σ : ST) (hI : IA σ)  : OK (f_X7_nextOf 50 p0 σ) (RO σ fun v => (p0.toInt < 0 ∨ (σ.1 50 1).toInt ≤ p0.toInt) ∧ v.toInt = -1 ∨ 0 ≤ p0.toInt ∧ p0.toInt < (σ.1 50 1).toInt ∧ v.toInt = (σ.1 (50 + 9) p0.toNatClampNeg).toInt) := by
  unfold f_X7_nextOf
  have lt_m1 := li_m1
  have lt_0 := li_0
  have lt_1 := li_1
  have lFU : ((FU : Nat) : Int) = 100000 := rfl
  have g50 := (hI.t50).1
  have g50b : 0 ≤ (σ.1 50 1).toInt ∧ (σ.1 50 1).toInt ≤ 400 := (hI.t50).2.1
  have g50n : ((ln7 50 : Nat) : Int) = 400 := rfl
  refine OK.bndR (k_X7_isRow_50 _ _ hI ) (fun v1 h2 => ?_)
  dsimp only
  refine OK.ieq (fun h3 => ?_) (fun h3 => ?_)
  · skip
    exact OK.roret (by first | trivial | omega | exact hI.flds _ | exact hI.dflds _ | exact hI.recs _ | exact hI.drecs _ | exact hI.droot _ | omega)
  · skip
    refine OK.grd ⟨by omega, by omega⟩ ?_
    exact OK.roret (by first | trivial | omega | exact hI.flds _ | exact hI.dflds _ | exact hI.recs _ | exact hI.drecs _ | exact hI.droot _ | omega)

theorem k_X7_nextOf_62 (p0 : Int32) (σ : ST) (hI : IA σ)  : OK (f_X7_nextOf 62 p0 σ) (RO σ fun v => (p0.toInt < 0 ∨ (σ.1 62 1).toInt ≤ p0.toInt) ∧ v.toInt = -1 ∨ 0 ≤ p0.toInt ∧ p0.toInt < (σ.1 62 1).toInt ∧ v.toInt = (σ.1 (62 + 9) p0.toNatClampNeg).toInt) := by
  unfold f_X7_nextOf
  have lt_m1 := li_m1
  have lt_0 := li_0
  have lt_1 := li_1
  have lFU : ((FU : Nat) : Int) = 100000 := rfl
  have g62 := (hI.t62).1
  have g62b : 0 ≤ (σ.1 62 1).toInt ∧ (σ.1 62 1).toInt ≤ 502 := (hI.t62).2.1
  have g62n : ((ln7 62 : Nat) : Int) = 502 := rfl
  refine OK.bndR (k_X7_isRow_62 _ _ hI ) (fun v1 h2 => ?_)
  dsimp only
  refine OK.ieq (fun h3 => ?_) (fun h3 => ?_)
  · skip
    exact OK.roret (by first | trivial | omega | exact hI.flds _ | exact hI.dflds _ | exact hI.recs _ | exact hI.drecs _ | exact hI.droot _ | omega)
  · skip
    refine OK.grd ⟨by omega, by omega⟩ ?_
    exact OK.roret (by first | trivial | omega | exact hI.flds _ | exact hI.dflds _ | exact hI.recs _ | exact hI.drecs _ | exact hI.droot _ | omega)

theorem k_X7_nextOf_74 (p0 : Int32) (σ : ST) (hI : IA σ)  : OK (f_X7_nextOf 74 p0 σ) (RO σ fun v => (p0.toInt < 0 ∨ (σ.1 74 1).toInt ≤ p0.toInt) ∧ v.toInt = -1 ∨ 0 ≤ p0.toInt ∧ p0.toInt < (σ.1 74 1).toInt ∧ v.toInt = (σ.1 (74 + 9) p0.toNatClampNeg).toInt) := by
  unfold f_X7_nextOf
  have lt_m1 := li_m1
  have lt_0 := li_0
  have lt_1 := li_1
  have lFU : ((FU : Nat) : Int) = 100000 := rfl
  have g74 := (hI.t74).1
  have g74b : 0 ≤ (σ.1 74 1).toInt ∧ (σ.1 74 1).toInt ≤ 400 := (hI.t74).2.1
  have g74n : ((ln7 74 : Nat) : Int) = 400 := rfl
  refine OK.bndR (k_X7_isRow_74 _ _ hI ) (fun v1 h2 => ?_)
  dsimp only
  refine OK.ieq (fun h3 => ?_) (fun h3 => ?_)
  · skip
    exact OK.roret (by first | trivial | omega | exact hI.flds _ | exact hI.dflds _ | exact hI.recs _ | exact hI.drecs _ | exact hI.droot _ | omega)
  · skip
    refine OK.grd ⟨by omega, by omega⟩ ?_
    exact OK.roret (by first | trivial | omega | exact hI.flds _ | exact hI.dflds _ | exact hI.recs _ | exact hI.drecs _ | exact hI.droot _ | omega)

theorem k_X7_parentOf_50 (p0 : Int32) (σ : ST) (hI : IA σ)  : OK (f_X7_parentOf 50 p0 σ) (RO σ fun v => True) := by
  unfold f_X7_parentOf
  have lt_m1 := li_m1
  have lt_0 := li_0
  have lt_1 := li_1
  have lFU : ((FU : Nat) : Int) = 100000 := rfl
  have g50 := (hI.t50).1
  have g50b : 0 ≤ (σ.1 50 1).toInt ∧ (σ.1 50 1).toInt ≤ 400 := (hI.t50).2.1
  have g50n : ((ln7 50 : Nat) : Int) = 400 := rfl
  refine OK.bndR (k_X7_isRow_50 _ _ hI ) (fun v1 h2 => ?_)
  dsimp only
  refine OK.ieq (fun h3 => ?_) (fun h3 => ?_)
  · skip
    exact OK.roret (by first | trivial | omega | exact hI.flds _ | exact hI.dflds _ | exact hI.recs _ | exact hI.drecs _ | exact hI.droot _ | omega)
  · skip
    refine OK.grd ⟨by omega, by omega⟩ ?_
    exact OK.roret (by first | trivial | omega | exact hI.flds _ | exact hI.dflds _ | exact hI.recs _ | exact hI.drecs _ | exact hI.droot _ | omega)

theorem k_X7_parentOf_62 (p0 : Int32) (σ : ST) (hI : IA σ)  : OK (f_X7_parentOf 62 p0 σ) (RO σ fun v => True) := by
  unfold f_X7_parentOf
  have lt_m1 := li_m1
  have lt_0 := li_0
  have lt_1 := li_1
  have lFU : ((FU : Nat) : Int) = 100000 := rfl
  have g62 := (hI.t62).1
  have g62b : 0 ≤ (σ.1 62 1).toInt ∧ (σ.1 62 1).toInt ≤ 502 := (hI.t62).2.1
  have g62n : ((ln7 62 : Nat) : Int) = 502 := rfl
  refine OK.bndR (k_X7_isRow_62 _ _ hI ) (fun v1 h2 => ?_)
  dsimp only
  refine OK.ieq (fun h3 => ?_) (fun h3 => ?_)
  · skip
    exact OK.roret (by first | trivial | omega | exact hI.flds _ | exact hI.dflds _ | exact hI.recs _ | exact hI.drecs _ | exact hI.droot _ | omega)
  · skip
    refine OK.grd ⟨by omega, by omega⟩ ?_
    exact OK.roret (by first | trivial | omega | exact hI.flds _ | exact hI.dflds _ | exact hI.recs _ | exact hI.drecs _ | exact hI.droot _ | omega)

theorem k_X7_parentOf_74 (p0 : Int32) (σ : ST) (hI : IA σ)  : OK (f_X7_parentOf 74 p0 σ) (RO σ fun v => True) := by
  unfold f_X7_parentOf
  have lt_m1 := li_m1
  have lt_0 := li_0
  have lt_1 := li_1
  have lFU : ((FU : Nat) : Int) = 100000 := rfl
  have g74 := (hI.t74).1
  have g74b : 0 ≤ (σ.1 74 1).toInt ∧ (σ.1 74 1).toInt ≤ 400 := (hI.t74).2.1
  have g74n : ((ln7 74 : Nat) : Int) = 400 := rfl
  refine OK.bndR (k_X7_isRow_74 _ _ hI ) (fun v1 h2 => ?_)
  dsimp only
  refine OK.ieq (fun h3 => ?_) (fun h3 => ?_)
  · skip
    exact OK.roret (by first | trivial | omega | exact hI.flds _ | exact hI.dflds _ | exact hI.recs _ | exact hI.drecs _ | exact hI.droot _ | omega)
  · skip
    refine OK.grd ⟨by omega, by omega⟩ ?_
    exact OK.roret (by first | trivial | omega | exact hI.flds _ | exact hI.dflds _ | exact hI.recs _ | exact hI.drecs _ | exact hI.droot _ | omega)

theorem k_X7_rowBehind_51_50 (x2 : Int32) (σ : ST) (hI : IA σ)  : OK (f_X7_rowBehind_51 50 x2 σ) (RO σ fun v => True) := by
  unfold f_X7_rowBehind_51
  have lt_0 := li_0
  have lt_1 := li_1
  have lFU : ((FU : Nat) : Int) = 100000 := rfl
  refine OK.bndR (k_X7_nextOf_50 _ _ hI ) (fun v1 h2 => ?_)
  dsimp only
  exact OK.roret (by first | trivial | omega | exact hI.flds _ | exact hI.dflds _ | exact hI.recs _ | exact hI.drecs _ | exact hI.droot _ | omega)

theorem k_X7_rowBehind_51_62 (x2 : Int32) (σ : ST) (hI : IA σ)  : OK (f_X7_rowBehind_51 62 x2 σ) (RO σ fun v => True) := by
  unfold f_X7_rowBehind_51
  have lt_0 := li_0
  have lt_1 := li_1
  have lFU : ((FU : Nat) : Int) = 100000 := rfl
  refine OK.bndR (k_X7_nextOf_62 _ _ hI ) (fun v1 h2 => ?_)
  dsimp only
  exact OK.roret (by first | trivial | omega | exact hI.flds _ | exact hI.dflds _ | exact hI.recs _ | exact hI.drecs _ | exact hI.droot _ | omega)

theorem k_X7_rowBehind_51_74 (x2 : Int32) (σ : ST) (hI : IA σ)  : OK (f_X7_rowBehind_51 74 x2 σ) (RO σ fun v => True) := by
  unfold f_X7_rowBehind_51
  have lt_0 := li_0
  have lt_1 := li_1
  have lFU : ((FU : Nat) : Int) = 100000 := rfl
  refine OK.bndR (k_X7_nextOf_74 _ _ hI ) (fun v1 h2 => ?_)
  dsimp only
  exact OK.roret (by first | trivial | omega | exact hI.flds _ | exact hI.dflds _ | exact hI.recs _ | exact hI.drecs _ | exact hI.droot _ | omega)

theorem k_X7_rowBehind_19_50 : ∀ (n : Nat) (x2 : Int32) (x3 : Int32) (σ : ST), IA σ → (0 ≤ x3.toInt ∧ x3.toInt ≤ 32 ∧ (32 : Int) - x3.toInt < n) → OK (f_X7_rowBehind_19 50 n x2 x3 σ) (RO σ fun v => True) := by
  intro n
  induction n with
  | zero =>
    intro x2 x3 σ hI hv
    omega
  | succ n ih =>
    intro x2 x3 σ hI hv
    rw [f_X7_rowBehind_19]
    have lt_m1 := li_m1
    have lt_0 := li_0
    have lt_1 := li_1
    have lt_31 := li_31
    have lFU : ((FU : Nat) : Int) = 100000 := rfl
    refine OK.ilt (fun h1 => ?_) (fun h1 => ?_)
    · skip
      exact OK.roq (k_X7_rowBehind_51_50 _ _ hI ) (fun v hv => by first | trivial | omega | exact hI.flds _ | exact hI.dflds _ | exact hI.recs _ | exact hI.drecs _ | exact hI.droot _ | omega)
    · skip
      refine OK.ieq (fun h2 => ?_) (fun h2 => ?_)
      · skip
        exact OK.roq (k_X7_rowBehind_51_50 _ _ hI ) (fun v hv => by first | trivial | omega | exact hI.flds _ | exact hI.dflds _ | exact hI.recs _ | exact hI.drecs _ | exact hI.droot _ | omega)
      · skip
        refine OK.bndR (k_X7_nextOf_50 _ _ hI ) (fun v3 h4 => ?_)
        dsimp only
        refine OK.ieq (fun h5 => ?_) (fun h5 => ?_)
        · skip
          refine OK.bndR (k_X7_parentOf_50 _ _ hI ) (fun v6 h7 => ?_)
          dsimp only
          obtain ⟨a8k, a8, a8l, a8r⟩ := i_add x3 1
          try (refine k0el (k := a8k) ?_ (fun e0 => ?_); (focus omega); subst e0)
          exact OK.roq (ih _ _ _ hI (by omega)) (fun v hv => by first | trivial | omega | exact hI.flds _ | exact hI.dflds _ | exact hI.recs _ | exact hI.drecs _ | exact hI.droot _ | omega)
        · skip
          exact OK.roq (k_X7_rowBehind_51_50 _ _ hI ) (fun v hv => by first | trivial | omega | exact hI.flds _ | exact hI.dflds _ | exact hI.recs _ | exact hI.drecs _ | exact hI.droot _ | omega)

theorem k_X7_rowBehind_19_62 : ∀ (n : Nat) (x2 : Int32) (x3 : Int32) (σ : ST), IA σ → (0 ≤ x3.toInt ∧ x3.toInt ≤ 32 ∧ (32 : Int) - x3.toInt < n) → OK (f_X7_rowBehind_19 62 n x2 x3 σ) (RO σ fun v => True) := by
  intro n
  induction n with
  | zero =>
    intro x2 x3 σ hI hv
    omega
  | succ n ih =>
    intro x2 x3 σ hI hv
    rw [f_X7_rowBehind_19]
    have lt_m1 := li_m1
    have lt_0 := li_0
    have lt_1 := li_1
    have lt_31 := li_31
    have lFU : ((FU : Nat) : Int) = 100000 := rfl
    refine OK.ilt (fun h1 => ?_) (fun h1 => ?_)
    · skip
      exact OK.roq (k_X7_rowBehind_51_62 _ _ hI ) (fun v hv => by first | trivial | omega | exact hI.flds _ | exact hI.dflds _ | exact hI.recs _ | exact hI.drecs _ | exact hI.droot _ | omega)
    · skip
      refine OK.ieq (fun h2 => ?_) (fun h2 => ?_)
      · skip
        exact OK.roq (k_X7_rowBehind_51_62 _ _ hI ) (fun v hv => by first | trivial | omega | exact hI.flds _ | exact hI.dflds _ | exact hI.recs _ | exact hI.drecs _ | exact hI.droot _ | omega)
      · skip
        refine OK.bndR (k_X7_nextOf_62 _ _ hI ) (fun v3 h4 => ?_)
        dsimp only
        refine OK.ieq (fun h5 => ?_) (fun h5 => ?_)
        · skip
          refine OK.bndR (k_X7_parentOf_62 _ _ hI ) (fun v6 h7 => ?_)
          dsimp only
          obtain ⟨a8k, a8, a8l, a8r⟩ := i_add x3 1
          try (refine k0el (k := a8k) ?_ (fun e0 => ?_); (focus omega); subst e0)
          exact OK.roq (ih _ _ _ hI (by omega)) (fun v hv => by first | trivial | omega | exact hI.flds _ | exact hI.dflds _ | exact hI.recs _ | exact hI.drecs _ | exact hI.droot _ | omega)
        · skip
          exact OK.roq (k_X7_rowBehind_51_62 _ _ hI ) (fun v hv => by first | trivial | omega | exact hI.flds _ | exact hI.dflds _ | exact hI.recs _ | exact hI.drecs _ | exact hI.droot _ | omega)

theorem k_X7_rowBehind_19_74 : ∀ (n : Nat) (x2 : Int32) (x3 : Int32) (σ : ST), IA σ → (0 ≤ x3.toInt ∧ x3.toInt ≤ 32 ∧ (32 : Int) - x3.toInt < n) → OK (f_X7_rowBehind_19 74 n x2 x3 σ) (RO σ fun v => True) := by
  intro n
  induction n with
  | zero =>
    intro x2 x3 σ hI hv
    omega
  | succ n ih =>
    intro x2 x3 σ hI hv
    rw [f_X7_rowBehind_19]
    have lt_m1 := li_m1
    have lt_0 := li_0
    have lt_1 := li_1
    have lt_31 := li_31
    have lFU : ((FU : Nat) : Int) = 100000 := rfl
    refine OK.ilt (fun h1 => ?_) (fun h1 => ?_)
    · skip
      exact OK.roq (k_X7_rowBehind_51_74 _ _ hI ) (fun v hv => by first | trivial | omega | exact hI.flds _ | exact hI.dflds _ | exact hI.recs _ | exact hI.drecs _ | exact hI.droot _ | omega)
    · skip
      refine OK.ieq (fun h2 => ?_) (fun h2 => ?_)
      · skip
        exact OK.roq (k_X7_rowBehind_51_74 _ _ hI ) (fun v hv => by first | trivial | omega | exact hI.flds _ | exact hI.dflds _ | exact hI.recs _ | exact hI.drecs _ | exact hI.droot _ | omega)
      · skip
        refine OK.bndR (k_X7_nextOf_74 _ _ hI ) (fun v3 h4 => ?_)
        dsimp only
        refine OK.ieq (fun h5 => ?_) (fun h5 => ?_)
        · skip
          refine OK.bndR (k_X7_parentOf_74 _ _ hI ) (fun v6 h7 => ?_)
          dsimp only
          obtain ⟨a8k, a8, a8l, a8r⟩ := i_add x3 1
          try (refine k0el (k := a8k) ?_ (fun e0 => ?_); (focus omega); subst e0)
          exact OK.roq (ih _ _ _ hI (by omega)) (fun v hv => by first | trivial | omega | exact hI.flds _ | exact hI.dflds _ | exact hI.recs _ | exact hI.drecs _ | exact hI.droot _ | omega)
        · skip
          exact OK.roq (k_X7_rowBehind_51_74 _ _ hI ) (fun v hv => by first | trivial | omega | exact hI.flds _ | exact hI.dflds _ | exact hI.recs _ | exact hI.drecs _ | exact hI.droot _ | omega)

theorem k_X7_rowBehind_50 (p0 : Int32) (σ : ST) (hI : IA σ)  : OK (f_X7_rowBehind 50 p0 σ) (RO σ fun v => True) := by
  unfold f_X7_rowBehind
  have lt_m1 := li_m1
  have lt_0 := li_0
  have lt_1 := li_1
  have lFU : ((FU : Nat) : Int) = 100000 := rfl
  refine OK.bndR (k_X7_firstOf_50 _ _ hI ) (fun v1 h2 => ?_)
  dsimp only
  refine OK.ieq (fun h3 => ?_) (fun h3 => ?_)
  · skip
    exact OK.roq (k_X7_rowBehind_19_50 FU _ _ _ hI (by omega)) (fun v hv => by first | trivial | omega | exact hI.flds _ | exact hI.dflds _ | exact hI.recs _ | exact hI.drecs _ | exact hI.droot _ | omega)
  · skip
    refine OK.bndR (k_X7_firstOf_50 _ _ hI ) (fun v4 h5 => ?_)
    dsimp only
    exact OK.roret (by first | trivial | omega | exact hI.flds _ | exact hI.dflds _ | exact hI.recs _ | exact hI.drecs _ | exact hI.droot _ | omega)

theorem k_X7_rowBehind_62 (p0 : Int32) (σ : ST) (hI : IA σ)  : OK (f_X7_rowBehind 62 p0 σ) (RO σ fun v => True) := by
  unfold f_X7_rowBehind
  have lt_m1 := li_m1
  have lt_0 := li_0
  have lt_1 := li_1
  have lFU : ((FU : Nat) : Int) = 100000 := rfl
  refine OK.bndR (k_X7_firstOf_62 _ _ hI ) (fun v1 h2 => ?_)
  dsimp only
  refine OK.ieq (fun h3 => ?_) (fun h3 => ?_)
  · skip
    exact OK.roq (k_X7_rowBehind_19_62 FU _ _ _ hI (by omega)) (fun v hv => by first | trivial | omega | exact hI.flds _ | exact hI.dflds _ | exact hI.recs _ | exact hI.drecs _ | exact hI.droot _ | omega)
  · skip
    refine OK.bndR (k_X7_firstOf_62 _ _ hI ) (fun v4 h5 => ?_)
    dsimp only
    exact OK.roret (by first | trivial | omega | exact hI.flds _ | exact hI.dflds _ | exact hI.recs _ | exact hI.drecs _ | exact hI.droot _ | omega)

theorem k_X7_rowBehind_74 (p0 : Int32) (σ : ST) (hI : IA σ)  : OK (f_X7_rowBehind 74 p0 σ) (RO σ fun v => True) := by
  unfold f_X7_rowBehind
  have lt_m1 := li_m1
  have lt_0 := li_0
  have lt_1 := li_1
  have lFU : ((FU : Nat) : Int) = 100000 := rfl
  refine OK.bndR (k_X7_firstOf_74 _ _ hI ) (fun v1 h2 => ?_)
  dsimp only
  refine OK.ieq (fun h3 => ?_) (fun h3 => ?_)
  · skip
    exact OK.roq (k_X7_rowBehind_19_74 FU _ _ _ hI (by omega)) (fun v hv => by first | trivial | omega | exact hI.flds _ | exact hI.dflds _ | exact hI.recs _ | exact hI.drecs _ | exact hI.droot _ | omega)
  · skip
    refine OK.bndR (k_X7_firstOf_74 _ _ hI ) (fun v4 h5 => ?_)
    dsimp only
    exact OK.roret (by first | trivial | omega | exact hI.flds _ | exact hI.dflds _ | exact hI.recs _ | exact hI.drecs _ | exact hI.droot _ | omega)

theorem k_X7_putInOrder_4_50 : ∀ (n : Nat) (x1 : Int32) (x2 : Int32) (σ : ST), IA σ → (0 ≤ x2.toInt ∧ x2.toInt ≤ 502 ∧ (502 : Int) - x2.toInt < n) → OK (f_X7_putInOrder_4 50 n x1 x2 σ) (RS σ) := by
  intro n
  induction n with
  | zero =>
    intro x1 x2 σ hI hv
    omega
  | succ n ih =>
    intro x1 x2 σ hI hv
    rw [f_X7_putInOrder_4]
    have lt_0 := li_0
    have lt_1 := li_1
    have lFU : ((FU : Nat) : Int) = 100000 := rfl
    have g50 := (hI.t50).1
    have g50b : 0 ≤ (σ.1 50 1).toInt ∧ (σ.1 50 1).toInt ≤ 400 := (hI.t50).2.1
    have g50n : ((ln7 50 : Nat) : Int) = 400 := rfl
    refine OK.ile (fun h1 => ?_) (fun h1 => ?_)
    · skip
      exact OK.sret hI Fr.rf
    · skip
      refine OK.bndR (k_X7_isRow_50 _ _ hI ) (fun v2 h3 => ?_)
      dsimp only
      refine OK.ieq (fun h4 => ?_) (fun h4 => ?_)
      · skip
        exact OK.sret hI Fr.rf
      · skip
        refine OK.grd ⟨by omega, by omega⟩ ?_
        refine OK.grd ⟨by omega, by omega⟩ ?_
        have iz7 : IA (stI (stI σ (50 + 10) x2.toNatClampNeg x1) (50 + 11) x1.toNatClampNeg x2) := (ia_I_61 (ia_I_60 hI))
        have fz7 : Fr σ (stI (stI σ (50 + 10) x2.toNatClampNeg x1) (50 + 11) x1.toNatClampNeg x2) := (fr_I_61 (fr_I_60 Fr.rf))
        generalize (stI (stI σ (50 + 10) x2.toNatClampNeg x1) (50 + 11) x1.toNatClampNeg x2) = z7 at iz7 fz7 ⊢
        refine OK.bndR (k_X7_rowBehind_50 _ _ iz7 ) (fun v5 h6 => ?_)
        dsimp only
        obtain ⟨a8k, a8, a8l, a8r⟩ := i_add x2 1
        try (refine k0el (k := a8k) ?_ (fun e0 => ?_); (focus omega); subst e0)
        exact OK.trS (ih _ _ _ iz7 (by omega)) fz7

theorem k_X7_putInOrder_4_62 : ∀ (n : Nat) (x1 : Int32) (x2 : Int32) (σ : ST), IA σ → (0 ≤ x2.toInt ∧ x2.toInt ≤ 502 ∧ (502 : Int) - x2.toInt < n) → OK (f_X7_putInOrder_4 62 n x1 x2 σ) (RS σ) := by
  intro n
  induction n with
  | zero =>
    intro x1 x2 σ hI hv
    omega
  | succ n ih =>
    intro x1 x2 σ hI hv
    rw [f_X7_putInOrder_4]
    have lt_0 := li_0
    have lt_1 := li_1
    have lFU : ((FU : Nat) : Int) = 100000 := rfl
    have g62 := (hI.t62).1
    have g62b : 0 ≤ (σ.1 62 1).toInt ∧ (σ.1 62 1).toInt ≤ 502 := (hI.t62).2.1
    have g62n : ((ln7 62 : Nat) : Int) = 502 := rfl
    refine OK.ile (fun h1 => ?_) (fun h1 => ?_)
    · skip
      exact OK.sret hI Fr.rf
    · skip
      refine OK.bndR (k_X7_isRow_62 _ _ hI ) (fun v2 h3 => ?_)
      dsimp only
      refine OK.ieq (fun h4 => ?_) (fun h4 => ?_)
      · skip
        exact OK.sret hI Fr.rf
      · skip
        refine OK.grd ⟨by omega, by omega⟩ ?_
        refine OK.grd ⟨by omega, by omega⟩ ?_
        have iz7 : IA (stI (stI σ (62 + 10) x2.toNatClampNeg x1) (62 + 11) x1.toNatClampNeg x2) := (ia_I_73 (ia_I_72 hI))
        have fz7 : Fr σ (stI (stI σ (62 + 10) x2.toNatClampNeg x1) (62 + 11) x1.toNatClampNeg x2) := (fr_I_73 (fr_I_72 Fr.rf))
        generalize (stI (stI σ (62 + 10) x2.toNatClampNeg x1) (62 + 11) x1.toNatClampNeg x2) = z7 at iz7 fz7 ⊢
        refine OK.bndR (k_X7_rowBehind_62 _ _ iz7 ) (fun v5 h6 => ?_)
        dsimp only
        obtain ⟨a8k, a8, a8l, a8r⟩ := i_add x2 1
        try (refine k0el (k := a8k) ?_ (fun e0 => ?_); (focus omega); subst e0)
        exact OK.trS (ih _ _ _ iz7 (by omega)) fz7

theorem k_X7_putInOrder_4_74 : ∀ (n : Nat) (x1 : Int32) (x2 : Int32) (σ : ST), IA σ → (0 ≤ x2.toInt ∧ x2.toInt ≤ 502 ∧ (502 : Int) - x2.toInt < n) → OK (f_X7_putInOrder_4 74 n x1 x2 σ) (RS σ) := by
  intro n
  induction n with
  | zero =>
    intro x1 x2 σ hI hv
    omega
  | succ n ih =>
    intro x1 x2 σ hI hv
    rw [f_X7_putInOrder_4]
    have lt_0 := li_0
    have lt_1 := li_1
    have lFU : ((FU : Nat) : Int) = 100000 := rfl
    have g74 := (hI.t74).1
    have g74b : 0 ≤ (σ.1 74 1).toInt ∧ (σ.1 74 1).toInt ≤ 400 := (hI.t74).2.1
    have g74n : ((ln7 74 : Nat) : Int) = 400 := rfl
    refine OK.ile (fun h1 => ?_) (fun h1 => ?_)
    · skip
      exact OK.sret hI Fr.rf
    · skip
      refine OK.bndR (k_X7_isRow_74 _ _ hI ) (fun v2 h3 => ?_)
      dsimp only
      refine OK.ieq (fun h4 => ?_) (fun h4 => ?_)
      · skip
        exact OK.sret hI Fr.rf
      · skip
        refine OK.grd ⟨by omega, by omega⟩ ?_
        refine OK.grd ⟨by omega, by omega⟩ ?_
        have iz7 : IA (stI (stI σ (74 + 10) x2.toNatClampNeg x1) (74 + 11) x1.toNatClampNeg x2) := (ia_I_85 (ia_I_84 hI))
        have fz7 : Fr σ (stI (stI σ (74 + 10) x2.toNatClampNeg x1) (74 + 11) x1.toNatClampNeg x2) := (fr_I_85 (fr_I_84 Fr.rf))
        generalize (stI (stI σ (74 + 10) x2.toNatClampNeg x1) (74 + 11) x1.toNatClampNeg x2) = z7 at iz7 fz7 ⊢
        refine OK.bndR (k_X7_rowBehind_74 _ _ iz7 ) (fun v5 h6 => ?_)
        dsimp only
        obtain ⟨a8k, a8, a8l, a8r⟩ := i_add x2 1
        try (refine k0el (k := a8k) ?_ (fun e0 => ?_); (focus omega); subst e0)
        exact OK.trS (ih _ _ _ iz7 (by omega)) fz7

theorem k_X7_putInOrder_50 (σ : ST) (hI : IA σ)  : OK (f_X7_putInOrder 50 σ) (RS σ) := by
  unfold f_X7_putInOrder
  have lt_0 := li_0
  have lt_1 := li_1
  have lFU : ((FU : Nat) : Int) = 100000 := rfl
  exact OK.trS (k_X7_putInOrder_4_50 FU _ _ _ hI (by omega)) Fr.rf

theorem k_X7_putInOrder_62 (σ : ST) (hI : IA σ)  : OK (f_X7_putInOrder 62 σ) (RS σ) := by
  unfold f_X7_putInOrder
  have lt_0 := li_0
  have lt_1 := li_1
  have lFU : ((FU : Nat) : Int) = 100000 := rfl
  exact OK.trS (k_X7_putInOrder_4_62 FU _ _ _ hI (by omega)) Fr.rf

theorem k_X7_putInOrder_74 (σ : ST) (hI : IA σ)  : OK (f_X7_putInOrder 74 σ) (RS σ) := by
  unfold f_X7_putInOrder
  have lt_0 := li_0
  have lt_1 := li_1
  have lFU : ((FU : Nat) : Int) = 100000 := rfl
  exact OK.trS (k_X7_putInOrder_4_74 FU _ _ _ hI (by omega)) Fr.rf

/-- what reading leaves as it is -/
def RT {α : Type} (σ : ST) (q : α × ST) : Prop := IA q.2 ∧ q.2.1 0 = σ.1 0 ∧ q.2.1 1 = σ.1 1 ∧ q.2.1 4 = σ.1 4 ∧ q.2.2.1 3 = σ.2.1 3
theorem ia_R_89_50 {σ : ST} (h : IA σ) : IA (stR σ 89 50) := ⟨h.1, h.2.1, h.2.2.1, h.2.2.2.1, h.2.2.2.2.1, h.2.2.2.2.2.1, h.2.2.2.2.2.2.1, h.2.2.2.2.2.2.2.1, h.2.2.2.2.2.2.2.2.1, h.2.2.2.2.2.2.2.2.2.1, h.2.2.2.2.2.2.2.2.2.2.1, h.2.2.2.2.2.2.2.2.2.2.2.1, h.2.2.2.2.2.2.2.2.2.2.2.2.1, h.2.2.2.2.2.2.2.2.2.2.2.2.2.1, h.2.2.2.2.2.2.2.2.2.2.2.2.2.2.1, rfl, h.2.2.2.2.2.2.2.2.2.2.2.2.2.2.2.2⟩
theorem k_X4_run_129_89_50 (σ : ST) (hI : IA σ) (hT : σ.2.2.2 89 = 50) : OK (f_X4_run_129 89 50 σ) (RW σ fun _ => True) := by
  unfold f_X4_run_129
  refine OK.ieq (fun _ => ?_) (fun _ => ?_)
  · refine OK.grd hT ?_
    refine OK.bndS (k_X7_putInOrder_50 _ hI) Fr.rf (fun s i f => ?_)
    refine OK.grd (by rw [f.2.2.2]; exact hT) ?_
    exact OK.wret i f trivial
  · refine OK.grd hT ?_
    refine OK.bndS (k_X7_clear_50 _ hI) Fr.rf (fun s i f => ?_)
    exact OK.wret i f trivial
theorem k_X4_run_89_50 (p0 p1 : Int32) (σ : ST) (hI : IA σ) : OK (f_X4_run 89 50 p0 p1 σ) (RT σ) := by
  unfold f_X4_run
  have lt_0 := li_0
  have lFR : ((FR : Nat) : Int) = 160 := rfl
  refine OK.bndR (k_X1_planOf _ _ hI) (fun v h1 => ?_)
  dsimp only
  refine OK.grd rfl ?_
  have iz : IA (stR σ 89 50) := ia_R_89_50 hI
  have ez : (stR σ 89 50).1 = σ.1 := rfl
  have ek : (stR σ 89 50).2.1 3 = σ.2.1 3 := rfl
  have hT : (stR σ 89 50).2.2.2 89 = 50 := rfl
  generalize stR σ 89 50 = z at iz ez ek hT ⊢
  refine OK.mono (P := RW z fun _ => True) ?_ (fun q hq => ⟨hq.1.1, by rw [← ez]; exact hq.1.2.1, by rw [← ez]; exact hq.1.2.2.1, by rw [← ez]; exact hq.1.2.2.2.1.1, by rw [← ek]; exact hq.1.2.2.2.1.2⟩)
  refine OK.bndS (k_X7_clear_50 _ iz) Fr.rf (fun s4 i4 f4 => ?_)
  try dsimp only
  have i5 : IA (stI (stI s4 89 4 p0) 89 5 0) := ia_I_89 (ia_I_89 i4)
  have f5 : Fr z (stI (stI s4 89 4 p0) 89 5 0) := fr_I_89 (fr_I_89 f4)
  generalize stI (stI s4 89 4 p0) 89 5 0 = s5 at i5 f5 ⊢
  refine OK.bndR (k_X1_sizeOf _ _ i5) (fun v6 h6 => ?_)
  dsimp only
  refine OK.bndS (k_X0_turnTo _ _ _ (ia_I_89 (ia_I_89 (ia_I_89 i5)))) (fr_I_89 (fr_I_89 (fr_I_89 f5))) (fun s8 i8 f8 => ?_)
  try dsimp only
  refine OK.bndR (k_X0_rootsFit _ i8) (fun v10 h10 => ?_)
  dsimp only
  refine OK.ieq (fun _ => OK.wret i8 f8 trivial) (fun _ => ?_)
  refine OK.bndR (k_X5_rootType_4 _ _ i8) (fun v12 h12 => ?_)
  dsimp only
  refine OK.bndR (k_X5_rootType_4 _ _ i8) (fun v14 h14 => ?_)
  dsimp only
  refine OK.bndS (kT_X4_take_89_50 _ _ _ _ _ _ i8 (by rw [f8.2.2.2]; exact hT) (by omega)) f8 (fun s16 i16 f16 => ?_)
  try dsimp only
  have t16 : s16.2.2.2 89 = 50 := by rw [f16.2.2.2]; exact hT
  refine OK.ieq (fun _ => ?_) (fun _ => OK.trW (k_X4_run_129_89_50 _ i16 t16) f16 (fun _ _ => trivial))
  refine OK.ile (fun _ => OK.trW (k_X4_run_129_89_50 _ i16 t16) f16 (fun _ _ => trivial)) (fun _ => ?_)
  refine OK.bndS (k_X4_fail_89_50 _ _ _ i16 t16) f16 (fun s18 i18 f18 => ?_)
  try dsimp only
  exact OK.trW (k_X4_run_129_89_50 _ i18 (by rw [f18.2.2.2]; exact hT)) f18 (fun _ _ => trivial)


theorem ia_R_92_62 {σ : ST} (h : IA σ) : IA (stR σ 92 62) := ⟨h.1, h.2.1, h.2.2.1, h.2.2.2.1, h.2.2.2.2.1, h.2.2.2.2.2.1, h.2.2.2.2.2.2.1, h.2.2.2.2.2.2.2.1, h.2.2.2.2.2.2.2.2.1, h.2.2.2.2.2.2.2.2.2.1, h.2.2.2.2.2.2.2.2.2.2.1, h.2.2.2.2.2.2.2.2.2.2.2.1, h.2.2.2.2.2.2.2.2.2.2.2.2.1, h.2.2.2.2.2.2.2.2.2.2.2.2.2.1, h.2.2.2.2.2.2.2.2.2.2.2.2.2.2.1, h.2.2.2.2.2.2.2.2.2.2.2.2.2.2.2.1, (.inl rfl), h.2.2.2.2.2.2.2.2.2.2.2.2.2.2.2.2.2⟩
theorem k_X4_run_129_92_62 (σ : ST) (hI : IA σ) (hT : σ.2.2.2 92 = 62) : OK (f_X4_run_129 92 62 σ) (RW σ fun _ => True) := by
  unfold f_X4_run_129
  refine OK.ieq (fun _ => ?_) (fun _ => ?_)
  · refine OK.grd hT ?_
    refine OK.bndS (k_X7_putInOrder_62 _ hI) Fr.rf (fun s i f => ?_)
    refine OK.grd (by rw [f.2.2.2]; exact hT) ?_
    exact OK.wret i f trivial
  · refine OK.grd hT ?_
    refine OK.bndS (k_X7_clear_62 _ hI) Fr.rf (fun s i f => ?_)
    exact OK.wret i f trivial
theorem k_X4_run_92_62 (p0 p1 : Int32) (σ : ST) (hI : IA σ) : OK (f_X4_run 92 62 p0 p1 σ) (RT σ) := by
  unfold f_X4_run
  have lt_0 := li_0
  have lFR : ((FR : Nat) : Int) = 160 := rfl
  refine OK.bndR (k_X1_planOf _ _ hI) (fun v h1 => ?_)
  dsimp only
  refine OK.grd rfl ?_
  have iz : IA (stR σ 92 62) := ia_R_92_62 hI
  have ez : (stR σ 92 62).1 = σ.1 := rfl
  have ek : (stR σ 92 62).2.1 3 = σ.2.1 3 := rfl
  have hT : (stR σ 92 62).2.2.2 92 = 62 := rfl
  generalize stR σ 92 62 = z at iz ez ek hT ⊢
  refine OK.mono (P := RW z fun _ => True) ?_ (fun q hq => ⟨hq.1.1, by rw [← ez]; exact hq.1.2.1, by rw [← ez]; exact hq.1.2.2.1, by rw [← ez]; exact hq.1.2.2.2.1.1, by rw [← ek]; exact hq.1.2.2.2.1.2⟩)
  refine OK.bndS (k_X7_clear_62 _ iz) Fr.rf (fun s4 i4 f4 => ?_)
  try dsimp only
  have i5 : IA (stI (stI s4 92 4 p0) 92 5 0) := ia_I_92 (ia_I_92 i4)
  have f5 : Fr z (stI (stI s4 92 4 p0) 92 5 0) := fr_I_92 (fr_I_92 f4)
  generalize stI (stI s4 92 4 p0) 92 5 0 = s5 at i5 f5 ⊢
  refine OK.bndR (k_X1_sizeOf _ _ i5) (fun v6 h6 => ?_)
  dsimp only
  refine OK.bndS (k_X0_turnTo _ _ _ (ia_I_92 (ia_I_92 (ia_I_92 i5)))) (fr_I_92 (fr_I_92 (fr_I_92 f5))) (fun s8 i8 f8 => ?_)
  try dsimp only
  refine OK.bndR (k_X0_rootsFit _ i8) (fun v10 h10 => ?_)
  dsimp only
  refine OK.ieq (fun _ => OK.wret i8 f8 trivial) (fun _ => ?_)
  refine OK.bndR (k_X5_rootType_4 _ _ i8) (fun v12 h12 => ?_)
  dsimp only
  refine OK.bndR (k_X5_rootType_4 _ _ i8) (fun v14 h14 => ?_)
  dsimp only
  refine OK.bndS (kT_X4_take_92_62 _ _ _ _ _ _ i8 (by rw [f8.2.2.2]; exact hT) (by omega)) f8 (fun s16 i16 f16 => ?_)
  try dsimp only
  have t16 : s16.2.2.2 92 = 62 := by rw [f16.2.2.2]; exact hT
  refine OK.ieq (fun _ => ?_) (fun _ => OK.trW (k_X4_run_129_92_62 _ i16 t16) f16 (fun _ _ => trivial))
  refine OK.ile (fun _ => OK.trW (k_X4_run_129_92_62 _ i16 t16) f16 (fun _ _ => trivial)) (fun _ => ?_)
  refine OK.bndS (k_X4_fail_92_62 _ _ _ i16 t16) f16 (fun s18 i18 f18 => ?_)
  try dsimp only
  exact OK.trW (k_X4_run_129_92_62 _ i18 (by rw [f18.2.2.2]; exact hT)) f18 (fun _ _ => trivial)


theorem ia_R_92_74 {σ : ST} (h : IA σ) : IA (stR σ 92 74) := ⟨h.1, h.2.1, h.2.2.1, h.2.2.2.1, h.2.2.2.2.1, h.2.2.2.2.2.1, h.2.2.2.2.2.2.1, h.2.2.2.2.2.2.2.1, h.2.2.2.2.2.2.2.2.1, h.2.2.2.2.2.2.2.2.2.1, h.2.2.2.2.2.2.2.2.2.2.1, h.2.2.2.2.2.2.2.2.2.2.2.1, h.2.2.2.2.2.2.2.2.2.2.2.2.1, h.2.2.2.2.2.2.2.2.2.2.2.2.2.1, h.2.2.2.2.2.2.2.2.2.2.2.2.2.2.1, h.2.2.2.2.2.2.2.2.2.2.2.2.2.2.2.1, (.inr rfl), h.2.2.2.2.2.2.2.2.2.2.2.2.2.2.2.2.2⟩
theorem k_X4_run_129_92_74 (σ : ST) (hI : IA σ) (hT : σ.2.2.2 92 = 74) : OK (f_X4_run_129 92 74 σ) (RW σ fun _ => True) := by
  unfold f_X4_run_129
  refine OK.ieq (fun _ => ?_) (fun _ => ?_)
  · refine OK.grd hT ?_
    refine OK.bndS (k_X7_putInOrder_74 _ hI) Fr.rf (fun s i f => ?_)
    refine OK.grd (by rw [f.2.2.2]; exact hT) ?_
    exact OK.wret i f trivial
  · refine OK.grd hT ?_
    refine OK.bndS (k_X7_clear_74 _ hI) Fr.rf (fun s i f => ?_)
    exact OK.wret i f trivial
theorem k_X4_run_92_74 (p0 p1 : Int32) (σ : ST) (hI : IA σ) : OK (f_X4_run 92 74 p0 p1 σ) (RT σ) := by
  unfold f_X4_run
  have lt_0 := li_0
  have lFR : ((FR : Nat) : Int) = 160 := rfl
  refine OK.bndR (k_X1_planOf _ _ hI) (fun v h1 => ?_)
  dsimp only
  refine OK.grd rfl ?_
  have iz : IA (stR σ 92 74) := ia_R_92_74 hI
  have ez : (stR σ 92 74).1 = σ.1 := rfl
  have ek : (stR σ 92 74).2.1 3 = σ.2.1 3 := rfl
  have hT : (stR σ 92 74).2.2.2 92 = 74 := rfl
  generalize stR σ 92 74 = z at iz ez ek hT ⊢
  refine OK.mono (P := RW z fun _ => True) ?_ (fun q hq => ⟨hq.1.1, by rw [← ez]; exact hq.1.2.1, by rw [← ez]; exact hq.1.2.2.1, by rw [← ez]; exact hq.1.2.2.2.1.1, by rw [← ek]; exact hq.1.2.2.2.1.2⟩)
  refine OK.bndS (k_X7_clear_74 _ iz) Fr.rf (fun s4 i4 f4 => ?_)
  try dsimp only
  have i5 : IA (stI (stI s4 92 4 p0) 92 5 0) := ia_I_92 (ia_I_92 i4)
  have f5 : Fr z (stI (stI s4 92 4 p0) 92 5 0) := fr_I_92 (fr_I_92 f4)
  generalize stI (stI s4 92 4 p0) 92 5 0 = s5 at i5 f5 ⊢
  refine OK.bndR (k_X1_sizeOf _ _ i5) (fun v6 h6 => ?_)
  dsimp only
  refine OK.bndS (k_X0_turnTo _ _ _ (ia_I_92 (ia_I_92 (ia_I_92 i5)))) (fr_I_92 (fr_I_92 (fr_I_92 f5))) (fun s8 i8 f8 => ?_)
  try dsimp only
  refine OK.bndR (k_X0_rootsFit _ i8) (fun v10 h10 => ?_)
  dsimp only
  refine OK.ieq (fun _ => OK.wret i8 f8 trivial) (fun _ => ?_)
  refine OK.bndR (k_X5_rootType_4 _ _ i8) (fun v12 h12 => ?_)
  dsimp only
  refine OK.bndR (k_X5_rootType_4 _ _ i8) (fun v14 h14 => ?_)
  dsimp only
  refine OK.bndS (kT_X4_take_92_74 _ _ _ _ _ _ i8 (by rw [f8.2.2.2]; exact hT) (by omega)) f8 (fun s16 i16 f16 => ?_)
  try dsimp only
  have t16 : s16.2.2.2 92 = 74 := by rw [f16.2.2.2]; exact hT
  refine OK.ieq (fun _ => ?_) (fun _ => OK.trW (k_X4_run_129_92_74 _ i16 t16) f16 (fun _ _ => trivial))
  refine OK.ile (fun _ => OK.trW (k_X4_run_129_92_74 _ i16 t16) f16 (fun _ _ => trivial)) (fun _ => ?_)
  refine OK.bndS (k_X4_fail_92_74 _ _ _ i16 t16) f16 (fun s18 i18 f18 => ?_)
  try dsimp only
  exact OK.trW (k_X4_run_129_92_74 _ i18 (by rw [f18.2.2.2]; exact hT)) f18 (fun _ _ => trivial)


theorem k_X7_rowAt_50 (p0 : Int32) (σ : ST) (hI : IA σ)  : OK (f_X7_rowAt 50 p0 σ) (RO σ fun v => True) := by
  unfold f_X7_rowAt
  have lt_m1 := li_m1
  have lt_0 := li_0
  have lt_1 := li_1
  have lFU : ((FU : Nat) : Int) = 100000 := rfl
  have g50 := (hI.t50).1
  have g50b : 0 ≤ (σ.1 50 1).toInt ∧ (σ.1 50 1).toInt ≤ 400 := (hI.t50).2.1
  have g50n : ((ln7 50 : Nat) : Int) = 400 := rfl
  refine OK.ilt (fun h1 => ?_) (fun h1 => ?_)
  · skip
    exact OK.roret (by first | trivial | omega | exact hI.flds _ | exact hI.dflds _ | exact hI.recs _ | exact hI.drecs _ | exact hI.droot _ | omega)
  · skip
    refine OK.ile (fun h2 => ?_) (fun h2 => ?_)
    · skip
      exact OK.roret (by first | trivial | omega | exact hI.flds _ | exact hI.dflds _ | exact hI.recs _ | exact hI.drecs _ | exact hI.droot _ | omega)
    · skip
      refine OK.ile (fun h3 => ?_) (fun h3 => ?_)
      · skip
        exact OK.roret (by first | trivial | omega | exact hI.flds _ | exact hI.dflds _ | exact hI.recs _ | exact hI.drecs _ | exact hI.droot _ | omega)
      · skip
        refine OK.grd ⟨by omega, by omega⟩ ?_
        exact OK.roret (by first | trivial | omega | exact hI.flds _ | exact hI.dflds _ | exact hI.recs _ | exact hI.drecs _ | exact hI.droot _ | omega)

theorem k_X7_rowAt_62 (p0 : Int32) (σ : ST) (hI : IA σ)  : OK (f_X7_rowAt 62 p0 σ) (RO σ fun v => True) := by
  unfold f_X7_rowAt
  have lt_m1 := li_m1
  have lt_0 := li_0
  have lt_1 := li_1
  have lFU : ((FU : Nat) : Int) = 100000 := rfl
  have g62 := (hI.t62).1
  have g62b : 0 ≤ (σ.1 62 1).toInt ∧ (σ.1 62 1).toInt ≤ 502 := (hI.t62).2.1
  have g62n : ((ln7 62 : Nat) : Int) = 502 := rfl
  refine OK.ilt (fun h1 => ?_) (fun h1 => ?_)
  · skip
    exact OK.roret (by first | trivial | omega | exact hI.flds _ | exact hI.dflds _ | exact hI.recs _ | exact hI.drecs _ | exact hI.droot _ | omega)
  · skip
    refine OK.ile (fun h2 => ?_) (fun h2 => ?_)
    · skip
      exact OK.roret (by first | trivial | omega | exact hI.flds _ | exact hI.dflds _ | exact hI.recs _ | exact hI.drecs _ | exact hI.droot _ | omega)
    · skip
      refine OK.ile (fun h3 => ?_) (fun h3 => ?_)
      · skip
        exact OK.roret (by first | trivial | omega | exact hI.flds _ | exact hI.dflds _ | exact hI.recs _ | exact hI.drecs _ | exact hI.droot _ | omega)
      · skip
        refine OK.grd ⟨by omega, by omega⟩ ?_
        exact OK.roret (by first | trivial | omega | exact hI.flds _ | exact hI.dflds _ | exact hI.recs _ | exact hI.drecs _ | exact hI.droot _ | omega)

theorem k_X7_rowAt_74 (p0 : Int32) (σ : ST) (hI : IA σ)  : OK (f_X7_rowAt 74 p0 σ) (RO σ fun v => True) := by
  unfold f_X7_rowAt
  have lt_m1 := li_m1
  have lt_0 := li_0
  have lt_1 := li_1
  have lFU : ((FU : Nat) : Int) = 100000 := rfl
  have g74 := (hI.t74).1
  have g74b : 0 ≤ (σ.1 74 1).toInt ∧ (σ.1 74 1).toInt ≤ 400 := (hI.t74).2.1
  have g74n : ((ln7 74 : Nat) : Int) = 400 := rfl
  refine OK.ilt (fun h1 => ?_) (fun h1 => ?_)
  · skip
    exact OK.roret (by first | trivial | omega | exact hI.flds _ | exact hI.dflds _ | exact hI.recs _ | exact hI.drecs _ | exact hI.droot _ | omega)
  · skip
    refine OK.ile (fun h2 => ?_) (fun h2 => ?_)
    · skip
      exact OK.roret (by first | trivial | omega | exact hI.flds _ | exact hI.dflds _ | exact hI.recs _ | exact hI.drecs _ | exact hI.droot _ | omega)
    · skip
      refine OK.ile (fun h3 => ?_) (fun h3 => ?_)
      · skip
        exact OK.roret (by first | trivial | omega | exact hI.flds _ | exact hI.dflds _ | exact hI.recs _ | exact hI.drecs _ | exact hI.droot _ | omega)
      · skip
        refine OK.grd ⟨by omega, by omega⟩ ?_
        exact OK.roret (by first | trivial | omega | exact hI.flds _ | exact hI.dflds _ | exact hI.recs _ | exact hI.drecs _ | exact hI.droot _ | omega)

theorem k_X7_sizeOf_50 (p0 : Int32) (σ : ST) (hI : IA σ)  : OK (f_X7_sizeOf 50 p0 σ) (RO σ fun v => True) := by
  unfold f_X7_sizeOf
  have lt_0 := li_0
  have lt_1 := li_1
  have lFU : ((FU : Nat) : Int) = 100000 := rfl
  have g50 := (hI.t50).1
  have g50b : 0 ≤ (σ.1 50 1).toInt ∧ (σ.1 50 1).toInt ≤ 400 := (hI.t50).2.1
  have g50n : ((ln7 50 : Nat) : Int) = 400 := rfl
  refine OK.bndR (k_X7_isRow_50 _ _ hI ) (fun v1 h2 => ?_)
  dsimp only
  refine OK.ieq (fun h3 => ?_) (fun h3 => ?_)
  · skip
    exact OK.roret (by first | trivial | omega | exact hI.flds _ | exact hI.dflds _ | exact hI.recs _ | exact hI.drecs _ | exact hI.droot _ | omega)
  · skip
    refine OK.grd ⟨by omega, by omega⟩ ?_
    exact OK.roret (by first | trivial | omega | exact hI.flds _ | exact hI.dflds _ | exact hI.recs _ | exact hI.drecs _ | exact hI.droot _ | omega)

theorem k_X7_sizeOf_62 (p0 : Int32) (σ : ST) (hI : IA σ)  : OK (f_X7_sizeOf 62 p0 σ) (RO σ fun v => True) := by
  unfold f_X7_sizeOf
  have lt_0 := li_0
  have lt_1 := li_1
  have lFU : ((FU : Nat) : Int) = 100000 := rfl
  have g62 := (hI.t62).1
  have g62b : 0 ≤ (σ.1 62 1).toInt ∧ (σ.1 62 1).toInt ≤ 502 := (hI.t62).2.1
  have g62n : ((ln7 62 : Nat) : Int) = 502 := rfl
  refine OK.bndR (k_X7_isRow_62 _ _ hI ) (fun v1 h2 => ?_)
  dsimp only
  refine OK.ieq (fun h3 => ?_) (fun h3 => ?_)
  · skip
    exact OK.roret (by first | trivial | omega | exact hI.flds _ | exact hI.dflds _ | exact hI.recs _ | exact hI.drecs _ | exact hI.droot _ | omega)
  · skip
    refine OK.grd ⟨by omega, by omega⟩ ?_
    exact OK.roret (by first | trivial | omega | exact hI.flds _ | exact hI.dflds _ | exact hI.recs _ | exact hI.drecs _ | exact hI.droot _ | omega)

theorem k_X7_sizeOf_74 (p0 : Int32) (σ : ST) (hI : IA σ)  : OK (f_X7_sizeOf 74 p0 σ) (RO σ fun v => True) := by
  unfold f_X7_sizeOf
  have lt_0 := li_0
  have lt_1 := li_1
  have lFU : ((FU : Nat) : Int) = 100000 := rfl
  have g74 := (hI.t74).1
  have g74b : 0 ≤ (σ.1 74 1).toInt ∧ (σ.1 74 1).toInt ≤ 400 := (hI.t74).2.1
  have g74n : ((ln7 74 : Nat) : Int) = 400 := rfl
  refine OK.bndR (k_X7_isRow_74 _ _ hI ) (fun v1 h2 => ?_)
  dsimp only
  refine OK.ieq (fun h3 => ?_) (fun h3 => ?_)
  · skip
    exact OK.roret (by first | trivial | omega | exact hI.flds _ | exact hI.dflds _ | exact hI.recs _ | exact hI.drecs _ | exact hI.droot _ | omega)
  · skip
    refine OK.grd ⟨by omega, by omega⟩ ?_
    exact OK.roret (by first | trivial | omega | exact hI.flds _ | exact hI.dflds _ | exact hI.recs _ | exact hI.drecs _ | exact hI.droot _ | omega)

theorem k_X7_sortAt_50 (p0 : Int32) (σ : ST) (hI : IA σ)  : OK (f_X7_sortAt 50 p0 σ) (RO σ fun v => (p0.toInt < 0 ∨ (σ.1 50 1).toInt ≤ p0.toInt) ∧ v.toInt = -1 ∨ 0 ≤ p0.toInt ∧ p0.toInt < (σ.1 50 1).toInt) := by
  unfold f_X7_sortAt
  have lt_m1 := li_m1
  have lt_0 := li_0
  have lt_1 := li_1
  have lFU : ((FU : Nat) : Int) = 100000 := rfl
  have g50 := (hI.t50).1
  have g50b : 0 ≤ (σ.1 50 1).toInt ∧ (σ.1 50 1).toInt ≤ 400 := (hI.t50).2.1
  have g50n : ((ln7 50 : Nat) : Int) = 400 := rfl
  refine OK.bndR (k_X7_isRow_50 _ _ hI ) (fun v1 h2 => ?_)
  dsimp only
  refine OK.ieq (fun h3 => ?_) (fun h3 => ?_)
  · skip
    exact OK.roret (by first | trivial | omega | exact hI.flds _ | exact hI.dflds _ | exact hI.recs _ | exact hI.drecs _ | exact hI.droot _ | omega)
  · skip
    refine OK.grd ⟨by omega, by omega⟩ ?_
    exact OK.roret (by first | trivial | omega | exact hI.flds _ | exact hI.dflds _ | exact hI.recs _ | exact hI.drecs _ | exact hI.droot _ | omega)

theorem k_X7_sortAt_62 (p0 : Int32) (σ : ST) (hI : IA σ)  : OK (f_X7_sortAt 62 p0 σ) (RO σ fun v => (p0.toInt < 0 ∨ (σ.1 62 1).toInt ≤ p0.toInt) ∧ v.toInt = -1 ∨ 0 ≤ p0.toInt ∧ p0.toInt < (σ.1 62 1).toInt) := by
  unfold f_X7_sortAt
  have lt_m1 := li_m1
  have lt_0 := li_0
  have lt_1 := li_1
  have lFU : ((FU : Nat) : Int) = 100000 := rfl
  have g62 := (hI.t62).1
  have g62b : 0 ≤ (σ.1 62 1).toInt ∧ (σ.1 62 1).toInt ≤ 502 := (hI.t62).2.1
  have g62n : ((ln7 62 : Nat) : Int) = 502 := rfl
  refine OK.bndR (k_X7_isRow_62 _ _ hI ) (fun v1 h2 => ?_)
  dsimp only
  refine OK.ieq (fun h3 => ?_) (fun h3 => ?_)
  · skip
    exact OK.roret (by first | trivial | omega | exact hI.flds _ | exact hI.dflds _ | exact hI.recs _ | exact hI.drecs _ | exact hI.droot _ | omega)
  · skip
    refine OK.grd ⟨by omega, by omega⟩ ?_
    exact OK.roret (by first | trivial | omega | exact hI.flds _ | exact hI.dflds _ | exact hI.recs _ | exact hI.drecs _ | exact hI.droot _ | omega)

theorem k_X7_sortAt_74 (p0 : Int32) (σ : ST) (hI : IA σ)  : OK (f_X7_sortAt 74 p0 σ) (RO σ fun v => (p0.toInt < 0 ∨ (σ.1 74 1).toInt ≤ p0.toInt) ∧ v.toInt = -1 ∨ 0 ≤ p0.toInt ∧ p0.toInt < (σ.1 74 1).toInt) := by
  unfold f_X7_sortAt
  have lt_m1 := li_m1
  have lt_0 := li_0
  have lt_1 := li_1
  have lFU : ((FU : Nat) : Int) = 100000 := rfl
  have g74 := (hI.t74).1
  have g74b : 0 ≤ (σ.1 74 1).toInt ∧ (σ.1 74 1).toInt ≤ 400 := (hI.t74).2.1
  have g74n : ((ln7 74 : Nat) : Int) = 400 := rfl
  refine OK.bndR (k_X7_isRow_74 _ _ hI ) (fun v1 h2 => ?_)
  dsimp only
  refine OK.ieq (fun h3 => ?_) (fun h3 => ?_)
  · skip
    exact OK.roret (by first | trivial | omega | exact hI.flds _ | exact hI.dflds _ | exact hI.recs _ | exact hI.drecs _ | exact hI.droot _ | omega)
  · skip
    refine OK.grd ⟨by omega, by omega⟩ ?_
    exact OK.roret (by first | trivial | omega | exact hI.flds _ | exact hI.dflds _ | exact hI.recs _ | exact hI.drecs _ | exact hI.droot _ | omega)

theorem k_X7_worthOf_50 (p0 : Int32) (σ : ST) (hI : IA σ)  : OK (f_X7_worthOf 50 p0 σ) (RO σ fun v => True) := by
  unfold f_X7_worthOf
  have lt_0 := li_0
  have lt_1 := li_1
  have lFU : ((FU : Nat) : Int) = 100000 := rfl
  have g50 := (hI.t50).1
  have g50b : 0 ≤ (σ.1 50 1).toInt ∧ (σ.1 50 1).toInt ≤ 400 := (hI.t50).2.1
  have g50n : ((ln7 50 : Nat) : Int) = 400 := rfl
  refine OK.bndR (k_X7_isRow_50 _ _ hI ) (fun v1 h2 => ?_)
  dsimp only
  refine OK.ieq (fun h3 => ?_) (fun h3 => ?_)
  · skip
    exact OK.roret (by first | trivial | omega | exact hI.flds _ | exact hI.dflds _ | exact hI.recs _ | exact hI.drecs _ | exact hI.droot _ | omega)
  · skip
    refine OK.grd ⟨by omega, by omega⟩ ?_
    exact OK.roret (by first | trivial | omega | exact hI.flds _ | exact hI.dflds _ | exact hI.recs _ | exact hI.drecs _ | exact hI.droot _ | omega)

theorem k_X7_worthOf_62 (p0 : Int32) (σ : ST) (hI : IA σ)  : OK (f_X7_worthOf 62 p0 σ) (RO σ fun v => True) := by
  unfold f_X7_worthOf
  have lt_0 := li_0
  have lt_1 := li_1
  have lFU : ((FU : Nat) : Int) = 100000 := rfl
  have g62 := (hI.t62).1
  have g62b : 0 ≤ (σ.1 62 1).toInt ∧ (σ.1 62 1).toInt ≤ 502 := (hI.t62).2.1
  have g62n : ((ln7 62 : Nat) : Int) = 502 := rfl
  refine OK.bndR (k_X7_isRow_62 _ _ hI ) (fun v1 h2 => ?_)
  dsimp only
  refine OK.ieq (fun h3 => ?_) (fun h3 => ?_)
  · skip
    exact OK.roret (by first | trivial | omega | exact hI.flds _ | exact hI.dflds _ | exact hI.recs _ | exact hI.drecs _ | exact hI.droot _ | omega)
  · skip
    refine OK.grd ⟨by omega, by omega⟩ ?_
    exact OK.roret (by first | trivial | omega | exact hI.flds _ | exact hI.dflds _ | exact hI.recs _ | exact hI.drecs _ | exact hI.droot _ | omega)

theorem k_X7_worthOf_74 (p0 : Int32) (σ : ST) (hI : IA σ)  : OK (f_X7_worthOf 74 p0 σ) (RO σ fun v => True) := by
  unfold f_X7_worthOf
  have lt_0 := li_0
  have lt_1 := li_1
  have lFU : ((FU : Nat) : Int) = 100000 := rfl
  have g74 := (hI.t74).1
  have g74b : 0 ≤ (σ.1 74 1).toInt ∧ (σ.1 74 1).toInt ≤ 400 := (hI.t74).2.1
  have g74n : ((ln7 74 : Nat) : Int) = 400 := rfl
  refine OK.bndR (k_X7_isRow_74 _ _ hI ) (fun v1 h2 => ?_)
  dsimp only
  refine OK.ieq (fun h3 => ?_) (fun h3 => ?_)
  · skip
    exact OK.roret (by first | trivial | omega | exact hI.flds _ | exact hI.dflds _ | exact hI.recs _ | exact hI.drecs _ | exact hI.droot _ | omega)
  · skip
    refine OK.grd ⟨by omega, by omega⟩ ?_
    exact OK.roret (by first | trivial | omega | exact hI.flds _ | exact hI.dflds _ | exact hI.recs _ | exact hI.drecs _ | exact hI.droot _ | omega)

theorem k_X7_isLike_15_62_74 : ∀ (n : Nat) (x2 : Int32) (σ : ST), IA σ → (0 ≤ x2.toInt ∧ x2.toInt ≤ 502 ∧ (502 : Int) - x2.toInt < n) → OK (f_X7_isLike_15 62 74 n x2 σ) (RO σ fun v => v.toInt = 0 ∨ v.toInt = 1) := by
  intro n
  induction n with
  | zero =>
    intro x2 σ hI hv
    omega
  | succ n ih =>
    intro x2 σ hI hv
    rw [f_X7_isLike_15]
    have lt_0 := li_0
    have lt_1 := li_1
    have lFU : ((FU : Nat) : Int) = 100000 := rfl
    have g62 := (hI.t62).1
    have g62b : 0 ≤ (σ.1 62 1).toInt ∧ (σ.1 62 1).toInt ≤ 502 := (hI.t62).2.1
    have g62n : ((ln7 62 : Nat) : Int) = 502 := rfl
    have g74 := (hI.t74).1
    have g74b : 0 ≤ (σ.1 74 1).toInt ∧ (σ.1 74 1).toInt ≤ 400 := (hI.t74).2.1
    have g74n : ((ln7 74 : Nat) : Int) = 400 := rfl
    refine OK.ile (fun h1 => ?_) (fun h1 => ?_)
    · skip
      exact OK.roret (by first | trivial | omega | exact hI.flds _ | exact hI.dflds _ | exact hI.recs _ | exact hI.drecs _ | exact hI.droot _ | omega)
    · skip
      refine OK.bndR (k_X7_rowAt_62 _ _ hI ) (fun v2 h3 => ?_)
      dsimp only
      refine OK.bndR (k_X7_rowAt_74 _ _ hI ) (fun v4 h5 => ?_)
      dsimp only
      refine OK.bndR (k_X7_sortAt_62 _ _ hI ) (fun v6 h7 => ?_)
      dsimp only
      refine OK.bndR (k_X7_sortAt_74 _ _ hI ) (fun v8 h9 => ?_)
      dsimp only
      refine OK.ieq (fun h10 => ?_) (fun h10 => ?_)
      · skip
        refine OK.bndR (k_X7_sizeOf_62 _ _ hI ) (fun v11 h12 => ?_)
        dsimp only
        refine OK.bndR (k_X7_sizeOf_74 _ _ hI ) (fun v13 h14 => ?_)
        dsimp only
        refine OK.ieq (fun h15 => ?_) (fun h15 => ?_)
        · skip
          refine OK.bndR (k_X7_worthOf_62 _ _ hI ) (fun v16 h17 => ?_)
          dsimp only
          refine OK.bndR (k_X7_worthOf_74 _ _ hI ) (fun v18 h19 => ?_)
          dsimp only
          refine OK.ieq (fun h20 => ?_) (fun h20 => ?_)
          · skip
            obtain ⟨a21k, a21, a21l, a21r⟩ := i_add x2 1
            try (refine k0el (k := a21k) ?_ (fun e0 => ?_); (focus omega); subst e0)
            exact OK.roq (ih _ _ hI (by omega)) (fun v hv => by first | trivial | omega | exact hI.flds _ | exact hI.dflds _ | exact hI.recs _ | exact hI.drecs _ | exact hI.droot _ | omega)
          · skip
            exact OK.roret (by first | trivial | omega | exact hI.flds _ | exact hI.dflds _ | exact hI.recs _ | exact hI.drecs _ | exact hI.droot _ | omega)
        · skip
          exact OK.roret (by first | trivial | omega | exact hI.flds _ | exact hI.dflds _ | exact hI.recs _ | exact hI.drecs _ | exact hI.droot _ | omega)
      · skip
        exact OK.roret (by first | trivial | omega | exact hI.flds _ | exact hI.dflds _ | exact hI.recs _ | exact hI.drecs _ | exact hI.droot _ | omega)

theorem k_X7_isLike_62_74 (σ : ST) (hI : IA σ)  : OK (f_X7_isLike 62 74 σ) (RO σ fun v => v.toInt = 0 ∨ v.toInt = 1) := by
  unfold f_X7_isLike
  have lt_0 := li_0
  have lt_1 := li_1
  have lFU : ((FU : Nat) : Int) = 100000 := rfl
  refine OK.ieq (fun h1 => ?_) (fun h1 => ?_)
  · skip
    exact OK.roq (k_X7_isLike_15_62_74 FU _ _ hI (by omega)) (fun v hv => by first | trivial | omega | exact hI.flds _ | exact hI.dflds _ | exact hI.recs _ | exact hI.drecs _ | exact hI.droot _ | omega)
  · skip
    exact OK.roret (by first | trivial | omega | exact hI.flds _ | exact hI.dflds _ | exact hI.recs _ | exact hI.drecs _ | exact hI.droot _ | omega)

theorem k_X1_hasByte (p0 : Int32) (p1 : Int32) (σ : ST) (hI : IA σ)  : OK (f_X1_hasByte  p0 p1 σ) (RO σ fun v => v.toInt = 0 ∨ v.toInt = 1 ∧ 0 ≤ p0.toInt ∧ p0.toInt < 4 ∧ 0 ≤ p1.toInt ∧ p1.toInt < 400) := by
  unfold f_X1_hasByte
  have lt_0 := li_0
  have lt_1 := li_1
  have lt_400 := li_400
  have lFU : ((FU : Nat) : Int) = 100000 := rfl
  refine OK.bndR (k_X1_isWritten _ _ hI ) (fun v1 h2 => ?_)
  dsimp only
  refine OK.ieq (fun h3 => ?_) (fun h3 => ?_)
  · skip
    exact OK.roret (by first | trivial | omega | exact hI.flds _ | exact hI.dflds _ | exact hI.recs _ | exact hI.drecs _ | exact hI.droot _ | omega)
  · skip
    refine OK.ilt (fun h4 => ?_) (fun h4 => ?_)
    · skip
      exact OK.roret (by first | trivial | omega | exact hI.flds _ | exact hI.dflds _ | exact hI.recs _ | exact hI.drecs _ | exact hI.droot _ | omega)
    · skip
      refine OK.grd ⟨by omega, by omega⟩ ?_
      refine OK.ile (fun h5 => ?_) (fun h5 => ?_)
      · skip
        exact OK.roret (by first | trivial | omega | exact hI.flds _ | exact hI.dflds _ | exact hI.recs _ | exact hI.drecs _ | exact hI.droot _ | omega)
      · skip
        refine OK.ile (fun h6 => ?_) (fun h6 => ?_)
        · skip
          exact OK.roret (by first | trivial | omega | exact hI.flds _ | exact hI.dflds _ | exact hI.recs _ | exact hI.drecs _ | exact hI.droot _ | omega)
        · skip
          exact OK.roret (by first | trivial | omega | exact hI.flds _ | exact hI.dflds _ | exact hI.recs _ | exact hI.drecs _ | exact hI.droot _ | omega)

theorem k_X10_byteAt (p0 : Int32) (p1 : Int32) (σ : ST) (hI : IA σ)  : OK (f_X10_byteAt  p0 p1 σ) (RO σ fun v => True) := by
  unfold f_X10_byteAt
  have lt_0 := li_0
  have lt_1 := li_1
  have lFU : ((FU : Nat) : Int) = 100000 := rfl
  refine OK.bndR (k_X1_hasByte _ _ _ hI ) (fun v1 h2 => ?_)
  dsimp only
  refine OK.ieq (fun h3 => ?_) (fun h3 => ?_)
  · skip
    exact OK.roret (by first | trivial | omega | exact hI.flds _ | exact hI.dflds _ | exact hI.recs _ | exact hI.drecs _ | exact hI.droot _ | omega)
  · skip
    refine OK.bndR (k_X1_byteOf _ _ _ hI ) (fun v4 h5 => ?_)
    dsimp only
    exact OK.roret (by first | trivial | omega | exact hI.flds _ | exact hI.dflds _ | exact hI.recs _ | exact hI.drecs _ | exact hI.droot _ | omega)

theorem byt_fits {x : Int32} (h : bI x (-128) 127) : fits .byte (.int x) = true := by
  obtain ⟨h1, h2⟩ := h
  unfold fits
  simp only [decide_eq_true_eq, Bool.and_eq_true]
  exact ⟨Int32.le_iff_toInt_le.mpr h1, Int32.le_iff_toInt_le.mpr h2⟩
theorem k_X1_store (p0 p1 : Int32) (σ : ST) (hI : IA σ) : OK (f_X1_store p0 p1 σ) (RS σ) := by
  unfold f_X1_store
  have lt_0 := li_0
  have lt_4 := li_4
  have lt_400 := li_400
  refine OK.bndR (k_X1_isNumber _ _ hI) (fun v h1 => ?_)
  dsimp only
  refine OK.ieq (fun h => OK.sret hI Fr.rf) (fun h => ?_)
  refine OK.ilt (fun h => OK.sret hI Fr.rf) (fun h2 => ?_)
  have hs := hI.pks
  obtain ⟨ak, a, al, ar⟩ := i_mul p0 400
  rw [li_400] at a
  try (refine k0el (k := ak) ?_ (fun e0 => ?_); (focus omega); subst e0)
  have q1 : (σ.1 87 2).toNatClampNeg = (σ.1 87 2).toInt.toNat := rfl
  have q2 : (p0 * 400).toNatClampNeg = (p0 * 400).toInt.toNat := rfl
  have q0 : (0 : Int32).toNatClampNeg = 0 := by decide
  refine OK.grd (by
    rw [q0, q1, q2]
    refine ⟨by decide, ?_, ?_, ?_, ?_, ?_⟩
    · intro hh; have := il_lt hh; omega
    · intro hh; have := il_lt hh; omega
    · omega
    · omega
    · intro i _; exact byt_fits (hI.pkb _)) ?_
  refine OK.lt (fun z3 hz => ?_)
  have i3 : IA z3 := by rw [hz]; exact hI
  have f3 : Fr σ z3 := by rw [hz]; exact Fr.rf
  refine OK.grd ⟨by omega, by omega⟩ ?_
  exact OK.sret (ia_I_40 (ia_I_39 i3)) (fr_I_40 (fr_I_39 f3))


/-- packing: but for the packer's own cells all stays, and its size grows by so much at most -/
def PK (m : Int) (σ q : ST) : Prop := IA q ∧ (∀ c, c ≠ 87 → c ≠ 88 → q.1 c = σ.1 c) ∧ q.2 = σ.2 ∧ (q.1 87 2).toInt ≤ (σ.1 87 2).toInt + m
theorem PK.rf {σ : ST} (h : IA σ) : PK 0 σ σ := ⟨h, fun _ _ _ => rfl, rfl, by omega⟩
theorem PK.trans {m n r : Int} {σ s q : ST} (h : PK m σ s) (k : PK n s q) (e : m + n ≤ r) : PK r σ q := ⟨k.1, fun c h1 h2 => (k.2.1 c h1 h2).trans (h.2.1 c h1 h2), k.2.2.1.trans h.2.2.1, by have a := h.2.2.2; have b := k.2.2.2; omega⟩
theorem PK.mono {m r : Int} {σ q : ST} (h : PK m σ q) (e : m ≤ r) : PK r σ q := ⟨h.1, h.2.1, h.2.2.1, by have a := h.2.2.2; omega⟩
theorem OK.bndP {β : Type} {o : Option ST} {f : ST → Option β} {m m0 : Int} {s σ : ST} {P : β → Prop} (h : OK o (PK m s)) (h0 : PK m0 σ s) (k : ∀ t : ST, PK (m0 + m) σ t → OK (f t) P) : OK (o.bind f) P := by
  obtain ⟨q, e, hq⟩ := h
  rw [e]; exact k q (h0.trans hq (Int.le_refl _))
theorem OK.trP {o : Option ST} {m m0 r : Int} {s σ : ST} (h : OK o (PK m s)) (h0 : PK m0 σ s) (e : m0 + m ≤ r) : OK o (PK r σ) := h.mono (fun _ hq => h0.trans hq e)
theorem by8 (y : Int32) : bI y.toInt8.toInt32 (-128) 127 := by
  have h1 := Int8.le_toInt y.toInt8
  have h2 := Int8.toInt_lt y.toInt8
  unfold bI
  rw [Int8.toInt_toInt32]
  omega
theorem k_X2_put (p0 : Int32) (σ : ST) (hI : IA σ) (hs : (σ.1 87 2).toInt < 2000000000) : OK (f_X2_put p0 σ) (PK 1 σ) := by
  have lt_1 := li_1
  have lt_400 := li_400
  have g := hI.pks
  obtain ⟨ak, a, al, ar⟩ := i_add (σ.1 87 2) 1
  try (refine k0el (k := ak) ?_ (fun e0 => ?_); (focus omega); subst e0)
  unfold f_X2_put f_X2_put_21
  refine OK.ile (fun h => ?_) (fun h => ?_)
  · refine OK.ret ⟨ia_J_87_2 hI (by omega), fun c h1 h2 => stI_ne h1, rfl, ?_⟩
    show (σ.1 87 2 + 1).toInt ≤ (σ.1 87 2).toInt + 1
    omega
  · refine OK.grd ⟨by omega, by omega⟩ ?_
    have hb : bI (vp_nar .byte (p0.toInt8.toInt32)) (-128) 127 := by rw [vp_nar_byte]; exact by8 _
    refine OK.ret ⟨ia_J_87_2 (ia_J_88 hI hb) (show 0 ≤ (σ.1 87 2 + 1).toInt from by omega), fun c h1 h2 => by rw [stI_ne h1, stI_ne h2], rfl, ?_⟩
    show (σ.1 87 2 + 1).toInt ≤ (σ.1 87 2).toInt + 1
    omega


theorem k_X2_putNumber_54 (x3 : Int64) (σ : ST) (hI : IA σ) (hs : (σ.1 87 2).toInt < 2000000000) : OK (f_X2_putNumber_54 x3 σ) (PK 1 σ) := by
  unfold f_X2_putNumber_54
  exact OK.bndP (k_X2_put _ _ hI hs) (PK.rf hI) (fun t ht => OK.ret (ht.mono (by omega)))
theorem k_X2_putNumber_12 : ∀ (n : Nat) (x3 : Int64) (x5 : Int32) (σ : ST), IA σ → (0 ≤ x5.toInt ∧ x5.toInt ≤ 9 ∧ (9 : Int) - x5.toInt < n ∧ (σ.1 87 2).toInt + 10 - x5.toInt < 2000000000) → OK (f_X2_putNumber_12 n x3 x5 σ) (PK (10 - x5.toInt) σ) := by
  intro n
  induction n with
  | zero => intro x3 x5 σ hI hv; omega
  | succ n ih =>
    intro x3 x5 σ hI hv
    rw [f_X2_putNumber_12]
    have lt_1 := li_1
    have lt_9 := li_9
    obtain ⟨ak, a, al, ar⟩ := i_add x5 1
    try (refine k0el (k := ak) ?_ (fun e0 => ?_); (focus omega); subst e0)
    have fin := (k_X2_putNumber_54 x3 σ hI (by omega)).mono (fun q hq => hq.mono (r := 10 - x5.toInt) (by omega))
    refine OK.ile (fun _ => fin) (fun h => ?_)
    refine OK.ieq (fun _ => fin) (fun h2 => ?_)
    refine OK.bndP (k_X2_put _ _ hI (by omega)) (PK.rf hI) (fun t ht => ?_)
    refine OK.lt (fun w _ => ?_)
    have h3 := ht.2.2.2
    exact OK.trP (ih _ _ _ ht.1 (by omega)) ht (by omega)


theorem k_X2_putNumber (p0 : Int64) (σ : ST) (hI : IA σ) (hs : (σ.1 87 2).toInt + 10 < 2000000000) : OK (f_X2_putNumber p0 σ) (PK 10 σ) := by
  unfold f_X2_putNumber
  have lt_0 := li_0
  have lFU : ((FU : Nat) : Int) = 100000 := rfl
  refine OK.lt (fun w _ => ?_)
  exact (k_X2_putNumber_12 FU w 0 σ hI (by omega)).mono (fun q hq => hq.mono (by omega))


theorem k_X2_packBranch_56 (x3 x4 : Int32) (σ : ST) (hI : IA σ) (hs : (σ.1 87 2).toInt + 10 < 2000000000) : OK (f_X2_packBranch_56 x3 x4 σ) (fun q => PK 10 σ q.2) := by
  unfold f_X2_packBranch_56
  exact OK.bndP (k_X2_putNumber _ _ hI hs) (PK.rf hI) (fun t ht => OK.ret (ht.mono (by omega)))
theorem k_X2_packBranch_15 : ∀ (n : Nat) (x2 x3 x4 x5 : Int32) (σ : ST), IA σ → (0 ≤ x5.toInt ∧ x5.toInt ≤ 4 ∧ (4 : Int) - x5.toInt < n ∧ (σ.1 87 2).toInt + 10 < 2000000000) → OK (f_X2_packBranch_15 n x2 x3 x4 x5 σ) (fun q => PK 10 σ q.2) := by
  intro n
  induction n with
  | zero => intro x2 x3 x4 x5 σ hI hv; omega
  | succ n ih =>
    intro x2 x3 x4 x5 σ hI hv
    rw [f_X2_packBranch_15]
    have lt_1 := li_1
    have lt_4 := li_4
    obtain ⟨ak, a, al, ar⟩ := i_add x5 1
    try (refine k0el (k := ak) ?_ (fun e0 => ?_); (focus omega); subst e0)
    refine OK.ile (fun _ => k_X2_packBranch_56 _ _ _ hI (by omega)) (fun h => ?_)
    refine OK.ieq (fun _ => k_X2_packBranch_56 _ _ _ hI (by omega)) (fun h2 => ?_)
    refine OK.bndR (k_X5_sortOf_4 _ _ hI) (fun v hv1 => ?_)
    dsimp only
    refine OK.ieq (fun _ => k_X2_packBranch_56 _ _ _ hI (by omega)) (fun h3 => ?_)
    refine OK.bndR (k_X5_branchAfter_4 _ _ hI) (fun v hv1 => ?_)
    dsimp only
    exact ih _ _ _ _ _ hI (by omega)


theorem k_X2_packBranch (p0 p1 : Int32) (σ : ST) (hI : IA σ) (hs : (σ.1 87 2).toInt + 10 < 2000000000) : OK (f_X2_packBranch p0 p1 σ) (fun q => PK 10 σ q.2) := by
  unfold f_X2_packBranch
  have lt_0 := li_0
  have lFU : ((FU : Nat) : Int) = 100000 := rfl
  refine OK.bndR (k_X5_innerOf_4 _ _ hI) (fun v hv => ?_)
  dsimp only
  exact k_X2_packBranch_15 FU _ _ _ _ _ hI (by omega)


theorem k_X2_packLetters_14 : ∀ (n : Nat) (x1 : Int64) (x3 x4 : Int32) (σ : ST), IA σ → (x3.toInt ≤ 12 ∧ 0 ≤ x4.toInt ∧ x4.toInt ≤ 12 ∧ (12 : Int) - x4.toInt < n ∧ (σ.1 87 2).toInt + 12 - x4.toInt < 2000000000) → OK (f_X2_packLetters_14 n x1 x3 x4 σ) (PK (12 - x4.toInt) σ) := by
  intro n
  induction n with
  | zero => intro x1 x3 x4 σ hI hv; omega
  | succ n ih =>
    intro x1 x3 x4 σ hI hv
    rw [f_X2_packLetters_14]
    have lt_1 := li_1
    obtain ⟨ak, a, al, ar⟩ := i_add x4 1
    try (refine k0el (k := ak) ?_ (fun e0 => ?_); (focus omega); subst e0)
    refine OK.ile (fun _ => OK.ret ((PK.rf hI).mono (by omega))) (fun h => ?_)
    refine OK.bndR (k_X10_letterOf _ _ _ hI) (fun v hv1 => ?_)
    dsimp only
    refine OK.bndP (k_X2_put _ _ hI (by omega)) (PK.rf hI) (fun t ht => ?_)
    have h3 := ht.2.2.2
    exact OK.trP (ih _ _ _ _ ht.1 (by omega)) ht (by omega)


theorem k_X2_packLetters (p0 : Int64) (σ : ST) (hI : IA σ) (hs : (σ.1 87 2).toInt + 22 < 2000000000) : OK (f_X2_packLetters p0 σ) (PK 22 σ) := by
  unfold f_X2_packLetters
  have lt_0 := li_0
  have lFU : ((FU : Nat) : Int) = 100000 := rfl
  refine OK.bndR (k_X10_lettersIn _ _ hI) (fun v hv => ?_)
  dsimp only
  refine OK.bndP (k_X2_putNumber _ _ hI (by omega)) (PK.rf hI) (fun t ht => ?_)
  have h3 := ht.2.2.2
  exact OK.trP (k_X2_packLetters_14 FU _ _ _ _ ht.1 (by omega)) ht (by omega)


theorem k_X2_packPlain_61 : ∀ (n : Nat) (x2 : Int64) (x4 : Int32) (σ : ST), IA σ → (-8 ≤ x4.toInt ∧ x4.toInt ≤ 56 ∧ x4.toInt + 8 < n ∧ (σ.1 87 2).toInt + 8 + x4.toInt < 2000000000) → OK (f_X2_packPlain_61 n x2 x4 σ) (PK (x4.toInt + 8) σ) := by
  intro n
  induction n with
  | zero => intro x2 x4 σ hI hv; omega
  | succ n ih =>
    intro x2 x4 σ hI hv
    rw [f_X2_packPlain_61]
    have lt_0 := li_0
    have lm : (-8 : Int32).toInt = -8 := by decide
    obtain ⟨ak, a, al, ar⟩ := i_add x4 (-8)
    try (refine k0el (k := ak) ?_ (fun e0 => ?_); (focus omega); subst e0)
    refine OK.ilt (fun _ => OK.ret ((PK.rf hI).mono (by omega))) (fun h => ?_)
    refine OK.bndP (k_X2_put _ _ hI (by omega)) (PK.rf hI) (fun t ht => ?_)
    have h3 := ht.2.2.2
    exact OK.trP (ih _ _ _ ht.1 (by omega)) ht (by omega)


theorem k_X2_packPlain (p0 : Int32) (p1 : Int64) (σ : ST) (hI : IA σ) (hs : (σ.1 87 2).toInt + 64 < 2000000000) : OK (f_X2_packPlain p0 p1 σ) (PK 64 σ) := by
  unfold f_X2_packPlain
  have lt_56 := li_56
  have lFU : ((FU : Nat) : Int) = 100000 := rfl
  refine OK.ieq (fun _ => OK.bndP (k_X2_put _ _ hI (by omega)) (PK.rf hI) (fun t ht => OK.ret (ht.mono (by omega)))) (fun _ => ?_)
  refine OK.ieq (fun _ => OK.bndP (k_X2_putNumber _ _ hI (by omega)) (PK.rf hI) (fun t ht => OK.ret (ht.mono (by omega)))) (fun _ => ?_)
  refine OK.ieq (fun _ => OK.bndP (k_X2_putNumber _ _ hI (by omega)) (PK.rf hI) (fun t ht => OK.ret (ht.mono (by omega)))) (fun _ => ?_)
  refine OK.ieq (fun _ => (k_X2_packPlain_61 FU _ _ _ hI (by omega)).mono (fun q hq => hq.mono (by omega))) (fun _ => ?_)
  refine OK.ieq (fun _ => OK.bndP (k_X2_packLetters _ _ hI (by omega)) (PK.rf hI) (fun t ht => OK.ret (ht.mono (by omega)))) (fun _ => ?_)
  refine OK.ieq (fun _ => OK.bndP (k_X2_putNumber _ _ hI (by omega)) (PK.rf hI) (fun t ht => OK.ret (ht.mono (by omega)))) (fun _ => ?_)
  exact OK.ret ((PK.rf hI).mono (by omega))


theorem k_X2_packElse_21 (x1 x2 x4 : Int32) (σ : ST) (hI : IA σ) (hs : (σ.1 87 2).toInt + 64 < 2000000000) : OK (f_X2_packElse_21 x1 x2 x4 σ) (PK 64 σ) := by
  unfold f_X2_packElse_21
  refine OK.bndR (k_X5_sortOf_4 _ _ hI) (fun v hv => ?_)
  dsimp only
  refine OK.bndR (k_X5_elseWorth_4 _ _ _ hI) (fun w hw => ?_)
  dsimp only
  exact OK.bndP (k_X2_packPlain _ _ _ hI hs) (PK.rf hI) (fun t ht => OK.ret (ht.mono (by omega)))
theorem k_X2_packElse (p0 p1 p2 : Int32) (σ : ST) (hI : IA σ) (hs : (σ.1 87 2).toInt + 74 < 2000000000) : OK (f_X2_packElse p0 p1 p2 σ) (PK 74 σ) := by
  unfold f_X2_packElse
  refine OK.bndR (k_X5_firstChoice_4 _ _ hI) (fun v hv => ?_)
  dsimp only
  refine OK.ieq (fun _ => (k_X2_packElse_21 _ _ _ _ hI (by omega)).mono (fun q hq => hq.mono (by omega))) (fun _ => ?_)
  refine OK.bndP (k_X2_putNumber _ _ hI (by omega)) (PK.rf hI) (fun t ht => ?_)
  have h3 := ht.2.2.2
  exact OK.trP (k_X2_packElse_21 _ _ _ _ ht.1 (by omega)) ht (by omega)



theorem k_X7_placeOf_50 (p0 : Int32) (σ : ST) (hI : IA σ)  : OK (f_X7_placeOf 50 p0 σ) (RO σ fun v => True) := by
  unfold f_X7_placeOf
  have lt_0 := li_0
  have lt_1 := li_1
  have lFU : ((FU : Nat) : Int) = 100000 := rfl
  have g50 := (hI.t50).1
  have g50b : 0 ≤ (σ.1 50 1).toInt ∧ (σ.1 50 1).toInt ≤ 400 := (hI.t50).2.1
  have g50n : ((ln7 50 : Nat) : Int) = 400 := rfl
  refine OK.bndR (k_X7_isRow_50 _ _ hI ) (fun v1 h2 => ?_)
  dsimp only
  refine OK.ieq (fun h3 => ?_) (fun h3 => ?_)
  · skip
    exact OK.roret (by first | trivial | omega | exact hI.flds _ | exact hI.dflds _ | exact hI.recs _ | exact hI.drecs _ | exact hI.droot _ | omega)
  · skip
    refine OK.grd ⟨by omega, by omega⟩ ?_
    exact OK.roret (by first | trivial | omega | exact hI.flds _ | exact hI.dflds _ | exact hI.recs _ | exact hI.drecs _ | exact hI.droot _ | omega)

theorem k_X7_placeOf_62 (p0 : Int32) (σ : ST) (hI : IA σ)  : OK (f_X7_placeOf 62 p0 σ) (RO σ fun v => True) := by
  unfold f_X7_placeOf
  have lt_0 := li_0
  have lt_1 := li_1
  have lFU : ((FU : Nat) : Int) = 100000 := rfl
  have g62 := (hI.t62).1
  have g62b : 0 ≤ (σ.1 62 1).toInt ∧ (σ.1 62 1).toInt ≤ 502 := (hI.t62).2.1
  have g62n : ((ln7 62 : Nat) : Int) = 502 := rfl
  refine OK.bndR (k_X7_isRow_62 _ _ hI ) (fun v1 h2 => ?_)
  dsimp only
  refine OK.ieq (fun h3 => ?_) (fun h3 => ?_)
  · skip
    exact OK.roret (by first | trivial | omega | exact hI.flds _ | exact hI.dflds _ | exact hI.recs _ | exact hI.drecs _ | exact hI.droot _ | omega)
  · skip
    refine OK.grd ⟨by omega, by omega⟩ ?_
    exact OK.roret (by first | trivial | omega | exact hI.flds _ | exact hI.dflds _ | exact hI.recs _ | exact hI.drecs _ | exact hI.droot _ | omega)

theorem k_X9_pairAt (p0 : Int32) (σ : ST) (hI : IA σ)  : OK (f_X9_pairAt  p0 σ) (RO σ fun v => True) := by
  unfold f_X9_pairAt
  have lt_m1 := li_m1
  have lt_0 := li_0
  have lt_1 := li_1
  have lt_4 := li_4
  have lFU : ((FU : Nat) : Int) = 100000 := rfl
  refine OK.ilt (fun h1 => ?_) (fun h1 => ?_)
  · skip
    exact OK.roret (by first | trivial | omega | exact hI.flds _ | exact hI.dflds _ | exact hI.recs _ | exact hI.drecs _ | exact hI.droot _ | omega)
  · skip
    have g2 : 0 ≤ (σ.1 48 1).toInt ∧ (σ.1 48 1).toInt ≤ 4 := hI.ways
    refine OK.ile (fun h3 => ?_) (fun h3 => ?_)
    · skip
      exact OK.roret (by first | trivial | omega | exact hI.flds _ | exact hI.dflds _ | exact hI.recs _ | exact hI.drecs _ | exact hI.droot _ | omega)
    · skip
      refine OK.ile (fun h4 => ?_) (fun h4 => ?_)
      · skip
        exact OK.roret (by first | trivial | omega | exact hI.flds _ | exact hI.dflds _ | exact hI.recs _ | exact hI.drecs _ | exact hI.droot _ | omega)
      · skip
        refine OK.grd ⟨by omega, by omega⟩ ?_
        exact OK.roret (by first | trivial | omega | exact hI.flds _ | exact hI.dflds _ | exact hI.recs _ | exact hI.drecs _ | exact hI.droot _ | omega)

theorem k_X9_use_97 : ∀ (n : Nat) (x3 x5 : Int32) (σ : ST), IA σ → (x5.toInt ≤ 3 ∧ x5.toInt < n) → 0 < n → OK (f_X9_use_97 n x3 x5 σ) (RS σ) := by
  intro n
  induction n with
  | zero => intro x3 x5 σ hI hv h0; omega
  | succ n ih =>
    intro x3 x5 σ hI hv h0
    rw [f_X9_use_97]
    have lt_0 := li_0
    have lt_1 := li_1
    have lm : (-1 : Int32).toInt = -1 := by decide
    refine OK.ile (fun h => OK.sret (ia_I_49 hI) (fr_I_49 Fr.rf)) (fun h => ?_)
    obtain ⟨ak, a, al, ar⟩ := i_sub x5 1
    try (refine k0el (k := ak) ?_ (fun e0 => ?_); (focus omega); subst e0)
    obtain ⟨bk, b, bl, br⟩ := i_add x5 (-1)
    try (refine k0el (k := bk) ?_ (fun e0 => ?_); (focus omega); subst e0)
    refine OK.grd ⟨by omega, by omega⟩ ?_
    refine OK.grd ⟨by omega, by omega⟩ ?_
    exact OK.trS (ih _ _ _ (ia_I_49 hI) (by omega) (by omega)) (fr_I_49 Fr.rf)


theorem k_X9_use_89 (x3 x4 : Int32) (σ : ST) (hI : IA σ) (hp : x4.toInt ≤ 4) : OK (f_X9_use_89 x3 x4 σ) (RS σ) := by
  unfold f_X9_use_89
  have lt_3 := li_3
  have lFU : ((FU : Nat) : Int) = 100000 := rfl
  refine k_X9_use_97 FU _ _ _ hI ?_ (by decide)
  split
  · exact ⟨by omega, by omega⟩
  · rename_i h
    have := il_nlt h
    exact ⟨by omega, by omega⟩


theorem k_X9_use_35 (x3 x4 : Int32) (σ : ST) (hI : IA σ) (hp : x4.toInt ≤ 4) : OK (f_X9_use_35 x3 x4 σ) (RS σ) := by
  unfold f_X9_use_35
  have lt_1 := li_1
  have lt_4 := li_4
  have g : 0 ≤ (σ.1 48 1).toInt ∧ (σ.1 48 1).toInt ≤ 4 := hI.ways
  obtain ⟨ak, a, al, ar⟩ := i_add (σ.1 48 1) 1
  try (refine k0el (k := ak) ?_ (fun e0 => ?_); (focus omega); subst e0)
  refine OK.ile (fun h => ?_) (fun h => ?_)
  · refine OK.lt (fun z hz => ?_)
    have hb : bI (if 4 < σ.1 48 1 + 1 then 4 else σ.1 48 1 + 1) 0 4 := by
      split
      · exact ⟨by decide, by decide⟩
      · rename_i h1
        have := il_nlt h1
        exact ⟨by omega, by omega⟩
    have iz : IA z := by rw [hz]; exact ia_J_48_1 (ia_I_48_3 hI) hb
    have fz : Fr σ z := by rw [hz]; exact fr_I_48 (fr_I_48 Fr.rf)
    have gz : 0 ≤ (z.1 48 1).toInt ∧ (z.1 48 1).toInt ≤ 4 := iz.ways
    obtain ⟨bk, b, bl, br⟩ := i_sub (z.1 48 1) 1
    try (refine k0el (k := bk) ?_ (fun e0 => ?_); (focus omega); subst e0)
    exact OK.trS (k_X9_use_89 _ _ _ iz (by omega)) fz
  · exact OK.trS (k_X9_use_89 _ _ _ (ia_I_48_2 hI) hp) (fr_I_48 Fr.rf)


theorem k_X9_use_10 : ∀ (n : Nat) (x3 : Int32) (x4 : Int32) (σ : ST), IA σ → (0 ≤ x4.toInt ∧ x4.toInt ≤ 4 ∧ (4 : Int) - x4.toInt < n) → OK (f_X9_use_10  n x3 x4 σ) (RS σ) := by
  intro n
  induction n with
  | zero =>
    intro x3 x4 σ hI hv
    omega
  | succ n ih =>
    intro x3 x4 σ hI hv
    rw [f_X9_use_10]
    have lt_0 := li_0
    have lt_1 := li_1
    have lFU : ((FU : Nat) : Int) = 100000 := rfl
    have g1 : 0 ≤ (σ.1 48 1).toInt ∧ (σ.1 48 1).toInt ≤ 4 := hI.ways
    refine OK.ile (fun h2 => ?_) (fun h2 => ?_)
    · skip
      exact OK.trS (k_X9_use_35 _ _ _ hI (show x4.toInt ≤ 4 from by omega)) Fr.rf
    · skip
      refine OK.bndR (k_X9_pairAt _ _ hI ) (fun v3 h4 => ?_)
      dsimp only
      refine OK.ieq (fun h5 => ?_) (fun h5 => ?_)
      · skip
        exact OK.trS (k_X9_use_35 _ _ _ hI (show x4.toInt ≤ 4 from by omega)) Fr.rf
      · skip
        obtain ⟨a6k, a6, a6l, a6r⟩ := i_add x4 1
        try (refine k0el (k := a6k) ?_ (fun e0 => ?_); (focus omega); subst e0)
        exact OK.trS (ih _ _ _ hI (by omega)) Fr.rf

theorem k_X9_use (p0 : Int32) (p1 : Int32) (σ : ST) (hI : IA σ)  : OK (f_X9_use  p0 p1 σ) (RS σ) := by
  unfold f_X9_use
  have lt_0 := li_0
  have lt_1 := li_1
  have lt_10 := li_10
  have lFU : ((FU : Nat) : Int) = 100000 := rfl
  obtain ⟨a1k, a1, a1l, a1r⟩ := i_mul 10 p0
  rw [li_10] at a1
  try (refine k0el (k := a1k) ?_ (fun e0 => ?_); (focus omega); subst e0)
  obtain ⟨a2k, a2, a2l, a2r⟩ := i_add (10 * p0) p1
  try (refine k0el (k := a2k) ?_ (fun e0 => ?_); (focus omega); subst e0)
  exact OK.trS (k_X9_use_10 FU _ _ _ hI (by omega)) Fr.rf

theorem k_X1_writtenBits_4 : ∀ (n : Nat) (x1 : Int32) (x2 : Int32) (σ : ST), IA σ → (0 ≤ x2.toInt ∧ x2.toInt ≤ 4 ∧ (4 : Int) - x2.toInt < n) → OK (f_X1_writtenBits_4  n x1 x2 σ) (RO σ fun v => True) := by
  intro n
  induction n with
  | zero =>
    intro x1 x2 σ hI hv
    omega
  | succ n ih =>
    intro x1 x2 σ hI hv
    rw [f_X1_writtenBits_4]
    have lt_0 := li_0
    have lt_1 := li_1
    have lt_4 := li_4
    have lFU : ((FU : Nat) : Int) = 100000 := rfl
    refine OK.ile (fun h1 => ?_) (fun h1 => ?_)
    · skip
      exact OK.roret (by first | trivial | omega | exact hI.flds _ | exact hI.dflds _ | exact hI.recs _ | exact hI.drecs _ | exact hI.droot _ | omega)
    · skip
      refine OK.bndR (k_X1_isWritten _ _ hI ) (fun v2 h3 => ?_)
      dsimp only
      refine OK.ieq (fun h4 => ?_) (fun h4 => ?_)
      · skip
        unfold f_X1_writtenBits_23
        try dsimp only
        obtain ⟨a5k, a5, a5l, a5r⟩ := i_add x2 1
        try (refine k0el (k := a5k) ?_ (fun e0 => ?_); (focus omega); subst e0)
        exact OK.roq (ih _ _ _ hI (by omega)) (fun v hv => by first | trivial | omega | exact hI.flds _ | exact hI.dflds _ | exact hI.recs _ | exact hI.drecs _ | exact hI.droot _ | omega)
      · skip
        unfold f_X1_writtenBits_23
        try dsimp only
        obtain ⟨a6k, a6, a6l, a6r⟩ := i_add x2 1
        try (refine k0el (k := a6k) ?_ (fun e0 => ?_); (focus omega); subst e0)
        exact OK.roq (ih _ _ _ hI (by omega)) (fun v hv => by first | trivial | omega | exact hI.flds _ | exact hI.dflds _ | exact hI.recs _ | exact hI.drecs _ | exact hI.droot _ | omega)

theorem k_X1_writtenBits (σ : ST) (hI : IA σ)  : OK (f_X1_writtenBits  σ) (RO σ fun v => True) := by
  unfold f_X1_writtenBits
  have lt_0 := li_0
  have lt_1 := li_1
  have lFU : ((FU : Nat) : Int) = 100000 := rfl
  exact OK.roq (k_X1_writtenBits_4 FU _ _ _ hI (by omega)) (fun v hv => by first | trivial | omega | exact hI.flds _ | exact hI.dflds _ | exact hI.recs _ | exact hI.drecs _ | exact hI.droot _ | omega)

theorem k_X10_count (p0 : Int32) (σ : ST) (hI : IA σ)  : OK (f_X10_count  p0 σ) (RO σ fun v => True) := by
  unfold f_X10_count
  have lt_m1 := li_m1
  have lt_0 := li_0
  have lt_1 := li_1
  have lt_2 := li_2
  have lt_3 := li_3
  have lt_4 := li_4
  have lt_5 := li_5
  have lFU : ((FU : Nat) : Int) = 100000 := rfl
  refine OK.ieq (fun h1 => ?_) (fun h1 => ?_)
  · skip
    exact OK.roret (by first | trivial | omega | exact hI.flds _ | exact hI.dflds _ | exact hI.recs _ | exact hI.drecs _ | exact hI.droot _ | omega)
  · skip
    refine OK.ieq (fun h2 => ?_) (fun h2 => ?_)
    · skip
      refine OK.bndR (k_X1_writtenBits _ hI ) (fun v3 h4 => ?_)
      dsimp only
      exact OK.roret (by first | trivial | omega | exact hI.flds _ | exact hI.dflds _ | exact hI.recs _ | exact hI.drecs _ | exact hI.droot _ | omega)
    · skip
      refine OK.ieq (fun h5 => ?_) (fun h5 => ?_)
      · skip
        exact OK.roret (by first | trivial | omega | exact hI.flds _ | exact hI.dflds _ | exact hI.recs _ | exact hI.drecs _ | exact hI.droot _ | omega)
      · skip
        refine OK.ieq (fun h6 => ?_) (fun h6 => ?_)
        · skip
          exact OK.roret (by first | trivial | omega | exact hI.flds _ | exact hI.dflds _ | exact hI.recs _ | exact hI.drecs _ | exact hI.droot _ | omega)
        · skip
          refine OK.ieq (fun h7 => ?_) (fun h7 => ?_)
          · skip
            exact OK.roret (by first | trivial | omega | exact hI.flds _ | exact hI.dflds _ | exact hI.recs _ | exact hI.drecs _ | exact hI.droot _ | omega)
          · skip
            refine OK.ieq (fun h8 => ?_) (fun h8 => ?_)
            · skip
              exact OK.roret (by first | trivial | omega | exact hI.flds _ | exact hI.dflds _ | exact hI.recs _ | exact hI.drecs _ | exact hI.droot _ | omega)
            · skip
              exact OK.roret (by first | trivial | omega | exact hI.flds _ | exact hI.dflds _ | exact hI.recs _ | exact hI.drecs _ | exact hI.droot _ | omega)

theorem k_X1_shorten (p0 : Int32) (p1 : Int32) (σ : ST) (hI : IA σ)  : OK (f_X1_shorten  p0 p1 σ) (RW σ fun v => True) := by
  unfold f_X1_shorten
  have lt_0 := li_0
  have lt_1 := li_1
  have lFU : ((FU : Nat) : Int) = 100000 := rfl
  refine OK.bndR (k_X1_sizeOf _ _ hI ) (fun v1 h2 => ?_)
  dsimp only
  refine OK.bndR (k_X1_isNumber _ _ hI ) (fun v3 h4 => ?_)
  dsimp only
  refine OK.ieq (fun h5 => ?_) (fun h5 => ?_)
  · skip
    exact OK.wret hI Fr.rf (by first | trivial | omega | exact hI.flds _ | exact hI.dflds _ | exact hI.recs _ | exact hI.drecs _ | exact hI.droot _ | omega)
  · skip
    refine OK.grd ⟨by omega, by omega⟩ ?_
    exact OK.wret (ia_I_39 hI) (fr_I_39 Fr.rf) (by first | trivial | omega | exact hI.flds _ | exact hI.dflds _ | exact hI.recs _ | exact hI.drecs _ | exact hI.droot _ | omega)

theorem k_X10_cut (p0 : Int32) (p1 : Int32) (σ : ST) (hI : IA σ)  : OK (f_X10_cut  p0 p1 σ) (RW σ fun v => True) := by
  unfold f_X10_cut
  have lt_m1 := li_m1
  have lt_0 := li_0
  have lt_1 := li_1
  have lFU : ((FU : Nat) : Int) = 100000 := rfl
  refine OK.bndR (k_X1_isWritten _ _ hI ) (fun v1 h2 => ?_)
  dsimp only
  refine OK.ieq (fun h3 => ?_) (fun h3 => ?_)
  · skip
    exact OK.wret hI Fr.rf (by first | trivial | omega | exact hI.flds _ | exact hI.dflds _ | exact hI.recs _ | exact hI.drecs _ | exact hI.droot _ | omega)
  · skip
    refine OK.ilt (fun h4 => ?_) (fun h4 => ?_)
    · skip
      exact OK.wret hI Fr.rf (by first | trivial | omega | exact hI.flds _ | exact hI.dflds _ | exact hI.recs _ | exact hI.drecs _ | exact hI.droot _ | omega)
    · skip
      refine OK.bndR (k_X1_sizeOf _ _ hI ) (fun v5 h6 => ?_)
      dsimp only
      refine OK.ile (fun h7 => ?_) (fun h7 => ?_)
      · skip
        refine OK.bndW (k_X1_shorten _ _ _ hI ) Fr.rf (fun v8 s10 is10 fs10 h9 => ?_)
        dsimp only
        exact OK.wret is10 fs10 (by first | trivial | omega | exact hI.flds _ | exact hI.dflds _ | exact hI.recs _ | exact hI.drecs _ | exact hI.droot _ | omega)
      · skip
        exact OK.wret hI Fr.rf (by first | trivial | omega | exact hI.flds _ | exact hI.dflds _ | exact hI.recs _ | exact hI.drecs _ | exact hI.droot _ | omega)
theorem k_X10_failure (p0 : Int32) (σ : ST) (hI : IA σ)  : OK (f_X10_failure  p0 σ) (RO σ fun v => True) := by
  unfold f_X10_failure
  have lt_m1 := li_m1
  have lt_0 := li_0
  have lt_1 := li_1
  have lt_2 := li_2
  have lFU : ((FU : Nat) : Int) = 100000 := rfl
  refine OK.ieq (fun h1 => ?_) (fun h1 => ?_)
  · skip
    exact OK.roret (by first | trivial | omega | exact hI.flds _ | exact hI.dflds _ | exact hI.recs _ | exact hI.drecs _ | exact hI.droot _ | omega)
  · skip
    refine OK.ieq (fun h2 => ?_) (fun h2 => ?_)
    · skip
      exact OK.roret (by first | trivial | omega | exact hI.flds _ | exact hI.dflds _ | exact hI.recs _ | exact hI.drecs _ | exact hI.droot _ | omega)
    · skip
      refine OK.ieq (fun h3 => ?_) (fun h3 => ?_)
      · skip
        exact OK.roret (by first | trivial | omega | exact hI.flds _ | exact hI.dflds _ | exact hI.recs _ | exact hI.drecs _ | exact hI.droot _ | omega)
      · skip
        refine OK.ieq (fun h4 => ?_) (fun h4 => ?_)
        · skip
          exact OK.roret (by first | trivial | omega | exact hI.flds _ | exact hI.dflds _ | exact hI.recs _ | exact hI.drecs _ | exact hI.droot _ | omega)
        · skip
          exact OK.roret (by first | trivial | omega | exact hI.flds _ | exact hI.dflds _ | exact hI.recs _ | exact hI.drecs _ | exact hI.droot _ | omega)

theorem k_X4_stepAt_89_50 (p0 : Int32) (σ : ST) (hI : IA σ) (hT : σ.2.2.2 89 = 50)  : OK (f_X4_stepAt 89 50 p0 σ) (RO σ fun v => True) := by
  unfold f_X4_stepAt
  have lt_m1 := li_m1
  have lt_0 := li_0
  have lt_1 := li_1
  have lt_64 := li_64
  have lFU : ((FU : Nat) : Int) = 100000 := rfl
  refine OK.ilt (fun h1 => ?_) (fun h1 => ?_)
  · skip
    exact OK.roret (by first | trivial | omega | exact hI.flds _ | exact hI.dflds _ | exact hI.recs _ | exact hI.drecs _ | exact hI.droot _ | omega)
  · skip
    refine OK.ile (fun h2 => ?_) (fun h2 => ?_)
    · skip
      exact OK.roret (by first | trivial | omega | exact hI.flds _ | exact hI.dflds _ | exact hI.recs _ | exact hI.drecs _ | exact hI.droot _ | omega)
    · skip
      refine OK.ile (fun h3 => ?_) (fun h3 => ?_)
      · skip
        exact OK.roret (by first | trivial | omega | exact hI.flds _ | exact hI.dflds _ | exact hI.recs _ | exact hI.drecs _ | exact hI.droot _ | omega)
      · skip
        refine OK.grd ⟨by omega, by omega⟩ ?_
        exact OK.roret (by first | trivial | omega | exact hI.flds _ | exact hI.dflds _ | exact hI.recs _ | exact hI.drecs _ | exact hI.droot _ | omega)

theorem k_X10_failureStep (p0 : Int32) (σ : ST) (hI : IA σ)  : OK (f_X10_failureStep  p0 σ) (RO σ fun v => True) := by
  unfold f_X10_failureStep
  have lt_m1 := li_m1
  have lt_0 := li_0
  have lt_1 := li_1
  have lFU : ((FU : Nat) : Int) = 100000 := rfl
  refine OK.ieq (fun h1 => ?_) (fun h1 => ?_)
  · skip
    exact OK.roret (by first | trivial | omega | exact hI.flds _ | exact hI.dflds _ | exact hI.recs _ | exact hI.drecs _ | exact hI.droot _ | omega)
  · skip
    refine OK.bndR (k_X4_stepAt_89_50 _ _ hI (by first | exact hT | exact hI.r89 | (rw [Fr.rf.2.2.2]; exact hT))) (fun v2 h3 => ?_)
    dsimp only
    exact OK.roret (by first | trivial | omega | exact hI.flds _ | exact hI.dflds _ | exact hI.recs _ | exact hI.drecs _ | exact hI.droot _ | omega)

theorem k_X5_recordWithin_31_4 (x2 : Int32) (σ : ST) (hI : IA σ)  : OK (f_X5_recordWithin_31 4 x2 σ) (RO σ fun v => True) := by
  unfold f_X5_recordWithin_31
  have lt_m1 := li_m1
  have lt_0 := li_0
  have lt_1 := li_1
  have lt_6 := li_6
  have lt_7 := li_7
  have lFU : ((FU : Nat) : Int) = 100000 := rfl
  refine OK.bndR (k_X5_sortOf_4 _ _ hI ) (fun v1 h2 => ?_)
  dsimp only
  refine OK.ieq (fun h3 => ?_) (fun h3 => ?_)
  · skip
    refine OK.bndR (k_X5_innerOf_4 _ _ hI ) (fun v4 h5 => ?_)
    dsimp only
    refine OK.bndR (k_J9_floorMod_7cf53 _ _ _ hI (by decide)) (fun v6 h7 => ?_)
    dsimp only
    exact OK.roret (by first | trivial | omega | exact hI.flds _ | exact hI.dflds _ | exact hI.recs _ | exact hI.drecs _ | exact hI.droot _ | omega)
  · skip
    exact OK.roret (by first | trivial | omega | exact hI.flds _ | exact hI.dflds _ | exact hI.recs _ | exact hI.drecs _ | exact hI.droot _ | omega)

theorem k_X5_recordWithin_4_4 : ∀ (n : Nat) (x2 : Int32) (x3 : Int32) (σ : ST), IA σ → (0 ≤ x3.toInt ∧ x3.toInt ≤ 4 ∧ (4 : Int) - x3.toInt < n) → OK (f_X5_recordWithin_4 4 n x2 x3 σ) (RO σ fun v => True) := by
  intro n
  induction n with
  | zero =>
    intro x2 x3 σ hI hv
    omega
  | succ n ih =>
    intro x2 x3 σ hI hv
    rw [f_X5_recordWithin_4]
    have lt_0 := li_0
    have lt_1 := li_1
    have lt_3 := li_3
    have lt_6 := li_6
    have lFU : ((FU : Nat) : Int) = 100000 := rfl
    refine OK.ilt (fun h1 => ?_) (fun h1 => ?_)
    · skip
      exact OK.roq (k_X5_recordWithin_31_4 _ _ hI ) (fun v hv => by first | trivial | omega | exact hI.flds _ | exact hI.dflds _ | exact hI.recs _ | exact hI.drecs _ | exact hI.droot _ | omega)
    · skip
      refine OK.bndR (k_X5_sortOf_4 _ _ hI ) (fun v2 h3 => ?_)
      dsimp only
      refine OK.ieq (fun h4 => ?_) (fun h4 => ?_)
      · skip
        refine OK.bndR (k_X5_innerOf_4 _ _ hI ) (fun v5 h6 => ?_)
        dsimp only
        obtain ⟨a7k, a7, a7l, a7r⟩ := i_add x3 1
        try (refine k0el (k := a7k) ?_ (fun e0 => ?_); (focus omega); subst e0)
        exact OK.roq (ih _ _ _ hI (by omega)) (fun v hv => by first | trivial | omega | exact hI.flds _ | exact hI.dflds _ | exact hI.recs _ | exact hI.drecs _ | exact hI.droot _ | omega)
      · skip
        exact OK.roq (k_X5_recordWithin_31_4 _ _ hI ) (fun v hv => by first | trivial | omega | exact hI.flds _ | exact hI.dflds _ | exact hI.recs _ | exact hI.drecs _ | exact hI.droot _ | omega)

theorem k_X5_recordWithin_4 (p0 : Int32) (σ : ST) (hI : IA σ)  : OK (f_X5_recordWithin 4 p0 σ) (RO σ fun v => True) := by
  unfold f_X5_recordWithin
  have lt_0 := li_0
  have lt_1 := li_1
  have lFU : ((FU : Nat) : Int) = 100000 := rfl
  exact OK.roq (k_X5_recordWithin_4_4 FU _ _ _ hI (by omega)) (fun v hv => by first | trivial | omega | exact hI.flds _ | exact hI.dflds _ | exact hI.recs _ | exact hI.drecs _ | exact hI.droot _ | omega)

theorem k_X10_field (p0 : Int32) (p1 : Int32) (p2 : Int32) (p3 : Int32) (σ : ST) (hI : IA σ)  : OK (f_X10_field  p0 p1 p2 p3 σ) (RO σ fun v => True) := by
  unfold f_X10_field
  have lt_m1 := li_m1
  have lt_0 := li_0
  have lt_1 := li_1
  have lt_2 := li_2
  have lt_3 := li_3
  have lt_4 := li_4
  have lt_5 := li_5
  have lt_6 := li_6
  have lFU : ((FU : Nat) : Int) = 100000 := rfl
  refine OK.bndR (k_X10_isPlan _ _ hI ) (fun v1 h2 => ?_)
  dsimp only
  refine OK.ieq (fun h3 => ?_) (fun h3 => ?_)
  · skip
    exact OK.roret (by first | trivial | omega | exact hI.flds _ | exact hI.dflds _ | exact hI.recs _ | exact hI.drecs _ | exact hI.droot _ | omega)
  · skip
    refine OK.ilt (fun h4 => ?_) (fun h4 => ?_)
    · skip
      exact OK.roret (by first | trivial | omega | exact hI.flds _ | exact hI.dflds _ | exact hI.recs _ | exact hI.drecs _ | exact hI.droot _ | omega)
    · skip
      refine OK.bndR (k_X5_recordsOf_4 _ _ hI ) (fun v5 h6 => ?_)
      dsimp only
      refine OK.ilt (fun h7 => ?_) (fun h7 => ?_)
      · skip
        refine OK.ilt (fun h8 => ?_) (fun h8 => ?_)
        · skip
          exact OK.roret (by first | trivial | omega | exact hI.flds _ | exact hI.dflds _ | exact hI.recs _ | exact hI.drecs _ | exact hI.droot _ | omega)
        · skip
          refine OK.bndR (k_X5_fieldsOf_4 _ _ hI ) (fun v9 h10 => ?_)
          dsimp only
          refine OK.ilt (fun h11 => ?_) (fun h11 => ?_)
          · skip
            refine OK.bndR (k_X5_typeOf_4 _ _ _ hI ) (fun v12 h13 => ?_)
            dsimp only
            refine OK.ieq (fun h14 => ?_) (fun h14 => ?_)
            · skip
              refine OK.bndR (k_X5_sortOf_4 _ _ hI ) (fun v15 h16 => ?_)
              dsimp only
              exact OK.roret (by first | trivial | omega | exact hI.flds _ | exact hI.dflds _ | exact hI.recs _ | exact hI.drecs _ | exact hI.droot _ | omega)
            · skip
              refine OK.ieq (fun h17 => ?_) (fun h17 => ?_)
              · skip
                refine OK.bndR (k_X5_hasElse_4 _ _ _ hI ) (fun v18 h19 => ?_)
                dsimp only
                refine OK.ieq (fun h20 => ?_) (fun h20 => ?_)
                · skip
                  exact OK.roret (by first | trivial | omega | exact hI.flds _ | exact hI.dflds _ | exact hI.recs _ | exact hI.drecs _ | exact hI.droot _ | omega)
                · skip
                  exact OK.roret (by first | trivial | omega | exact hI.flds _ | exact hI.dflds _ | exact hI.recs _ | exact hI.drecs _ | exact hI.droot _ | omega)
              · skip
                refine OK.ieq (fun h21 => ?_) (fun h21 => ?_)
                · skip
                  refine OK.bndR (k_X5_formerName_4 _ _ _ hI ) (fun v22 h23 => ?_)
                  dsimp only
                  refine OK.ieq (fun h24 => ?_) (fun h24 => ?_)
                  · skip
                    exact OK.roret (by first | trivial | omega | exact hI.flds _ | exact hI.dflds _ | exact hI.recs _ | exact hI.drecs _ | exact hI.droot _ | omega)
                  · skip
                    exact OK.roret (by first | trivial | omega | exact hI.flds _ | exact hI.dflds _ | exact hI.recs _ | exact hI.drecs _ | exact hI.droot _ | omega)
                · skip
                  refine OK.ieq (fun h25 => ?_) (fun h25 => ?_)
                  · skip
                    refine OK.bndR (k_X5_fieldName_4 _ _ _ hI ) (fun v26 h27 => ?_)
                    dsimp only
                    refine OK.bndR (k_X10_lettersIn _ _ hI ) (fun v28 h29 => ?_)
                    dsimp only
                    exact OK.roret (by first | trivial | omega | exact hI.flds _ | exact hI.dflds _ | exact hI.recs _ | exact hI.drecs _ | exact hI.droot _ | omega)
                  · skip
                    refine OK.ieq (fun h30 => ?_) (fun h30 => ?_)
                    · skip
                      refine OK.bndR (k_X5_branchesOf_4 _ _ hI ) (fun v31 h32 => ?_)
                      dsimp only
                      exact OK.roret (by first | trivial | omega | exact hI.flds _ | exact hI.dflds _ | exact hI.recs _ | exact hI.drecs _ | exact hI.droot _ | omega)
                    · skip
                      refine OK.ieq (fun h33 => ?_) (fun h33 => ?_)
                      · skip
                        refine OK.bndR (k_X5_recordWithin_4 _ _ hI ) (fun v34 h35 => ?_)
                        dsimp only
                        exact OK.roret (by first | trivial | omega | exact hI.flds _ | exact hI.dflds _ | exact hI.recs _ | exact hI.drecs _ | exact hI.droot _ | omega)
                      · skip
                        exact OK.roret (by first | trivial | omega | exact hI.flds _ | exact hI.dflds _ | exact hI.recs _ | exact hI.drecs _ | exact hI.droot _ | omega)
          · skip
            exact OK.roret (by first | trivial | omega | exact hI.flds _ | exact hI.dflds _ | exact hI.recs _ | exact hI.drecs _ | exact hI.droot _ | omega)
      · skip
        exact OK.roret (by first | trivial | omega | exact hI.flds _ | exact hI.dflds _ | exact hI.recs _ | exact hI.drecs _ | exact hI.droot _ | omega)

theorem k_X10_kept (p0 : Int32) (σ : ST) (hI : IA σ)  : OK (f_X10_kept  p0 σ) (RO σ fun v => True) := by
  unfold f_X10_kept
  have lt_m1 := li_m1
  have lt_0 := li_0
  have lt_1 := li_1
  have lFU : ((FU : Nat) : Int) = 100000 := rfl
  refine OK.ieq (fun h1 => ?_) (fun h1 => ?_)
  · skip
    exact OK.roret (by first | trivial | omega | exact hI.flds _ | exact hI.dflds _ | exact hI.recs _ | exact hI.drecs _ | exact hI.droot _ | omega)
  · skip
    refine OK.bndR (k_X9_pairAt _ _ hI ) (fun v2 h3 => ?_)
    dsimp only
    exact OK.roret (by first | trivial | omega | exact hI.flds _ | exact hI.dflds _ | exact hI.recs _ | exact hI.drecs _ | exact hI.droot _ | omega)

theorem k_X10_letter_30 (σ : ST) (hI : IA σ)  : OK (f_X10_letter_30  σ) (RO σ fun v => True) := by
  unfold f_X10_letter_30
  have lt_0 := li_0
  have lt_1 := li_1
  have lFU : ((FU : Nat) : Int) = 100000 := rfl
  exact OK.roret (by first | trivial | omega | exact hI.flds _ | exact hI.dflds _ | exact hI.recs _ | exact hI.drecs _ | exact hI.droot _ | omega)

theorem k_X10_letter (p0 : Int32) (p1 : Int32) (σ : ST) (hI : IA σ)  : OK (f_X10_letter  p0 p1 σ) (RO σ fun v => True) := by
  unfold f_X10_letter
  have lt_m1 := li_m1
  have lt_0 := li_0
  have lt_1 := li_1
  have lt_5 := li_5
  have lFU : ((FU : Nat) : Int) = 100000 := rfl
  refine OK.bndR (k_X7_rowAt_50 _ _ hI ) (fun v1 h2 => ?_)
  dsimp only
  refine OK.ieq (fun h3 => ?_) (fun h3 => ?_)
  · skip
    exact OK.roq (k_X10_letter_30 _ hI ) (fun v hv => by first | trivial | omega | exact hI.flds _ | exact hI.dflds _ | exact hI.recs _ | exact hI.drecs _ | exact hI.droot _ | omega)
  · skip
    refine OK.bndR (k_X7_sortAt_50 _ _ hI ) (fun v4 h5 => ?_)
    dsimp only
    refine OK.ieq (fun h6 => ?_) (fun h6 => ?_)
    · skip
      refine OK.ile (fun h7 => ?_) (fun h7 => ?_)
      · skip
        refine OK.bndR (k_X7_sizeOf_50 _ _ hI ) (fun v8 h9 => ?_)
        dsimp only
        refine OK.ile (fun h10 => ?_) (fun h10 => ?_)
        · skip
          exact OK.roret (by first | trivial | omega | exact hI.flds _ | exact hI.dflds _ | exact hI.recs _ | exact hI.drecs _ | exact hI.droot _ | omega)
        · skip
          refine OK.bndR (k_X7_worthOf_50 _ _ hI ) (fun v11 h12 => ?_)
          dsimp only
          refine OK.bndR (k_X10_letterOf _ _ _ hI ) (fun v13 h14 => ?_)
          dsimp only
          exact OK.roret (by first | trivial | omega | exact hI.flds _ | exact hI.dflds _ | exact hI.recs _ | exact hI.drecs _ | exact hI.droot _ | omega)
      · skip
        exact OK.roq (k_X10_letter_30 _ hI ) (fun v hv => by first | trivial | omega | exact hI.flds _ | exact hI.dflds _ | exact hI.recs _ | exact hI.drecs _ | exact hI.droot _ | omega)
    · skip
      exact OK.roq (k_X10_letter_30 _ hI ) (fun v hv => by first | trivial | omega | exact hI.flds _ | exact hI.dflds _ | exact hI.recs _ | exact hI.drecs _ | exact hI.droot _ | omega)

theorem k_X10_matches (p0 : Int32) (p1 : Int32) (σ : ST) (hI : IA σ)  : OK (f_X10_matches  p0 p1 σ) (RW σ fun v => True) := by
  unfold f_X10_matches
  have lt_m1 := li_m1
  have lt_0 := li_0
  have lt_1 := li_1
  have lFU : ((FU : Nat) : Int) = 100000 := rfl
  refine OK.bndR (k_X10_isPlan _ _ hI ) (fun v1 h2 => ?_)
  dsimp only
  refine OK.ieq (fun h3 => ?_) (fun h3 => ?_)
  · skip
    exact OK.wret hI Fr.rf (by first | trivial | omega | exact hI.flds _ | exact hI.dflds _ | exact hI.recs _ | exact hI.drecs _ | exact hI.droot _ | omega)
  · skip
    refine OK.bndR (k_X10_isPlan _ _ hI ) (fun v4 h5 => ?_)
    dsimp only
    refine OK.ieq (fun h6 => ?_) (fun h6 => ?_)
    · skip
      exact OK.wret hI Fr.rf (by first | trivial | omega | exact hI.flds _ | exact hI.dflds _ | exact hI.recs _ | exact hI.drecs _ | exact hI.droot _ | omega)
    · skip
      refine OK.bndW (k_X0_verdict _ _ _ hI ) Fr.rf (fun v7 s9 is9 fs9 h8 => ?_)
      dsimp only
      exact OK.wret is9 fs9 (by first | trivial | omega | exact hI.flds _ | exact hI.dflds _ | exact hI.recs _ | exact hI.drecs _ | exact hI.droot _ | omega)

theorem k_X10_message (p0 : Int32) (p1 : Int32) (σ : ST) (hI : IA σ)  : OK (f_X10_message  p0 p1 σ) (RO σ fun v => True) := by
  unfold f_X10_message
  have lt_m1 := li_m1
  have lt_0 := li_0
  have lt_1 := li_1
  have lFU : ((FU : Nat) : Int) = 100000 := rfl
  refine OK.bndR (k_X1_isWritten _ _ hI ) (fun v1 h2 => ?_)
  dsimp only
  refine OK.ieq (fun h3 => ?_) (fun h3 => ?_)
  · skip
    exact OK.roret (by first | trivial | omega | exact hI.flds _ | exact hI.dflds _ | exact hI.recs _ | exact hI.drecs _ | exact hI.droot _ | omega)
  · skip
    refine OK.ieq (fun h4 => ?_) (fun h4 => ?_)
    · skip
      refine OK.bndR (k_X1_sizeOf _ _ hI ) (fun v5 h6 => ?_)
      dsimp only
      exact OK.roret (by first | trivial | omega | exact hI.flds _ | exact hI.dflds _ | exact hI.recs _ | exact hI.drecs _ | exact hI.droot _ | omega)
    · skip
      refine OK.ieq (fun h7 => ?_) (fun h7 => ?_)
      · skip
        refine OK.bndR (k_X1_planOf _ _ hI ) (fun v8 h9 => ?_)
        dsimp only
        exact OK.roret (by first | trivial | omega | exact hI.flds _ | exact hI.dflds _ | exact hI.recs _ | exact hI.drecs _ | exact hI.droot _ | omega)
      · skip
        exact OK.roret (by first | trivial | omega | exact hI.flds _ | exact hI.dflds _ | exact hI.recs _ | exact hI.drecs _ | exact hI.droot _ | omega)

theorem k_X10_miss (p0 : Int32) (p1 : Int32) (p2 : Int32) (p3 : Int32) (σ : ST) (hI : IA σ)  : OK (f_X10_miss  p0 p1 p2 p3 σ) (RW σ fun v => True) := by
  unfold f_X10_miss
  have lt_m1 := li_m1
  have lt_0 := li_0
  have lt_1 := li_1
  have lFU : ((FU : Nat) : Int) = 100000 := rfl
  refine OK.bndR (k_X10_isPlan _ _ hI ) (fun v1 h2 => ?_)
  dsimp only
  refine OK.ieq (fun h3 => ?_) (fun h3 => ?_)
  · skip
    exact OK.wret hI Fr.rf (by first | trivial | omega | exact hI.flds _ | exact hI.dflds _ | exact hI.recs _ | exact hI.drecs _ | exact hI.droot _ | omega)
  · skip
    refine OK.bndR (k_X10_isPlan _ _ hI ) (fun v4 h5 => ?_)
    dsimp only
    refine OK.ieq (fun h6 => ?_) (fun h6 => ?_)
    · skip
      exact OK.wret hI Fr.rf (by first | trivial | omega | exact hI.flds _ | exact hI.dflds _ | exact hI.recs _ | exact hI.drecs _ | exact hI.droot _ | omega)
    · skip
      refine OK.bndS (k_X0_findMisses _ _ _ hI ) Fr.rf (fun s7 is7 fs7 => ?_)
      try dsimp only
      refine OK.ieq (fun h8 => ?_) (fun h8 => ?_)
      · skip
        exact OK.wret is7 fs7 (by first | trivial | omega | exact hI.flds _ | exact hI.dflds _ | exact hI.recs _ | exact hI.drecs _ | exact hI.droot _ | omega)
      · skip
        refine OK.ieq (fun h9 => ?_) (fun h9 => ?_)
        · skip
          refine OK.bndR (k_X0_missKind _ _ is7 ) (fun v10 h11 => ?_)
          dsimp only
          exact OK.wret is7 fs7 (by first | trivial | omega | exact hI.flds _ | exact hI.dflds _ | exact hI.recs _ | exact hI.drecs _ | exact hI.droot _ | omega)
        · skip
          refine OK.ieq (fun h12 => ?_) (fun h12 => ?_)
          · skip
            refine OK.bndR (k_X0_missSteps _ _ is7 ) (fun v13 h14 => ?_)
            dsimp only
            exact OK.wret is7 fs7 (by first | trivial | omega | exact hI.flds _ | exact hI.dflds _ | exact hI.recs _ | exact hI.drecs _ | exact hI.droot _ | omega)
          · skip
            exact OK.wret is7 fs7 (by first | trivial | omega | exact hI.flds _ | exact hI.dflds _ | exact hI.recs _ | exact hI.drecs _ | exact hI.droot _ | omega)

theorem k_X10_missStep (p0 : Int32) (p1 : Int32) (p2 : Int32) (p3 : Int32) (σ : ST) (hI : IA σ)  : OK (f_X10_missStep  p0 p1 p2 p3 σ) (RW σ fun v => True) := by
  unfold f_X10_missStep
  have lt_m1 := li_m1
  have lt_0 := li_0
  have lt_1 := li_1
  have lFU : ((FU : Nat) : Int) = 100000 := rfl
  refine OK.bndR (k_X10_isPlan _ _ hI ) (fun v1 h2 => ?_)
  dsimp only
  refine OK.ieq (fun h3 => ?_) (fun h3 => ?_)
  · skip
    exact OK.wret hI Fr.rf (by first | trivial | omega | exact hI.flds _ | exact hI.dflds _ | exact hI.recs _ | exact hI.drecs _ | exact hI.droot _ | omega)
  · skip
    refine OK.bndR (k_X10_isPlan _ _ hI ) (fun v4 h5 => ?_)
    dsimp only
    refine OK.ieq (fun h6 => ?_) (fun h6 => ?_)
    · skip
      exact OK.wret hI Fr.rf (by first | trivial | omega | exact hI.flds _ | exact hI.dflds _ | exact hI.recs _ | exact hI.drecs _ | exact hI.droot _ | omega)
    · skip
      refine OK.bndS (k_X0_findMisses _ _ _ hI ) Fr.rf (fun s7 is7 fs7 => ?_)
      try dsimp only
      refine OK.bndR (k_X0_stepOfMiss _ _ _ is7 ) (fun v8 h9 => ?_)
      dsimp only
      exact OK.wret is7 fs7 (by first | trivial | omega | exact hI.flds _ | exact hI.dflds _ | exact hI.recs _ | exact hI.drecs _ | exact hI.droot _ | omega)

theorem k_X7_isFilled_50 (p0 : Int32) (σ : ST) (hI : IA σ)  : OK (f_X7_isFilled 50 p0 σ) (RO σ fun v => v.toInt = 0 ∨ v.toInt = 1) := by
  unfold f_X7_isFilled
  have lt_0 := li_0
  have lt_1 := li_1
  have lFU : ((FU : Nat) : Int) = 100000 := rfl
  have g50 := (hI.t50).1
  have g50b : 0 ≤ (σ.1 50 1).toInt ∧ (σ.1 50 1).toInt ≤ 400 := (hI.t50).2.1
  have g50n : ((ln7 50 : Nat) : Int) = 400 := rfl
  refine OK.bndR (k_X7_isRow_50 _ _ hI ) (fun v1 h2 => ?_)
  dsimp only
  refine OK.ieq (fun h3 => ?_) (fun h3 => ?_)
  · skip
    exact OK.roret (by first | trivial | omega | exact hI.flds _ | exact hI.dflds _ | exact hI.recs _ | exact hI.drecs _ | exact hI.droot _ | omega)
  · skip
    refine OK.grd ⟨by omega, by omega⟩ ?_
    refine OK.ieq (fun h4 => ?_) (fun h4 => ?_)
    · skip
      exact OK.roret (by first | trivial | omega | exact hI.flds _ | exact hI.dflds _ | exact hI.recs _ | exact hI.drecs _ | exact hI.droot _ | omega)
    · skip
      exact OK.roret (by first | trivial | omega | exact hI.flds _ | exact hI.dflds _ | exact hI.recs _ | exact hI.drecs _ | exact hI.droot _ | omega)

theorem k_X7_numberOf_50 (p0 : Int32) (σ : ST) (hI : IA σ)  : OK (f_X7_numberOf 50 p0 σ) (RO σ fun v => True) := by
  unfold f_X7_numberOf
  have lt_m1 := li_m1
  have lt_0 := li_0
  have lt_1 := li_1
  have lFU : ((FU : Nat) : Int) = 100000 := rfl
  have g50 := (hI.t50).1
  have g50b : 0 ≤ (σ.1 50 1).toInt ∧ (σ.1 50 1).toInt ≤ 400 := (hI.t50).2.1
  have g50n : ((ln7 50 : Nat) : Int) = 400 := rfl
  refine OK.bndR (k_X7_isRow_50 _ _ hI ) (fun v1 h2 => ?_)
  dsimp only
  refine OK.ieq (fun h3 => ?_) (fun h3 => ?_)
  · skip
    exact OK.roret (by first | trivial | omega | exact hI.flds _ | exact hI.dflds _ | exact hI.recs _ | exact hI.drecs _ | exact hI.droot _ | omega)
  · skip
    refine OK.grd ⟨by omega, by omega⟩ ?_
    exact OK.roret (by first | trivial | omega | exact hI.flds _ | exact hI.dflds _ | exact hI.recs _ | exact hI.drecs _ | exact hI.droot _ | omega)

theorem k_X10_node_23 (σ : ST) (hI : IA σ)  : OK (f_X10_node_23  σ) (RO σ fun v => True) := by
  unfold f_X10_node_23
  have lt_0 := li_0
  have lt_1 := li_1
  have lFU : ((FU : Nat) : Int) = 100000 := rfl
  exact OK.roret (by first | trivial | omega | exact hI.flds _ | exact hI.dflds _ | exact hI.recs _ | exact hI.drecs _ | exact hI.droot _ | omega)

theorem k_X10_node (p0 : Int32) (p1 : Int32) (σ : ST) (hI : IA σ)  : OK (f_X10_node  p0 p1 σ) (RO σ fun v => True) := by
  unfold f_X10_node
  have lt_m1 := li_m1
  have lt_0 := li_0
  have lt_1 := li_1
  have lt_2 := li_2
  have lt_3 := li_3
  have lt_4 := li_4
  have lFU : ((FU : Nat) : Int) = 100000 := rfl
  refine OK.bndR (k_X7_rowAt_50 _ _ hI ) (fun v1 h2 => ?_)
  dsimp only
  refine OK.ieq (fun h3 => ?_) (fun h3 => ?_)
  · skip
    exact OK.roq (k_X10_node_23 _ hI ) (fun v hv => by first | trivial | omega | exact hI.flds _ | exact hI.dflds _ | exact hI.recs _ | exact hI.drecs _ | exact hI.droot _ | omega)
  · skip
    refine OK.ilt (fun h4 => ?_) (fun h4 => ?_)
    · skip
      exact OK.roq (k_X10_node_23 _ hI ) (fun v hv => by first | trivial | omega | exact hI.flds _ | exact hI.dflds _ | exact hI.recs _ | exact hI.drecs _ | exact hI.droot _ | omega)
    · skip
      refine OK.ile (fun h5 => ?_) (fun h5 => ?_)
      · skip
        refine OK.ieq (fun h6 => ?_) (fun h6 => ?_)
        · skip
          refine OK.bndR (k_X7_sortAt_50 _ _ hI ) (fun v7 h8 => ?_)
          dsimp only
          exact OK.roret (by first | trivial | omega | exact hI.flds _ | exact hI.dflds _ | exact hI.recs _ | exact hI.drecs _ | exact hI.droot _ | omega)
        · skip
          refine OK.ieq (fun h9 => ?_) (fun h9 => ?_)
          · skip
            refine OK.bndR (k_X7_parentOf_50 _ _ hI ) (fun v10 h11 => ?_)
            dsimp only
            refine OK.bndR (k_X7_numberOf_50 _ _ hI ) (fun v12 h13 => ?_)
            dsimp only
            exact OK.roret (by first | trivial | omega | exact hI.flds _ | exact hI.dflds _ | exact hI.recs _ | exact hI.drecs _ | exact hI.droot _ | omega)
          · skip
            refine OK.ieq (fun h14 => ?_) (fun h14 => ?_)
            · skip
              refine OK.bndR (k_X7_placeOf_50 _ _ hI ) (fun v15 h16 => ?_)
              dsimp only
              exact OK.roret (by first | trivial | omega | exact hI.flds _ | exact hI.dflds _ | exact hI.recs _ | exact hI.drecs _ | exact hI.droot _ | omega)
            · skip
              refine OK.ieq (fun h17 => ?_) (fun h17 => ?_)
              · skip
                refine OK.bndR (k_X7_sizeOf_50 _ _ hI ) (fun v18 h19 => ?_)
                dsimp only
                exact OK.roret (by first | trivial | omega | exact hI.flds _ | exact hI.dflds _ | exact hI.recs _ | exact hI.drecs _ | exact hI.droot _ | omega)
              · skip
                refine OK.bndR (k_X7_isFilled_50 _ _ hI ) (fun v20 h21 => ?_)
                dsimp only
                refine OK.ieq (fun h22 => ?_) (fun h22 => ?_)
                · skip
                  exact OK.roret (by first | trivial | omega | exact hI.flds _ | exact hI.dflds _ | exact hI.recs _ | exact hI.drecs _ | exact hI.droot _ | omega)
                · skip
                  exact OK.roret (by first | trivial | omega | exact hI.flds _ | exact hI.dflds _ | exact hI.recs _ | exact hI.drecs _ | exact hI.droot _ | omega)
      · skip
        exact OK.roq (k_X10_node_23 _ hI ) (fun v hv => by first | trivial | omega | exact hI.flds _ | exact hI.dflds _ | exact hI.recs _ | exact hI.drecs _ | exact hI.droot _ | omega)

theorem k_X1_clear (σ : ST) (hI : IA σ)  : OK (f_X1_clear  σ) (RS σ) := by
  unfold f_X1_clear
  have lt_m1 := li_m1
  have lt_0 := li_0
  have lt_1 := li_1
  have lFU : ((FU : Nat) : Int) = 100000 := rfl
  refine OK.bndS (k_J7_fill_53178_40 _ _ hI ) Fr.rf (fun s1 is1 fs1 => ?_)
  try dsimp only
  exact OK.sret is1 fs1

theorem k_X5_addType_20 (p0 : Int32) (σ : ST) (hI : IA σ) : OK (f_X5_addType 20 p0 σ) (RW σ fun v => -1 ≤ v.toInt) := by
  unfold f_X5_addType
  have lt_1 := li_1
  have lt_262 := li_262
  have g : 0 ≤ (σ.1 20 1).toInt ∧ (σ.1 20 1).toInt ≤ 262 := hI.dtypes
  refine OK.ilt (fun h => ?_) (fun h => OK.wret hI Fr.rf (by decide))
  refine OK.grd ⟨by omega, by omega⟩ ?_
  refine OK.lt (fun z2 h2 => ?_)
  have i2 : IA z2 := by rw [h2]; exact ia_I_32 (ia_I_31 hI)
  have f2 : Fr σ z2 := by rw [h2]; exact fr_I_32 (fr_I_31 Fr.rf)
  have e2 : z2.1 20 1 = σ.1 20 1 := by rw [h2]; rfl
  refine OK.lt (fun z3 h3 => ?_)
  have i3 : IA z3 := by rw [h3]; exact ia_L (ia_I_33 i2)
  have f3 : Fr σ z3 := by rw [h3]; exact fr_L (fr_I_33 f2)
  have e3 : z3.1 20 1 = σ.1 20 1 := by rw [h3]; exact e2
  refine OK.lt (fun z4 h4 => ?_)
  obtain ⟨ak, a, al, ar⟩ := i_add (z3.1 20 1) 1
  rw [e3] at a al ar
  try (refine k0el (k := ak) ?_ (fun e0 => ?_); (focus omega); subst e0)
  have i4 : IA z4 := by rw [h4]; exact ia_J_20_1 (ia_I_35 i3) (show bI (z3.1 20 1 + 1) 0 262 from by rw [e3]; exact ⟨by omega, by omega⟩)
  have f4 : Fr σ z4 := by rw [h4]; exact fr_I_20 (fr_I_35 f3)
  exact OK.wret i4 f4 (by omega)


theorem k_X5_setInner_20 (p0 : Int32) (p1 : Int32) (σ : ST) (hI : IA σ)  : OK (f_X5_setInner 20 p0 p1 σ) (RS σ) := by
  unfold f_X5_setInner
  have lt_0 := li_0
  have lt_1 := li_1
  have lFU : ((FU : Nat) : Int) = 100000 := rfl
  refine OK.bndR (k_X5_isType_20 _ _ hI ) (fun v1 h2 => ?_)
  dsimp only
  refine OK.ieq (fun h3 => ?_) (fun h3 => ?_)
  · skip
    exact OK.sret hI Fr.rf
  · skip
    refine OK.grd ⟨by omega, by omega⟩ ?_
    exact OK.sret (ia_I_32 hI) (fr_I_32 Fr.rf)

theorem k_X5_addPlan_20 (p0 : Int32) (σ : ST) (hI : IA σ)  : OK (f_X5_addPlan 20 p0 σ) (RS σ) := by
  unfold f_X5_addPlan
  have lt_0 := li_0
  have lt_1 := li_1
  have lt_6 := li_6
  have lt_7 := li_7
  have lFU : ((FU : Nat) : Int) = 100000 := rfl
  refine OK.ilt (fun h1 => ?_) (fun h1 => ?_)
  · skip
    exact OK.sret hI Fr.rf
  · skip
    refine OK.ilt (fun h2 => ?_) (fun h2 => ?_)
    · skip
      refine OK.grd ⟨by omega, by omega⟩ ?_
      refine OK.bndW (k_X5_addType_20 _ _ (ia_J_21 hI (show bI 0 0 36 from ⟨by omega, by omega⟩)) ) (fr_I_21 Fr.rf) (fun v3 s5 is5 fs5 h4 => ?_)
      dsimp only
      refine OK.bndS (k_X5_setInner_20 _ _ _ (ia_J_22 is5 (show -1 ≤ v3.toInt from by omega)) ) (fr_I_22 fs5) (fun s6 is6 fs6 => ?_)
      try dsimp only
      obtain ⟨a7k, a7, a7l, a7r⟩ := i_add p0 1
      try (refine k0el (k := a7k) ?_ (fun e0 => ?_); (focus omega); subst e0)
      exact OK.sret (ia_J_20_0 is6 (show bI (p0 + 1) 0 6 from ⟨by omega, by omega⟩)) (fr_I_20 fs6)
    · skip
      exact OK.sret hI Fr.rf

theorem k_X6_isDigit (p0 : Int32) (σ : ST) (hI : IA σ)  : OK (f_X6_isDigit  p0 σ) (RO σ fun v => v.toInt = 0 ∨ v.toInt = 1) := by
  unfold f_X6_isDigit
  have lt_0 := li_0
  have lt_1 := li_1
  have lt_48 := li_48
  have lt_57 := li_57
  have lFU : ((FU : Nat) : Int) = 100000 := rfl
  refine OK.ilt (fun h1 => ?_) (fun h1 => ?_)
  · skip
    exact OK.roret (by first | trivial | omega | exact hI.flds _ | exact hI.dflds _ | exact hI.recs _ | exact hI.drecs _ | exact hI.droot _ | omega)
  · skip
    refine OK.ilt (fun h2 => ?_) (fun h2 => ?_)
    · skip
      exact OK.roret (by first | trivial | omega | exact hI.flds _ | exact hI.dflds _ | exact hI.recs _ | exact hI.drecs _ | exact hI.droot _ | omega)
    · skip
      exact OK.roret (by first | trivial | omega | exact hI.flds _ | exact hI.dflds _ | exact hI.recs _ | exact hI.drecs _ | exact hI.droot _ | omega)

theorem k_X6_isLetter (p0 : Int32) (σ : ST) (hI : IA σ)  : OK (f_X6_isLetter  p0 σ) (RO σ fun v => v.toInt = 0 ∨ v.toInt = 1) := by
  unfold f_X6_isLetter
  have lt_0 := li_0
  have lt_1 := li_1
  have lt_97 := li_97
  have lt_122 := li_122
  have lFU : ((FU : Nat) : Int) = 100000 := rfl
  refine OK.ilt (fun h1 => ?_) (fun h1 => ?_)
  · skip
    exact OK.roret (by first | trivial | omega | exact hI.flds _ | exact hI.dflds _ | exact hI.recs _ | exact hI.drecs _ | exact hI.droot _ | omega)
  · skip
    refine OK.ilt (fun h2 => ?_) (fun h2 => ?_)
    · skip
      exact OK.roret (by first | trivial | omega | exact hI.flds _ | exact hI.dflds _ | exact hI.recs _ | exact hI.drecs _ | exact hI.droot _ | omega)
    · skip
      exact OK.roret (by first | trivial | omega | exact hI.flds _ | exact hI.dflds _ | exact hI.recs _ | exact hI.drecs _ | exact hI.droot _ | omega)

theorem k_X6_signAt (p0 : Int32) (σ : ST) (hI : IA σ)  : OK (f_X6_signAt  p0 σ) (RO σ fun v => True) := by
  unfold f_X6_signAt
  have lt_0 := li_0
  have lt_1 := li_1
  have lt_255 := li_255
  have lt_1000 := li_1000
  have lFU : ((FU : Nat) : Int) = 100000 := rfl
  refine OK.ilt (fun h1 => ?_) (fun h1 => ?_)
  · skip
    exact OK.roret (by first | trivial | omega | exact hI.flds _ | exact hI.dflds _ | exact hI.recs _ | exact hI.drecs _ | exact hI.droot _ | omega)
  · skip
    have g2 : 0 ≤ (σ.1 2 2).toInt ∧ (σ.1 2 2).toInt ≤ 1000 := hI.tend
    refine OK.ile (fun h3 => ?_) (fun h3 => ?_)
    · skip
      exact OK.roret (by first | trivial | omega | exact hI.flds _ | exact hI.dflds _ | exact hI.recs _ | exact hI.drecs _ | exact hI.droot _ | omega)
    · skip
      refine OK.ile (fun h4 => ?_) (fun h4 => ?_)
      · skip
        exact OK.roret (by first | trivial | omega | exact hI.flds _ | exact hI.dflds _ | exact hI.recs _ | exact hI.drecs _ | exact hI.droot _ | omega)
      · skip
        refine OK.grd ⟨by omega, by omega⟩ ?_
        exact OK.roret (by first | trivial | omega | exact hI.flds _ | exact hI.dflds _ | exact hI.recs _ | exact hI.drecs _ | exact hI.droot _ | omega)

theorem IA.same {σ s : ST} (h : IA σ) (h1 : s.1 = σ.1) (h2 : s.2.2.2 = σ.2.2.2) : IA s := by
  unfold IA TR at h ⊢
  rw [h1, h2]
  exact h
theorem Fr.same {σ s : ST} (h1 : s.1 = σ.1) (h3 : s.2.1 3 = σ.2.1 3) (h2 : s.2.2.2 = σ.2.2.2) : Fr σ s := ⟨by rw [h1], by rw [h1], ⟨by rw [h1], h3⟩, h2⟩
def TL (σ : ST) (m : Int) (q : Int32 × ST) : Prop := q.2.1 = σ.1 ∧ (q.2.2.2.2 = σ.2.2.2 ∧ q.2.2.1 3 = σ.2.1 3) ∧ 0 ≤ q.1.toInt ∧ q.1.toInt ≤ m
theorem TL.mk {σ : ST} {m : Int} {v : Int32} (h1 : 0 ≤ v.toInt) (h2 : v.toInt ≤ m) : OK (some (v, σ)) (TL σ m) := ⟨_, rfl, rfl, ⟨rfl, rfl⟩, h1, h2⟩
theorem k_X6_takeLetters_7 : ∀ (n : Nat) (x1 x2 x3 : Int32) (σ : ST), (0 ≤ x2.toInt ∧ x2.toInt ≤ 12 ∧ 0 ≤ x3.toInt ∧ x3.toInt ≤ x2.toInt + 1 ∧ (13 : Int) - x3.toInt < n) → OK (f_X6_takeLetters_7 n x1 x2 x3 σ) (TL σ 13) := by
  intro n
  induction n with
  | zero => intro x1 x2 x3 σ hv; omega
  | succ n ih =>
    intro x1 x2 x3 σ hv
    rw [f_X6_takeLetters_7]
    have lt_0 := li_0
    have lt_1 := li_1
    have lt_1000 := li_1000
    obtain ⟨bk, b, bl, br⟩ := i_add x2 1
    try (refine k0el (k := bk) ?_ (fun e0 => ?_); (focus omega); subst e0)
    obtain ⟨ck, c, cl, cr⟩ := i_add x3 1
    try (refine k0el (k := ck) ?_ (fun e0 => ?_); (focus omega); subst e0)
    refine OK.ilt (fun h => TL.mk (by omega) (by omega)) (fun h => ?_)
    have h57 : ∀ y0 : Int32, OK (f_X6_takeLetters_57 (f_X6_takeLetters_7 n) x1 x2 x3 y0 σ) (TL σ 13) := by
      intro y0
      unfold f_X6_takeLetters_57
      refine OK.ilt (fun _ => TL.mk (by omega) (by omega)) (fun _ => ?_)
      refine OK.ile (fun _ => ?_) (fun _ => TL.mk (by omega) (by omega))
      refine OK.ile (fun h9 => ?_) (fun h9 => ?_)
      · exact ih x1 x2 (x3 + 1) σ (by omega)
      · exact ih x1 x2 (x3 + 1) (stL σ 2 7 ((σ.2.1 2 7) ||| ((y0.toInt64) <<< ((5 * x3).toInt64 &&& 63)))) (by omega)
    refine OK.ilt (fun h1 => h57 0) (fun h1 => ?_)
    refine OK.ile (fun h2 => h57 0) (fun h2 => ?_)
    refine OK.ile (fun h3 => h57 0) (fun h3 => ?_)
    refine OK.grd ⟨by omega, by omega⟩ ?_
    exact h57 _


theorem k_X6_takeLetters (p0 p1 : Int32) (σ : ST) (hp : 0 ≤ p1.toInt ∧ p1.toInt ≤ 12) : OK (f_X6_takeLetters p0 p1 σ) (TL σ 13) := by
  have lt_0 := li_0
  have lFU : ((FU : Nat) : Int) = 100000 := rfl
  exact k_X6_takeLetters_7 FU p0 p1 0 (stL σ 2 7 0) (by omega)


theorem k_X6_scanLettered_38 (σ : ST) (hI : IA σ)  : OK (f_X6_scanLettered_38  σ) (RS σ) := by
  unfold f_X6_scanLettered_38
  have lt_0 := li_0
  have lt_1 := li_1
  have lFU : ((FU : Nat) : Int) = 100000 := rfl
  exact OK.sret (ia_I_2_4 hI) (fr_I_2 Fr.rf)

theorem k_X6_scanLettered (σ : ST) (hI : IA σ) (hp : (σ.1 2 5).toInt < 1000) : OK (f_X6_scanLettered σ) (RS σ) := by
  unfold f_X6_scanLettered
  have lt_1 := li_1
  have lt_12 := li_12
  have g : 0 ≤ (σ.1 2 5).toInt ∧ (σ.1 2 5).toInt ≤ 1030 := hI.tstart
  refine OK.bnd (k_X6_takeLetters _ _ _ (by omega)) (fun q hq => ?_)
  obtain ⟨v, s⟩ := q
  obtain ⟨e1, ⟨e2, e3⟩, h1, h2⟩ := hq
  have e1 : s.1 = σ.1 := e1
  have e2 : s.2.2.2 = σ.2.2.2 := e2
  have e3 : s.2.1 3 = σ.2.1 3 := e3
  have h1 : 0 ≤ v.toInt := h1
  have h2 : v.toInt ≤ 13 := h2
  have is := hI.same e1 e2
  have fs : Fr σ s := Fr.same e1 e3 e2
  dsimp only
  unfold f_X6_scanLettered_38
  refine OK.ilt (fun h => OK.sret (ia_I_2_4 is) (fr_I_2 fs)) (fun h => ?_)
  refine OK.bndR (k_X6_signAt _ _ is) (fun w hw => ?_)
  dsimp only
  refine OK.ieq (fun h => ?_) (fun h => OK.sret (ia_I_2_4 is) (fr_I_2 fs))
  rw [e1]
  obtain ⟨ak, a, al, ar⟩ := i_add (σ.1 2 5) 1
  try (refine k0el (k := ak) ?_ (fun e0 => ?_); (focus omega); subst e0)
  obtain ⟨bk, b, bl, br⟩ := i_add (σ.1 2 5 + 1) v
  try (refine k0el (k := bk) ?_ (fun e0 => ?_); (focus omega); subst e0)
  obtain ⟨ck, c, cl, cr⟩ := i_add (σ.1 2 5 + 1 + v) 1
  try (refine k0el (k := ck) ?_ (fun e0 => ?_); (focus omega); subst e0)
  exact OK.sret (ia_J_2_3 (ia_I_2_4 is) ⟨by omega, by omega⟩) (fr_I_2 (fr_I_2 fs))


theorem k_X6_scanNumber_189 (x1 : Int32) (σ : ST) (hI : IA σ) (hp0 : 0 ≤ x1.toInt ∧ x1.toInt ≤ 1030)  : OK (f_X6_scanNumber_189  x1 σ) (RS σ) := by
  unfold f_X6_scanNumber_189
  have lt_0 := li_0
  have lt_1 := li_1
  have lFU : ((FU : Nat) : Int) = 100000 := rfl
  exact OK.sret (ia_J_2_3 (ia_I_2_4 hI) (show bI x1 0 1030 from ⟨by omega, by omega⟩)) (fr_I_2 (fr_I_2 Fr.rf))

theorem k_X6_scanNumber_119 (x1 : Int32) (x2 : Int32) (σ : ST) (hI : IA σ) (hp0 : 0 ≤ x1.toInt ∧ x1.toInt ≤ 1025)  : OK (f_X6_scanNumber_119  x1 x2 σ) (RS σ) := by
  unfold f_X6_scanNumber_119
  have lt_0 := li_0
  have lt_1 := li_1
  have lt_2 := li_2
  have lt_18 := li_18
  have lt_46 := li_46
  have lFU : ((FU : Nat) : Int) = 100000 := rfl
  refine OK.ieq (fun h1 => ?_) (fun h1 => ?_)
  · skip
    exact OK.sret hI Fr.rf
  · skip
    refine OK.ile (fun h2 => ?_) (fun h2 => ?_)
    · skip
      refine OK.bndR (k_X6_signAt _ _ hI ) (fun v3 h4 => ?_)
      dsimp only
      refine OK.ieq (fun h5 => ?_) (fun h5 => ?_)
      · skip
        refine OK.bndR (k_X6_signAt _ _ hI ) (fun v6 h7 => ?_)
        dsimp only
        refine OK.bndR (k_X6_isDigit _ _ hI ) (fun v8 h9 => ?_)
        dsimp only
        refine OK.ieq (fun h10 => ?_) (fun h10 => ?_)
        · skip
          exact OK.sret hI Fr.rf
        · skip
          refine OK.bndR (k_X6_signAt _ _ hI ) (fun v11 h12 => ?_)
          dsimp only
          refine OK.bndR (k_X6_isDigit _ _ hI ) (fun v13 h14 => ?_)
          dsimp only
          refine OK.ieq (fun h15 => ?_) (fun h15 => ?_)
          · skip
            have iz18 : IA (stI σ 2 10 1) := (ia_I_2_10 hI)
            have fz18 : Fr σ (stI σ 2 10 1) := (fr_I_2 Fr.rf)
            generalize (stI σ 2 10 1) = z18 at iz18 fz18 ⊢
            refine OK.bndR (k_X6_signAt _ _ iz18 ) (fun v16 h17 => ?_)
            dsimp only
            obtain ⟨a19k, a19, a19l, a19r⟩ := i_add x1 2
            try (refine k0el (k := a19k) ?_ (fun e0 => ?_); (focus omega); subst e0)
            exact OK.trS (k_X6_scanNumber_189 _ _ (ia_I_2_11 iz18) (show 0 ≤ (x1 + 2).toInt ∧ (x1 + 2).toInt ≤ 1030 from by omega)) (fr_I_2 fz18)
          · skip
            exact OK.sret hI Fr.rf
      · skip
        exact OK.trS (k_X6_scanNumber_189 _ _ hI (show 0 ≤ x1.toInt ∧ x1.toInt ≤ 1030 from by omega)) Fr.rf
    · skip
      exact OK.sret hI Fr.rf

theorem k_X6_scanNumber_65 : ∀ (n : Nat) (x1 : Int32) (x2 : Int32) (σ : ST), IA σ → (0 ≤ x2.toInt ∧ x2.toInt ≤ 19 ∧ (0 ≤ x1.toInt ∧ x1.toInt ≤ 1001 + x2.toInt) ∧ (19 : Int) - x2.toInt < n) → OK (f_X6_scanNumber_65  n x1 x2 σ) (RS σ) := by
  intro n
  induction n with
  | zero =>
    intro x1 x2 σ hI hv
    omega
  | succ n ih =>
    intro x1 x2 σ hI hv
    rw [f_X6_scanNumber_65]
    have lt_0 := li_0
    have lt_1 := li_1
    have lt_18 := li_18
    have lFU : ((FU : Nat) : Int) = 100000 := rfl
    refine OK.ilt (fun h1 => ?_) (fun h1 => ?_)
    · skip
      exact OK.trS (k_X6_scanNumber_119 _ _ _ hI (show 0 ≤ x1.toInt ∧ x1.toInt ≤ 1025 from by omega)) Fr.rf
    · skip
      refine OK.bndR (k_X6_signAt _ _ hI ) (fun v2 h3 => ?_)
      dsimp only
      refine OK.bndR (k_X6_isDigit _ _ hI ) (fun v4 h5 => ?_)
      dsimp only
      refine OK.ieq (fun h6 => ?_) (fun h6 => ?_)
      · skip
        exact OK.trS (k_X6_scanNumber_119 _ _ _ hI (show 0 ≤ x1.toInt ∧ x1.toInt ≤ 1025 from by omega)) Fr.rf
      · skip
        refine OK.ile (fun h7 => ?_) (fun h7 => ?_)
        · skip
          unfold f_X6_scanNumber_110
          try dsimp only
          obtain ⟨a8k, a8, a8l, a8r⟩ := i_add x1 1
          try (refine k0el (k := a8k) ?_ (fun e0 => ?_); (focus omega); subst e0)
          obtain ⟨a9k, a9, a9l, a9r⟩ := i_add x2 1
          try (refine k0el (k := a9k) ?_ (fun e0 => ?_); (focus omega); subst e0)
          exact OK.trS (ih _ _ _ hI (by omega)) Fr.rf
        · skip
          refine OK.bndR (k_X6_signAt _ _ hI ) (fun v10 h11 => ?_)
          dsimp only
          unfold f_X6_scanNumber_110
          try dsimp only
          obtain ⟨a12k, a12, a12l, a12r⟩ := i_add x1 1
          try (refine k0el (k := a12k) ?_ (fun e0 => ?_); (focus omega); subst e0)
          obtain ⟨a13k, a13, a13l, a13r⟩ := i_add x2 1
          try (refine k0el (k := a13k) ?_ (fun e0 => ?_); (focus omega); subst e0)
          exact OK.trS (ih _ _ _ (ia_L hI) (by omega)) (fr_L Fr.rf)

theorem k_X6_scanNumber_62 (y0 : Int32) (σ : ST) (hI : IA σ) (hp0 : 0 ≤ y0.toInt ∧ y0.toInt ≤ 1001)  : OK (f_X6_scanNumber_62  y0 σ) (RS σ) := by
  unfold f_X6_scanNumber_62
  have lt_0 := li_0
  have lt_1 := li_1
  have lFU : ((FU : Nat) : Int) = 100000 := rfl
  exact OK.trS (k_X6_scanNumber_65 FU _ _ _ hI (by omega)) Fr.rf

theorem k_X6_scanNumber_19 (y0 : Int32) (σ : ST) (hI : IA σ) (hp0 : (σ.1 2 5).toInt < 1000) (hp1 : y0.toInt = 0 ∨ y0.toInt = 1)  : OK (f_X6_scanNumber_19  y0 σ) (RS σ) := by
  unfold f_X6_scanNumber_19
  have lt_0 := li_0
  have lt_1 := li_1
  have lFU : ((FU : Nat) : Int) = 100000 := rfl
  refine OK.grd (b01 (by omega)) ?_
  refine OK.ieq (fun h1 => ?_) (fun h1 => ?_)
  · skip
    have g2 : 0 ≤ (σ.1 2 5).toInt ∧ (σ.1 2 5).toInt ≤ 1030 := hI.tstart
    have g3 : 0 ≤ (σ.1 2 2).toInt ∧ (σ.1 2 2).toInt ≤ 1000 := hI.tend
    exact OK.trS (k_X6_scanNumber_62 _ _ (ia_I_2_4 (ia_L (ia_I_2_11 (ia_I_2_10 (ia_I_2_9 hI))))) (show 0 ≤ (σ.1 2 5).toInt ∧ (σ.1 2 5).toInt ≤ 1001 from by omega)) (fr_I_2 (fr_L (fr_I_2 (fr_I_2 (fr_I_2 Fr.rf)))))
  · skip
    have g4 : 0 ≤ (σ.1 2 5).toInt ∧ (σ.1 2 5).toInt ≤ 1030 := hI.tstart
    obtain ⟨a5k, a5, a5l, a5r⟩ := i_add (σ.1 2 5) 1
    try (refine k0el (k := a5k) ?_ (fun e0 => ?_); (focus omega); subst e0)
    have g6 : 0 ≤ (σ.1 2 2).toInt ∧ (σ.1 2 2).toInt ≤ 1000 := hI.tend
    exact OK.trS (k_X6_scanNumber_62 _ _ (ia_I_2_4 (ia_L (ia_I_2_11 (ia_I_2_10 (ia_I_2_9 hI))))) (show 0 ≤ ((σ.1 2 5) + 1).toInt ∧ ((σ.1 2 5) + 1).toInt ≤ 1001 from by omega)) (fr_I_2 (fr_L (fr_I_2 (fr_I_2 (fr_I_2 Fr.rf)))))

theorem k_X6_scanNumber (σ : ST) (hI : IA σ) (hp0 : (σ.1 2 5).toInt < 1000)  : OK (f_X6_scanNumber  σ) (RS σ) := by
  unfold f_X6_scanNumber
  have lt_0 := li_0
  have lt_1 := li_1
  have lt_45 := li_45
  have lFU : ((FU : Nat) : Int) = 100000 := rfl
  refine OK.bndR (k_X6_signAt _ _ hI ) (fun v1 h2 => ?_)
  dsimp only
  refine OK.ieq (fun h3 => ?_) (fun h3 => ?_)
  · skip
    have g4 : 0 ≤ (σ.1 2 5).toInt ∧ (σ.1 2 5).toInt ≤ 1030 := hI.tstart
    have g5 : 0 ≤ (σ.1 2 2).toInt ∧ (σ.1 2 2).toInt ≤ 1000 := hI.tend
    exact OK.trS (k_X6_scanNumber_19 _ _ hI (show (σ.1 2 5).toInt < 1000 from by omega) (show (1 : Int32).toInt = 0 ∨ (1 : Int32).toInt = 1 from by omega)) Fr.rf
  · skip
    have g6 : 0 ≤ (σ.1 2 5).toInt ∧ (σ.1 2 5).toInt ≤ 1030 := hI.tstart
    have g7 : 0 ≤ (σ.1 2 2).toInt ∧ (σ.1 2 2).toInt ≤ 1000 := hI.tend
    exact OK.trS (k_X6_scanNumber_19 _ _ hI (show (σ.1 2 5).toInt < 1000 from by omega) (show (0 : Int32).toInt = 0 ∨ (0 : Int32).toInt = 1 from by omega)) Fr.rf

theorem k_X6_scanWord_45 : ∀ (n : Nat) (x2 : Int32) (σ : ST), IA σ → (0 ≤ x2.toInt ∧ x2.toInt ≤ 15 ∧ (15 : Int) - x2.toInt < n) → OK (f_X6_scanWord_45  n x2 σ) (RS σ) := by
  intro n
  induction n with
  | zero =>
    intro x2 σ hI hv
    omega
  | succ n ih =>
    intro x2 σ hI hv
    rw [f_X6_scanWord_45]
    have lt_0 := li_0
    have lt_1 := li_1
    have lt_15 := li_15
    have lFU : ((FU : Nat) : Int) = 100000 := rfl
    refine OK.ile (fun h1 => ?_) (fun h1 => ?_)
    · skip
      exact OK.sret hI Fr.rf
    · skip
      refine OK.grd ⟨by omega, by omega⟩ ?_
      refine OK.ieq (fun h2 => ?_) (fun h2 => ?_)
      · skip
        unfold f_X6_scanWord_75
        try dsimp only
        obtain ⟨a3k, a3, a3l, a3r⟩ := i_add x2 1
        try (refine k0el (k := a3k) ?_ (fun e0 => ?_); (focus omega); subst e0)
        exact OK.trS (ih _ _ (ia_I_2_6 (ia_I_2_4 hI)) (by omega)) (fr_I_2 (fr_I_2 Fr.rf))
      · skip
        unfold f_X6_scanWord_75
        try dsimp only
        obtain ⟨a4k, a4, a4l, a4r⟩ := i_add x2 1
        try (refine k0el (k := a4k) ?_ (fun e0 => ?_); (focus omega); subst e0)
        exact OK.trS (ih _ _ hI (by omega)) Fr.rf

theorem k_X6_scanWord (σ : ST) (hI : IA σ) (hp : (σ.1 2 5).toInt < 1000) : OK (f_X6_scanWord σ) (RS σ) := by
  unfold f_X6_scanWord
  have lt_0 := li_0
  have lt_8 := li_8
  have lFU : ((FU : Nat) : Int) = 100000 := rfl
  have g : 0 ≤ (σ.1 2 5).toInt ∧ (σ.1 2 5).toInt ≤ 1030 := hI.tstart
  refine OK.bnd (k_X6_takeLetters _ _ _ (by omega)) (fun q hq => ?_)
  obtain ⟨v, s⟩ := q
  obtain ⟨e1, ⟨e2, e3⟩, h1, h2⟩ := hq
  have e1 : s.1 = σ.1 := e1
  have e2 : s.2.2.2 = σ.2.2.2 := e2
  have e3 : s.2.1 3 = σ.2.1 3 := e3
  have h1 : 0 ≤ v.toInt := h1
  have h2 : v.toInt ≤ 13 := h2
  have is := hI.same e1 e2
  have fs : Fr σ s := Fr.same e1 e3 e2
  dsimp only
  refine OK.ile (fun h => ?_) (fun h => OK.sret (ia_I_2_4 is) (fr_I_2 fs))
  have hb : bI (s.1 2 5 + v) 0 1030 := by
    rw [e1]
    obtain ⟨ak, a, al, ar⟩ := i_add (σ.1 2 5) v
    try (refine k0el (k := ak) ?_ (fun e0 => ?_); (focus omega); subst e0)
    exact ⟨by omega, by omega⟩
  exact OK.trS (k_X6_scanWord_45 FU _ _ (ia_I_2_6 (ia_I_2_4 (ia_J_2_3 is hb))) (by omega)) (fr_I_2 (fr_I_2 (fr_I_2 fs)))


theorem k_X6_advance_113 (σ : ST) (hI : IA σ) (hp0 : (σ.1 2 5).toInt < 1000)  : OK (f_X6_advance_113  σ) (RS σ) := by
  unfold f_X6_advance_113
  have lt_0 := li_0
  have lt_1 := li_1
  have lFU : ((FU : Nat) : Int) = 100000 := rfl
  have g1 : 0 ≤ (σ.1 2 5).toInt ∧ (σ.1 2 5).toInt ≤ 1030 := hI.tstart
  have g2 : 0 ≤ (σ.1 2 2).toInt ∧ (σ.1 2 2).toInt ≤ 1000 := hI.tend
  refine OK.bndS (k_X6_scanNumber _ hI (show (σ.1 2 5).toInt < 1000 from by omega)) Fr.rf (fun s3 is3 fs3 => ?_)
  try dsimp only
  exact OK.sret is3 fs3

theorem k_X6_advance_169 (x1 : Int32) (σ : ST) (hI : IA σ) (hp0 : (σ.1 2 5).toInt < 1000)  : OK (f_X6_advance_169  x1 σ) (RS σ) := by
  unfold f_X6_advance_169
  have lt_0 := li_0
  have lt_1 := li_1
  have lFU : ((FU : Nat) : Int) = 100000 := rfl
  have g1 : 0 ≤ (σ.1 2 5).toInt ∧ (σ.1 2 5).toInt ≤ 1030 := hI.tstart
  obtain ⟨a2k, a2, a2l, a2r⟩ := i_add (σ.1 2 5) 1
  try (refine k0el (k := a2k) ?_ (fun e0 => ?_); (focus omega); subst e0)
  exact OK.sret (ia_J_2_3 (ia_I_2_4 hI) (show bI ((σ.1 2 5) + 1) 0 1030 from ⟨by omega, by omega⟩)) (fr_I_2 (fr_I_2 Fr.rf))

theorem k_X6_advance_50 (σ : ST) (hI : IA σ)  : OK (f_X6_advance_50  σ) (RS σ) := by
  unfold f_X6_advance_50
  have lt_0 := li_0
  have lt_1 := li_1
  have lt_34 := li_34
  have lt_44 := li_44
  have lt_45 := li_45
  have lt_59 := li_59
  have lt_91 := li_91
  have lt_93 := li_93
  have lt_123 := li_123
  have lt_125 := li_125
  have lFU : ((FU : Nat) : Int) = 100000 := rfl
  have g1 : 0 ≤ (σ.1 2 3).toInt ∧ (σ.1 2 3).toInt ≤ 1030 := hI.tnext
  have iz4 : IA (stI σ 2 5 (σ.1 2 3)) := (ia_J_2_5 hI (show bI (σ.1 2 3) 0 1030 from ⟨by omega, by omega⟩))
  have fz4 : Fr σ (stI σ 2 5 (σ.1 2 3)) := (fr_I_2 Fr.rf)
  generalize (stI σ 2 5 (σ.1 2 3)) = z4 at iz4 fz4 ⊢
  refine OK.bndR (k_X6_signAt _ _ iz4 ) (fun v2 h3 => ?_)
  dsimp only
  have g5 : 0 ≤ (z4.1 2 5).toInt ∧ (z4.1 2 5).toInt ≤ 1030 := iz4.tstart
  have g6 : 0 ≤ (z4.1 2 2).toInt ∧ (z4.1 2 2).toInt ≤ 1000 := iz4.tend
  refine OK.ilt (fun h7 => ?_) (fun h7 => ?_)
  · skip
    refine OK.bndR (k_X6_isLetter _ _ iz4 ) (fun v8 h9 => ?_)
    dsimp only
    refine OK.ieq (fun h10 => ?_) (fun h10 => ?_)
    · skip
      refine OK.ieq (fun h11 => ?_) (fun h11 => ?_)
      · skip
        exact OK.trS (k_X6_advance_113 _ iz4 (show (z4.1 2 5).toInt < 1000 from by omega)) fz4
      · skip
        refine OK.bndR (k_X6_isDigit _ _ iz4 ) (fun v12 h13 => ?_)
        dsimp only
        refine OK.ieq (fun h14 => ?_) (fun h14 => ?_)
        · skip
          refine OK.ieq (fun h15 => ?_) (fun h15 => ?_)
          · skip
            refine OK.bndS (k_X6_scanLettered _ iz4 (show (z4.1 2 5).toInt < 1000 from by omega)) fz4 (fun s16 is16 fs16 => ?_)
            try dsimp only
            exact OK.sret is16 fs16
          · skip
            refine OK.ieq (fun h17 => ?_) (fun h17 => ?_)
            · skip
              exact OK.trS (k_X6_advance_169 _ _ iz4 (show (z4.1 2 5).toInt < 1000 from by omega)) fz4
            · skip
              refine OK.ieq (fun h18 => ?_) (fun h18 => ?_)
              · skip
                exact OK.trS (k_X6_advance_169 _ _ iz4 (show (z4.1 2 5).toInt < 1000 from by omega)) fz4
              · skip
                refine OK.ieq (fun h19 => ?_) (fun h19 => ?_)
                · skip
                  exact OK.trS (k_X6_advance_169 _ _ iz4 (show (z4.1 2 5).toInt < 1000 from by omega)) fz4
                · skip
                  refine OK.ieq (fun h20 => ?_) (fun h20 => ?_)
                  · skip
                    exact OK.trS (k_X6_advance_169 _ _ iz4 (show (z4.1 2 5).toInt < 1000 from by omega)) fz4
                  · skip
                    refine OK.ieq (fun h21 => ?_) (fun h21 => ?_)
                    · skip
                      exact OK.trS (k_X6_advance_169 _ _ iz4 (show (z4.1 2 5).toInt < 1000 from by omega)) fz4
                    · skip
                      refine OK.ieq (fun h22 => ?_) (fun h22 => ?_)
                      · skip
                        exact OK.trS (k_X6_advance_169 _ _ iz4 (show (z4.1 2 5).toInt < 1000 from by omega)) fz4
                      · skip
                        exact OK.sret (ia_I_2_4 iz4) (fr_I_2 fz4)
        · skip
          exact OK.trS (k_X6_advance_113 _ iz4 (show (z4.1 2 5).toInt < 1000 from by omega)) fz4
    · skip
      refine OK.bndS (k_X6_scanWord _ iz4 (show (z4.1 2 5).toInt < 1000 from by omega)) fz4 (fun s23 is23 fs23 => ?_)
      try dsimp only
      exact OK.sret is23 fs23
  · skip
    exact OK.sret (ia_I_2_4 iz4) (fr_I_2 fz4)

theorem k_X6_advance_0 : ∀ (n : Nat) (σ : ST), IA σ → ((1001 : Int) - (σ.1 2 3).toInt < n) → 0 < n → OK (f_X6_advance_0 n σ) (RS σ) := by
  intro n
  induction n with
  | zero => intro σ hI hv h0; omega
  | succ n ih =>
    intro σ hI hv h0
    rw [f_X6_advance_0]
    have lt_1 := li_1
    have g : 0 ≤ (σ.1 2 2).toInt ∧ (σ.1 2 2).toInt ≤ 1000 := hI.tend
    have g3 : 0 ≤ (σ.1 2 3).toInt ∧ (σ.1 2 3).toInt ≤ 1030 := hI.tnext
    refine OK.ile (fun h => k_X6_advance_50 _ hI) (fun h => ?_)
    obtain ⟨ak, a, al, ar⟩ := i_add (σ.1 2 3) 1
    try (refine k0el (k := ak) ?_ (fun e0 => ?_); (focus omega); subst e0)
    have h37 : OK (f_X6_advance_37 (f_X6_advance_0 n) σ) (RS σ) := by
      unfold f_X6_advance_37
      exact OK.trS (ih _ (ia_J_2_3 hI ⟨by omega, by omega⟩) (show (1001 : Int) - (σ.1 2 3 + 1).toInt < n from by omega) (by omega)) (fr_I_2 Fr.rf)
    refine OK.bndR (k_X6_signAt _ _ hI) (fun w hw => ?_)
    dsimp only
    refine OK.ieq (fun _ => h37) (fun _ => ?_)
    refine OK.bndR (k_X6_signAt _ _ hI) (fun w hw => ?_)
    dsimp only
    exact OK.ieq (fun _ => h37) (fun _ => k_X6_advance_50 _ hI)


theorem k_X6_advance (σ : ST) (hI : IA σ) : OK (f_X6_advance σ) (RS σ) := by
  have lFU : ((FU : Nat) : Int) = 100000 := rfl
  have g3 : 0 ≤ (σ.1 2 3).toInt ∧ (σ.1 2 3).toInt ≤ 1030 := hI.tnext
  exact k_X6_advance_0 FU σ hI (by omega) (by decide)


theorem k_X6_refuseAt (p0 : Int32) (p1 : Int32) (σ : ST) (hI : IA σ)  : OK (f_X6_refuseAt  p0 p1 σ) (RW σ fun v => v.toInt = 0 ∨ v.toInt = 1) := by
  unfold f_X6_refuseAt
  have lt_0 := li_0
  have lt_1 := li_1
  have lFU : ((FU : Nat) : Int) = 100000 := rfl
  refine OK.ieq (fun h1 => ?_) (fun h1 => ?_)
  · skip
    exact OK.wret (ia_I_2_13 (ia_I_2_12 hI)) (fr_I_2 (fr_I_2 Fr.rf)) (by first | trivial | omega | exact hI.flds _ | exact hI.dflds _ | exact hI.recs _ | exact hI.drecs _ | exact hI.droot _ | omega)
  · skip
    exact OK.wret hI Fr.rf (by first | trivial | omega | exact hI.flds _ | exact hI.dflds _ | exact hI.recs _ | exact hI.drecs _ | exact hI.droot _ | omega)

theorem k_X6_refuse (p0 : Int32) (σ : ST) (hI : IA σ)  : OK (f_X6_refuse  p0 σ) (RW σ fun v => v.toInt = 0 ∨ v.toInt = 1) := by
  unfold f_X6_refuse
  have lt_0 := li_0
  have lt_1 := li_1
  have lFU : ((FU : Nat) : Int) = 100000 := rfl
  refine OK.bndW (k_X6_refuseAt _ _ _ hI ) Fr.rf (fun v1 s3 is3 fs3 h2 => ?_)
  dsimp only
  refine OK.grd (b01 (by omega)) ?_
  exact OK.wret is3 fs3 (by first | trivial | omega | exact hI.flds _ | exact hI.dflds _ | exact hI.recs _ | exact hI.drecs _ | exact hI.droot _ | omega)

theorem k_X3_beginPlan (p0 : Int32) (σ : ST) (hI : IA σ)  : OK (f_X3_beginPlan  p0 σ) (RW σ fun v => v.toInt = 0 ∨ v.toInt = 1) := by
  unfold f_X3_beginPlan
  have lt_0 := li_0
  have lt_1 := li_1
  have lt_4 := li_4
  have lt_6 := li_6
  have lt_59 := li_59
  have lFU : ((FU : Nat) : Int) = 100000 := rfl
  refine OK.ilt (fun h1 => ?_) (fun h1 => ?_)
  · skip
    refine OK.bndS (k_X5_addPlan_20 _ _ hI ) Fr.rf (fun s2 is2 fs2 => ?_)
    try dsimp only
    refine OK.bndS (k_X6_advance _ is2 ) fs2 (fun s3 is3 fs3 => ?_)
    try dsimp only
    refine OK.ieq (fun h4 => ?_) (fun h4 => ?_)
    · skip
      refine OK.bndS (k_X6_advance _ is3 ) fs3 (fun s5 is5 fs5 => ?_)
      try dsimp only
      exact OK.wret is5 fs5 (by first | trivial | omega | exact hI.flds _ | exact hI.dflds _ | exact hI.recs _ | exact hI.drecs _ | exact hI.droot _ | omega)
    · skip
      refine OK.bndW (k_X6_refuse _ _ is3 ) fs3 (fun v6 s8 is8 fs8 h7 => ?_)
      dsimp only
      refine OK.grd (b01 (by omega)) ?_
      exact OK.wret is8 fs8 (by first | trivial | omega | exact hI.flds _ | exact hI.dflds _ | exact hI.recs _ | exact hI.drecs _ | exact hI.droot _ | omega)
  · skip
    refine OK.bndW (k_X6_refuse _ _ hI ) Fr.rf (fun v9 s11 is11 fs11 h10 => ?_)
    dsimp only
    refine OK.grd (b01 (by omega)) ?_
    exact OK.wret is11 fs11 (by first | trivial | omega | exact hI.flds _ | exact hI.dflds _ | exact hI.recs _ | exact hI.drecs _ | exact hI.droot _ | omega)

theorem k_X5_setElse_20 (p0 : Int32) (p1 : Int32) (p2 : Int64) (σ : ST) (hI : IA σ)  : OK (f_X5_setElse 20 p0 p1 p2 σ) (RS σ) := by
  unfold f_X5_setElse
  have lt_0 := li_0
  have lt_1 := li_1
  have lt_8 := li_8
  have lFU : ((FU : Nat) : Int) = 100000 := rfl
  refine OK.bndR (k_X5_isFieldOf _ _ _ hI ) (fun v1 h2 => ?_)
  dsimp only
  refine OK.ieq (fun h3 => ?_) (fun h3 => ?_)
  · skip
    exact OK.sret hI Fr.rf
  · skip
    refine OK.grd ⟨by omega, by omega⟩ ?_
    refine OK.lt (fun z4 h5 => ?_)
    have iz4 : IA z4 := by rw [h5]; exact (ia_I_25 hI)
    have fz4 : Fr σ z4 := by rw [h5]; exact (fr_I_25 Fr.rf)
    obtain ⟨a6k, a6, a6l, a6r⟩ := i_mul p0 8
    rw [li_8] at a6
    try (refine k0el (k := a6k) ?_ (fun e0 => ?_); (focus omega); subst e0)
    obtain ⟨a7k, a7, a7l, a7r⟩ := i_add (p0 * 8) p1
    try (refine k0el (k := a7k) ?_ (fun e0 => ?_); (focus omega); subst e0)
    refine OK.grd ⟨by omega, by omega⟩ ?_
    exact OK.sret (ia_L iz4) (fr_L fz4)

theorem k_X6_isKeyword (p0 : Int32) (σ : ST) (hI : IA σ)  : OK (f_X6_isKeyword  p0 σ) (RO σ fun v => v.toInt = 0 ∨ v.toInt = 1) := by
  unfold f_X6_isKeyword
  have lt_0 := li_0
  have lt_1 := li_1
  have lt_2 := li_2
  have lFU : ((FU : Nat) : Int) = 100000 := rfl
  refine OK.ieq (fun h1 => ?_) (fun h1 => ?_)
  · skip
    refine OK.ieq (fun h2 => ?_) (fun h2 => ?_)
    · skip
      exact OK.roret (by first | trivial | omega | exact hI.flds _ | exact hI.dflds _ | exact hI.recs _ | exact hI.drecs _ | exact hI.droot _ | omega)
    · skip
      exact OK.roret (by first | trivial | omega | exact hI.flds _ | exact hI.dflds _ | exact hI.recs _ | exact hI.drecs _ | exact hI.droot _ | omega)
  · skip
    exact OK.roret (by first | trivial | omega | exact hI.flds _ | exact hI.dflds _ | exact hI.recs _ | exact hI.drecs _ | exact hI.droot _ | omega)

theorem k_X6_beginsLiteral_52 (σ : ST) (hI : IA σ)  : OK (f_X6_beginsLiteral_52  σ) (RO σ fun v => v.toInt = 0 ∨ v.toInt = 1) := by
  unfold f_X6_beginsLiteral_52
  have lt_0 := li_0
  have lt_1 := li_1
  have lFU : ((FU : Nat) : Int) = 100000 := rfl
  exact OK.roret (by first | trivial | omega | exact hI.flds _ | exact hI.dflds _ | exact hI.recs _ | exact hI.drecs _ | exact hI.droot _ | omega)

theorem k_X6_beginsLiteral (σ : ST) (hI : IA σ)  : OK (f_X6_beginsLiteral  σ) (RO σ fun v => v.toInt = 0 ∨ v.toInt = 1) := by
  unfold f_X6_beginsLiteral
  have lt_0 := li_0
  have lt_1 := li_1
  have lt_4 := li_4
  have lt_5 := li_5
  have lt_7 := li_7
  have lt_13 := li_13
  have lt_14 := li_14
  have lt_91 := li_91
  have lFU : ((FU : Nat) : Int) = 100000 := rfl
  refine OK.ieq (fun h1 => ?_) (fun h1 => ?_)
  · skip
    exact OK.roq (k_X6_beginsLiteral_52 _ hI ) (fun v hv => by first | trivial | omega | exact hI.flds _ | exact hI.dflds _ | exact hI.recs _ | exact hI.drecs _ | exact hI.droot _ | omega)
  · skip
    refine OK.ieq (fun h2 => ?_) (fun h2 => ?_)
    · skip
      exact OK.roq (k_X6_beginsLiteral_52 _ hI ) (fun v hv => by first | trivial | omega | exact hI.flds _ | exact hI.dflds _ | exact hI.recs _ | exact hI.drecs _ | exact hI.droot _ | omega)
    · skip
      refine OK.ieq (fun h3 => ?_) (fun h3 => ?_)
      · skip
        exact OK.roq (k_X6_beginsLiteral_52 _ hI ) (fun v hv => by first | trivial | omega | exact hI.flds _ | exact hI.dflds _ | exact hI.recs _ | exact hI.drecs _ | exact hI.droot _ | omega)
      · skip
        refine OK.bndR (k_X6_isKeyword _ _ hI ) (fun v4 h5 => ?_)
        dsimp only
        refine OK.ieq (fun h6 => ?_) (fun h6 => ?_)
        · skip
          refine OK.bndR (k_X6_isKeyword _ _ hI ) (fun v7 h8 => ?_)
          dsimp only
          refine OK.ieq (fun h9 => ?_) (fun h9 => ?_)
          · skip
            refine OK.bndR (k_X6_isKeyword _ _ hI ) (fun v10 h11 => ?_)
            dsimp only
            refine OK.ieq (fun h12 => ?_) (fun h12 => ?_)
            · skip
              exact OK.roret (by first | trivial | omega | exact hI.flds _ | exact hI.dflds _ | exact hI.recs _ | exact hI.drecs _ | exact hI.droot _ | omega)
            · skip
              exact OK.roq (k_X6_beginsLiteral_52 _ hI ) (fun v hv => by first | trivial | omega | exact hI.flds _ | exact hI.dflds _ | exact hI.recs _ | exact hI.drecs _ | exact hI.droot _ | omega)
          · skip
            exact OK.roq (k_X6_beginsLiteral_52 _ hI ) (fun v hv => by first | trivial | omega | exact hI.flds _ | exact hI.dflds _ | exact hI.recs _ | exact hI.drecs _ | exact hI.droot _ | omega)
        · skip
          exact OK.roq (k_X6_beginsLiteral_52 _ hI ) (fun v hv => by first | trivial | omega | exact hI.flds _ | exact hI.dflds _ | exact hI.recs _ | exact hI.drecs _ | exact hI.droot _ | omega)

theorem k_X6_whole (σ : ST) (hI : IA σ)  : OK (f_X6_whole  σ) (RO σ fun v => True) := by
  unfold f_X6_whole
  have lt_0 := li_0
  have lt_1 := li_1
  have lFU : ((FU : Nat) : Int) = 100000 := rfl
  refine OK.ieq (fun h1 => ?_) (fun h1 => ?_)
  · skip
    exact OK.roret (by first | trivial | omega | exact hI.flds _ | exact hI.dflds _ | exact hI.recs _ | exact hI.drecs _ | exact hI.droot _ | omega)
  · skip
    exact OK.roret (by first | trivial | omega | exact hI.flds _ | exact hI.dflds _ | exact hI.recs _ | exact hI.drecs _ | exact hI.droot _ | omega)

theorem k_X6_fits_73 (σ : ST) (hI : IA σ)  : OK (f_X6_fits_73  σ) (RO σ fun v => v.toInt = 0 ∨ v.toInt = 1) := by
  unfold f_X6_fits_73
  have lt_0 := li_0
  have lt_1 := li_1
  have lFU : ((FU : Nat) : Int) = 100000 := rfl
  exact OK.roret (by first | trivial | omega | exact hI.flds _ | exact hI.dflds _ | exact hI.recs _ | exact hI.drecs _ | exact hI.droot _ | omega)

theorem k_X6_fits (p0 : Int32) (σ : ST) (hI : IA σ)  : OK (f_X6_fits  p0 σ) (RO σ fun v => v.toInt = 0 ∨ v.toInt = 1) := by
  unfold f_X6_fits
  have lt_0 := li_0
  have lt_1 := li_1
  have lt_2 := li_2
  have lt_3 := li_3
  have lt_4 := li_4
  have lt_5 := li_5
  have lt_6 := li_6
  have lt_7 := li_7
  have lt_13 := li_13
  have lt_14 := li_14
  have lt_91 := li_91
  have lt_123 := li_123
  have lFU : ((FU : Nat) : Int) = 100000 := rfl
  refine OK.ieq (fun h1 => ?_) (fun h1 => ?_)
  · skip
    refine OK.bndR (k_X6_isKeyword _ _ hI ) (fun v2 h3 => ?_)
    dsimp only
    refine OK.grd (b01 (by omega)) ?_
    exact OK.roret (by first | trivial | omega | exact hI.flds _ | exact hI.dflds _ | exact hI.recs _ | exact hI.drecs _ | exact hI.droot _ | omega)
  · skip
    refine OK.ieq (fun h4 => ?_) (fun h4 => ?_)
    · skip
      refine OK.bndR (k_X6_isKeyword _ _ hI ) (fun v5 h6 => ?_)
      dsimp only
      refine OK.ieq (fun h7 => ?_) (fun h7 => ?_)
      · skip
        refine OK.bndR (k_X6_isKeyword _ _ hI ) (fun v8 h9 => ?_)
        dsimp only
        refine OK.ieq (fun h10 => ?_) (fun h10 => ?_)
        · skip
          exact OK.roret (by first | trivial | omega | exact hI.flds _ | exact hI.dflds _ | exact hI.recs _ | exact hI.drecs _ | exact hI.droot _ | omega)
        · skip
          exact OK.roq (k_X6_fits_73 _ hI ) (fun v hv => by first | trivial | omega | exact hI.flds _ | exact hI.dflds _ | exact hI.recs _ | exact hI.drecs _ | exact hI.droot _ | omega)
      · skip
        exact OK.roq (k_X6_fits_73 _ hI ) (fun v hv => by first | trivial | omega | exact hI.flds _ | exact hI.dflds _ | exact hI.recs _ | exact hI.drecs _ | exact hI.droot _ | omega)
    · skip
      refine OK.ieq (fun h11 => ?_) (fun h11 => ?_)
      · skip
        refine OK.ieq (fun h12 => ?_) (fun h12 => ?_)
        · skip
          refine OK.ieq (fun h13 => ?_) (fun h13 => ?_)
          · skip
            refine OK.bndR (k_X6_whole _ hI ) (fun v14 h15 => ?_)
            dsimp only
            refine OK.bndR (k_X10_isInt _ _ hI ) (fun v16 h17 => ?_)
            dsimp only
            refine OK.ieq (fun h18 => ?_) (fun h18 => ?_)
            · skip
              exact OK.roret (by first | trivial | omega | exact hI.flds _ | exact hI.dflds _ | exact hI.recs _ | exact hI.drecs _ | exact hI.droot _ | omega)
            · skip
              exact OK.roret (by first | trivial | omega | exact hI.flds _ | exact hI.dflds _ | exact hI.recs _ | exact hI.drecs _ | exact hI.droot _ | omega)
          · skip
            exact OK.roret (by first | trivial | omega | exact hI.flds _ | exact hI.dflds _ | exact hI.recs _ | exact hI.drecs _ | exact hI.droot _ | omega)
        · skip
          exact OK.roret (by first | trivial | omega | exact hI.flds _ | exact hI.dflds _ | exact hI.recs _ | exact hI.drecs _ | exact hI.droot _ | omega)
      · skip
        refine OK.ieq (fun h19 => ?_) (fun h19 => ?_)
        · skip
          refine OK.ieq (fun h20 => ?_) (fun h20 => ?_)
          · skip
            refine OK.ieq (fun h21 => ?_) (fun h21 => ?_)
            · skip
              exact OK.roret (by first | trivial | omega | exact hI.flds _ | exact hI.dflds _ | exact hI.recs _ | exact hI.drecs _ | exact hI.droot _ | omega)
            · skip
              exact OK.roret (by first | trivial | omega | exact hI.flds _ | exact hI.dflds _ | exact hI.recs _ | exact hI.drecs _ | exact hI.droot _ | omega)
          · skip
            exact OK.roret (by first | trivial | omega | exact hI.flds _ | exact hI.dflds _ | exact hI.recs _ | exact hI.drecs _ | exact hI.droot _ | omega)
        · skip
          refine OK.ieq (fun h22 => ?_) (fun h22 => ?_)
          · skip
            refine OK.ieq (fun h23 => ?_) (fun h23 => ?_)
            · skip
              exact OK.roret (by first | trivial | omega | exact hI.flds _ | exact hI.dflds _ | exact hI.recs _ | exact hI.drecs _ | exact hI.droot _ | omega)
            · skip
              exact OK.roret (by first | trivial | omega | exact hI.flds _ | exact hI.dflds _ | exact hI.recs _ | exact hI.drecs _ | exact hI.droot _ | omega)
          · skip
            refine OK.ieq (fun h24 => ?_) (fun h24 => ?_)
            · skip
              refine OK.ieq (fun h25 => ?_) (fun h25 => ?_)
              · skip
                exact OK.roret (by first | trivial | omega | exact hI.flds _ | exact hI.dflds _ | exact hI.recs _ | exact hI.drecs _ | exact hI.droot _ | omega)
              · skip
                exact OK.roret (by first | trivial | omega | exact hI.flds _ | exact hI.dflds _ | exact hI.recs _ | exact hI.drecs _ | exact hI.droot _ | omega)
            · skip
              refine OK.ieq (fun h26 => ?_) (fun h26 => ?_)
              · skip
                refine OK.ieq (fun h27 => ?_) (fun h27 => ?_)
                · skip
                  exact OK.roret (by first | trivial | omega | exact hI.flds _ | exact hI.dflds _ | exact hI.recs _ | exact hI.drecs _ | exact hI.droot _ | omega)
                · skip
                  exact OK.roret (by first | trivial | omega | exact hI.flds _ | exact hI.dflds _ | exact hI.recs _ | exact hI.drecs _ | exact hI.droot _ | omega)
              · skip
                refine OK.ieq (fun h28 => ?_) (fun h28 => ?_)
                · skip
                  refine OK.ieq (fun h29 => ?_) (fun h29 => ?_)
                  · skip
                    exact OK.roret (by first | trivial | omega | exact hI.flds _ | exact hI.dflds _ | exact hI.recs _ | exact hI.drecs _ | exact hI.droot _ | omega)
                  · skip
                    exact OK.roret (by first | trivial | omega | exact hI.flds _ | exact hI.dflds _ | exact hI.recs _ | exact hI.drecs _ | exact hI.droot _ | omega)
                · skip
                  exact OK.roret (by first | trivial | omega | exact hI.flds _ | exact hI.dflds _ | exact hI.recs _ | exact hI.drecs _ | exact hI.droot _ | omega)

theorem k_X6_realBits_42 (x1 : Int64) (σ : ST) (hI : IA σ)  : OK (f_X6_realBits_42  x1 σ) (RO σ fun v => True) := by
  unfold f_X6_realBits_42
  have lt_0 := li_0
  have lt_1 := li_1
  have lFU : ((FU : Nat) : Int) = 100000 := rfl
  exact OK.roret (by first | trivial | omega | exact hI.flds _ | exact hI.dflds _ | exact hI.recs _ | exact hI.drecs _ | exact hI.droot _ | omega)

theorem k_X6_realBits (σ : ST) (hI : IA σ) : OK (f_X6_realBits σ) (RO σ fun _ => True) := by
  unfold f_X6_realBits
  have h1 := FP.Core.ddiv_out (FP.Core.i2d_fin (σ.1 2 11)).notNaN fp10_fin fp10_nz
  have h2 := FP.Core.dadd_out' (FP.Core.l2d_fin (σ.2.1 2 8)) h1
  refine OK.grd (fl_num h1) ?_
  refine OK.grd (fl_num h2) ?_
  refine OK.bndR (k_X10_bitsOfPositive _ _ h2) (fun v h3 => ?_)
  dsimp only
  refine OK.ieq (fun h => OK.roret trivial) (fun h => ?_)
  refine OK.ieq (fun h => ?_) (fun h => ?_)
  · exact OK.ieq (fun h => OK.roret trivial) (fun h => OK.roret trivial)
  · exact OK.roret trivial


theorem k_X6_worth (p0 : Int32) (σ : ST) (hI : IA σ)  : OK (f_X6_worth  p0 σ) (RO σ fun v => True) := by
  unfold f_X6_worth
  have lt_0 := li_0
  have lt_1 := li_1
  have lt_2 := li_2
  have lt_3 := li_3
  have lt_4 := li_4
  have lt_5 := li_5
  have lt_13 := li_13
  have lFU : ((FU : Nat) : Int) = 100000 := rfl
  refine OK.ieq (fun h1 => ?_) (fun h1 => ?_)
  · skip
    refine OK.bndR (k_X6_isKeyword _ _ hI ) (fun v2 h3 => ?_)
    dsimp only
    refine OK.ieq (fun h4 => ?_) (fun h4 => ?_)
    · skip
      exact OK.roret (by first | trivial | omega | exact hI.flds _ | exact hI.dflds _ | exact hI.recs _ | exact hI.drecs _ | exact hI.droot _ | omega)
    · skip
      exact OK.roret (by first | trivial | omega | exact hI.flds _ | exact hI.dflds _ | exact hI.recs _ | exact hI.drecs _ | exact hI.droot _ | omega)
  · skip
    refine OK.ieq (fun h5 => ?_) (fun h5 => ?_)
    · skip
      refine OK.bndR (k_X6_whole _ hI ) (fun v6 h7 => ?_)
      dsimp only
      exact OK.roret (by first | trivial | omega | exact hI.flds _ | exact hI.dflds _ | exact hI.recs _ | exact hI.drecs _ | exact hI.droot _ | omega)
    · skip
      refine OK.ieq (fun h8 => ?_) (fun h8 => ?_)
      · skip
        refine OK.bndR (k_X6_whole _ hI ) (fun v9 h10 => ?_)
        dsimp only
        exact OK.roret (by first | trivial | omega | exact hI.flds _ | exact hI.dflds _ | exact hI.recs _ | exact hI.drecs _ | exact hI.droot _ | omega)
      · skip
        refine OK.ieq (fun h11 => ?_) (fun h11 => ?_)
        · skip
          refine OK.bndR (k_X6_realBits _ hI ) (fun v12 h13 => ?_)
          dsimp only
          exact OK.roret (by first | trivial | omega | exact hI.flds _ | exact hI.dflds _ | exact hI.recs _ | exact hI.drecs _ | exact hI.droot _ | omega)
        · skip
          refine OK.ieq (fun h14 => ?_) (fun h14 => ?_)
          · skip
            exact OK.roret (by first | trivial | omega | exact hI.flds _ | exact hI.dflds _ | exact hI.recs _ | exact hI.drecs _ | exact hI.droot _ | omega)
          · skip
            exact OK.roret (by first | trivial | omega | exact hI.flds _ | exact hI.dflds _ | exact hI.recs _ | exact hI.drecs _ | exact hI.droot _ | omega)

theorem k_X3_parseElse (p0 : Int32) (p1 : Int32) (σ : ST) (hI : IA σ)  : OK (f_X3_parseElse  p0 p1 σ) (RW σ fun v => v.toInt = 0 ∨ v.toInt = 1) := by
  unfold f_X3_parseElse
  have lt_0 := li_0
  have lt_1 := li_1
  have lt_2 := li_2
  have lt_3 := li_3
  have lt_6 := li_6
  have lt_93 := li_93
  have lFU : ((FU : Nat) : Int) = 100000 := rfl
  refine OK.bndR (k_X6_isKeyword _ _ hI ) (fun v1 h2 => ?_)
  dsimp only
  refine OK.ieq (fun h3 => ?_) (fun h3 => ?_)
  · skip
    exact OK.wret hI Fr.rf (by first | trivial | omega | exact hI.flds _ | exact hI.dflds _ | exact hI.recs _ | exact hI.drecs _ | exact hI.droot _ | omega)
  · skip
    refine OK.bndS (k_X6_advance _ hI ) Fr.rf (fun s4 is4 fs4 => ?_)
    try dsimp only
    refine OK.bndR (k_X6_beginsLiteral _ is4 ) (fun v5 h6 => ?_)
    dsimp only
    refine OK.ieq (fun h7 => ?_) (fun h7 => ?_)
    · skip
      refine OK.bndW (k_X6_refuse _ _ is4 ) fs4 (fun v8 s10 is10 fs10 h9 => ?_)
      dsimp only
      refine OK.grd (b01 (by omega)) ?_
      exact OK.wret is10 fs10 (by first | trivial | omega | exact hI.flds _ | exact hI.dflds _ | exact hI.recs _ | exact hI.drecs _ | exact hI.droot _ | omega)
    · skip
      refine OK.bndR (k_X5_typeOf_20 _ _ _ is4 ) (fun v11 h12 => ?_)
      dsimp only
      refine OK.bndR (k_X5_firstChoice_20 _ _ is4 ) (fun v13 h14 => ?_)
      dsimp only
      refine OK.bndR (k_X5_sortOf_20 _ _ is4 ) (fun v15 h16 => ?_)
      dsimp only
      refine OK.bndR (k_X6_fits _ _ is4 ) (fun v17 h18 => ?_)
      dsimp only
      refine OK.ieq (fun h19 => ?_) (fun h19 => ?_)
      · skip
        refine OK.bndW (k_X6_refuse _ _ is4 ) fs4 (fun v20 s22 is22 fs22 h21 => ?_)
        dsimp only
        refine OK.grd (b01 (by omega)) ?_
        exact OK.wret is22 fs22 (by first | trivial | omega | exact hI.flds _ | exact hI.dflds _ | exact hI.recs _ | exact hI.drecs _ | exact hI.droot _ | omega)
      · skip
        refine OK.bndR (k_X6_worth _ _ is4 ) (fun v23 h24 => ?_)
        dsimp only
        refine OK.bndS (k_X5_setElse_20 _ _ _ _ is4 ) fs4 (fun s25 is25 fs25 => ?_)
        try dsimp only
        refine OK.bndS (k_X6_advance _ is25 ) fs25 (fun s26 is26 fs26 => ?_)
        try dsimp only
        refine OK.ieq (fun h27 => ?_) (fun h27 => ?_)
        · skip
          refine OK.ieq (fun h28 => ?_) (fun h28 => ?_)
          · skip
            refine OK.bndS (k_X6_advance _ is26 ) fs26 (fun s29 is29 fs29 => ?_)
            try dsimp only
            exact OK.wret is29 fs29 (by first | trivial | omega | exact hI.flds _ | exact hI.dflds _ | exact hI.recs _ | exact hI.drecs _ | exact hI.droot _ | omega)
          · skip
            refine OK.bndW (k_X6_refuse _ _ is26 ) fs26 (fun v30 s32 is32 fs32 h31 => ?_)
            dsimp only
            refine OK.grd (b01 (by omega)) ?_
            exact OK.wret is32 fs32 (by first | trivial | omega | exact hI.flds _ | exact hI.dflds _ | exact hI.recs _ | exact hI.drecs _ | exact hI.droot _ | omega)
        · skip
          exact OK.wret is26 fs26 (by first | trivial | omega | exact hI.flds _ | exact hI.dflds _ | exact hI.recs _ | exact hI.drecs _ | exact hI.droot _ | omega)
