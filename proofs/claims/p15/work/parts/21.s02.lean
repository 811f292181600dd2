theorem k_X0_walkBranches_13 {N0 : Nat} {r_X0_walk : Int32 → Int32 → Int32 → ST → Option (ST)} (hr_X0_walk : ∀ (p0 : Int32) (p1 : Int32) (p2 : Int32) (σ : ST), IA σ → 0 ≤ p2.toInt ∧ p2.toInt ≤ 41 ∧ (84 : Int) ≤ (N0 : Nat) + 2 * p2.toInt → OK (r_X0_walk p0 p1 p2 σ) (RS σ)) {r_X0_walkBranches : Int32 → Int32 → Int32 → ST → Option (ST)} (hr_X0_walkBranches : ∀ (p0 : Int32) (p1 : Int32) (p2 : Int32) (σ : ST), IA σ → 0 ≤ p2.toInt ∧ p2.toInt ≤ 40 ∧ (83 : Int) ≤ (N0 : Nat) + 2 * p2.toInt → OK (r_X0_walkBranches p0 p1 p2 σ) (RS σ)) {r_X0_walkFields : Int32 → Int32 → Int32 → ST → Option (ST)} (hr_X0_walkFields : ∀ (p0 : Int32) (p1 : Int32) (p2 : Int32) (σ : ST), IA σ → 0 ≤ p2.toInt ∧ p2.toInt ≤ 40 ∧ (83 : Int) ≤ (N0 : Nat) + 2 * p2.toInt → OK (r_X0_walkFields p0 p1 p2 σ) (RS σ)) : ∀ (n : Nat) (x2 : Int32) (x3 : Int32) (x4 : Int32) (x5 : Int32) (σ : ST), IA σ → ((0 ≤ x3.toInt ∧ x3.toInt ≤ 40 ∧ (83 : Int) ≤ (N0 + 1 : Nat) + 2 * x3.toInt) ∧ 0 ≤ x5.toInt ∧ x5.toInt ≤ 4 ∧ (4 : Int) - x5.toInt < n) → OK (f_X0_walkBranches_13 r_X0_walk r_X0_walkBranches r_X0_walkFields  n x2 x3 x4 x5 σ) (RS σ) := by
  intro n
  induction n with
  | zero =>
    intro x2 x3 x4 x5 σ hI hv
    omega
  | succ n ih =>
    intro x2 x3 x4 x5 σ hI hv
    rw [f_X0_walkBranches_13]
    have lt_m1 := li_m1
    have lt_0 := li_0
    have lt_1 := li_1
    have lt_4 := li_4
    have lt_200 := li_200
    have lFU : ((FU : Nat) : Int) = 100000 := rfl
    have lFR : ((FR : Nat) : Int) = 160 := rfl
    refine OK.ile (fun h1 => ?_) (fun h1 => ?_)
    · skip
      exact OK.sret hI Fr.rf
    · skip
      refine OK.ieq (fun h2 => ?_) (fun h2 => ?_)
      · skip
        exact OK.sret hI Fr.rf
      · skip
        refine OK.bndS (k_X0_step _ _ hI ) Fr.rf (fun s3 is3 fs3 => ?_)
        try dsimp only
        refine OK.bndR (k_X0_fits _ _ _ is3 ) (fun v4 h5 => ?_)
        dsimp only
        refine OK.ieq (fun h6 => ?_) (fun h6 => ?_)
        · skip
          refine OK.bndS (k_X0_addMiss _ _ is3 ) fs3 (fun s7 is7 fs7 => ?_)
          try dsimp only
          unfold f_X0_walkBranches_63
          try dsimp only
          have iz10 : IA (stI s7 41 11 ((s7.1 41 11) - 1)) := (ia_I_41 is7)
          have fz10 : Fr σ (stI s7 41 11 ((s7.1 41 11) - 1)) := (fr_I_41 fs7)
          generalize (stI s7 41 11 ((s7.1 41 11) - 1)) = z10 at iz10 fz10 ⊢
          refine OK.bndR (k_X5_branchAfter_4 _ _ iz10 ) (fun v8 h9 => ?_)
          dsimp only
          obtain ⟨a11k, a11, a11l, a11r⟩ := i_add x5 1
          try (refine k0el (k := a11k) ?_ (fun e0 => ?_); (focus omega); subst e0)
          exact OK.trS (ih _ _ _ _ _ iz10 (by omega)) fz10
        · skip
          obtain ⟨a12k, a12, a12l, a12r⟩ := i_add x3 1
          try (refine k0el (k := a12k) ?_ (fun e0 => ?_); (focus omega); subst e0)
          refine OK.bndS (hr_X0_walk _ _ _ _ is3 (by omega)) fs3 (fun s13 is13 fs13 => ?_)
          try dsimp only
          unfold f_X0_walkBranches_63
          try dsimp only
          have iz16 : IA (stI s13 41 11 ((s13.1 41 11) - 1)) := (ia_I_41 is13)
          have fz16 : Fr σ (stI s13 41 11 ((s13.1 41 11) - 1)) := (fr_I_41 fs13)
          generalize (stI s13 41 11 ((s13.1 41 11) - 1)) = z16 at iz16 fz16 ⊢
          refine OK.bndR (k_X5_branchAfter_4 _ _ iz16 ) (fun v14 h15 => ?_)
          dsimp only
          obtain ⟨a17k, a17, a17l, a17r⟩ := i_add x5 1
          try (refine k0el (k := a17k) ?_ (fun e0 => ?_); (focus omega); subst e0)
          exact OK.trS (ih _ _ _ _ _ iz16 (by omega)) fz16

theorem k_X0_walkBranches {N0 : Nat} {r_X0_walk : Int32 → Int32 → Int32 → ST → Option (ST)} (hr_X0_walk : ∀ (p0 : Int32) (p1 : Int32) (p2 : Int32) (σ : ST), IA σ → 0 ≤ p2.toInt ∧ p2.toInt ≤ 41 ∧ (84 : Int) ≤ (N0 : Nat) + 2 * p2.toInt → OK (r_X0_walk p0 p1 p2 σ) (RS σ)) {r_X0_walkBranches : Int32 → Int32 → Int32 → ST → Option (ST)} (hr_X0_walkBranches : ∀ (p0 : Int32) (p1 : Int32) (p2 : Int32) (σ : ST), IA σ → 0 ≤ p2.toInt ∧ p2.toInt ≤ 40 ∧ (83 : Int) ≤ (N0 : Nat) + 2 * p2.toInt → OK (r_X0_walkBranches p0 p1 p2 σ) (RS σ)) {r_X0_walkFields : Int32 → Int32 → Int32 → ST → Option (ST)} (hr_X0_walkFields : ∀ (p0 : Int32) (p1 : Int32) (p2 : Int32) (σ : ST), IA σ → 0 ≤ p2.toInt ∧ p2.toInt ≤ 40 ∧ (83 : Int) ≤ (N0 : Nat) + 2 * p2.toInt → OK (r_X0_walkFields p0 p1 p2 σ) (RS σ)) (p0 : Int32) (p1 : Int32) (p2 : Int32) (σ : ST) (hI : IA σ) (hv : 0 ≤ p2.toInt ∧ p2.toInt ≤ 40 ∧ (83 : Int) ≤ (N0 + 1 : Nat) + 2 * p2.toInt)  : OK (f_X0_walkBranches r_X0_walk r_X0_walkBranches r_X0_walkFields  p0 p1 p2 σ) (RS σ) := by
  unfold f_X0_walkBranches
  have lt_0 := li_0
  have lt_1 := li_1
  have lFU : ((FU : Nat) : Int) = 100000 := rfl
  have lFR : ((FR : Nat) : Int) = 160 := rfl
  refine OK.bndR (k_X5_innerOf_4 _ _ hI ) (fun v1 h2 => ?_)
  dsimp only
  exact OK.trS (k_X0_walkBranches_13 hr_X0_walk hr_X0_walkBranches hr_X0_walkFields FU _ _ _ _ _ hI (by omega)) Fr.rf

theorem k_X0_walkFields_33 {N0 : Nat} {r_X0_walk : Int32 → Int32 → Int32 → ST → Option (ST)} (hr_X0_walk : ∀ (p0 : Int32) (p1 : Int32) (p2 : Int32) (σ : ST), IA σ → 0 ≤ p2.toInt ∧ p2.toInt ≤ 41 ∧ (84 : Int) ≤ (N0 : Nat) + 2 * p2.toInt → OK (r_X0_walk p0 p1 p2 σ) (RS σ)) {r_X0_walkBranches : Int32 → Int32 → Int32 → ST → Option (ST)} (hr_X0_walkBranches : ∀ (p0 : Int32) (p1 : Int32) (p2 : Int32) (σ : ST), IA σ → 0 ≤ p2.toInt ∧ p2.toInt ≤ 40 ∧ (83 : Int) ≤ (N0 : Nat) + 2 * p2.toInt → OK (r_X0_walkBranches p0 p1 p2 σ) (RS σ)) {r_X0_walkFields : Int32 → Int32 → Int32 → ST → Option (ST)} (hr_X0_walkFields : ∀ (p0 : Int32) (p1 : Int32) (p2 : Int32) (σ : ST), IA σ → 0 ≤ p2.toInt ∧ p2.toInt ≤ 40 ∧ (83 : Int) ≤ (N0 : Nat) + 2 * p2.toInt → OK (r_X0_walkFields p0 p1 p2 σ) (RS σ)) : ∀ (n : Nat) (x1 : Int32) (x2 : Int32) (x3 : Int32) (x4 : Int32) (σ : ST), IA σ → ((0 ≤ x3.toInt ∧ x3.toInt ≤ 40 ∧ (83 : Int) ≤ (N0 + 1 : Nat) + 2 * x3.toInt) ∧ 0 ≤ x4.toInt ∧ x4.toInt ≤ 8 ∧ (8 : Int) - x4.toInt < n) → OK (f_X0_walkFields_33 r_X0_walk r_X0_walkBranches r_X0_walkFields  n x1 x2 x3 x4 σ) (RS σ) := by
  intro n
  induction n with
  | zero =>
    intro x1 x2 x3 x4 σ hI hv
    omega
  | succ n ih =>
    intro x1 x2 x3 x4 σ hI hv
    rw [f_X0_walkFields_33]
    have lt_m1 := li_m1
    have lt_0 := li_0
    have lt_1 := li_1
    have lFU : ((FU : Nat) : Int) = 100000 := rfl
    have lFR : ((FR : Nat) : Int) = 160 := rfl
    refine OK.bndR (k_X5_fieldsOf_4 _ _ hI ) (fun v1 h2 => ?_)
    dsimp only
    refine OK.ile (fun h3 => ?_) (fun h3 => ?_)
    · skip
      exact OK.sret hI Fr.rf
    · skip
      refine OK.bndS (k_X0_step _ _ hI ) Fr.rf (fun s4 is4 fs4 => ?_)
      try dsimp only
      refine OK.bndR (k_X5_sourceOf_4 _ _ _ _ is4 ) (fun v5 h6 => ?_)
      dsimp only
      refine OK.ieq (fun h7 => ?_) (fun h7 => ?_)
      · skip
        refine OK.bndR (k_X5_hasElse_4 _ _ _ is4 ) (fun v8 h9 => ?_)
        dsimp only
        refine OK.ieq (fun h10 => ?_) (fun h10 => ?_)
        · skip
          refine OK.bndS (k_X0_addMiss _ _ is4 ) fs4 (fun s11 is11 fs11 => ?_)
          try dsimp only
          unfold f_X0_walkFields_119
          try dsimp only
          obtain ⟨a12k, a12, a12l, a12r⟩ := i_add x4 1
          try (refine k0el (k := a12k) ?_ (fun e0 => ?_); (focus omega); subst e0)
          exact OK.trS (ih _ _ _ _ _ (ia_I_41 is11) (by omega)) (fr_I_41 fs11)
        · skip
          unfold f_X0_walkFields_119
          try dsimp only
          obtain ⟨a13k, a13, a13l, a13r⟩ := i_add x4 1
          try (refine k0el (k := a13k) ?_ (fun e0 => ?_); (focus omega); subst e0)
          exact OK.trS (ih _ _ _ _ _ (ia_I_41 is4) (by omega)) (fr_I_41 fs4)
      · skip
        refine OK.bndR (k_X5_typeOf_4 _ _ _ is4 ) (fun v14 h15 => ?_)
        dsimp only
        refine OK.bndR (k_X5_typeOf_4 _ _ _ is4 ) (fun v16 h17 => ?_)
        dsimp only
        obtain ⟨a18k, a18, a18l, a18r⟩ := i_add x3 1
        try (refine k0el (k := a18k) ?_ (fun e0 => ?_); (focus omega); subst e0)
        refine OK.bndS (hr_X0_walk _ _ _ _ is4 (by omega)) fs4 (fun s19 is19 fs19 => ?_)
        try dsimp only
        unfold f_X0_walkFields_119
        try dsimp only
        obtain ⟨a20k, a20, a20l, a20r⟩ := i_add x4 1
        try (refine k0el (k := a20k) ?_ (fun e0 => ?_); (focus omega); subst e0)
        exact OK.trS (ih _ _ _ _ _ (ia_I_41 is19) (by omega)) (fr_I_41 fs19)

theorem k_X0_walkFields {N0 : Nat} {r_X0_walk : Int32 → Int32 → Int32 → ST → Option (ST)} (hr_X0_walk : ∀ (p0 : Int32) (p1 : Int32) (p2 : Int32) (σ : ST), IA σ → 0 ≤ p2.toInt ∧ p2.toInt ≤ 41 ∧ (84 : Int) ≤ (N0 : Nat) + 2 * p2.toInt → OK (r_X0_walk p0 p1 p2 σ) (RS σ)) {r_X0_walkBranches : Int32 → Int32 → Int32 → ST → Option (ST)} (hr_X0_walkBranches : ∀ (p0 : Int32) (p1 : Int32) (p2 : Int32) (σ : ST), IA σ → 0 ≤ p2.toInt ∧ p2.toInt ≤ 40 ∧ (83 : Int) ≤ (N0 : Nat) + 2 * p2.toInt → OK (r_X0_walkBranches p0 p1 p2 σ) (RS σ)) {r_X0_walkFields : Int32 → Int32 → Int32 → ST → Option (ST)} (hr_X0_walkFields : ∀ (p0 : Int32) (p1 : Int32) (p2 : Int32) (σ : ST), IA σ → 0 ≤ p2.toInt ∧ p2.toInt ≤ 40 ∧ (83 : Int) ≤ (N0 : Nat) + 2 * p2.toInt → OK (r_X0_walkFields p0 p1 p2 σ) (RS σ)) (p0 : Int32) (p1 : Int32) (p2 : Int32) (σ : ST) (hI : IA σ) (hv : 0 ≤ p2.toInt ∧ p2.toInt ≤ 40 ∧ (83 : Int) ≤ (N0 + 1 : Nat) + 2 * p2.toInt)  : OK (f_X0_walkFields r_X0_walk r_X0_walkBranches r_X0_walkFields  p0 p1 p2 σ) (RS σ) := by
  unfold f_X0_walkFields
  have lt_0 := li_0
  have lt_1 := li_1
  have lFU : ((FU : Nat) : Int) = 100000 := rfl
  have lFR : ((FR : Nat) : Int) = 160 := rfl
  refine OK.bndR (k_X0_bitOf _ _ _ hI ) (fun v1 h2 => ?_)
  dsimp only
  refine OK.ieq (fun h3 => ?_) (fun h3 => ?_)
  · skip
    refine OK.bndR (k_X0_bitOf _ _ _ hI ) (fun v4 h5 => ?_)
    dsimp only
    exact OK.trS (k_X0_walkFields_33 hr_X0_walk hr_X0_walkBranches hr_X0_walkFields FU _ _ _ _ _ (ia_L hI) (by omega)) (fr_L Fr.rf)
  · skip
    exact OK.sret hI Fr.rf

theorem kR_X0_walk : ∀ n : Nat, (∀ (p0 : Int32) (p1 : Int32) (p2 : Int32) (σ : ST), IA σ → 0 ≤ p2.toInt ∧ p2.toInt ≤ 41 ∧ (84 : Int) ≤ (n : Nat) + 2 * p2.toInt → OK ((R_X0_walk n).1 p0 p1 p2 σ) (RS σ)) ∧ (∀ (p0 : Int32) (p1 : Int32) (p2 : Int32) (σ : ST), IA σ → 0 ≤ p2.toInt ∧ p2.toInt ≤ 40 ∧ (83 : Int) ≤ (n : Nat) + 2 * p2.toInt → OK ((R_X0_walk n).2.1 p0 p1 p2 σ) (RS σ)) ∧ (∀ (p0 : Int32) (p1 : Int32) (p2 : Int32) (σ : ST), IA σ → 0 ≤ p2.toInt ∧ p2.toInt ≤ 40 ∧ (83 : Int) ≤ (n : Nat) + 2 * p2.toInt → OK ((R_X0_walk n).2.2 p0 p1 p2 σ) (RS σ)) := by
  intro n
  induction n with
  | zero =>
    refine ⟨?_, ?_, ?_⟩
    · intro p0 p1 p2 σ hI hv; omega
    · intro p0 p1 p2 σ hI hv; omega
    · intro p0 p1 p2 σ hI hv; omega
  | succ n ih =>
    obtain ⟨ih0, ih1, ih2⟩ := ih
    refine ⟨?_, ?_, ?_⟩
    · intro p0 p1 p2 σ hI hv; exact k_X0_walk (N0 := n) ih0 ih1 ih2 p0 p1 p2 σ hI (by omega)
    · intro p0 p1 p2 σ hI hv; exact k_X0_walkBranches (N0 := n) ih0 ih1 ih2 p0 p1 p2 σ hI (by omega)
    · intro p0 p1 p2 σ hI hv; exact k_X0_walkFields (N0 := n) ih0 ih1 ih2 p0 p1 p2 σ hI (by omega)
theorem kT_X0_walk (p0 : Int32) (p1 : Int32) (p2 : Int32) (σ : ST) (hI : IA σ) (hv : 0 ≤ p2.toInt ∧ p2.toInt ≤ 41 ∧ (84 : Int) ≤ (FR : Nat) + 2 * p2.toInt) : OK (f_T_X0_walk p0 p1 p2 σ) (RS σ) := (kR_X0_walk FR).1 p0 p1 p2 σ hI hv
theorem kT_X0_walkBranches (p0 : Int32) (p1 : Int32) (p2 : Int32) (σ : ST) (hI : IA σ) (hv : 0 ≤ p2.toInt ∧ p2.toInt ≤ 40 ∧ (83 : Int) ≤ (FR : Nat) + 2 * p2.toInt) : OK (f_T_X0_walkBranches p0 p1 p2 σ) (RS σ) := (kR_X0_walk FR).2.1 p0 p1 p2 σ hI hv
theorem kT_X0_walkFields (p0 : Int32) (p1 : Int32) (p2 : Int32) (σ : ST) (hI : IA σ) (hv : 0 ≤ p2.toInt ∧ p2.toInt ≤ 40 ∧ (83 : Int) ≤ (FR : Nat) + 2 * p2.toInt) : OK (f_T_X0_walkFields p0 p1 p2 σ) (RS σ) := (kR_X0_walk FR).2.2 p0 p1 p2 σ hI hv

theorem k_X5_rootType_4 (p0 : Int32) (σ : ST) (hI : IA σ)  : OK (f_X5_rootType 4 p0 σ) (RO σ fun v => True) := by
  unfold f_X5_rootType
  have lt_m1 := li_m1
  have lt_0 := li_0
  have lt_1 := li_1
  have lt_6 := li_6
  have lFU : ((FU : Nat) : Int) = 100000 := rfl
  refine OK.ilt (fun h1 => ?_) (fun h1 => ?_)
  · skip
    exact OK.roret (by first | trivial | omega | exact hI.flds _ | exact hI.dflds _ | exact hI.recs _ | exact hI.drecs _ | exact hI.droot _ | omega)
  · skip
    refine OK.ile (fun h2 => ?_) (fun h2 => ?_)
    · skip
      exact OK.roret (by first | trivial | omega | exact hI.flds _ | exact hI.dflds _ | exact hI.recs _ | exact hI.drecs _ | exact hI.droot _ | omega)
    · skip
      refine OK.grd ⟨by omega, by omega⟩ ?_
      exact OK.roret (by first | trivial | omega | exact hI.flds _ | exact hI.dflds _ | exact hI.recs _ | exact hI.drecs _ | exact hI.droot _ | omega)

theorem k_X5_rootType_20 (p0 : Int32) (σ : ST) (hI : IA σ)  : OK (f_X5_rootType 20 p0 σ) (RO σ fun v => -1 ≤ v.toInt) := by
  unfold f_X5_rootType
  have lt_m1 := li_m1
  have lt_0 := li_0
  have lt_1 := li_1
  have lt_6 := li_6
  have lFU : ((FU : Nat) : Int) = 100000 := rfl
  refine OK.ilt (fun h1 => ?_) (fun h1 => ?_)
  · skip
    exact OK.roret (by first | trivial | omega | exact hI.flds _ | exact hI.dflds _ | exact hI.recs _ | exact hI.drecs _ | exact hI.droot _ | omega)
  · skip
    refine OK.ile (fun h2 => ?_) (fun h2 => ?_)
    · skip
      exact OK.roret (by first | trivial | omega | exact hI.flds _ | exact hI.dflds _ | exact hI.recs _ | exact hI.drecs _ | exact hI.droot _ | omega)
    · skip
      refine OK.grd ⟨by omega, by omega⟩ ?_
      exact OK.roret (by first | trivial | omega | exact hI.flds _ | exact hI.dflds _ | exact hI.recs _ | exact hI.drecs _ | exact hI.droot _ | omega)

theorem k_X0_collectMisses (p0 : Int32) (p1 : Int32) (σ : ST) (hI : IA σ)  : OK (f_X0_collectMisses  p0 p1 σ) (RS σ) := by
  unfold f_X0_collectMisses
  have lt_0 := li_0
  have lt_1 := li_1
  have lFU : ((FU : Nat) : Int) = 100000 := rfl
  have lFR : ((FR : Nat) : Int) = 160 := rfl
  refine OK.bndR (k_X0_pairOf _ _ _ hI ) (fun v1 h2 => ?_)
  dsimp only
  refine OK.ieq (fun h3 => ?_) (fun h3 => ?_)
  · skip
    exact OK.sret hI Fr.rf
  · skip
    have iz6 : IA (stL (stI (stI (stI σ 41 5 v1) 41 6 0) 41 11 0) 41 12 0) := (ia_L (ia_I_41 (ia_I_41 (ia_I_41 hI))))
    have fz6 : Fr σ (stL (stI (stI (stI σ 41 5 v1) 41 6 0) 41 11 0) 41 12 0) := (fr_L (fr_I_41 (fr_I_41 (fr_I_41 Fr.rf))))
    generalize (stL (stI (stI (stI σ 41 5 v1) 41 6 0) 41 11 0) 41 12 0) = z6 at iz6 fz6 ⊢
    refine OK.bndR (k_X5_rootType_4 _ _ iz6 ) (fun v4 h5 => ?_)
    dsimp only
    refine OK.bndR (k_X5_rootType_4 _ _ iz6 ) (fun v7 h8 => ?_)
    dsimp only
    refine OK.bndS (kT_X0_walk _ _ _ _ iz6 (by omega)) fz6 (fun s9 is9 fs9 => ?_)
    try dsimp only
    exact OK.sret is9 fs9

theorem k_X0_fieldsFit_2 : ∀ (n : Nat) (x1 : Int32) (x2 : Int32) (x3 : Int32) (σ : ST), IA σ → (0 ≤ x3.toInt ∧ x3.toInt ≤ 8 ∧ (8 : Int) - x3.toInt < n) → OK (f_X0_fieldsFit_2  n x1 x2 x3 σ) (RO σ fun v => v.toInt = 0 ∨ v.toInt = 1) := by
  intro n
  induction n with
  | zero =>
    intro x1 x2 x3 σ hI hv
    omega
  | succ n ih =>
    intro x1 x2 x3 σ hI hv
    rw [f_X0_fieldsFit_2]
    have lt_m1 := li_m1
    have lt_0 := li_0
    have lt_1 := li_1
    have lFU : ((FU : Nat) : Int) = 100000 := rfl
    have lFR : ((FR : Nat) : Int) = 160 := rfl
    refine OK.bndR (k_X5_fieldsOf_4 _ _ hI ) (fun v1 h2 => ?_)
    dsimp only
    refine OK.ile (fun h3 => ?_) (fun h3 => ?_)
    · skip
      exact OK.roret (by first | trivial | omega | exact hI.flds _ | exact hI.dflds _ | exact hI.recs _ | exact hI.drecs _ | exact hI.droot _ | omega)
    · skip
      refine OK.bndR (k_X5_sourceOf_4 _ _ _ _ hI ) (fun v4 h5 => ?_)
      dsimp only
      refine OK.ieq (fun h6 => ?_) (fun h6 => ?_)
      · skip
        refine OK.bndR (k_X5_hasElse_4 _ _ _ hI ) (fun v7 h8 => ?_)
        dsimp only
        unfold f_X0_fieldsFit_68
        try dsimp only
        refine OK.ieq (fun h9 => ?_) (fun h9 => ?_)
        · skip
          exact OK.roret (by first | trivial | omega | exact hI.flds _ | exact hI.dflds _ | exact hI.recs _ | exact hI.drecs _ | exact hI.droot _ | omega)
        · skip
          obtain ⟨a10k, a10, a10l, a10r⟩ := i_add x3 1
          try (refine k0el (k := a10k) ?_ (fun e0 => ?_); (focus omega); subst e0)
          exact OK.roq (ih _ _ _ _ hI (by omega)) (fun v hv => by first | trivial | omega | exact hI.flds _ | exact hI.dflds _ | exact hI.recs _ | exact hI.drecs _ | exact hI.droot _ | omega)
      · skip
        refine OK.bndR (k_X5_typeOf_4 _ _ _ hI ) (fun v11 h12 => ?_)
        dsimp only
        refine OK.bndR (k_X5_typeOf_4 _ _ _ hI ) (fun v13 h14 => ?_)
        dsimp only
        refine OK.bndR (kT_X0_fitsWithin _ _ _ _ hI (by omega)) (fun v15 h16 => ?_)
        dsimp only
        unfold f_X0_fieldsFit_68
        try dsimp only
        refine OK.ieq (fun h17 => ?_) (fun h17 => ?_)
        · skip
          exact OK.roret (by first | trivial | omega | exact hI.flds _ | exact hI.dflds _ | exact hI.recs _ | exact hI.drecs _ | exact hI.droot _ | omega)
        · skip
          obtain ⟨a18k, a18, a18l, a18r⟩ := i_add x3 1
          try (refine k0el (k := a18k) ?_ (fun e0 => ?_); (focus omega); subst e0)
          exact OK.roq (ih _ _ _ _ hI (by omega)) (fun v hv => by first | trivial | omega | exact hI.flds _ | exact hI.dflds _ | exact hI.recs _ | exact hI.drecs _ | exact hI.droot _ | omega)

theorem k_X0_fieldsFit (p0 : Int32) (p1 : Int32) (σ : ST) (hI : IA σ)  : OK (f_X0_fieldsFit  p0 p1 σ) (RO σ fun v => v.toInt = 0 ∨ v.toInt = 1) := by
  unfold f_X0_fieldsFit
  have lt_0 := li_0
  have lt_1 := li_1
  have lFU : ((FU : Nat) : Int) = 100000 := rfl
  exact OK.roq (k_X0_fieldsFit_2 FU _ _ _ _ hI (by omega)) (fun v hv => by first | trivial | omega | exact hI.flds _ | exact hI.dflds _ | exact hI.recs _ | exact hI.drecs _ | exact hI.droot _ | omega)

theorem k_X5_recordsOf_4 (p0 : Int32) (σ : ST) (hI : IA σ) : OK (f_X5_recordsOf 4 p0 σ) (RO σ fun v => (0 ≤ v.toInt ∧ v.toInt ≤ 36) ∧ (p0.toInt < 0 ∨ 6 ≤ p0.toInt ∨ v.toInt = (σ.1 (4 + 1) p0.toNatClampNeg).toInt)) := by
  unfold f_X5_recordsOf
  have lt_0 := li_0
  have lt_6 := li_6
  refine OK.ilt (fun h => OK.roret (by omega)) (fun h1 => ?_)
  refine OK.ile (fun h => OK.roret (by omega)) (fun h2 => ?_)
  refine OK.grd ⟨by omega, by omega⟩ ?_
  exact OK.roret ⟨hI.recs _, .inr (.inr rfl)⟩


theorem k_X5_recordsOf_20 (p0 : Int32) (σ : ST) (hI : IA σ) : OK (f_X5_recordsOf 20 p0 σ) (RO σ fun v => (0 ≤ v.toInt ∧ v.toInt ≤ 36) ∧ (p0.toInt < 0 ∨ 6 ≤ p0.toInt ∨ v.toInt = (σ.1 (20 + 1) p0.toNatClampNeg).toInt)) := by
  unfold f_X5_recordsOf
  have lt_0 := li_0
  have lt_6 := li_6
  refine OK.ilt (fun h => OK.roret (by omega)) (fun h1 => ?_)
  refine OK.ile (fun h => OK.roret (by omega)) (fun h2 => ?_)
  refine OK.grd ⟨by omega, by omega⟩ ?_
  exact OK.roret ⟨hI.drecs _, .inr (.inr rfl)⟩


theorem k_X0_relate_22 {k7 : Int32 → Int32 → Int32 → ST → Option (ST)} {P : ST → Prop} : ∀ (n : Nat) (x1 : Int32) (x2 : Int32) (x3 : Int32) (x4 : Int32) (σ : ST), IA σ → (∀ s9 : ST, IA s9 → Fr σ s9 → OK (k7 x1 x2 (x3 + 1) s9) P) → (0 ≤ x4.toInt ∧ x4.toInt ≤ 36 ∧ (36 : Int) - x4.toInt < n) → OK (f_X0_relate_22 k7  n x1 x2 x3 x4 σ) P := by
  intro n
  induction n with
  | zero =>
    intro x1 x2 x3 x4 σ hI hk hv
    omega
  | succ n ih =>
    intro x1 x2 x3 x4 σ hI hk hv
    rw [f_X0_relate_22]
    have lt_0 := li_0
    have lt_1 := li_1
    have lt_6 := li_6
    have lFU : ((FU : Nat) : Int) = 100000 := rfl
    refine OK.bndR (k_X5_recordsOf_4 _ _ hI ) (fun v1 h2 => ?_)
    dsimp only
    refine OK.ile (fun h3 => ?_) (fun h3 => ?_)
    · skip
      obtain ⟨a4k, a4, a4l, a4r⟩ := i_add x3 1
      try (refine k0el (k := a4k) ?_ (fun e0 => ?_); (focus omega); subst e0)
      exact (hk _ hI Fr.rf)
    · skip
      refine OK.bndR (k_X0_mayPair _ _ _ hI ) (fun v5 h6 => ?_)
      dsimp only
      refine OK.ieq (fun h7 => ?_) (fun h7 => ?_)
      · skip
        unfold f_X0_relate_70
        try dsimp only
        obtain ⟨a8k, a8, a8l, a8r⟩ := i_add x4 1
        try (refine k0el (k := a8k) ?_ (fun e0 => ?_); (focus omega); subst e0)
        exact (ih _ _ _ _ _ hI (fun s9 i9 f9 => hk s9 i9 (Fr.trans Fr.rf f9)) (by omega))
      · skip
        refine OK.bndR (k_X0_bitOf _ _ _ hI ) (fun v9 h10 => ?_)
        dsimp only
        unfold f_X0_relate_70
        try dsimp only
        obtain ⟨a11k, a11, a11l, a11r⟩ := i_add x4 1
        try (refine k0el (k := a11k) ?_ (fun e0 => ?_); (focus omega); subst e0)
        exact (ih _ _ _ _ _ (ia_L hI) (fun s9 i9 f9 => hk s9 i9 (Fr.trans (fr_L Fr.rf) f9)) (by omega))

theorem k_X0_relate_121 {k87 : Int32 → Int32 → Int64 → Int32 → ST → Option (ST)} {k111 : Int32 → Int32 → Int64 → Int32 → Int32 → ST → Option (ST)} {P : ST → Prop} : ∀ (n : Nat) (x1 : Int32) (x2 : Int32) (x3 : Int64) (x5 : Int32) (x6 : Int32) (x7 : Int32) (σ : ST), IA σ → (∀ s9 : ST, IA s9 → Fr σ s9 → OK (k111 x1 x2 x3 x5 (x6 + 1) s9) P) → (0 ≤ x7.toInt ∧ x7.toInt ≤ 6 ∧ (6 : Int) - x7.toInt < n) → OK (f_X0_relate_121 k87 k111  n x1 x2 x3 x5 x6 x7 σ) P := by
  intro n
  induction n with
  | zero =>
    intro x1 x2 x3 x5 x6 x7 σ hI hk hv
    omega
  | succ n ih =>
    intro x1 x2 x3 x5 x6 x7 σ hI hk hv
    rw [f_X0_relate_121]
    have lt_0 := li_0
    have lt_1 := li_1
    have lt_6 := li_6
    have lFU : ((FU : Nat) : Int) = 100000 := rfl
    refine OK.ile (fun h1 => ?_) (fun h1 => ?_)
    · skip
      obtain ⟨a2k, a2, a2l, a2r⟩ := i_add x6 1
      try (refine k0el (k := a2k) ?_ (fun e0 => ?_); (focus omega); subst e0)
      exact (hk _ hI Fr.rf)
    · skip
      refine OK.bndR (k_X0_bitOf _ _ _ hI ) (fun v3 h4 => ?_)
      dsimp only
      refine OK.ieq (fun h5 => ?_) (fun h5 => ?_)
      · skip
        unfold f_X0_relate_186
        try dsimp only
        obtain ⟨a6k, a6, a6l, a6r⟩ := i_add x7 1
        try (refine k0el (k := a6k) ?_ (fun e0 => ?_); (focus omega); subst e0)
        exact (ih _ _ _ _ _ _ _ hI (fun s9 i9 f9 => hk s9 i9 (Fr.trans Fr.rf f9)) (by omega))
      · skip
        refine OK.bndR (k_X0_fieldsFit _ _ _ hI ) (fun v7 h8 => ?_)
        dsimp only
        refine OK.ieq (fun h9 => ?_) (fun h9 => ?_)
        · skip
          refine OK.bndR (k_X0_bitOf _ _ _ hI ) (fun v10 h11 => ?_)
          dsimp only
          unfold f_X0_relate_186
          try dsimp only
          obtain ⟨a12k, a12, a12l, a12r⟩ := i_add x7 1
          try (refine k0el (k := a12k) ?_ (fun e0 => ?_); (focus omega); subst e0)
          exact (ih _ _ _ _ _ _ _ (ia_L hI) (fun s9 i9 f9 => hk s9 i9 (Fr.trans (fr_L Fr.rf) f9)) (by omega))
        · skip
          unfold f_X0_relate_186
          try dsimp only
          obtain ⟨a13k, a13, a13l, a13r⟩ := i_add x7 1
          try (refine k0el (k := a13k) ?_ (fun e0 => ?_); (focus omega); subst e0)
          exact (ih _ _ _ _ _ _ _ hI (fun s9 i9 f9 => hk s9 i9 (Fr.trans Fr.rf f9)) (by omega))

theorem k_X0_relate_111 {k87 : Int32 → Int32 → Int64 → Int32 → ST → Option (ST)} {P : ST → Prop} : ∀ (n : Nat) (x1 : Int32) (x2 : Int32) (x3 : Int64) (x5 : Int32) (x6 : Int32) (σ : ST), IA σ → (∀ s9 : ST, IA s9 → Fr σ s9 → OK (k87 x1 x2 x3 (x5 + 1) s9) P) → (0 ≤ x6.toInt ∧ x6.toInt ≤ 6 ∧ (6 : Int) - x6.toInt < n) → OK (f_X0_relate_111 k87  n x1 x2 x3 x5 x6 σ) P := by
  intro n
  induction n with
  | zero =>
    intro x1 x2 x3 x5 x6 σ hI hk hv
    omega
  | succ n ih =>
    intro x1 x2 x3 x5 x6 σ hI hk hv
    rw [f_X0_relate_111]
    have lt_0 := li_0
    have lt_1 := li_1
    have lt_6 := li_6
    have lFU : ((FU : Nat) : Int) = 100000 := rfl
    refine OK.ile (fun h1 => ?_) (fun h1 => ?_)
    · skip
      obtain ⟨a2k, a2, a2l, a2r⟩ := i_add x5 1
      try (refine k0el (k := a2k) ?_ (fun e0 => ?_); (focus omega); subst e0)
      exact (hk _ hI Fr.rf)
    · skip
      obtain ⟨a3k, a3, a3l, a3r⟩ := i_add x6 1
      try (refine k0el (k := a3k) ?_ (fun e0 => ?_); (focus omega); subst e0)
      exact (k_X0_relate_121 FU _ _ _ _ _ _ _ hI (fun s9 i9 f9 => ih _ _ _ _ _ _ i9 (fun s8 i8 f8 => hk s8 i8 (Fr.trans (Fr.trans Fr.rf f9) f8)) (by omega)) (by omega))

theorem k_X0_relate_87 : ∀ (n : Nat) (x1 : Int32) (x2 : Int32) (x3 : Int64) (x5 : Int32) (σ : ST), IA σ → (0 ≤ x5.toInt ∧ x5.toInt ≤ 37 ∧ (37 : Int) - x5.toInt < n) → OK (f_X0_relate_87  n x1 x2 x3 x5 σ) (RS σ) := by
  intro n
  induction n with
  | zero =>
    intro x1 x2 x3 x5 σ hI hv
    omega
  | succ n ih =>
    intro x1 x2 x3 x5 σ hI hv
    rw [f_X0_relate_87]
    have lt_0 := li_0
    have lt_1 := li_1
    have lt_36 := li_36
    have lFU : ((FU : Nat) : Int) = 100000 := rfl
    refine OK.ilt (fun h1 => ?_) (fun h1 => ?_)
    · skip
      exact OK.sret hI Fr.rf
    · skip
      refine OK.ieq (fun h2 => ?_) (fun h2 => ?_)
      · skip
        exact OK.sret hI Fr.rf
      · skip
        obtain ⟨a3k, a3, a3l, a3r⟩ := i_add x5 1
        try (refine k0el (k := a3k) ?_ (fun e0 => ?_); (focus omega); subst e0)
        exact (k_X0_relate_111 FU _ _ _ _ _ _ hI (fun s9 i9 f9 => OK.trS (ih _ _ _ _ _ i9 (by omega)) (Fr.trans Fr.rf f9)) (by omega))

theorem k_X0_relate_7 : ∀ (n : Nat) (x1 : Int32) (x2 : Int32) (x3 : Int32) (σ : ST), IA σ → (0 ≤ x3.toInt ∧ x3.toInt ≤ 36 ∧ (36 : Int) - x3.toInt < n) → OK (f_X0_relate_7  n x1 x2 x3 σ) (RS σ) := by
  intro n
  induction n with
  | zero =>
    intro x1 x2 x3 σ hI hv
    omega
  | succ n ih =>
    intro x1 x2 x3 σ hI hv
    rw [f_X0_relate_7]
    have lt_0 := li_0
    have lt_1 := li_1
    have lFU : ((FU : Nat) : Int) = 100000 := rfl
    refine OK.bndR (k_X5_recordsOf_4 _ _ hI ) (fun v1 h2 => ?_)
    dsimp only
    refine OK.ile (fun h3 => ?_) (fun h3 => ?_)
    · skip
      exact OK.trS (k_X0_relate_87 FU _ _ _ _ _ hI (by omega)) Fr.rf
    · skip
      obtain ⟨a4k, a4, a4l, a4r⟩ := i_add x3 1
      try (refine k0el (k := a4k) ?_ (fun e0 => ?_); (focus omega); subst e0)
      exact (k_X0_relate_22 FU _ _ _ _ _ hI (fun s9 i9 f9 => OK.trS (ih _ _ _ _ i9 (by omega)) (Fr.trans Fr.rf f9)) (by omega))

theorem k_X0_relate (p0 : Int32) (p1 : Int32) (σ : ST) (hI : IA σ)  : OK (f_X0_relate  p0 p1 σ) (RS σ) := by
  unfold f_X0_relate
  have lt_0 := li_0
  have lt_1 := li_1
  have lFU : ((FU : Nat) : Int) = 100000 := rfl
  exact OK.trS (k_X0_relate_7 FU _ _ _ _ (ia_L hI) (by omega)) (fr_L Fr.rf)

theorem k_X0_turnTo_47 (x3 : Int32) (σ : ST) (hI : IA σ) (hp0 : 0 ≤ x3.toInt ∧ x3.toInt < 36)  : OK (f_X0_turnTo_47  x3 σ) (RS σ) := by
  unfold f_X0_turnTo_47
  have lt_0 := li_0
  have lt_1 := li_1
  have lFU : ((FU : Nat) : Int) = 100000 := rfl
  refine OK.grd ⟨by omega, by omega⟩ ?_
  exact OK.sret (ia_L hI) (fr_L Fr.rf)

theorem k_X0_turnTo (p0 : Int32) (p1 : Int32) (σ : ST) (hI : IA σ)  : OK (f_X0_turnTo  p0 p1 σ) (RS σ) := by
  unfold f_X0_turnTo
  have lt_0 := li_0
  have lt_1 := li_1
  have lFU : ((FU : Nat) : Int) = 100000 := rfl
  refine OK.bndR (k_X0_pairOf _ _ _ hI ) (fun v1 h2 => ?_)
  dsimp only
  refine OK.ieq (fun h3 => ?_) (fun h3 => ?_)
  · skip
    refine OK.bndS (k_X0_relate _ _ _ hI ) Fr.rf (fun s4 is4 fs4 => ?_)
    try dsimp only
    refine OK.grd ⟨by omega, by omega⟩ ?_
    refine OK.lt (fun z5 h6 => ?_)
    have iz5 : IA z5 := by rw [h6]; exact (ia_L (ia_L is4))
    have fz5 : Fr σ z5 := by rw [h6]; exact (fr_L (fr_L fs4))
    exact OK.trS (k_X0_turnTo_47 _ _ iz5 (show 0 ≤ v1.toInt ∧ v1.toInt < 36 from by omega)) fz5
  · skip
    exact OK.trS (k_X0_turnTo_47 _ _ hI (show 0 ≤ v1.toInt ∧ v1.toInt < 36 from by omega)) Fr.rf

theorem k_X0_findMisses (p0 : Int32) (p1 : Int32) (σ : ST) (hI : IA σ)  : OK (f_X0_findMisses  p0 p1 σ) (RS σ) := by
  unfold f_X0_findMisses
  have lt_0 := li_0
  have lt_1 := li_1
  have lFU : ((FU : Nat) : Int) = 100000 := rfl
  refine OK.bndS (k_X0_turnTo _ _ _ hI ) Fr.rf (fun s1 is1 fs1 => ?_)
  try dsimp only
  refine OK.bndS (k_X0_collectMisses _ _ _ is1 ) fs1 (fun s2 is2 fs2 => ?_)
  try dsimp only
  exact OK.sret is2 fs2

theorem k_X0_isMiss (p0 : Int32) (σ : ST) (hI : IA σ)  : OK (f_X0_isMiss  p0 σ) (RO σ fun v => v.toInt = 0 ∨ v.toInt = 1 ∧ 0 ≤ p0.toInt ∧ p0.toInt < 20) := by
  unfold f_X0_isMiss
  have lt_0 := li_0
  have lt_1 := li_1
  have lt_20 := li_20
  have lFU : ((FU : Nat) : Int) = 100000 := rfl
  refine OK.ilt (fun h1 => ?_) (fun h1 => ?_)
  · skip
    exact OK.roret (by first | trivial | omega | exact hI.flds _ | exact hI.dflds _ | exact hI.recs _ | exact hI.drecs _ | exact hI.droot _ | omega)
  · skip
    refine OK.ile (fun h2 => ?_) (fun h2 => ?_)
    · skip
      exact OK.roret (by first | trivial | omega | exact hI.flds _ | exact hI.dflds _ | exact hI.recs _ | exact hI.drecs _ | exact hI.droot _ | omega)
    · skip
      refine OK.ile (fun h3 => ?_) (fun h3 => ?_)
      · skip
        exact OK.roret (by first | trivial | omega | exact hI.flds _ | exact hI.dflds _ | exact hI.recs _ | exact hI.drecs _ | exact hI.droot _ | omega)
      · skip
        exact OK.roret (by first | trivial | omega | exact hI.flds _ | exact hI.dflds _ | exact hI.recs _ | exact hI.drecs _ | exact hI.droot _ | omega)

theorem k_X0_missKind (p0 : Int32) (σ : ST) (hI : IA σ)  : OK (f_X0_missKind  p0 σ) (RO σ fun v => True) := by
  unfold f_X0_missKind
  have lt_m1 := li_m1
  have lt_0 := li_0
  have lt_1 := li_1
  have lFU : ((FU : Nat) : Int) = 100000 := rfl
  refine OK.bndR (k_X0_isMiss _ _ hI ) (fun v1 h2 => ?_)
  dsimp only
  refine OK.ieq (fun h3 => ?_) (fun h3 => ?_)
  · skip
    exact OK.roret (by first | trivial | omega | exact hI.flds _ | exact hI.dflds _ | exact hI.recs _ | exact hI.drecs _ | exact hI.droot _ | omega)
  · skip
    refine OK.grd ⟨by omega, by omega⟩ ?_
    exact OK.roret (by first | trivial | omega | exact hI.flds _ | exact hI.dflds _ | exact hI.recs _ | exact hI.drecs _ | exact hI.droot _ | omega)

theorem k_X0_missSteps (p0 : Int32) (σ : ST) (hI : IA σ)  : OK (f_X0_missSteps  p0 σ) (RO σ fun v => True) := by
  unfold f_X0_missSteps
  have lt_m1 := li_m1
  have lt_0 := li_0
  have lt_1 := li_1
  have lFU : ((FU : Nat) : Int) = 100000 := rfl
  refine OK.bndR (k_X0_isMiss _ _ hI ) (fun v1 h2 => ?_)
  dsimp only
  refine OK.ieq (fun h3 => ?_) (fun h3 => ?_)
  · skip
    exact OK.roret (by first | trivial | omega | exact hI.flds _ | exact hI.dflds _ | exact hI.recs _ | exact hI.drecs _ | exact hI.droot _ | omega)
  · skip
    refine OK.grd ⟨by omega, by omega⟩ ?_
    exact OK.roret (by first | trivial | omega | exact hI.flds _ | exact hI.dflds _ | exact hI.recs _ | exact hI.drecs _ | exact hI.droot _ | omega)

theorem k_X0_rootsFit (σ : ST) (hI : IA σ)  : OK (f_X0_rootsFit  σ) (RO σ fun v => v.toInt = 0 ∨ v.toInt = 1) := by
  unfold f_X0_rootsFit
  have lt_0 := li_0
  have lt_1 := li_1
  have lFU : ((FU : Nat) : Int) = 100000 := rfl
  refine OK.bndR (k_X0_bitOf _ _ _ hI ) (fun v1 h2 => ?_)
  dsimp only
  refine OK.ieq (fun h3 => ?_) (fun h3 => ?_)
  · skip
    exact OK.roret (by first | trivial | omega | exact hI.flds _ | exact hI.dflds _ | exact hI.recs _ | exact hI.drecs _ | exact hI.droot _ | omega)
  · skip
    exact OK.roret (by first | trivial | omega | exact hI.flds _ | exact hI.dflds _ | exact hI.recs _ | exact hI.drecs _ | exact hI.droot _ | omega)

theorem k_X0_stepOfMiss (p0 : Int32) (p1 : Int32) (σ : ST) (hI : IA σ)  : OK (f_X0_stepOfMiss  p0 p1 σ) (RO σ fun v => True) := by
  unfold f_X0_stepOfMiss
  have lt_m1 := li_m1
  have lt_0 := li_0
  have lt_1 := li_1
  have lt_32 := li_32
  have lFU : ((FU : Nat) : Int) = 100000 := rfl
  refine OK.bndR (k_X0_isMiss _ _ hI ) (fun v1 h2 => ?_)
  dsimp only
  refine OK.ieq (fun h3 => ?_) (fun h3 => ?_)
  · skip
    exact OK.roret (by first | trivial | omega | exact hI.flds _ | exact hI.dflds _ | exact hI.recs _ | exact hI.drecs _ | exact hI.droot _ | omega)
  · skip
    refine OK.ilt (fun h4 => ?_) (fun h4 => ?_)
    · skip
      exact OK.roret (by first | trivial | omega | exact hI.flds _ | exact hI.dflds _ | exact hI.recs _ | exact hI.drecs _ | exact hI.droot _ | omega)
    · skip
      refine OK.grd ⟨by omega, by omega⟩ ?_
      refine OK.ile (fun h5 => ?_) (fun h5 => ?_)
      · skip
        exact OK.roret (by first | trivial | omega | exact hI.flds _ | exact hI.dflds _ | exact hI.recs _ | exact hI.drecs _ | exact hI.droot _ | omega)
      · skip
        refine OK.ile (fun h6 => ?_) (fun h6 => ?_)
        · skip
          exact OK.roret (by first | trivial | omega | exact hI.flds _ | exact hI.dflds _ | exact hI.recs _ | exact hI.drecs _ | exact hI.droot _ | omega)
        · skip
          obtain ⟨a7k, a7, a7l, a7r⟩ := i_mul p0 32
          rw [li_32] at a7
          try (refine k0el (k := a7k) ?_ (fun e0 => ?_); (focus omega); subst e0)
          obtain ⟨a8k, a8, a8l, a8r⟩ := i_add (p0 * 32) p1
          try (refine k0el (k := a8k) ?_ (fun e0 => ?_); (focus omega); subst e0)
          refine OK.grd ⟨by omega, by omega⟩ ?_
          exact OK.roret (by first | trivial | omega | exact hI.flds _ | exact hI.dflds _ | exact hI.recs _ | exact hI.drecs _ | exact hI.droot _ | omega)

theorem k_X0_verdict_61 (x3 : Int32) (σ : ST) (hI : IA σ) (hp0 : 0 ≤ x3.toInt ∧ x3.toInt < 36)  : OK (f_X0_verdict_61  x3 σ) (RO σ fun v => True) := by
  unfold f_X0_verdict_61
  have lt_0 := li_0
  have lt_1 := li_1
  have lFU : ((FU : Nat) : Int) = 100000 := rfl
  refine OK.grd ⟨by omega, by omega⟩ ?_
  exact OK.roret (by first | trivial | omega | exact hI.flds _ | exact hI.dflds _ | exact hI.recs _ | exact hI.drecs _ | exact hI.droot _ | omega)

theorem k_X0_verdict_60 (x3 : Int32) (y0 : Int32) (y1 : Int32) (σ : ST) (hI : IA σ) (hp0 : 0 ≤ x3.toInt ∧ x3.toInt < 36 ∧ 0 ≤ y1.toInt ∧ y1.toInt < 36)  : OK (f_X0_verdict_60  x3 y0 y1 σ) (RW σ fun v => True) := by
  unfold f_X0_verdict_60
  have lt_0 := li_0
  have lt_1 := li_1
  have lFU : ((FU : Nat) : Int) = 100000 := rfl
  refine OK.grd ⟨by omega, by omega⟩ ?_
  exact OK.row (k_X0_verdict_61 _ _ (ia_I_43 hI) (show 0 ≤ x3.toInt ∧ x3.toInt < 36 from by omega)) (ia_I_43 hI) (fr_I_43 Fr.rf) (fun v hv => by first | trivial | omega | exact hI.flds _ | exact hI.dflds _ | exact hI.recs _ | exact hI.drecs _ | exact hI.droot _ | omega)

theorem k_X0_verdict_40 (x3 : Int32) (y0 : Int32) (σ : ST) (hI : IA σ) (hp0 : 0 ≤ x3.toInt ∧ x3.toInt < 36)  : OK (f_X0_verdict_40  x3 y0 σ) (RW σ fun v => True) := by
  unfold f_X0_verdict_40
  have lt_0 := li_0
  have lt_1 := li_1
  have lt_2 := li_2
  have lFU : ((FU : Nat) : Int) = 100000 := rfl
  refine OK.bndR (k_X0_rootsFit _ hI ) (fun v1 h2 => ?_)
  dsimp only
  refine OK.ieq (fun h3 => ?_) (fun h3 => ?_)
  · skip
    exact OK.trW (k_X0_verdict_60 _ _ _ _ hI (show 0 ≤ x3.toInt ∧ x3.toInt < 36 ∧ 0 ≤ x3.toInt ∧ x3.toInt < 36 from by omega)) Fr.rf (fun v hv => by first | trivial | omega | exact hI.flds _ | exact hI.dflds _ | exact hI.recs _ | exact hI.drecs _ | exact hI.droot _ | omega)
  · skip
    exact OK.trW (k_X0_verdict_60 _ _ _ _ hI (show 0 ≤ x3.toInt ∧ x3.toInt < 36 ∧ 0 ≤ x3.toInt ∧ x3.toInt < 36 from by omega)) Fr.rf (fun v hv => by first | trivial | omega | exact hI.flds _ | exact hI.dflds _ | exact hI.recs _ | exact hI.drecs _ | exact hI.droot _ | omega)

theorem k_X0_verdict (p0 : Int32) (p1 : Int32) (σ : ST) (hI : IA σ)  : OK (f_X0_verdict  p0 p1 σ) (RW σ fun v => True) := by
  unfold f_X0_verdict
  have lt_m1 := li_m1
  have lt_0 := li_0
  have lt_1 := li_1
  have lFU : ((FU : Nat) : Int) = 100000 := rfl
  refine OK.bndR (k_X0_pairOf _ _ _ hI ) (fun v1 h2 => ?_)
  dsimp only
  refine OK.grd ⟨by omega, by omega⟩ ?_
  refine OK.ieq (fun h3 => ?_) (fun h3 => ?_)
  · skip
    refine OK.bndS (k_X0_turnTo _ _ _ hI ) Fr.rf (fun s4 is4 fs4 => ?_)
    try dsimp only
    refine OK.bndS (k_X0_collectMisses _ _ _ is4 ) fs4 (fun s5 is5 fs5 => ?_)
    try dsimp only
    refine OK.ile (fun h6 => ?_) (fun h6 => ?_)
    · skip
      exact OK.trW (k_X0_verdict_40 _ _ _ is5 (show 0 ≤ v1.toInt ∧ v1.toInt < 36 from by omega)) fs5 (fun v hv => by first | trivial | omega | exact hI.flds _ | exact hI.dflds _ | exact hI.recs _ | exact hI.drecs _ | exact hI.droot _ | omega)
    · skip
      exact OK.trW (k_X0_verdict_40 _ _ _ is5 (show 0 ≤ v1.toInt ∧ v1.toInt < 36 from by omega)) fs5 (fun v hv => by first | trivial | omega | exact hI.flds _ | exact hI.dflds _ | exact hI.recs _ | exact hI.drecs _ | exact hI.droot _ | omega)
  · skip
    exact OK.row (k_X0_verdict_61 _ _ hI (show 0 ≤ v1.toInt ∧ v1.toInt < 36 from by omega)) hI Fr.rf (fun v hv => by first | trivial | omega | exact hI.flds _ | exact hI.dflds _ | exact hI.recs _ | exact hI.drecs _ | exact hI.droot _ | omega)

theorem k_X10_isPlan (p0 : Int32) (σ : ST) (hI : IA σ)  : OK (f_X10_isPlan  p0 σ) (RO σ fun v => v.toInt = 0 ∨ v.toInt = 1 ∧ 0 ≤ p0.toInt ∧ p0.toInt < 6) := by
  unfold f_X10_isPlan
  have lt_0 := li_0
  have lt_1 := li_1
  have lFU : ((FU : Nat) : Int) = 100000 := rfl
  have g0 : 0 ≤ (σ.1 4 0).toInt ∧ (σ.1 4 0).toInt ≤ 6 := hI.plans
  refine OK.ilt (fun h1 => ?_) (fun h1 => ?_)
  · skip
    exact OK.roret (by first | trivial | omega | exact hI.flds _ | exact hI.dflds _ | exact hI.recs _ | exact hI.drecs _ | exact hI.droot _ | omega)
  · skip
    have g2 : 0 ≤ (σ.1 4 0).toInt ∧ (σ.1 4 0).toInt ≤ 6 := hI.plans
    refine OK.ile (fun h3 => ?_) (fun h3 => ?_)
    · skip
      exact OK.roret (by first | trivial | omega | exact hI.flds _ | exact hI.dflds _ | exact hI.recs _ | exact hI.drecs _ | exact hI.droot _ | omega)
    · skip
      exact OK.roret (by first | trivial | omega | exact hI.flds _ | exact hI.dflds _ | exact hI.recs _ | exact hI.drecs _ | exact hI.droot _ | omega)

theorem k_X1_isNumber (p0 : Int32) (σ : ST) (hI : IA σ)  : OK (f_X1_isNumber  p0 σ) (RO σ fun v => v.toInt = 0 ∨ v.toInt = 1 ∧ 0 ≤ p0.toInt ∧ p0.toInt < 4) := by
  unfold f_X1_isNumber
  have lt_0 := li_0
  have lt_1 := li_1
  have lt_4 := li_4
  have lFU : ((FU : Nat) : Int) = 100000 := rfl
  refine OK.ilt (fun h1 => ?_) (fun h1 => ?_)
  · skip
    exact OK.roret (by first | trivial | omega | exact hI.flds _ | exact hI.dflds _ | exact hI.recs _ | exact hI.drecs _ | exact hI.droot _ | omega)
  · skip
    refine OK.ile (fun h2 => ?_) (fun h2 => ?_)
    · skip
      exact OK.roret (by first | trivial | omega | exact hI.flds _ | exact hI.dflds _ | exact hI.recs _ | exact hI.drecs _ | exact hI.droot _ | omega)
    · skip
      exact OK.roret (by first | trivial | omega | exact hI.flds _ | exact hI.dflds _ | exact hI.recs _ | exact hI.drecs _ | exact hI.droot _ | omega)

theorem k_X1_isWritten (p0 : Int32) (σ : ST) (hI : IA σ)  : OK (f_X1_isWritten  p0 σ) (RO σ fun v => v.toInt = 0 ∨ v.toInt = 1 ∧ 0 ≤ p0.toInt ∧ p0.toInt < 4) := by
  unfold f_X1_isWritten
  have lt_m1 := li_m1
  have lt_0 := li_0
  have lt_1 := li_1
  have lFU : ((FU : Nat) : Int) = 100000 := rfl
  refine OK.bndR (k_X1_isNumber _ _ hI ) (fun v1 h2 => ?_)
  dsimp only
  refine OK.ieq (fun h3 => ?_) (fun h3 => ?_)
  · skip
    exact OK.roret (by first | trivial | omega | exact hI.flds _ | exact hI.dflds _ | exact hI.recs _ | exact hI.drecs _ | exact hI.droot _ | omega)
  · skip
    refine OK.grd ⟨by omega, by omega⟩ ?_
    refine OK.ieq (fun h4 => ?_) (fun h4 => ?_)
    · skip
      exact OK.roret (by first | trivial | omega | exact hI.flds _ | exact hI.dflds _ | exact hI.recs _ | exact hI.drecs _ | exact hI.droot _ | omega)
    · skip
      exact OK.roret (by first | trivial | omega | exact hI.flds _ | exact hI.dflds _ | exact hI.recs _ | exact hI.drecs _ | exact hI.droot _ | omega)

theorem k_X1_planOf (p0 : Int32) (σ : ST) (hI : IA σ)  : OK (f_X1_planOf  p0 σ) (RO σ fun v => True) := by
  unfold f_X1_planOf
  have lt_m1 := li_m1
  have lt_0 := li_0
  have lt_1 := li_1
  have lFU : ((FU : Nat) : Int) = 100000 := rfl
  refine OK.bndR (k_X1_isNumber _ _ hI ) (fun v1 h2 => ?_)
  dsimp only
  refine OK.ieq (fun h3 => ?_) (fun h3 => ?_)
  · skip
    exact OK.roret (by first | trivial | omega | exact hI.flds _ | exact hI.dflds _ | exact hI.recs _ | exact hI.drecs _ | exact hI.droot _ | omega)
  · skip
    refine OK.grd ⟨by omega, by omega⟩ ?_
    exact OK.roret (by first | trivial | omega | exact hI.flds _ | exact hI.dflds _ | exact hI.recs _ | exact hI.drecs _ | exact hI.droot _ | omega)

theorem k_X1_sizeOf (p0 : Int32) (σ : ST) (hI : IA σ)  : OK (f_X1_sizeOf  p0 σ) (RO σ fun v => True) := by
  unfold f_X1_sizeOf
  have lt_0 := li_0
  have lt_1 := li_1
  have lFU : ((FU : Nat) : Int) = 100000 := rfl
  refine OK.bndR (k_X1_isNumber _ _ hI ) (fun v1 h2 => ?_)
  dsimp only
  refine OK.ieq (fun h3 => ?_) (fun h3 => ?_)
  · skip
    exact OK.roret (by first | trivial | omega | exact hI.flds _ | exact hI.dflds _ | exact hI.recs _ | exact hI.drecs _ | exact hI.droot _ | omega)
  · skip
    refine OK.grd ⟨by omega, by omega⟩ ?_
    exact OK.roret (by first | trivial | omega | exact hI.flds _ | exact hI.dflds _ | exact hI.recs _ | exact hI.drecs _ | exact hI.droot _ | omega)

theorem k_X4_fail_29_89_50 (σ : ST) (hI : IA σ) (hT : σ.2.2.2 89 = 50)  : OK (f_X4_fail_29 89 50 σ) (RS σ) := by
  unfold f_X4_fail_29
  have lt_0 := li_0
  have lt_1 := li_1
  have lFU : ((FU : Nat) : Int) = 100000 := rfl
  exact OK.sret (ia_I_89 hI) (fr_I_89 Fr.rf)

theorem k_X4_fail_29_92_62 (σ : ST) (hI : IA σ) (hT : σ.2.2.2 92 = 62)  : OK (f_X4_fail_29 92 62 σ) (RS σ) := by
  unfold f_X4_fail_29
  have lt_0 := li_0
  have lt_1 := li_1
  have lFU : ((FU : Nat) : Int) = 100000 := rfl
  exact OK.sret (ia_I_92 hI) (fr_I_92 Fr.rf)

theorem k_X4_fail_29_92_74 (σ : ST) (hI : IA σ) (hT : σ.2.2.2 92 = 74)  : OK (f_X4_fail_29 92 74 σ) (RS σ) := by
  unfold f_X4_fail_29
  have lt_0 := li_0
  have lt_1 := li_1
  have lFU : ((FU : Nat) : Int) = 100000 := rfl
  exact OK.sret (ia_I_92 hI) (fr_I_92 Fr.rf)

theorem k_X4_fail_89_50 (p0 : Int32) (p1 : Int32) (σ : ST) (hI : IA σ) (hT : σ.2.2.2 89 = 50)  : OK (f_X4_fail 89 50 p0 p1 σ) (RS σ) := by
  unfold f_X4_fail
  have lt_0 := li_0
  have lt_1 := li_1
  have lt_14 := li_14
  have lt_15 := li_15
  have lFU : ((FU : Nat) : Int) = 100000 := rfl
  refine OK.ieq (fun h1 => ?_) (fun h1 => ?_)
  · skip
    refine OK.ieq (fun h2 => ?_) (fun h2 => ?_)
    · skip
      exact OK.trS (k_X4_fail_29_89_50 _ (ia_I_89 (ia_I_89 hI)) (by first | exact hT | exact hI.r89 | (rw [(fr_I_89 (fr_I_89 Fr.rf)).2.2.2]; exact hT))) (fr_I_89 (fr_I_89 Fr.rf))
    · skip
      refine OK.ieq (fun h3 => ?_) (fun h3 => ?_)
      · skip
        exact OK.trS (k_X4_fail_29_89_50 _ (ia_I_89 (ia_I_89 hI)) (by first | exact hT | exact hI.r89 | (rw [(fr_I_89 (fr_I_89 Fr.rf)).2.2.2]; exact hT))) (fr_I_89 (fr_I_89 Fr.rf))
      · skip
        exact OK.sret (ia_I_89 (ia_I_89 hI)) (fr_I_89 (fr_I_89 Fr.rf))
  · skip
    exact OK.sret hI Fr.rf

theorem k_X4_fail_92_62 (p0 : Int32) (p1 : Int32) (σ : ST) (hI : IA σ) (hT : σ.2.2.2 92 = 62)  : OK (f_X4_fail 92 62 p0 p1 σ) (RS σ) := by
  unfold f_X4_fail
  have lt_0 := li_0
  have lt_1 := li_1
  have lt_14 := li_14
  have lt_15 := li_15
  have lFU : ((FU : Nat) : Int) = 100000 := rfl
  refine OK.ieq (fun h1 => ?_) (fun h1 => ?_)
  · skip
    refine OK.ieq (fun h2 => ?_) (fun h2 => ?_)
    · skip
      exact OK.trS (k_X4_fail_29_92_62 _ (ia_I_92 (ia_I_92 hI)) (by first | exact hT | exact hI.r89 | (rw [(fr_I_92 (fr_I_92 Fr.rf)).2.2.2]; exact hT))) (fr_I_92 (fr_I_92 Fr.rf))
    · skip
      refine OK.ieq (fun h3 => ?_) (fun h3 => ?_)
      · skip
        exact OK.trS (k_X4_fail_29_92_62 _ (ia_I_92 (ia_I_92 hI)) (by first | exact hT | exact hI.r89 | (rw [(fr_I_92 (fr_I_92 Fr.rf)).2.2.2]; exact hT))) (fr_I_92 (fr_I_92 Fr.rf))
      · skip
        exact OK.sret (ia_I_92 (ia_I_92 hI)) (fr_I_92 (fr_I_92 Fr.rf))
  · skip
    exact OK.sret hI Fr.rf

theorem k_X4_fail_92_74 (p0 : Int32) (p1 : Int32) (σ : ST) (hI : IA σ) (hT : σ.2.2.2 92 = 74)  : OK (f_X4_fail 92 74 p0 p1 σ) (RS σ) := by
  unfold f_X4_fail
  have lt_0 := li_0
  have lt_1 := li_1
  have lt_14 := li_14
  have lt_15 := li_15
  have lFU : ((FU : Nat) : Int) = 100000 := rfl
  refine OK.ieq (fun h1 => ?_) (fun h1 => ?_)
  · skip
    refine OK.ieq (fun h2 => ?_) (fun h2 => ?_)
    · skip
      exact OK.trS (k_X4_fail_29_92_74 _ (ia_I_92 (ia_I_92 hI)) (by first | exact hT | exact hI.r89 | (rw [(fr_I_92 (fr_I_92 Fr.rf)).2.2.2]; exact hT))) (fr_I_92 (fr_I_92 Fr.rf))
    · skip
      refine OK.ieq (fun h3 => ?_) (fun h3 => ?_)
      · skip
        exact OK.trS (k_X4_fail_29_92_74 _ (ia_I_92 (ia_I_92 hI)) (by first | exact hT | exact hI.r89 | (rw [(fr_I_92 (fr_I_92 Fr.rf)).2.2.2]; exact hT))) (fr_I_92 (fr_I_92 Fr.rf))
      · skip
        exact OK.sret (ia_I_92 (ia_I_92 hI)) (fr_I_92 (fr_I_92 Fr.rf))
  · skip
    exact OK.sret hI Fr.rf

theorem k_X5_emptyHeight_4 (p0 : Int32) (σ : ST) (hI : IA σ)  : OK (f_X5_emptyHeight 4 p0 σ) (RO σ fun v => True) := by
  unfold f_X5_emptyHeight
  have lt_m1 := li_m1
  have lt_0 := li_0
  have lt_1 := li_1
  have lt_7 := li_7
  have lFU : ((FU : Nat) : Int) = 100000 := rfl
  refine OK.bndR (k_X5_sortOf_4 _ _ hI ) (fun v1 h2 => ?_)
  dsimp only
  refine OK.ieq (fun h3 => ?_) (fun h3 => ?_)
  · skip
    exact OK.roret (by first | trivial | omega | exact hI.flds _ | exact hI.dflds _ | exact hI.recs _ | exact hI.drecs _ | exact hI.droot _ | omega)
  · skip
    refine OK.bndR (k_X5_innerOf_4 _ _ hI ) (fun v4 h5 => ?_)
    dsimp only
    refine OK.bndR (k_X5_sortOf_4 _ _ hI ) (fun v6 h7 => ?_)
    dsimp only
    refine OK.ieq (fun h8 => ?_) (fun h8 => ?_)
    · skip
      refine OK.bndR (k_X5_isRecord _ _ hI ) (fun v9 h10 => ?_)
      dsimp only
      refine OK.ieq (fun h11 => ?_) (fun h11 => ?_)
      · skip
        exact OK.roret (by first | trivial | omega | exact hI.flds _ | exact hI.dflds _ | exact hI.recs _ | exact hI.drecs _ | exact hI.droot _ | omega)
      · skip
        refine OK.grd ⟨by omega, by omega⟩ ?_
        exact OK.roret (by first | trivial | omega | exact hI.flds _ | exact hI.dflds _ | exact hI.recs _ | exact hI.drecs _ | exact hI.droot _ | omega)
    · skip
      exact OK.roret (by first | trivial | omega | exact hI.flds _ | exact hI.dflds _ | exact hI.recs _ | exact hI.drecs _ | exact hI.droot _ | omega)

theorem k_X4_isEmptyThere_89_50 (p0 : Int32) (p1 : Int32) (σ : ST) (hI : IA σ) (hT : σ.2.2.2 89 = 50)  : OK (f_X4_isEmptyThere 89 50 p0 p1 σ) (RO σ fun v => v.toInt = 0 ∨ v.toInt = 1) := by
  unfold f_X4_isEmptyThere
  have lt_m1 := li_m1
  have lt_0 := li_0
  have lt_1 := li_1
  have lt_31 := li_31
  have lFU : ((FU : Nat) : Int) = 100000 := rfl
  refine OK.bndR (k_X5_emptyHeight_4 _ _ hI ) (fun v1 h2 => ?_)
  dsimp only
  refine OK.ieq (fun h3 => ?_) (fun h3 => ?_)
  · skip
    exact OK.roret (by first | trivial | omega | exact hI.flds _ | exact hI.dflds _ | exact hI.recs _ | exact hI.drecs _ | exact hI.droot _ | omega)
  · skip
    obtain ⟨a4k, a4, a4l, a4r⟩ := i_add p1 v1
    try (refine k0el (k := a4k) ?_ (fun e0 => ?_); (focus omega); subst e0)
    refine OK.ile (fun h5 => ?_) (fun h5 => ?_)
    · skip
      exact OK.roret (by first | trivial | omega | exact hI.flds _ | exact hI.dflds _ | exact hI.recs _ | exact hI.drecs _ | exact hI.droot _ | omega)
    · skip
      exact OK.roret (by first | trivial | omega | exact hI.flds _ | exact hI.dflds _ | exact hI.recs _ | exact hI.drecs _ | exact hI.droot _ | omega)

theorem k_X4_isEmptyThere_92_62 (p0 : Int32) (p1 : Int32) (σ : ST) (hI : IA σ) (hT : σ.2.2.2 92 = 62)  : OK (f_X4_isEmptyThere 92 62 p0 p1 σ) (RO σ fun v => v.toInt = 0 ∨ v.toInt = 1) := by
  unfold f_X4_isEmptyThere
  have lt_m1 := li_m1
  have lt_0 := li_0
  have lt_1 := li_1
  have lt_31 := li_31
  have lFU : ((FU : Nat) : Int) = 100000 := rfl
  refine OK.bndR (k_X5_emptyHeight_4 _ _ hI ) (fun v1 h2 => ?_)
  dsimp only
  refine OK.ieq (fun h3 => ?_) (fun h3 => ?_)
  · skip
    exact OK.roret (by first | trivial | omega | exact hI.flds _ | exact hI.dflds _ | exact hI.recs _ | exact hI.drecs _ | exact hI.droot _ | omega)
  · skip
    obtain ⟨a4k, a4, a4l, a4r⟩ := i_add p1 v1
    try (refine k0el (k := a4k) ?_ (fun e0 => ?_); (focus omega); subst e0)
    refine OK.ile (fun h5 => ?_) (fun h5 => ?_)
    · skip
      exact OK.roret (by first | trivial | omega | exact hI.flds _ | exact hI.dflds _ | exact hI.recs _ | exact hI.drecs _ | exact hI.droot _ | omega)
    · skip
      exact OK.roret (by first | trivial | omega | exact hI.flds _ | exact hI.dflds _ | exact hI.recs _ | exact hI.drecs _ | exact hI.droot _ | omega)

theorem k_X4_isEmptyThere_92_74 (p0 : Int32) (p1 : Int32) (σ : ST) (hI : IA σ) (hT : σ.2.2.2 92 = 74)  : OK (f_X4_isEmptyThere 92 74 p0 p1 σ) (RO σ fun v => v.toInt = 0 ∨ v.toInt = 1) := by
  unfold f_X4_isEmptyThere
  have lt_m1 := li_m1
  have lt_0 := li_0
  have lt_1 := li_1
  have lt_31 := li_31
  have lFU : ((FU : Nat) : Int) = 100000 := rfl
  refine OK.bndR (k_X5_emptyHeight_4 _ _ hI ) (fun v1 h2 => ?_)
  dsimp only
  refine OK.ieq (fun h3 => ?_) (fun h3 => ?_)
  · skip
    exact OK.roret (by first | trivial | omega | exact hI.flds _ | exact hI.dflds _ | exact hI.recs _ | exact hI.drecs _ | exact hI.droot _ | omega)
  · skip
    obtain ⟨a4k, a4, a4l, a4r⟩ := i_add p1 v1
    try (refine k0el (k := a4k) ?_ (fun e0 => ?_); (focus omega); subst e0)
    refine OK.ile (fun h5 => ?_) (fun h5 => ?_)
    · skip
      exact OK.roret (by first | trivial | omega | exact hI.flds _ | exact hI.dflds _ | exact hI.recs _ | exact hI.drecs _ | exact hI.droot _ | omega)
    · skip
      exact OK.roret (by first | trivial | omega | exact hI.flds _ | exact hI.dflds _ | exact hI.recs _ | exact hI.drecs _ | exact hI.droot _ | omega)

theorem k_X4_step_26_89_50 (σ : ST) (hI : IA σ) (hT : σ.2.2.2 89 = 50)  : OK (f_X4_step_26 89 50 σ) (RS σ) := by
  unfold f_X4_step_26
  have lt_0 := li_0
  have lt_1 := li_1
  have lFU : ((FU : Nat) : Int) = 100000 := rfl
  exact OK.sret (ia_I_89 hI) (fr_I_89 Fr.rf)

theorem k_X4_step_26_92_62 (σ : ST) (hI : IA σ) (hT : σ.2.2.2 92 = 62)  : OK (f_X4_step_26 92 62 σ) (RS σ) := by
  unfold f_X4_step_26
  have lt_0 := li_0
  have lt_1 := li_1
  have lFU : ((FU : Nat) : Int) = 100000 := rfl
  exact OK.sret (ia_I_92 hI) (fr_I_92 Fr.rf)

theorem k_X4_step_26_92_74 (σ : ST) (hI : IA σ) (hT : σ.2.2.2 92 = 74)  : OK (f_X4_step_26 92 74 σ) (RS σ) := by
  unfold f_X4_step_26
  have lt_0 := li_0
  have lt_1 := li_1
  have lFU : ((FU : Nat) : Int) = 100000 := rfl
  exact OK.sret (ia_I_92 hI) (fr_I_92 Fr.rf)

theorem k_X4_step_89_50 (p0 : Int32) (σ : ST) (hI : IA σ) (hT : σ.2.2.2 89 = 50)  : OK (f_X4_step 89 50 p0 σ) (RS σ) := by
  unfold f_X4_step
  have lt_0 := li_0
  have lt_1 := li_1
  have lt_64 := li_64
  have lFU : ((FU : Nat) : Int) = 100000 := rfl
  refine OK.ilt (fun h1 => ?_) (fun h1 => ?_)
  · skip
    exact OK.trS (k_X4_step_26_89_50 _ hI (by first | exact hT | exact hI.r89 | (rw [Fr.rf.2.2.2]; exact hT))) Fr.rf
  · skip
    refine OK.ile (fun h2 => ?_) (fun h2 => ?_)
    · skip
      exact OK.trS (k_X4_step_26_89_50 _ hI (by first | exact hT | exact hI.r89 | (rw [Fr.rf.2.2.2]; exact hT))) Fr.rf
    · skip
      refine OK.grd ⟨by omega, by omega⟩ ?_
      exact OK.trS (k_X4_step_26_89_50 _ (ia_I_90 hI) (by first | exact hT | exact hI.r89 | (rw [(fr_I_90 Fr.rf).2.2.2]; exact hT))) (fr_I_90 Fr.rf)

theorem k_X4_step_92_62 (p0 : Int32) (σ : ST) (hI : IA σ) (hT : σ.2.2.2 92 = 62)  : OK (f_X4_step 92 62 p0 σ) (RS σ) := by
  unfold f_X4_step
  have lt_0 := li_0
  have lt_1 := li_1
  have lt_64 := li_64
  have lFU : ((FU : Nat) : Int) = 100000 := rfl
  refine OK.ilt (fun h1 => ?_) (fun h1 => ?_)
  · skip
    exact OK.trS (k_X4_step_26_92_62 _ hI (by first | exact hT | exact hI.r89 | (rw [Fr.rf.2.2.2]; exact hT))) Fr.rf
  · skip
    refine OK.ile (fun h2 => ?_) (fun h2 => ?_)
    · skip
      exact OK.trS (k_X4_step_26_92_62 _ hI (by first | exact hT | exact hI.r89 | (rw [Fr.rf.2.2.2]; exact hT))) Fr.rf
    · skip
      refine OK.grd ⟨by omega, by omega⟩ ?_
      exact OK.trS (k_X4_step_26_92_62 _ (ia_I_93 hI) (by first | exact hT | exact hI.r89 | (rw [(fr_I_93 Fr.rf).2.2.2]; exact hT))) (fr_I_93 Fr.rf)

theorem k_X4_step_92_74 (p0 : Int32) (σ : ST) (hI : IA σ) (hT : σ.2.2.2 92 = 74)  : OK (f_X4_step 92 74 p0 σ) (RS σ) := by
  unfold f_X4_step
  have lt_0 := li_0
  have lt_1 := li_1
  have lt_64 := li_64
  have lFU : ((FU : Nat) : Int) = 100000 := rfl
  refine OK.ilt (fun h1 => ?_) (fun h1 => ?_)
  · skip
    exact OK.trS (k_X4_step_26_92_74 _ hI (by first | exact hT | exact hI.r89 | (rw [Fr.rf.2.2.2]; exact hT))) Fr.rf
  · skip
    refine OK.ile (fun h2 => ?_) (fun h2 => ?_)
    · skip
      exact OK.trS (k_X4_step_26_92_74 _ hI (by first | exact hT | exact hI.r89 | (rw [Fr.rf.2.2.2]; exact hT))) Fr.rf
    · skip
      refine OK.grd ⟨by omega, by omega⟩ ?_
      exact OK.trS (k_X4_step_26_92_74 _ (ia_I_93 hI) (by first | exact hT | exact hI.r89 | (rw [(fr_I_93 Fr.rf).2.2.2]; exact hT))) (fr_I_93 Fr.rf)

theorem k_X4_stepBack_89_50 (σ : ST) (hI : IA σ) (hT : σ.2.2.2 89 = 50)  : OK (f_X4_stepBack 89 50 σ) (RS σ) := by
  unfold f_X4_stepBack
  have lt_0 := li_0
  have lt_1 := li_1
  have lFU : ((FU : Nat) : Int) = 100000 := rfl
  refine OK.ieq (fun h1 => ?_) (fun h1 => ?_)
  · skip
    exact OK.sret (ia_I_89 hI) (fr_I_89 Fr.rf)
  · skip
    exact OK.sret hI Fr.rf

theorem k_X4_stepBack_92_62 (σ : ST) (hI : IA σ) (hT : σ.2.2.2 92 = 62)  : OK (f_X4_stepBack 92 62 σ) (RS σ) := by
  unfold f_X4_stepBack
  have lt_0 := li_0
  have lt_1 := li_1
  have lFU : ((FU : Nat) : Int) = 100000 := rfl
  refine OK.ieq (fun h1 => ?_) (fun h1 => ?_)
  · skip
    exact OK.sret (ia_I_92 hI) (fr_I_92 Fr.rf)
  · skip
    exact OK.sret hI Fr.rf

theorem k_X4_stepBack_92_74 (σ : ST) (hI : IA σ) (hT : σ.2.2.2 92 = 74)  : OK (f_X4_stepBack 92 74 σ) (RS σ) := by
  unfold f_X4_stepBack
  have lt_0 := li_0
  have lt_1 := li_1
  have lFU : ((FU : Nat) : Int) = 100000 := rfl
  refine OK.ieq (fun h1 => ?_) (fun h1 => ?_)
  · skip
    exact OK.sret (ia_I_92 hI) (fr_I_92 Fr.rf)
  · skip
    exact OK.sret hI Fr.rf

theorem k_X1_byteOf (p0 : Int32) (p1 : Int32) (σ : ST) (hI : IA σ)  : OK (f_X1_byteOf  p0 p1 σ) (RO σ fun v => True) := by
  unfold f_X1_byteOf
  have lt_0 := li_0
  have lt_1 := li_1
  have lt_255 := li_255
  have lt_400 := li_400
  have lt_1600 := li_1600
  have lFU : ((FU : Nat) : Int) = 100000 := rfl
  obtain ⟨a1k, a1, a1l, a1r⟩ := i_mul p0 400
  rw [li_400] at a1
  try (refine k0el (k := a1k) ?_ (fun e0 => ?_); (focus omega); subst e0)
  obtain ⟨a2k, a2, a2l, a2r⟩ := i_add (p0 * 400) p1
  try (refine k0el (k := a2k) ?_ (fun e0 => ?_); (focus omega); subst e0)
  refine OK.ilt (fun h3 => ?_) (fun h3 => ?_)
  · skip
    exact OK.roret (by first | trivial | omega | exact hI.flds _ | exact hI.dflds _ | exact hI.recs _ | exact hI.drecs _ | exact hI.droot _ | omega)
  · skip
    refine OK.ile (fun h4 => ?_) (fun h4 => ?_)
    · skip
      exact OK.roret (by first | trivial | omega | exact hI.flds _ | exact hI.dflds _ | exact hI.recs _ | exact hI.drecs _ | exact hI.droot _ | omega)
    · skip
      refine OK.grd ⟨by omega, by omega⟩ ?_
      exact OK.roret (by first | trivial | omega | exact hI.flds _ | exact hI.dflds _ | exact hI.recs _ | exact hI.drecs _ | exact hI.droot _ | omega)

theorem k_X4_takeByte_89_50 (σ : ST) (hI : IA σ) (hT : σ.2.2.2 89 = 50)  : OK (f_X4_takeByte 89 50 σ) (RW σ fun v => True) := by
  unfold f_X4_takeByte
  have lt_0 := li_0
  have lt_1 := li_1
  have lt_11 := li_11
  have lFU : ((FU : Nat) : Int) = 100000 := rfl
  refine OK.ieq (fun h1 => ?_) (fun h1 => ?_)
  · skip
    refine OK.ilt (fun h2 => ?_) (fun h2 => ?_)
    · skip
      refine OK.bndR (k_X1_byteOf _ _ _ hI ) (fun v3 h4 => ?_)
      dsimp only
      exact OK.wret (ia_I_89 hI) (fr_I_89 Fr.rf) (by first | trivial | omega | exact hI.flds _ | exact hI.dflds _ | exact hI.recs _ | exact hI.drecs _ | exact hI.droot _ | omega)
    · skip
      refine OK.bndS (k_X4_fail_89_50 _ _ _ hI (by first | exact hT | exact hI.r89 | (rw [Fr.rf.2.2.2]; exact hT))) Fr.rf (fun s5 is5 fs5 => ?_)
      try dsimp only
      exact OK.wret is5 fs5 (by first | trivial | omega | exact hI.flds _ | exact hI.dflds _ | exact hI.recs _ | exact hI.drecs _ | exact hI.droot _ | omega)
  · skip
    exact OK.wret hI Fr.rf (by first | trivial | omega | exact hI.flds _ | exact hI.dflds _ | exact hI.recs _ | exact hI.drecs _ | exact hI.droot _ | omega)

theorem k_X4_takeByte_92_62 (σ : ST) (hI : IA σ) (hT : σ.2.2.2 92 = 62)  : OK (f_X4_takeByte 92 62 σ) (RW σ fun v => True) := by
  unfold f_X4_takeByte
  have lt_0 := li_0
  have lt_1 := li_1
  have lt_11 := li_11
  have lFU : ((FU : Nat) : Int) = 100000 := rfl
  refine OK.ieq (fun h1 => ?_) (fun h1 => ?_)
  · skip
    refine OK.ilt (fun h2 => ?_) (fun h2 => ?_)
    · skip
      refine OK.bndR (k_X1_byteOf _ _ _ hI ) (fun v3 h4 => ?_)
      dsimp only
      exact OK.wret (ia_I_92 hI) (fr_I_92 Fr.rf) (by first | trivial | omega | exact hI.flds _ | exact hI.dflds _ | exact hI.recs _ | exact hI.drecs _ | exact hI.droot _ | omega)
    · skip
      refine OK.bndS (k_X4_fail_92_62 _ _ _ hI (by first | exact hT | exact hI.r89 | (rw [Fr.rf.2.2.2]; exact hT))) Fr.rf (fun s5 is5 fs5 => ?_)
      try dsimp only
      exact OK.wret is5 fs5 (by first | trivial | omega | exact hI.flds _ | exact hI.dflds _ | exact hI.recs _ | exact hI.drecs _ | exact hI.droot _ | omega)
  · skip
    exact OK.wret hI Fr.rf (by first | trivial | omega | exact hI.flds _ | exact hI.dflds _ | exact hI.recs _ | exact hI.drecs _ | exact hI.droot _ | omega)

theorem k_X4_takeByte_92_74 (σ : ST) (hI : IA σ) (hT : σ.2.2.2 92 = 74)  : OK (f_X4_takeByte 92 74 σ) (RW σ fun v => True) := by
  unfold f_X4_takeByte
  have lt_0 := li_0
  have lt_1 := li_1
  have lt_11 := li_11
  have lFU : ((FU : Nat) : Int) = 100000 := rfl
  refine OK.ieq (fun h1 => ?_) (fun h1 => ?_)
  · skip
    refine OK.ilt (fun h2 => ?_) (fun h2 => ?_)
    · skip
      refine OK.bndR (k_X1_byteOf _ _ _ hI ) (fun v3 h4 => ?_)
      dsimp only
      exact OK.wret (ia_I_92 hI) (fr_I_92 Fr.rf) (by first | trivial | omega | exact hI.flds _ | exact hI.dflds _ | exact hI.recs _ | exact hI.drecs _ | exact hI.droot _ | omega)
    · skip
      refine OK.bndS (k_X4_fail_92_74 _ _ _ hI (by first | exact hT | exact hI.r89 | (rw [Fr.rf.2.2.2]; exact hT))) Fr.rf (fun s5 is5 fs5 => ?_)
      try dsimp only
      exact OK.wret is5 fs5 (by first | trivial | omega | exact hI.flds _ | exact hI.dflds _ | exact hI.recs _ | exact hI.drecs _ | exact hI.droot _ | omega)
  · skip
    exact OK.wret hI Fr.rf (by first | trivial | omega | exact hI.flds _ | exact hI.dflds _ | exact hI.recs _ | exact hI.drecs _ | exact hI.droot _ | omega)

theorem k_X4_takeNumber_70_89_50 (x2 : Int64) (σ : ST) (hI : IA σ) (hT : σ.2.2.2 89 = 50)  : OK (f_X4_takeNumber_70 89 50 x2 σ) (RO σ fun v => True) := by
  unfold f_X4_takeNumber_70
  have lt_0 := li_0
  have lt_1 := li_1
  have lFU : ((FU : Nat) : Int) = 100000 := rfl
  refine OK.ieq (fun h1 => ?_) (fun h1 => ?_)
  · skip
    exact OK.roret (by first | trivial | omega | exact hI.flds _ | exact hI.dflds _ | exact hI.recs _ | exact hI.drecs _ | exact hI.droot _ | omega)
  · skip
    exact OK.roret (by first | trivial | omega | exact hI.flds _ | exact hI.dflds _ | exact hI.recs _ | exact hI.drecs _ | exact hI.droot _ | omega)

theorem k_X4_takeNumber_70_92_62 (x2 : Int64) (σ : ST) (hI : IA σ) (hT : σ.2.2.2 92 = 62)  : OK (f_X4_takeNumber_70 92 62 x2 σ) (RO σ fun v => True) := by
  unfold f_X4_takeNumber_70
  have lt_0 := li_0
  have lt_1 := li_1
  have lFU : ((FU : Nat) : Int) = 100000 := rfl
  refine OK.ieq (fun h1 => ?_) (fun h1 => ?_)
  · skip
    exact OK.roret (by first | trivial | omega | exact hI.flds _ | exact hI.dflds _ | exact hI.recs _ | exact hI.drecs _ | exact hI.droot _ | omega)
  · skip
    exact OK.roret (by first | trivial | omega | exact hI.flds _ | exact hI.dflds _ | exact hI.recs _ | exact hI.drecs _ | exact hI.droot _ | omega)

theorem k_X4_takeNumber_70_92_74 (x2 : Int64) (σ : ST) (hI : IA σ) (hT : σ.2.2.2 92 = 74)  : OK (f_X4_takeNumber_70 92 74 x2 σ) (RO σ fun v => True) := by
  unfold f_X4_takeNumber_70
  have lt_0 := li_0
  have lt_1 := li_1
  have lFU : ((FU : Nat) : Int) = 100000 := rfl
  refine OK.ieq (fun h1 => ?_) (fun h1 => ?_)
  · skip
    exact OK.roret (by first | trivial | omega | exact hI.flds _ | exact hI.dflds _ | exact hI.recs _ | exact hI.drecs _ | exact hI.droot _ | omega)
  · skip
    exact OK.roret (by first | trivial | omega | exact hI.flds _ | exact hI.dflds _ | exact hI.recs _ | exact hI.drecs _ | exact hI.droot _ | omega)

theorem k_X4_takeNumber_5_89_50 : ∀ (n : Nat) (x1 : Int32) (x2 : Int64) (x4 : Int32) (σ : ST), IA σ → σ.2.2.2 89 = 50 → (0 ≤ x4.toInt ∧ x4.toInt ≤ 10 ∧ (10 : Int) - x4.toInt < n) → OK (f_X4_takeNumber_5 89 50 n x1 x2 x4 σ) (RW σ fun v => True) := by
  intro n
  induction n with
  | zero =>
    intro x1 x2 x4 σ hI hT hv
    omega
  | succ n ih =>
    intro x1 x2 x4 σ hI hT hv
    rw [f_X4_takeNumber_5]
    have lt_0 := li_0
    have lt_1 := li_1
    have lt_7 := li_7
    have lt_9 := li_9
    have lt_10 := li_10
    have lt_12 := li_12
    have lt_63 := li_63
    have lt_127 := li_127
    have lt_128 := li_128
    have lFU : ((FU : Nat) : Int) = 100000 := rfl
    refine OK.ile (fun h1 => ?_) (fun h1 => ?_)
    · skip
      exact OK.row (k_X4_takeNumber_70_89_50 _ _ hI (by first | exact hT | exact hI.r89 | (rw [Fr.rf.2.2.2]; exact hT))) hI Fr.rf (fun v hv => by first | trivial | omega | exact hI.flds _ | exact hI.dflds _ | exact hI.recs _ | exact hI.drecs _ | exact hI.droot _ | omega)
    · skip
      refine OK.bndW (k_X4_takeByte_89_50 _ hI (by first | exact hT | exact hI.r89 | (rw [Fr.rf.2.2.2]; exact hT))) Fr.rf (fun v2 s4 is4 fs4 h3 => ?_)
      dsimp only
      refine OK.ieq (fun h5 => ?_) (fun h5 => ?_)
      · skip
        refine OK.ile (fun h6 => ?_) (fun h6 => ?_)
        · skip
          unfold f_X4_takeNumber_38
          try dsimp only
          refine OK.ile (fun h7 => ?_) (fun h7 => ?_)
          · skip
            obtain ⟨a8k, a8, a8l, a8r⟩ := i_add x4 1
            try (refine k0el (k := a8k) ?_ (fun e0 => ?_); (focus omega); subst e0)
            exact OK.trW (ih _ _ _ _ is4 (by first | exact hT | (rw [fs4.2.2.2]; exact hT)) (by omega)) fs4 (fun v hv => by first | trivial | omega | exact hI.flds _ | exact hI.dflds _ | exact hI.recs _ | exact hI.drecs _ | exact hI.droot _ | omega)
          · skip
            exact OK.row (k_X4_takeNumber_70_89_50 _ _ is4 (by first | exact hT | exact hI.r89 | (rw [fs4.2.2.2]; exact hT))) is4 fs4 (fun v hv => by first | trivial | omega | exact hI.flds _ | exact hI.dflds _ | exact hI.recs _ | exact hI.drecs _ | exact hI.droot _ | omega)
        · skip
          refine OK.bndS (k_X4_fail_89_50 _ _ _ is4 (by first | exact hT | exact hI.r89 | (rw [fs4.2.2.2]; exact hT))) fs4 (fun s9 is9 fs9 => ?_)
          try dsimp only
          unfold f_X4_takeNumber_38
          try dsimp only
          refine OK.ile (fun h10 => ?_) (fun h10 => ?_)
          · skip
            obtain ⟨a11k, a11, a11l, a11r⟩ := i_add x4 1
            try (refine k0el (k := a11k) ?_ (fun e0 => ?_); (focus omega); subst e0)
            exact OK.trW (ih _ _ _ _ is9 (by first | exact hT | (rw [fs9.2.2.2]; exact hT)) (by omega)) fs9 (fun v hv => by first | trivial | omega | exact hI.flds _ | exact hI.dflds _ | exact hI.recs _ | exact hI.drecs _ | exact hI.droot _ | omega)
          · skip
            exact OK.row (k_X4_takeNumber_70_89_50 _ _ is9 (by first | exact hT | exact hI.r89 | (rw [fs9.2.2.2]; exact hT))) is9 fs9 (fun v hv => by first | trivial | omega | exact hI.flds _ | exact hI.dflds _ | exact hI.recs _ | exact hI.drecs _ | exact hI.droot _ | omega)
      · skip
        unfold f_X4_takeNumber_38
        try dsimp only
        refine OK.ile (fun h12 => ?_) (fun h12 => ?_)
        · skip
          obtain ⟨a13k, a13, a13l, a13r⟩ := i_add x4 1
          try (refine k0el (k := a13k) ?_ (fun e0 => ?_); (focus omega); subst e0)
          exact OK.trW (ih _ _ _ _ is4 (by first | exact hT | (rw [fs4.2.2.2]; exact hT)) (by omega)) fs4 (fun v hv => by first | trivial | omega | exact hI.flds _ | exact hI.dflds _ | exact hI.recs _ | exact hI.drecs _ | exact hI.droot _ | omega)
        · skip
          exact OK.row (k_X4_takeNumber_70_89_50 _ _ is4 (by first | exact hT | exact hI.r89 | (rw [fs4.2.2.2]; exact hT))) is4 fs4 (fun v hv => by first | trivial | omega | exact hI.flds _ | exact hI.dflds _ | exact hI.recs _ | exact hI.drecs _ | exact hI.droot _ | omega)

theorem k_X4_takeNumber_5_92_62 : ∀ (n : Nat) (x1 : Int32) (x2 : Int64) (x4 : Int32) (σ : ST), IA σ → σ.2.2.2 92 = 62 → (0 ≤ x4.toInt ∧ x4.toInt ≤ 10 ∧ (10 : Int) - x4.toInt < n) → OK (f_X4_takeNumber_5 92 62 n x1 x2 x4 σ) (RW σ fun v => True) := by
  intro n
  induction n with
  | zero =>
    intro x1 x2 x4 σ hI hT hv
    omega
  | succ n ih =>
    intro x1 x2 x4 σ hI hT hv
    rw [f_X4_takeNumber_5]
    have lt_0 := li_0
    have lt_1 := li_1
    have lt_7 := li_7
    have lt_9 := li_9
    have lt_10 := li_10
    have lt_12 := li_12
    have lt_63 := li_63
    have lt_127 := li_127
    have lt_128 := li_128
    have lFU : ((FU : Nat) : Int) = 100000 := rfl
    refine OK.ile (fun h1 => ?_) (fun h1 => ?_)
    · skip
      exact OK.row (k_X4_takeNumber_70_92_62 _ _ hI (by first | exact hT | exact hI.r89 | (rw [Fr.rf.2.2.2]; exact hT))) hI Fr.rf (fun v hv => by first | trivial | omega | exact hI.flds _ | exact hI.dflds _ | exact hI.recs _ | exact hI.drecs _ | exact hI.droot _ | omega)
    · skip
      refine OK.bndW (k_X4_takeByte_92_62 _ hI (by first | exact hT | exact hI.r89 | (rw [Fr.rf.2.2.2]; exact hT))) Fr.rf (fun v2 s4 is4 fs4 h3 => ?_)
      dsimp only
      refine OK.ieq (fun h5 => ?_) (fun h5 => ?_)
      · skip
        refine OK.ile (fun h6 => ?_) (fun h6 => ?_)
        · skip
          unfold f_X4_takeNumber_38
          try dsimp only
          refine OK.ile (fun h7 => ?_) (fun h7 => ?_)
          · skip
            obtain ⟨a8k, a8, a8l, a8r⟩ := i_add x4 1
            try (refine k0el (k := a8k) ?_ (fun e0 => ?_); (focus omega); subst e0)
            exact OK.trW (ih _ _ _ _ is4 (by first | exact hT | (rw [fs4.2.2.2]; exact hT)) (by omega)) fs4 (fun v hv => by first | trivial | omega | exact hI.flds _ | exact hI.dflds _ | exact hI.recs _ | exact hI.drecs _ | exact hI.droot _ | omega)
          · skip
            exact OK.row (k_X4_takeNumber_70_92_62 _ _ is4 (by first | exact hT | exact hI.r89 | (rw [fs4.2.2.2]; exact hT))) is4 fs4 (fun v hv => by first | trivial | omega | exact hI.flds _ | exact hI.dflds _ | exact hI.recs _ | exact hI.drecs _ | exact hI.droot _ | omega)
        · skip
          refine OK.bndS (k_X4_fail_92_62 _ _ _ is4 (by first | exact hT | exact hI.r89 | (rw [fs4.2.2.2]; exact hT))) fs4 (fun s9 is9 fs9 => ?_)
          try dsimp only
          unfold f_X4_takeNumber_38
          try dsimp only
          refine OK.ile (fun h10 => ?_) (fun h10 => ?_)
          · skip
            obtain ⟨a11k, a11, a11l, a11r⟩ := i_add x4 1
            try (refine k0el (k := a11k) ?_ (fun e0 => ?_); (focus omega); subst e0)
            exact OK.trW (ih _ _ _ _ is9 (by first | exact hT | (rw [fs9.2.2.2]; exact hT)) (by omega)) fs9 (fun v hv => by first | trivial | omega | exact hI.flds _ | exact hI.dflds _ | exact hI.recs _ | exact hI.drecs _ | exact hI.droot _ | omega)
          · skip
            exact OK.row (k_X4_takeNumber_70_92_62 _ _ is9 (by first | exact hT | exact hI.r89 | (rw [fs9.2.2.2]; exact hT))) is9 fs9 (fun v hv => by first | trivial | omega | exact hI.flds _ | exact hI.dflds _ | exact hI.recs _ | exact hI.drecs _ | exact hI.droot _ | omega)
      · skip
        unfold f_X4_takeNumber_38
        try dsimp only
        refine OK.ile (fun h12 => ?_) (fun h12 => ?_)
        · skip
          obtain ⟨a13k, a13, a13l, a13r⟩ := i_add x4 1
          try (refine k0el (k := a13k) ?_ (fun e0 => ?_); (focus omega); subst e0)
          exact OK.trW (ih _ _ _ _ is4 (by first | exact hT | (rw [fs4.2.2.2]; exact hT)) (by omega)) fs4 (fun v hv => by first | trivial | omega | exact hI.flds _ | exact hI.dflds _ | exact hI.recs _ | exact hI.drecs _ | exact hI.droot _ | omega)
        · skip
          exact OK.row (k_X4_takeNumber_70_92_62 _ _ is4 (by first | exact hT | exact hI.r89 | (rw [fs4.2.2.2]; exact hT))) is4 fs4 (fun v hv => by first | trivial | omega | exact hI.flds _ | exact hI.dflds _ | exact hI.recs _ | exact hI.drecs _ | exact hI.droot _ | omega)

theorem k_X4_takeNumber_5_92_74 : ∀ (n : Nat) (x1 : Int32) (x2 : Int64) (x4 : Int32) (σ : ST), IA σ → σ.2.2.2 92 = 74 → (0 ≤ x4.toInt ∧ x4.toInt ≤ 10 ∧ (10 : Int) - x4.toInt < n) → OK (f_X4_takeNumber_5 92 74 n x1 x2 x4 σ) (RW σ fun v => True) := by
  intro n
  induction n with
  | zero =>
    intro x1 x2 x4 σ hI hT hv
    omega
  | succ n ih =>
    intro x1 x2 x4 σ hI hT hv
    rw [f_X4_takeNumber_5]
    have lt_0 := li_0
    have lt_1 := li_1
    have lt_7 := li_7
    have lt_9 := li_9
    have lt_10 := li_10
    have lt_12 := li_12
    have lt_63 := li_63
    have lt_127 := li_127
    have lt_128 := li_128
    have lFU : ((FU : Nat) : Int) = 100000 := rfl
    refine OK.ile (fun h1 => ?_) (fun h1 => ?_)
    · skip
      exact OK.row (k_X4_takeNumber_70_92_74 _ _ hI (by first | exact hT | exact hI.r89 | (rw [Fr.rf.2.2.2]; exact hT))) hI Fr.rf (fun v hv => by first | trivial | omega | exact hI.flds _ | exact hI.dflds _ | exact hI.recs _ | exact hI.drecs _ | exact hI.droot _ | omega)
    · skip
      refine OK.bndW (k_X4_takeByte_92_74 _ hI (by first | exact hT | exact hI.r89 | (rw [Fr.rf.2.2.2]; exact hT))) Fr.rf (fun v2 s4 is4 fs4 h3 => ?_)
      dsimp only
      refine OK.ieq (fun h5 => ?_) (fun h5 => ?_)
      · skip
        refine OK.ile (fun h6 => ?_) (fun h6 => ?_)
        · skip
          unfold f_X4_takeNumber_38
          try dsimp only
          refine OK.ile (fun h7 => ?_) (fun h7 => ?_)
          · skip
            obtain ⟨a8k, a8, a8l, a8r⟩ := i_add x4 1
            try (refine k0el (k := a8k) ?_ (fun e0 => ?_); (focus omega); subst e0)
            exact OK.trW (ih _ _ _ _ is4 (by first | exact hT | (rw [fs4.2.2.2]; exact hT)) (by omega)) fs4 (fun v hv => by first | trivial | omega | exact hI.flds _ | exact hI.dflds _ | exact hI.recs _ | exact hI.drecs _ | exact hI.droot _ | omega)
          · skip
            exact OK.row (k_X4_takeNumber_70_92_74 _ _ is4 (by first | exact hT | exact hI.r89 | (rw [fs4.2.2.2]; exact hT))) is4 fs4 (fun v hv => by first | trivial | omega | exact hI.flds _ | exact hI.dflds _ | exact hI.recs _ | exact hI.drecs _ | exact hI.droot _ | omega)
        · skip
          refine OK.bndS (k_X4_fail_92_74 _ _ _ is4 (by first | exact hT | exact hI.r89 | (rw [fs4.2.2.2]; exact hT))) fs4 (fun s9 is9 fs9 => ?_)
          try dsimp only
          unfold f_X4_takeNumber_38
          try dsimp only
          refine OK.ile (fun h10 => ?_) (fun h10 => ?_)
          · skip
            obtain ⟨a11k, a11, a11l, a11r⟩ := i_add x4 1
            try (refine k0el (k := a11k) ?_ (fun e0 => ?_); (focus omega); subst e0)
            exact OK.trW (ih _ _ _ _ is9 (by first | exact hT | (rw [fs9.2.2.2]; exact hT)) (by omega)) fs9 (fun v hv => by first | trivial | omega | exact hI.flds _ | exact hI.dflds _ | exact hI.recs _ | exact hI.drecs _ | exact hI.droot _ | omega)
          · skip
            exact OK.row (k_X4_takeNumber_70_92_74 _ _ is9 (by first | exact hT | exact hI.r89 | (rw [fs9.2.2.2]; exact hT))) is9 fs9 (fun v hv => by first | trivial | omega | exact hI.flds _ | exact hI.dflds _ | exact hI.recs _ | exact hI.drecs _ | exact hI.droot _ | omega)
      · skip
        unfold f_X4_takeNumber_38
        try dsimp only
        refine OK.ile (fun h12 => ?_) (fun h12 => ?_)
        · skip
          obtain ⟨a13k, a13, a13l, a13r⟩ := i_add x4 1
          try (refine k0el (k := a13k) ?_ (fun e0 => ?_); (focus omega); subst e0)
          exact OK.trW (ih _ _ _ _ is4 (by first | exact hT | (rw [fs4.2.2.2]; exact hT)) (by omega)) fs4 (fun v hv => by first | trivial | omega | exact hI.flds _ | exact hI.dflds _ | exact hI.recs _ | exact hI.drecs _ | exact hI.droot _ | omega)
        · skip
          exact OK.row (k_X4_takeNumber_70_92_74 _ _ is4 (by first | exact hT | exact hI.r89 | (rw [fs4.2.2.2]; exact hT))) is4 fs4 (fun v hv => by first | trivial | omega | exact hI.flds _ | exact hI.dflds _ | exact hI.recs _ | exact hI.drecs _ | exact hI.droot _ | omega)
