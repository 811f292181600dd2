theorem k_J6_bitCount_0f7a4 (p0 : Int32) (σ : ST) (hI : IA σ)  : OK (f_J6_bitCount_0f7a4  p0 σ) (RO σ fun v => True) := by
  unfold f_J6_bitCount_0f7a4
  have lt_0 := li_0
  have lt_1 := li_1
  have lt_63 := li_63
  have lFU : ((FU : Nat) : Int) = 100000 := rfl
  refine OK.lt (fun w1 _ => ?_)
  refine OK.lt (fun w2 _ => ?_)
  refine OK.lt (fun w3 _ => ?_)
  refine OK.lt (fun w4 _ => ?_)
  refine OK.lt (fun w5 _ => ?_)
  exact OK.roret (by first | trivial | omega | exact hI.flds _ | exact hI.dflds _ | exact hI.recs _ | exact hI.drecs _ | exact hI.droot _ | omega)

theorem k_J7_fill_53178_5_10 : ∀ (n : Nat) (x1 : Int32) (x2 : Int32) (x3 : Int32) (σ : ST), IA σ → (0 ≤ x2.toInt ∧ x2.toInt ≤ 36 ∧ (x3.toInt ≤ 36) ∧ (36 : Int) - x2.toInt < n) → OK (f_J7_fill_53178_5 10 n x1 x2 x3 σ) (RS σ) := by
  intro n
  induction n with
  | zero =>
    intro x1 x2 x3 σ hI hv
    omega
  | succ n ih =>
    intro x1 x2 x3 σ hI hv
    rw [f_J7_fill_53178_5]
    have lt_0 := li_0
    have lt_1 := li_1
    have lFU : ((FU : Nat) : Int) = 100000 := rfl
    have gu : ((lnA 10 : Nat) : Int) = 36 := rfl
    have gn : (nI (lnA 10 : Nat)).toInt = 36 := by decide
    refine OK.ile (fun h1 => ?_) (fun h1 => ?_)
    · skip
      exact OK.sret hI Fr.rf
    · skip
      refine OK.grd ⟨by omega, by omega⟩ ?_
      obtain ⟨a2k, a2, a2l, a2r⟩ := i_add x2 1
      try (refine k0el (k := a2k) ?_ (fun e0 => ?_); (focus omega); subst e0)
      exact OK.trS (ih _ _ _ _ (ia_I_10 hI) (by omega)) (fr_I_10 Fr.rf)

theorem k_J7_fill_53178_5_40 : ∀ (n : Nat) (x1 : Int32) (x2 : Int32) (x3 : Int32) (σ : ST), IA σ → (0 ≤ x2.toInt ∧ x2.toInt ≤ 4 ∧ (x3.toInt ≤ 4) ∧ (4 : Int) - x2.toInt < n) → OK (f_J7_fill_53178_5 40 n x1 x2 x3 σ) (RS σ) := by
  intro n
  induction n with
  | zero =>
    intro x1 x2 x3 σ hI hv
    omega
  | succ n ih =>
    intro x1 x2 x3 σ hI hv
    rw [f_J7_fill_53178_5]
    have lt_0 := li_0
    have lt_1 := li_1
    have lFU : ((FU : Nat) : Int) = 100000 := rfl
    have gu : ((lnA 40 : Nat) : Int) = 4 := rfl
    have gn : (nI (lnA 40 : Nat)).toInt = 4 := by decide
    refine OK.ile (fun h1 => ?_) (fun h1 => ?_)
    · skip
      exact OK.sret hI Fr.rf
    · skip
      refine OK.grd ⟨by omega, by omega⟩ ?_
      obtain ⟨a2k, a2, a2l, a2r⟩ := i_add x2 1
      try (refine k0el (k := a2k) ?_ (fun e0 => ?_); (focus omega); subst e0)
      exact OK.trS (ih _ _ _ _ (ia_I_40 hI) (by omega)) (fr_I_40 Fr.rf)

theorem k_J7_fill_53178_5_43 : ∀ (n : Nat) (x1 : Int32) (x2 : Int32) (x3 : Int32) (σ : ST), IA σ → (0 ≤ x2.toInt ∧ x2.toInt ≤ 36 ∧ (x3.toInt ≤ 36) ∧ (36 : Int) - x2.toInt < n) → OK (f_J7_fill_53178_5 43 n x1 x2 x3 σ) (RS σ) := by
  intro n
  induction n with
  | zero =>
    intro x1 x2 x3 σ hI hv
    omega
  | succ n ih =>
    intro x1 x2 x3 σ hI hv
    rw [f_J7_fill_53178_5]
    have lt_0 := li_0
    have lt_1 := li_1
    have lFU : ((FU : Nat) : Int) = 100000 := rfl
    have gu : ((lnA 43 : Nat) : Int) = 36 := rfl
    have gn : (nI (lnA 43 : Nat)).toInt = 36 := by decide
    refine OK.ile (fun h1 => ?_) (fun h1 => ?_)
    · skip
      exact OK.sret hI Fr.rf
    · skip
      refine OK.grd ⟨by omega, by omega⟩ ?_
      obtain ⟨a2k, a2, a2l, a2r⟩ := i_add x2 1
      try (refine k0el (k := a2k) ?_ (fun e0 => ?_); (focus omega); subst e0)
      exact OK.trS (ih _ _ _ _ (ia_I_43 hI) (by omega)) (fr_I_43 Fr.rf)

theorem k_J7_fill_53178_10 (p1 : Int32) (σ : ST) (hI : IA σ)  : OK (f_J7_fill_53178 10 p1 σ) (RS σ) := by
  unfold f_J7_fill_53178
  have lt_0 := li_0
  have lt_1 := li_1
  have lFU : ((FU : Nat) : Int) = 100000 := rfl
  have gu : ((lnA 10 : Nat) : Int) = 36 := rfl
  have gn : (nI (lnA 10 : Nat)).toInt = 36 := by decide
  exact OK.trS (k_J7_fill_53178_5_10 FU _ _ _ _ hI (by omega)) Fr.rf

theorem k_J7_fill_53178_40 (p1 : Int32) (σ : ST) (hI : IA σ)  : OK (f_J7_fill_53178 40 p1 σ) (RS σ) := by
  unfold f_J7_fill_53178
  have lt_0 := li_0
  have lt_1 := li_1
  have lFU : ((FU : Nat) : Int) = 100000 := rfl
  have gu : ((lnA 40 : Nat) : Int) = 4 := rfl
  have gn : (nI (lnA 40 : Nat)).toInt = 4 := by decide
  exact OK.trS (k_J7_fill_53178_5_40 FU _ _ _ _ hI (by omega)) Fr.rf

theorem k_J7_fill_53178_43 (p1 : Int32) (σ : ST) (hI : IA σ)  : OK (f_J7_fill_53178 43 p1 σ) (RS σ) := by
  unfold f_J7_fill_53178
  have lt_0 := li_0
  have lt_1 := li_1
  have lFU : ((FU : Nat) : Int) = 100000 := rfl
  have gu : ((lnA 43 : Nat) : Int) = 36 := rfl
  have gn : (nI (lnA 43 : Nat)).toInt = 36 := by decide
  exact OK.trS (k_J7_fill_53178_5_43 FU _ _ _ _ hI (by omega)) Fr.rf

theorem k_J9_floorMod_7cf53 (p0 : Int32) (p1 : Int32) (σ : ST) (hI : IA σ) (hp0 : ¬ p1 = 0)  : OK (f_J9_floorMod_7cf53  p0 p1 σ) (RO σ fun v => True) := by
  unfold f_J9_floorMod_7cf53
  have lt_0 := li_0
  have lt_1 := li_1
  have lFU : ((FU : Nat) : Int) = 100000 := rfl
  refine OK.grd (by first | assumption | decide | omega) ?_
  refine OK.ile (fun h1 => ?_) (fun h1 => ?_)
  · skip
    exact OK.roret (by first | trivial | omega | exact hI.flds _ | exact hI.dflds _ | exact hI.recs _ | exact hI.drecs _ | exact hI.droot _ | omega)
  · skip
    obtain ⟨a2k, a2, a2l, a2r⟩ := i_mul (p0 / p1) p1
    try (refine k0el (k := a2k) ?_ (fun e0 => ?_); (focus omega); subst e0)
    obtain ⟨a3k, a3, a3l, a3r⟩ := i_sub p0 ((p0 / p1) * p1)
    try (refine k0el (k := a3k) ?_ (fun e0 => ?_); (focus omega); subst e0)
    refine OK.ieq (fun h4 => ?_) (fun h4 => ?_)
    · skip
      exact OK.roret (by first | trivial | omega | exact hI.flds _ | exact hI.dflds _ | exact hI.recs _ | exact hI.drecs _ | exact hI.droot _ | omega)
    · skip
      exact OK.roret (by first | trivial | omega | exact hI.flds _ | exact hI.dflds _ | exact hI.recs _ | exact hI.drecs _ | exact hI.droot _ | omega)

theorem k_X0_addMiss (p0 : Int32) (σ : ST) (hI : IA σ) : OK (f_X0_addMiss p0 σ) (RS σ) := by
  unfold f_X0_addMiss
  have lt_0 := li_0
  have lt_20 := li_20
  have lt_32 := li_32
  refine OK.ilt (fun h1 => OK.sret hI Fr.rf) (fun h1 => ?_)
  refine OK.ile (fun h2 => OK.sret hI Fr.rf) (fun h2 => ?_)
  refine OK.ilt (fun h3 => OK.sret hI Fr.rf) (fun h3 => ?_)
  refine OK.ile (fun h4 => ?_) (fun h4 => OK.sret hI Fr.rf)
  refine OK.grd ⟨by omega, by omega⟩ ?_
  refine OK.grd (show 0 ≤ (σ.1 41 6).toInt ∧ (σ.1 41 6).toInt < 20 from ⟨by omega, by omega⟩) ?_
  refine OK.lt (fun z3 hz => ?_)
  have e6 : z3.1 41 6 = σ.1 41 6 := by rw [hz]; rfl
  have e11 : z3.1 41 11 = σ.1 41 11 := by rw [hz]; rfl
  have i3 : IA z3 := by rw [hz]; exact ia_I_45 (ia_I_44 hI)
  have f3 : Fr σ z3 := by rw [hz]; exact fr_I_45 (fr_I_44 Fr.rf)
  obtain ⟨ak, a, al, ar⟩ := i_mul (z3.1 41 6) 32
  rw [li_32, e6] at a
  rw [e6] at al ar
  try (refine k0el (k := ak) ?_ (fun e0 => ?_); (focus omega); subst e0)
  have q1 : (σ.1 41 11).toNatClampNeg = (σ.1 41 11).toInt.toNat := rfl
  have q2 : (σ.1 41 6 * 32).toNatClampNeg = (σ.1 41 6 * 32).toInt.toNat := rfl
  have q0 : (0 : Int32).toNatClampNeg = 0 := by decide
  refine OK.grd (by
    rw [e6, e11, q0, q1, q2]
    refine ⟨by decide, ?_, ?_, ?_, ?_⟩
    · intro hh; have := il_lt hh; omega
    · intro hh; have := il_lt hh; omega
    · omega
    · omega) ?_
  refine OK.lt (fun z4 hz4 => ?_)
  have i4 : IA z4 := by rw [hz4]; exact i3
  have f4 : Fr σ z4 := by rw [hz4]; exact f3
  exact OK.sret (ia_I_41 i4) (fr_I_41 f4)


theorem k_X0_bitOf (p0 : Int32) (p1 : Int32) (σ : ST) (hI : IA σ)  : OK (f_X0_bitOf  p0 p1 σ) (RO σ fun v => True) := by
  unfold f_X0_bitOf
  have lt_0 := li_0
  have lt_1 := li_1
  have lt_6 := li_6
  have lt_63 := li_63
  have lFU : ((FU : Nat) : Int) = 100000 := rfl
  refine OK.bndR (k_J9_floorMod_7cf53 _ _ _ hI (by decide)) (fun v1 h2 => ?_)
  dsimp only
  refine OK.bndR (k_J9_floorMod_7cf53 _ _ _ hI (by decide)) (fun v3 h4 => ?_)
  dsimp only
  exact OK.roret (by first | trivial | omega | exact hI.flds _ | exact hI.dflds _ | exact hI.recs _ | exact hI.drecs _ | exact hI.droot _ | omega)

theorem k_X0_plainFits_41 (σ : ST) (hI : IA σ)  : OK (f_X0_plainFits_41  σ) (RO σ fun v => v.toInt = 0 ∨ v.toInt = 1) := by
  unfold f_X0_plainFits_41
  have lt_0 := li_0
  have lt_1 := li_1
  have lFU : ((FU : Nat) : Int) = 100000 := rfl
  exact OK.roret (by first | trivial | omega | exact hI.flds _ | exact hI.dflds _ | exact hI.recs _ | exact hI.drecs _ | exact hI.droot _ | omega)

theorem k_X0_plainFits_31 (x0 : Int32) (x1 : Int32) (σ : ST) (hI : IA σ)  : OK (f_X0_plainFits_31  x0 x1 σ) (RO σ fun v => v.toInt = 0 ∨ v.toInt = 1) := by
  unfold f_X0_plainFits_31
  have lt_0 := li_0
  have lt_1 := li_1
  have lt_3 := li_3
  have lt_4 := li_4
  have lFU : ((FU : Nat) : Int) = 100000 := rfl
  refine OK.ieq (fun h1 => ?_) (fun h1 => ?_)
  · skip
    refine OK.ieq (fun h2 => ?_) (fun h2 => ?_)
    · skip
      exact OK.roq (k_X0_plainFits_41 _ hI ) (fun v hv => by first | trivial | omega | exact hI.flds _ | exact hI.dflds _ | exact hI.recs _ | exact hI.drecs _ | exact hI.droot _ | omega)
    · skip
      exact OK.roret (by first | trivial | omega | exact hI.flds _ | exact hI.dflds _ | exact hI.recs _ | exact hI.drecs _ | exact hI.droot _ | omega)
  · skip
    exact OK.roret (by first | trivial | omega | exact hI.flds _ | exact hI.dflds _ | exact hI.recs _ | exact hI.drecs _ | exact hI.droot _ | omega)

theorem k_X0_plainFits (p0 : Int32) (p1 : Int32) (σ : ST) (hI : IA σ)  : OK (f_X0_plainFits  p0 p1 σ) (RO σ fun v => v.toInt = 0 ∨ v.toInt = 1) := by
  unfold f_X0_plainFits
  have lt_0 := li_0
  have lt_1 := li_1
  have lt_2 := li_2
  have lt_3 := li_3
  have lt_4 := li_4
  have lt_5 := li_5
  have lFU : ((FU : Nat) : Int) = 100000 := rfl
  refine OK.ilt (fun h1 => ?_) (fun h1 => ?_)
  · skip
    exact OK.roret (by first | trivial | omega | exact hI.flds _ | exact hI.dflds _ | exact hI.recs _ | exact hI.drecs _ | exact hI.droot _ | omega)
  · skip
    refine OK.ile (fun h2 => ?_) (fun h2 => ?_)
    · skip
      refine OK.ieq (fun h3 => ?_) (fun h3 => ?_)
      · skip
        exact OK.roq (k_X0_plainFits_41 _ hI ) (fun v hv => by first | trivial | omega | exact hI.flds _ | exact hI.dflds _ | exact hI.recs _ | exact hI.drecs _ | exact hI.droot _ | omega)
      · skip
        refine OK.ieq (fun h4 => ?_) (fun h4 => ?_)
        · skip
          refine OK.ieq (fun h5 => ?_) (fun h5 => ?_)
          · skip
            exact OK.roq (k_X0_plainFits_41 _ hI ) (fun v hv => by first | trivial | omega | exact hI.flds _ | exact hI.dflds _ | exact hI.recs _ | exact hI.drecs _ | exact hI.droot _ | omega)
          · skip
            refine OK.ieq (fun h6 => ?_) (fun h6 => ?_)
            · skip
              exact OK.roq (k_X0_plainFits_41 _ hI ) (fun v hv => by first | trivial | omega | exact hI.flds _ | exact hI.dflds _ | exact hI.recs _ | exact hI.drecs _ | exact hI.droot _ | omega)
            · skip
              exact OK.roq (k_X0_plainFits_31 _ _ _ hI ) (fun v hv => by first | trivial | omega | exact hI.flds _ | exact hI.dflds _ | exact hI.recs _ | exact hI.drecs _ | exact hI.droot _ | omega)
        · skip
          exact OK.roq (k_X0_plainFits_31 _ _ _ hI ) (fun v hv => by first | trivial | omega | exact hI.flds _ | exact hI.dflds _ | exact hI.recs _ | exact hI.drecs _ | exact hI.droot _ | omega)
    · skip
      exact OK.roret (by first | trivial | omega | exact hI.flds _ | exact hI.dflds _ | exact hI.recs _ | exact hI.drecs _ | exact hI.droot _ | omega)

theorem k_X5_isType_4 (p0 : Int32) (σ : ST) (hI : IA σ)  : OK (f_X5_isType 4 p0 σ) (RO σ fun v => v.toInt = 0 ∨ v.toInt = 1 ∧ 0 ≤ p0.toInt ∧ p0.toInt < 262) := by
  unfold f_X5_isType
  have lt_0 := li_0
  have lt_1 := li_1
  have lt_262 := li_262
  have lFU : ((FU : Nat) : Int) = 100000 := rfl
  refine OK.ilt (fun h1 => ?_) (fun h1 => ?_)
  · skip
    exact OK.roret (by first | trivial | omega | exact hI.flds _ | exact hI.dflds _ | exact hI.recs _ | exact hI.drecs _ | exact hI.droot _ | omega)
  · skip
    refine OK.ile (fun h2 => ?_) (fun h2 => ?_)
    · skip
      exact OK.roret (by first | trivial | omega | exact hI.flds _ | exact hI.dflds _ | exact hI.recs _ | exact hI.drecs _ | exact hI.droot _ | omega)
    · skip
      refine OK.ile (fun h3 => ?_) (fun h3 => ?_)
      · skip
        exact OK.roret (by first | trivial | omega | exact hI.flds _ | exact hI.dflds _ | exact hI.recs _ | exact hI.drecs _ | exact hI.droot _ | omega)
      · skip
        exact OK.roret (by first | trivial | omega | exact hI.flds _ | exact hI.dflds _ | exact hI.recs _ | exact hI.drecs _ | exact hI.droot _ | omega)

theorem k_X5_isType_20 (p0 : Int32) (σ : ST) (hI : IA σ)  : OK (f_X5_isType 20 p0 σ) (RO σ fun v => v.toInt = 0 ∨ v.toInt = 1 ∧ 0 ≤ p0.toInt ∧ p0.toInt < 262) := by
  unfold f_X5_isType
  have lt_0 := li_0
  have lt_1 := li_1
  have lt_262 := li_262
  have lFU : ((FU : Nat) : Int) = 100000 := rfl
  refine OK.ilt (fun h1 => ?_) (fun h1 => ?_)
  · skip
    exact OK.roret (by first | trivial | omega | exact hI.flds _ | exact hI.dflds _ | exact hI.recs _ | exact hI.drecs _ | exact hI.droot _ | omega)
  · skip
    have g2 : 0 ≤ (σ.1 20 1).toInt ∧ (σ.1 20 1).toInt ≤ 262 := hI.dtypes
    refine OK.ile (fun h3 => ?_) (fun h3 => ?_)
    · skip
      exact OK.roret (by first | trivial | omega | exact hI.flds _ | exact hI.dflds _ | exact hI.recs _ | exact hI.drecs _ | exact hI.droot _ | omega)
    · skip
      refine OK.ile (fun h4 => ?_) (fun h4 => ?_)
      · skip
        exact OK.roret (by first | trivial | omega | exact hI.flds _ | exact hI.dflds _ | exact hI.recs _ | exact hI.drecs _ | exact hI.droot _ | omega)
      · skip
        exact OK.roret (by first | trivial | omega | exact hI.flds _ | exact hI.dflds _ | exact hI.recs _ | exact hI.drecs _ | exact hI.droot _ | omega)

theorem k_X5_branchAfter_4 (p0 : Int32) (σ : ST) (hI : IA σ)  : OK (f_X5_branchAfter 4 p0 σ) (RO σ fun v => True) := by
  unfold f_X5_branchAfter
  have lt_m1 := li_m1
  have lt_0 := li_0
  have lt_1 := li_1
  have lFU : ((FU : Nat) : Int) = 100000 := rfl
  refine OK.bndR (k_X5_isType_4 _ _ hI ) (fun v1 h2 => ?_)
  dsimp only
  refine OK.ieq (fun h3 => ?_) (fun h3 => ?_)
  · skip
    exact OK.roret (by first | trivial | omega | exact hI.flds _ | exact hI.dflds _ | exact hI.recs _ | exact hI.drecs _ | exact hI.droot _ | omega)
  · skip
    refine OK.grd ⟨by omega, by omega⟩ ?_
    exact OK.roret (by first | trivial | omega | exact hI.flds _ | exact hI.dflds _ | exact hI.recs _ | exact hI.drecs _ | exact hI.droot _ | omega)

theorem k_X5_innerOf_4 (p0 : Int32) (σ : ST) (hI : IA σ)  : OK (f_X5_innerOf 4 p0 σ) (RO σ fun v => True) := by
  unfold f_X5_innerOf
  have lt_m1 := li_m1
  have lt_0 := li_0
  have lt_1 := li_1
  have lFU : ((FU : Nat) : Int) = 100000 := rfl
  refine OK.bndR (k_X5_isType_4 _ _ hI ) (fun v1 h2 => ?_)
  dsimp only
  refine OK.ieq (fun h3 => ?_) (fun h3 => ?_)
  · skip
    exact OK.roret (by first | trivial | omega | exact hI.flds _ | exact hI.dflds _ | exact hI.recs _ | exact hI.drecs _ | exact hI.droot _ | omega)
  · skip
    refine OK.grd ⟨by omega, by omega⟩ ?_
    exact OK.roret (by first | trivial | omega | exact hI.flds _ | exact hI.dflds _ | exact hI.recs _ | exact hI.drecs _ | exact hI.droot _ | omega)

theorem k_X5_innerOf_20 (p0 : Int32) (σ : ST) (hI : IA σ)  : OK (f_X5_innerOf 20 p0 σ) (RO σ fun v => True) := by
  unfold f_X5_innerOf
  have lt_m1 := li_m1
  have lt_0 := li_0
  have lt_1 := li_1
  have lFU : ((FU : Nat) : Int) = 100000 := rfl
  refine OK.bndR (k_X5_isType_20 _ _ hI ) (fun v1 h2 => ?_)
  dsimp only
  refine OK.ieq (fun h3 => ?_) (fun h3 => ?_)
  · skip
    exact OK.roret (by first | trivial | omega | exact hI.flds _ | exact hI.dflds _ | exact hI.recs _ | exact hI.drecs _ | exact hI.droot _ | omega)
  · skip
    refine OK.grd ⟨by omega, by omega⟩ ?_
    exact OK.roret (by first | trivial | omega | exact hI.flds _ | exact hI.dflds _ | exact hI.recs _ | exact hI.drecs _ | exact hI.droot _ | omega)

theorem k_X5_sortOf_4 (p0 : Int32) (σ : ST) (hI : IA σ)  : OK (f_X5_sortOf 4 p0 σ) (RO σ fun v => True) := by
  unfold f_X5_sortOf
  have lt_m1 := li_m1
  have lt_0 := li_0
  have lt_1 := li_1
  have lFU : ((FU : Nat) : Int) = 100000 := rfl
  refine OK.bndR (k_X5_isType_4 _ _ hI ) (fun v1 h2 => ?_)
  dsimp only
  refine OK.ieq (fun h3 => ?_) (fun h3 => ?_)
  · skip
    exact OK.roret (by first | trivial | omega | exact hI.flds _ | exact hI.dflds _ | exact hI.recs _ | exact hI.drecs _ | exact hI.droot _ | omega)
  · skip
    refine OK.grd ⟨by omega, by omega⟩ ?_
    exact OK.roret (by first | trivial | omega | exact hI.flds _ | exact hI.dflds _ | exact hI.recs _ | exact hI.drecs _ | exact hI.droot _ | omega)

theorem k_X5_sortOf_20 (p0 : Int32) (σ : ST) (hI : IA σ)  : OK (f_X5_sortOf 20 p0 σ) (RO σ fun v => True) := by
  unfold f_X5_sortOf
  have lt_m1 := li_m1
  have lt_0 := li_0
  have lt_1 := li_1
  have lFU : ((FU : Nat) : Int) = 100000 := rfl
  refine OK.bndR (k_X5_isType_20 _ _ hI ) (fun v1 h2 => ?_)
  dsimp only
  refine OK.ieq (fun h3 => ?_) (fun h3 => ?_)
  · skip
    exact OK.roret (by first | trivial | omega | exact hI.flds _ | exact hI.dflds _ | exact hI.recs _ | exact hI.drecs _ | exact hI.droot _ | omega)
  · skip
    refine OK.grd ⟨by omega, by omega⟩ ?_
    exact OK.roret (by first | trivial | omega | exact hI.flds _ | exact hI.dflds _ | exact hI.recs _ | exact hI.drecs _ | exact hI.droot _ | omega)

theorem k_X0_chosenWithin_16 {N0 : Nat} {r_X0_chosenWithin : Int32 → Int32 → Int32 → ST → Option (Int32 × ST)} (hr_X0_chosenWithin : ∀ (p0 : Int32) (p1 : Int32) (p2 : Int32) (σ : ST), IA σ → 0 ≤ p2.toInt ∧ p2.toInt ≤ 11 ∧ (13 : Int) ≤ (N0 : Nat) + p2.toInt → OK (r_X0_chosenWithin p0 p1 p2 σ) (RO σ fun v => True)) {r_X0_fitsWithin : Int32 → Int32 → Int32 → ST → Option (Int32 × ST)} (hr_X0_fitsWithin : ∀ (p0 : Int32) (p1 : Int32) (p2 : Int32) (σ : ST), IA σ → 0 ≤ p2.toInt ∧ p2.toInt ≤ 12 ∧ (13 : Int) ≤ (N0 : Nat) + p2.toInt → OK (r_X0_fitsWithin p0 p1 p2 σ) (RO σ fun v => v.toInt = 0 ∨ v.toInt = 1)) : ∀ (n : Nat) (x1 : Int32) (x3 : Int32) (x4 : Int32) (x5 : Int32) (x6 : Int32) (σ : ST), IA σ → ((0 ≤ x3.toInt ∧ x3.toInt ≤ 11 ∧ (13 : Int) ≤ (N0 + 1 : Nat) + x3.toInt) ∧ 0 ≤ x6.toInt ∧ x6.toInt ≤ 4 ∧ (4 : Int) - x6.toInt < n) → OK (f_X0_chosenWithin_16 r_X0_chosenWithin r_X0_fitsWithin  n x1 x3 x4 x5 x6 σ) (RO σ fun v => True) := by
  intro n
  induction n with
  | zero =>
    intro x1 x3 x4 x5 x6 σ hI hv
    omega
  | succ n ih =>
    intro x1 x3 x4 x5 x6 σ hI hv
    rw [f_X0_chosenWithin_16]
    have lt_m1 := li_m1
    have lt_0 := li_0
    have lt_1 := li_1
    have lt_4 := li_4
    have lFU : ((FU : Nat) : Int) = 100000 := rfl
    have lFR : ((FR : Nat) : Int) = 160 := rfl
    refine OK.ile (fun h1 => ?_) (fun h1 => ?_)
    · skip
      exact OK.roret (by first | trivial | omega | exact hI.flds _ | exact hI.dflds _ | exact hI.recs _ | exact hI.drecs _ | exact hI.droot _ | omega)
    · skip
      refine OK.ieq (fun h2 => ?_) (fun h2 => ?_)
      · skip
        exact OK.roret (by first | trivial | omega | exact hI.flds _ | exact hI.dflds _ | exact hI.recs _ | exact hI.drecs _ | exact hI.droot _ | omega)
      · skip
        obtain ⟨a3k, a3, a3l, a3r⟩ := i_add x3 1
        try (refine k0el (k := a3k) ?_ (fun e0 => ?_); (focus omega); subst e0)
        refine OK.bndR (hr_X0_fitsWithin _ _ _ _ hI (by omega)) (fun v4 h5 => ?_)
        dsimp only
        refine OK.ieq (fun h6 => ?_) (fun h6 => ?_)
        · skip
          unfold f_X0_chosenWithin_79
          try dsimp only
          refine OK.bndR (k_X5_branchAfter_4 _ _ hI ) (fun v7 h8 => ?_)
          dsimp only
          obtain ⟨a9k, a9, a9l, a9r⟩ := i_add x6 1
          try (refine k0el (k := a9k) ?_ (fun e0 => ?_); (focus omega); subst e0)
          exact OK.roq (ih _ _ _ _ _ _ hI (by omega)) (fun v hv => by first | trivial | omega | exact hI.flds _ | exact hI.dflds _ | exact hI.recs _ | exact hI.drecs _ | exact hI.droot _ | omega)
        · skip
          refine OK.bndR (k_X5_sortOf_4 _ _ hI ) (fun v10 h11 => ?_)
          dsimp only
          refine OK.bndR (k_X5_sortOf_4 _ _ hI ) (fun v12 h13 => ?_)
          dsimp only
          refine OK.ieq (fun h14 => ?_) (fun h14 => ?_)
          · skip
            exact OK.roret (by first | trivial | omega | exact hI.flds _ | exact hI.dflds _ | exact hI.recs _ | exact hI.drecs _ | exact hI.droot _ | omega)
          · skip
            refine OK.ieq (fun h15 => ?_) (fun h15 => ?_)
            · skip
              unfold f_X0_chosenWithin_77
              try dsimp only
              unfold f_X0_chosenWithin_79
              try dsimp only
              refine OK.bndR (k_X5_branchAfter_4 _ _ hI ) (fun v16 h17 => ?_)
              dsimp only
              obtain ⟨a18k, a18, a18l, a18r⟩ := i_add x6 1
              try (refine k0el (k := a18k) ?_ (fun e0 => ?_); (focus omega); subst e0)
              exact OK.roq (ih _ _ _ _ _ _ hI (by omega)) (fun v hv => by first | trivial | omega | exact hI.flds _ | exact hI.dflds _ | exact hI.recs _ | exact hI.drecs _ | exact hI.droot _ | omega)
            · skip
              unfold f_X0_chosenWithin_77
              try dsimp only
              unfold f_X0_chosenWithin_79
              try dsimp only
              refine OK.bndR (k_X5_branchAfter_4 _ _ hI ) (fun v19 h20 => ?_)
              dsimp only
              obtain ⟨a21k, a21, a21l, a21r⟩ := i_add x6 1
              try (refine k0el (k := a21k) ?_ (fun e0 => ?_); (focus omega); subst e0)
              exact OK.roq (ih _ _ _ _ _ _ hI (by omega)) (fun v hv => by first | trivial | omega | exact hI.flds _ | exact hI.dflds _ | exact hI.recs _ | exact hI.drecs _ | exact hI.droot _ | omega)

theorem k_X0_chosenWithin {N0 : Nat} {r_X0_chosenWithin : Int32 → Int32 → Int32 → ST → Option (Int32 × ST)} (hr_X0_chosenWithin : ∀ (p0 : Int32) (p1 : Int32) (p2 : Int32) (σ : ST), IA σ → 0 ≤ p2.toInt ∧ p2.toInt ≤ 11 ∧ (13 : Int) ≤ (N0 : Nat) + p2.toInt → OK (r_X0_chosenWithin p0 p1 p2 σ) (RO σ fun v => True)) {r_X0_fitsWithin : Int32 → Int32 → Int32 → ST → Option (Int32 × ST)} (hr_X0_fitsWithin : ∀ (p0 : Int32) (p1 : Int32) (p2 : Int32) (σ : ST), IA σ → 0 ≤ p2.toInt ∧ p2.toInt ≤ 12 ∧ (13 : Int) ≤ (N0 : Nat) + p2.toInt → OK (r_X0_fitsWithin p0 p1 p2 σ) (RO σ fun v => v.toInt = 0 ∨ v.toInt = 1)) (p0 : Int32) (p1 : Int32) (p2 : Int32) (σ : ST) (hI : IA σ) (hv : 0 ≤ p2.toInt ∧ p2.toInt ≤ 11 ∧ (13 : Int) ≤ (N0 + 1 : Nat) + p2.toInt)  : OK (f_X0_chosenWithin r_X0_chosenWithin r_X0_fitsWithin  p0 p1 p2 σ) (RO σ fun v => True) := by
  unfold f_X0_chosenWithin
  have lt_m1 := li_m1
  have lt_0 := li_0
  have lt_1 := li_1
  have lFU : ((FU : Nat) : Int) = 100000 := rfl
  have lFR : ((FR : Nat) : Int) = 160 := rfl
  refine OK.bndR (k_X5_innerOf_4 _ _ hI ) (fun v1 h2 => ?_)
  dsimp only
  exact OK.roq (k_X0_chosenWithin_16 hr_X0_chosenWithin hr_X0_fitsWithin FU _ _ _ _ _ _ hI (by omega)) (fun v hv => by first | trivial | omega | exact hI.flds _ | exact hI.dflds _ | exact hI.recs _ | exact hI.drecs _ | exact hI.droot _ | omega)

theorem k_X0_fitsWithin_48 {N0 : Nat} {r_X0_chosenWithin : Int32 → Int32 → Int32 → ST → Option (Int32 × ST)} (hr_X0_chosenWithin : ∀ (p0 : Int32) (p1 : Int32) (p2 : Int32) (σ : ST), IA σ → 0 ≤ p2.toInt ∧ p2.toInt ≤ 11 ∧ (13 : Int) ≤ (N0 : Nat) + p2.toInt → OK (r_X0_chosenWithin p0 p1 p2 σ) (RO σ fun v => True)) {r_X0_fitsWithin : Int32 → Int32 → Int32 → ST → Option (Int32 × ST)} (hr_X0_fitsWithin : ∀ (p0 : Int32) (p1 : Int32) (p2 : Int32) (σ : ST), IA σ → 0 ≤ p2.toInt ∧ p2.toInt ≤ 12 ∧ (13 : Int) ≤ (N0 : Nat) + p2.toInt → OK (r_X0_fitsWithin p0 p1 p2 σ) (RO σ fun v => v.toInt = 0 ∨ v.toInt = 1)) : ∀ (n : Nat) (x2 : Int32) (x3 : Int32) (x6 : Int32) (x7 : Int32) (σ : ST), IA σ → ((0 ≤ x3.toInt ∧ x3.toInt ≤ 10 ∧ (13 : Int) ≤ (N0 + 1 : Nat) + x3.toInt) ∧ 0 ≤ x7.toInt ∧ x7.toInt ≤ 4 ∧ (4 : Int) - x7.toInt < n) → OK (f_X0_fitsWithin_48 r_X0_chosenWithin r_X0_fitsWithin  n x2 x3 x6 x7 σ) (RO σ fun v => v.toInt = 0 ∨ v.toInt = 1) := by
  intro n
  induction n with
  | zero =>
    intro x2 x3 x6 x7 σ hI hv
    omega
  | succ n ih =>
    intro x2 x3 x6 x7 σ hI hv
    rw [f_X0_fitsWithin_48]
    have lt_m1 := li_m1
    have lt_0 := li_0
    have lt_1 := li_1
    have lt_4 := li_4
    have lFU : ((FU : Nat) : Int) = 100000 := rfl
    have lFR : ((FR : Nat) : Int) = 160 := rfl
    refine OK.ile (fun h1 => ?_) (fun h1 => ?_)
    · skip
      exact OK.roret (by first | trivial | omega | exact hI.flds _ | exact hI.dflds _ | exact hI.recs _ | exact hI.drecs _ | exact hI.droot _ | omega)
    · skip
      refine OK.ieq (fun h2 => ?_) (fun h2 => ?_)
      · skip
        exact OK.roret (by first | trivial | omega | exact hI.flds _ | exact hI.dflds _ | exact hI.recs _ | exact hI.drecs _ | exact hI.droot _ | omega)
      · skip
        obtain ⟨a3k, a3, a3l, a3r⟩ := i_add x3 1
        try (refine k0el (k := a3k) ?_ (fun e0 => ?_); (focus omega); subst e0)
        refine OK.bndR (hr_X0_fitsWithin _ _ _ _ hI (by omega)) (fun v4 h5 => ?_)
        dsimp only
        refine OK.ieq (fun h6 => ?_) (fun h6 => ?_)
        · skip
          refine OK.bndR (k_X5_branchAfter_4 _ _ hI ) (fun v7 h8 => ?_)
          dsimp only
          obtain ⟨a9k, a9, a9l, a9r⟩ := i_add x7 1
          try (refine k0el (k := a9k) ?_ (fun e0 => ?_); (focus omega); subst e0)
          exact OK.roq (ih _ _ _ _ _ hI (by omega)) (fun v hv => by first | trivial | omega | exact hI.flds _ | exact hI.dflds _ | exact hI.recs _ | exact hI.drecs _ | exact hI.droot _ | omega)
        · skip
          exact OK.roret (by first | trivial | omega | exact hI.flds _ | exact hI.dflds _ | exact hI.recs _ | exact hI.drecs _ | exact hI.droot _ | omega)

theorem k_X0_fitsWithin {N0 : Nat} {r_X0_chosenWithin : Int32 → Int32 → Int32 → ST → Option (Int32 × ST)} (hr_X0_chosenWithin : ∀ (p0 : Int32) (p1 : Int32) (p2 : Int32) (σ : ST), IA σ → 0 ≤ p2.toInt ∧ p2.toInt ≤ 11 ∧ (13 : Int) ≤ (N0 : Nat) + p2.toInt → OK (r_X0_chosenWithin p0 p1 p2 σ) (RO σ fun v => True)) {r_X0_fitsWithin : Int32 → Int32 → Int32 → ST → Option (Int32 × ST)} (hr_X0_fitsWithin : ∀ (p0 : Int32) (p1 : Int32) (p2 : Int32) (σ : ST), IA σ → 0 ≤ p2.toInt ∧ p2.toInt ≤ 12 ∧ (13 : Int) ≤ (N0 : Nat) + p2.toInt → OK (r_X0_fitsWithin p0 p1 p2 σ) (RO σ fun v => v.toInt = 0 ∨ v.toInt = 1)) (p0 : Int32) (p1 : Int32) (p2 : Int32) (σ : ST) (hI : IA σ) (hv : 0 ≤ p2.toInt ∧ p2.toInt ≤ 12 ∧ (13 : Int) ≤ (N0 + 1 : Nat) + p2.toInt)  : OK (f_X0_fitsWithin r_X0_chosenWithin r_X0_fitsWithin  p0 p1 p2 σ) (RO σ fun v => v.toInt = 0 ∨ v.toInt = 1) := by
  unfold f_X0_fitsWithin
  have lt_m1 := li_m1
  have lt_0 := li_0
  have lt_1 := li_1
  have lt_6 := li_6
  have lt_7 := li_7
  have lt_8 := li_8
  have lt_10 := li_10
  have lFU : ((FU : Nat) : Int) = 100000 := rfl
  have lFR : ((FR : Nat) : Int) = 160 := rfl
  refine OK.ile (fun h1 => ?_) (fun h1 => ?_)
  · skip
    refine OK.bndR (k_X5_sortOf_4 _ _ hI ) (fun v2 h3 => ?_)
    dsimp only
    refine OK.bndR (k_X5_sortOf_4 _ _ hI ) (fun v4 h5 => ?_)
    dsimp only
    refine OK.ieq (fun h6 => ?_) (fun h6 => ?_)
    · skip
      refine OK.bndR (k_X5_innerOf_4 _ _ hI ) (fun v7 h8 => ?_)
      dsimp only
      exact OK.roq (k_X0_fitsWithin_48 hr_X0_chosenWithin hr_X0_fitsWithin FU _ _ _ _ _ hI (by omega)) (fun v hv => by first | trivial | omega | exact hI.flds _ | exact hI.dflds _ | exact hI.recs _ | exact hI.drecs _ | exact hI.droot _ | omega)
    · skip
      refine OK.ieq (fun h9 => ?_) (fun h9 => ?_)
      · skip
        obtain ⟨a10k, a10, a10l, a10r⟩ := i_add p2 1
        try (refine k0el (k := a10k) ?_ (fun e0 => ?_); (focus omega); subst e0)
        refine OK.bndR (hr_X0_chosenWithin _ _ _ _ hI (by omega)) (fun v11 h12 => ?_)
        dsimp only
        refine OK.ieq (fun h13 => ?_) (fun h13 => ?_)
        · skip
          exact OK.roret (by first | trivial | omega | exact hI.flds _ | exact hI.dflds _ | exact hI.recs _ | exact hI.drecs _ | exact hI.droot _ | omega)
        · skip
          exact OK.roret (by first | trivial | omega | exact hI.flds _ | exact hI.dflds _ | exact hI.recs _ | exact hI.drecs _ | exact hI.droot _ | omega)
      · skip
        refine OK.ieq (fun h14 => ?_) (fun h14 => ?_)
        · skip
          refine OK.ieq (fun h15 => ?_) (fun h15 => ?_)
          · skip
            refine OK.bndR (k_X5_innerOf_4 _ _ hI ) (fun v16 h17 => ?_)
            dsimp only
            refine OK.bndR (k_X5_innerOf_4 _ _ hI ) (fun v18 h19 => ?_)
            dsimp only
            obtain ⟨a20k, a20, a20l, a20r⟩ := i_add p2 1
            try (refine k0el (k := a20k) ?_ (fun e0 => ?_); (focus omega); subst e0)
            refine OK.bndR (hr_X0_fitsWithin _ _ _ _ hI (by omega)) (fun v21 h22 => ?_)
            dsimp only
            refine OK.grd (b01 (by omega)) ?_
            exact OK.roret (by first | trivial | omega | exact hI.flds _ | exact hI.dflds _ | exact hI.recs _ | exact hI.drecs _ | exact hI.droot _ | omega)
          · skip
            unfold f_X0_fitsWithin_158
            try dsimp only
            refine OK.ieq (fun h23 => ?_) (fun h23 => ?_)
            · skip
              refine OK.ieq (fun h24 => ?_) (fun h24 => ?_)
              · skip
                refine OK.bndR (k_X5_innerOf_4 _ _ hI ) (fun v25 h26 => ?_)
                dsimp only
                refine OK.bndR (k_X5_innerOf_4 _ _ hI ) (fun v27 h28 => ?_)
                dsimp only
                refine OK.bndR (k_X0_bitOf _ _ _ hI ) (fun v29 h30 => ?_)
                dsimp only
                refine OK.ieq (fun h31 => ?_) (fun h31 => ?_)
                · skip
                  exact OK.roret (by first | trivial | omega | exact hI.flds _ | exact hI.dflds _ | exact hI.recs _ | exact hI.drecs _ | exact hI.droot _ | omega)
                · skip
                  exact OK.roret (by first | trivial | omega | exact hI.flds _ | exact hI.dflds _ | exact hI.recs _ | exact hI.drecs _ | exact hI.droot _ | omega)
              · skip
                unfold f_X0_fitsWithin_207
                try dsimp only
                refine OK.bndR (k_X0_plainFits _ _ _ hI ) (fun v32 h33 => ?_)
                dsimp only
                refine OK.grd (b01 (by omega)) ?_
                exact OK.roret (by first | trivial | omega | exact hI.flds _ | exact hI.dflds _ | exact hI.recs _ | exact hI.drecs _ | exact hI.droot _ | omega)
            · skip
              unfold f_X0_fitsWithin_207
              try dsimp only
              refine OK.bndR (k_X0_plainFits _ _ _ hI ) (fun v34 h35 => ?_)
              dsimp only
              refine OK.grd (b01 (by omega)) ?_
              exact OK.roret (by first | trivial | omega | exact hI.flds _ | exact hI.dflds _ | exact hI.recs _ | exact hI.drecs _ | exact hI.droot _ | omega)
        · skip
          unfold f_X0_fitsWithin_158
          try dsimp only
          refine OK.ieq (fun h36 => ?_) (fun h36 => ?_)
          · skip
            refine OK.ieq (fun h37 => ?_) (fun h37 => ?_)
            · skip
              refine OK.bndR (k_X5_innerOf_4 _ _ hI ) (fun v38 h39 => ?_)
              dsimp only
              refine OK.bndR (k_X5_innerOf_4 _ _ hI ) (fun v40 h41 => ?_)
              dsimp only
              refine OK.bndR (k_X0_bitOf _ _ _ hI ) (fun v42 h43 => ?_)
              dsimp only
              refine OK.ieq (fun h44 => ?_) (fun h44 => ?_)
              · skip
                exact OK.roret (by first | trivial | omega | exact hI.flds _ | exact hI.dflds _ | exact hI.recs _ | exact hI.drecs _ | exact hI.droot _ | omega)
              · skip
                exact OK.roret (by first | trivial | omega | exact hI.flds _ | exact hI.dflds _ | exact hI.recs _ | exact hI.drecs _ | exact hI.droot _ | omega)
            · skip
              unfold f_X0_fitsWithin_207
              try dsimp only
              refine OK.bndR (k_X0_plainFits _ _ _ hI ) (fun v45 h46 => ?_)
              dsimp only
              refine OK.grd (b01 (by omega)) ?_
              exact OK.roret (by first | trivial | omega | exact hI.flds _ | exact hI.dflds _ | exact hI.recs _ | exact hI.drecs _ | exact hI.droot _ | omega)
          · skip
            unfold f_X0_fitsWithin_207
            try dsimp only
            refine OK.bndR (k_X0_plainFits _ _ _ hI ) (fun v47 h48 => ?_)
            dsimp only
            refine OK.grd (b01 (by omega)) ?_
            exact OK.roret (by first | trivial | omega | exact hI.flds _ | exact hI.dflds _ | exact hI.recs _ | exact hI.drecs _ | exact hI.droot _ | omega)
  · skip
    exact OK.roret (by first | trivial | omega | exact hI.flds _ | exact hI.dflds _ | exact hI.recs _ | exact hI.drecs _ | exact hI.droot _ | omega)

theorem kR_X0_chosenWithin : ∀ n : Nat, (∀ (p0 : Int32) (p1 : Int32) (p2 : Int32) (σ : ST), IA σ → 0 ≤ p2.toInt ∧ p2.toInt ≤ 11 ∧ (13 : Int) ≤ (n : Nat) + p2.toInt → OK ((R_X0_chosenWithin n).1 p0 p1 p2 σ) (RO σ fun v => True)) ∧ (∀ (p0 : Int32) (p1 : Int32) (p2 : Int32) (σ : ST), IA σ → 0 ≤ p2.toInt ∧ p2.toInt ≤ 12 ∧ (13 : Int) ≤ (n : Nat) + p2.toInt → OK ((R_X0_chosenWithin n).2 p0 p1 p2 σ) (RO σ fun v => v.toInt = 0 ∨ v.toInt = 1)) := by
  intro n
  induction n with
  | zero =>
    refine ⟨?_, ?_⟩
    · intro p0 p1 p2 σ hI hv; omega
    · intro p0 p1 p2 σ hI hv; omega
  | succ n ih =>
    obtain ⟨ih0, ih1⟩ := ih
    refine ⟨?_, ?_⟩
    · intro p0 p1 p2 σ hI hv; exact k_X0_chosenWithin (N0 := n) ih0 ih1 p0 p1 p2 σ hI (by omega)
    · intro p0 p1 p2 σ hI hv; exact k_X0_fitsWithin (N0 := n) ih0 ih1 p0 p1 p2 σ hI (by omega)
theorem kT_X0_chosenWithin (p0 : Int32) (p1 : Int32) (p2 : Int32) (σ : ST) (hI : IA σ) (hv : 0 ≤ p2.toInt ∧ p2.toInt ≤ 11 ∧ (13 : Int) ≤ (FR : Nat) + p2.toInt) : OK (f_T_X0_chosenWithin p0 p1 p2 σ) (RO σ fun v => True) := (kR_X0_chosenWithin FR).1 p0 p1 p2 σ hI hv
theorem kT_X0_fitsWithin (p0 : Int32) (p1 : Int32) (p2 : Int32) (σ : ST) (hI : IA σ) (hv : 0 ≤ p2.toInt ∧ p2.toInt ≤ 12 ∧ (13 : Int) ≤ (FR : Nat) + p2.toInt) : OK (f_T_X0_fitsWithin p0 p1 p2 σ) (RO σ fun v => v.toInt = 0 ∨ v.toInt = 1) := (kR_X0_chosenWithin FR).2 p0 p1 p2 σ hI hv

theorem k_X0_chosen (p0 : Int32) (p1 : Int32) (σ : ST) (hI : IA σ)  : OK (f_X0_chosen  p0 p1 σ) (RO σ fun v => True) := by
  unfold f_X0_chosen
  have lt_0 := li_0
  have lt_1 := li_1
  have lFU : ((FU : Nat) : Int) = 100000 := rfl
  have lFR : ((FR : Nat) : Int) = 160 := rfl
  refine OK.bndR (kT_X0_chosenWithin _ _ _ _ hI (by omega)) (fun v1 h2 => ?_)
  dsimp only
  exact OK.roret (by first | trivial | omega | exact hI.flds _ | exact hI.dflds _ | exact hI.recs _ | exact hI.drecs _ | exact hI.droot _ | omega)

theorem k_X0_clear (σ : ST) (hI : IA σ)  : OK (f_X0_clear  σ) (RS σ) := by
  unfold f_X0_clear
  have lt_m1 := li_m1
  have lt_0 := li_0
  have lt_1 := li_1
  have lFU : ((FU : Nat) : Int) = 100000 := rfl
  refine OK.bndS (k_J7_fill_53178_43 _ _ (ia_L hI) ) (fr_L Fr.rf) (fun s1 is1 fs1 => ?_)
  try dsimp only
  exact OK.sret (ia_I_41 (ia_I_41 is1)) (fr_I_41 (fr_I_41 fs1))

theorem k_X0_pairOf (p0 : Int32) (p1 : Int32) (σ : ST) (hI : IA σ)  : OK (f_X0_pairOf  p0 p1 σ) (RO σ fun v => 0 ≤ v.toInt ∧ v.toInt < 36) := by
  unfold f_X0_pairOf
  have lt_0 := li_0
  have lt_1 := li_1
  have lt_6 := li_6
  have lFU : ((FU : Nat) : Int) = 100000 := rfl
  refine OK.ilt (fun h1 => ?_) (fun h1 => ?_)
  · skip
    exact OK.roret (by first | trivial | omega | exact hI.flds _ | exact hI.dflds _ | exact hI.recs _ | exact hI.drecs _ | exact hI.droot _ | omega)
  · skip
    refine OK.ile (fun h2 => ?_) (fun h2 => ?_)
    · skip
      exact OK.roret (by first | trivial | omega | exact hI.flds _ | exact hI.dflds _ | exact hI.recs _ | exact hI.drecs _ | exact hI.droot _ | omega)
    · skip
      refine OK.ilt (fun h3 => ?_) (fun h3 => ?_)
      · skip
        exact OK.roret (by first | trivial | omega | exact hI.flds _ | exact hI.dflds _ | exact hI.recs _ | exact hI.drecs _ | exact hI.droot _ | omega)
      · skip
        refine OK.ile (fun h4 => ?_) (fun h4 => ?_)
        · skip
          exact OK.roret (by first | trivial | omega | exact hI.flds _ | exact hI.dflds _ | exact hI.recs _ | exact hI.drecs _ | exact hI.droot _ | omega)
        · skip
          obtain ⟨a5k, a5, a5l, a5r⟩ := i_mul p0 6
          rw [li_6] at a5
          try (refine k0el (k := a5k) ?_ (fun e0 => ?_); (focus omega); subst e0)
          obtain ⟨a6k, a6, a6l, a6r⟩ := i_add (p0 * 6) p1
          try (refine k0el (k := a6k) ?_ (fun e0 => ?_); (focus omega); subst e0)
          exact OK.roret (by first | trivial | omega | exact hI.flds _ | exact hI.dflds _ | exact hI.recs _ | exact hI.drecs _ | exact hI.droot _ | omega)

theorem k_X0_fits (p0 : Int32) (p1 : Int32) (σ : ST) (hI : IA σ)  : OK (f_X0_fits  p0 p1 σ) (RO σ fun v => v.toInt = 0 ∨ v.toInt = 1) := by
  unfold f_X0_fits
  have lt_0 := li_0
  have lt_1 := li_1
  have lFU : ((FU : Nat) : Int) = 100000 := rfl
  have lFR : ((FR : Nat) : Int) = 160 := rfl
  refine OK.bndR (kT_X0_fitsWithin _ _ _ _ hI (by omega)) (fun v1 h2 => ?_)
  dsimp only
  refine OK.grd (b01 (by omega)) ?_
  exact OK.roret (by first | trivial | omega | exact hI.flds _ | exact hI.dflds _ | exact hI.recs _ | exact hI.drecs _ | exact hI.droot _ | omega)

theorem k_X5_isRecord (p0 : Int32) (σ : ST) (hI : IA σ)  : OK (f_X5_isRecord  p0 σ) (RO σ fun v => v.toInt = 0 ∧ (p0.toInt < 0 ∨ 36 ≤ p0.toInt) ∨ v.toInt = 1 ∧ 0 ≤ p0.toInt ∧ p0.toInt < 36) := by
  unfold f_X5_isRecord
  have lt_0 := li_0
  have lt_1 := li_1
  have lt_36 := li_36
  have lFU : ((FU : Nat) : Int) = 100000 := rfl
  refine OK.ilt (fun h1 => ?_) (fun h1 => ?_)
  · skip
    exact OK.roret (by first | trivial | omega | exact hI.flds _ | exact hI.dflds _ | exact hI.recs _ | exact hI.drecs _ | exact hI.droot _ | omega)
  · skip
    refine OK.ile (fun h2 => ?_) (fun h2 => ?_)
    · skip
      exact OK.roret (by first | trivial | omega | exact hI.flds _ | exact hI.dflds _ | exact hI.recs _ | exact hI.drecs _ | exact hI.droot _ | omega)
    · skip
      exact OK.roret (by first | trivial | omega | exact hI.flds _ | exact hI.dflds _ | exact hI.recs _ | exact hI.drecs _ | exact hI.droot _ | omega)

theorem k_X5_recordName_4 (p0 : Int32) (σ : ST) (hI : IA σ)  : OK (f_X5_recordName 4 p0 σ) (RO σ fun v => True) := by
  unfold f_X5_recordName
  have lt_0 := li_0
  have lt_1 := li_1
  have lFU : ((FU : Nat) : Int) = 100000 := rfl
  refine OK.bndR (k_X5_isRecord _ _ hI ) (fun v1 h2 => ?_)
  dsimp only
  refine OK.ieq (fun h3 => ?_) (fun h3 => ?_)
  · skip
    exact OK.roret (by first | trivial | omega | exact hI.flds _ | exact hI.dflds _ | exact hI.recs _ | exact hI.drecs _ | exact hI.droot _ | omega)
  · skip
    refine OK.grd ⟨by omega, by omega⟩ ?_
    exact OK.roret (by first | trivial | omega | exact hI.flds _ | exact hI.dflds _ | exact hI.recs _ | exact hI.drecs _ | exact hI.droot _ | omega)

theorem k_X5_recordName_20 (p0 : Int32) (σ : ST) (hI : IA σ)  : OK (f_X5_recordName 20 p0 σ) (RO σ fun v => True) := by
  unfold f_X5_recordName
  have lt_0 := li_0
  have lt_1 := li_1
  have lFU : ((FU : Nat) : Int) = 100000 := rfl
  refine OK.bndR (k_X5_isRecord _ _ hI ) (fun v1 h2 => ?_)
  dsimp only
  refine OK.ieq (fun h3 => ?_) (fun h3 => ?_)
  · skip
    exact OK.roret (by first | trivial | omega | exact hI.flds _ | exact hI.dflds _ | exact hI.recs _ | exact hI.drecs _ | exact hI.droot _ | omega)
  · skip
    refine OK.grd ⟨by omega, by omega⟩ ?_
    exact OK.roret (by first | trivial | omega | exact hI.flds _ | exact hI.dflds _ | exact hI.recs _ | exact hI.drecs _ | exact hI.droot _ | omega)

theorem k_X0_mayPair_38 (σ : ST) (hI : IA σ)  : OK (f_X0_mayPair_38  σ) (RO σ fun v => v.toInt = 0 ∨ v.toInt = 1) := by
  unfold f_X0_mayPair_38
  have lt_0 := li_0
  have lt_1 := li_1
  have lFU : ((FU : Nat) : Int) = 100000 := rfl
  exact OK.roret (by first | trivial | omega | exact hI.flds _ | exact hI.dflds _ | exact hI.recs _ | exact hI.drecs _ | exact hI.droot _ | omega)

theorem k_X0_mayPair_18 (x1 : Int32) (x2 : Int32) (σ : ST) (hI : IA σ)  : OK (f_X0_mayPair_18  x1 x2 σ) (RO σ fun v => v.toInt = 0 ∨ v.toInt = 1) := by
  unfold f_X0_mayPair_18
  have lt_0 := li_0
  have lt_1 := li_1
  have lFU : ((FU : Nat) : Int) = 100000 := rfl
  refine OK.bndR (k_X5_recordName_4 _ _ hI ) (fun v1 h2 => ?_)
  dsimp only
  refine OK.bndR (k_X5_recordName_4 _ _ hI ) (fun v3 h4 => ?_)
  dsimp only
  refine OK.ieq (fun h5 => ?_) (fun h5 => ?_)
  · skip
    exact OK.roq (k_X0_mayPair_38 _ hI ) (fun v hv => by first | trivial | omega | exact hI.flds _ | exact hI.dflds _ | exact hI.recs _ | exact hI.drecs _ | exact hI.droot _ | omega)
  · skip
    exact OK.roret (by first | trivial | omega | exact hI.flds _ | exact hI.dflds _ | exact hI.recs _ | exact hI.drecs _ | exact hI.droot _ | omega)

theorem k_X0_mayPair (p0 : Int32) (p1 : Int32) (σ : ST) (hI : IA σ)  : OK (f_X0_mayPair  p0 p1 σ) (RO σ fun v => v.toInt = 0 ∨ v.toInt = 1) := by
  unfold f_X0_mayPair
  have lt_0 := li_0
  have lt_1 := li_1
  have lt_6 := li_6
  have lFU : ((FU : Nat) : Int) = 100000 := rfl
  refine OK.bndR (k_J9_floorMod_7cf53 _ _ _ hI (by decide)) (fun v1 h2 => ?_)
  dsimp only
  refine OK.ieq (fun h3 => ?_) (fun h3 => ?_)
  · skip
    refine OK.bndR (k_J9_floorMod_7cf53 _ _ _ hI (by decide)) (fun v4 h5 => ?_)
    dsimp only
    refine OK.ieq (fun h6 => ?_) (fun h6 => ?_)
    · skip
      exact OK.roq (k_X0_mayPair_38 _ hI ) (fun v hv => by first | trivial | omega | exact hI.flds _ | exact hI.dflds _ | exact hI.recs _ | exact hI.drecs _ | exact hI.droot _ | omega)
    · skip
      exact OK.roq (k_X0_mayPair_18 _ _ _ hI ) (fun v hv => by first | trivial | omega | exact hI.flds _ | exact hI.dflds _ | exact hI.recs _ | exact hI.drecs _ | exact hI.droot _ | omega)
  · skip
    exact OK.roq (k_X0_mayPair_18 _ _ _ hI ) (fun v hv => by first | trivial | omega | exact hI.flds _ | exact hI.dflds _ | exact hI.recs _ | exact hI.drecs _ | exact hI.droot _ | omega)

theorem k_X0_step_26 (σ : ST) (hI : IA σ)  : OK (f_X0_step_26  σ) (RS σ) := by
  unfold f_X0_step_26
  have lt_0 := li_0
  have lt_1 := li_1
  have lFU : ((FU : Nat) : Int) = 100000 := rfl
  exact OK.sret (ia_I_41 hI) (fr_I_41 Fr.rf)

theorem k_X0_step (p0 : Int32) (σ : ST) (hI : IA σ)  : OK (f_X0_step  p0 σ) (RS σ) := by
  unfold f_X0_step
  have lt_0 := li_0
  have lt_1 := li_1
  have lt_32 := li_32
  have lFU : ((FU : Nat) : Int) = 100000 := rfl
  refine OK.ilt (fun h1 => ?_) (fun h1 => ?_)
  · skip
    exact OK.trS (k_X0_step_26 _ hI ) Fr.rf
  · skip
    refine OK.ile (fun h2 => ?_) (fun h2 => ?_)
    · skip
      exact OK.trS (k_X0_step_26 _ hI ) Fr.rf
    · skip
      refine OK.grd ⟨by omega, by omega⟩ ?_
      exact OK.trS (k_X0_step_26 _ (ia_I_47 hI) ) (fr_I_47 Fr.rf)

theorem k_X5_fieldsOf_4 (p0 : Int32) (σ : ST) (hI : IA σ) : OK (f_X5_fieldsOf 4 p0 σ) (RO σ fun v => (0 ≤ v.toInt ∧ v.toInt ≤ 8) ∧ (p0.toInt < 0 ∨ 36 ≤ p0.toInt ∨ v.toInt = (σ.1 (4 + 3) p0.toNatClampNeg).toInt)) := by
  unfold f_X5_fieldsOf
  have lt_0 := li_0
  refine OK.bndR (k_X5_isRecord _ _ hI) (fun v h1 => ?_)
  dsimp only
  refine OK.ieq (fun h => OK.roret (by omega)) (fun h => ?_)
  refine OK.grd ⟨by omega, by omega⟩ ?_
  exact OK.roret ⟨hI.flds _, .inr (.inr rfl)⟩


theorem k_X5_fieldsOf_20 (p0 : Int32) (σ : ST) (hI : IA σ) : OK (f_X5_fieldsOf 20 p0 σ) (RO σ fun v => (0 ≤ v.toInt ∧ v.toInt ≤ 8) ∧ (p0.toInt < 0 ∨ 36 ≤ p0.toInt ∨ v.toInt = (σ.1 (20 + 3) p0.toNatClampNeg).toInt)) := by
  unfold f_X5_fieldsOf
  have lt_0 := li_0
  refine OK.bndR (k_X5_isRecord _ _ hI) (fun v h1 => ?_)
  dsimp only
  refine OK.ieq (fun h => OK.roret (by omega)) (fun h => ?_)
  refine OK.grd ⟨by omega, by omega⟩ ?_
  exact OK.roret ⟨hI.dflds _, .inr (.inr rfl)⟩


theorem k_X5_isFieldOf (p0 : Int32) (p1 : Int32) (σ : ST) (hI : IA σ)  : OK (f_X5_isFieldOf  p0 p1 σ) (RO σ fun v => v.toInt = 0 ∨ v.toInt = 1 ∧ 0 ≤ p0.toInt ∧ p0.toInt < 36 ∧ 0 ≤ p1.toInt ∧ p1.toInt < 8) := by
  unfold f_X5_isFieldOf
  have lt_0 := li_0
  have lt_1 := li_1
  have lt_8 := li_8
  have lt_36 := li_36
  have lFU : ((FU : Nat) : Int) = 100000 := rfl
  refine OK.ilt (fun h1 => ?_) (fun h1 => ?_)
  · skip
    exact OK.roret (by first | trivial | omega | exact hI.flds _ | exact hI.dflds _ | exact hI.recs _ | exact hI.drecs _ | exact hI.droot _ | omega)
  · skip
    refine OK.ile (fun h2 => ?_) (fun h2 => ?_)
    · skip
      exact OK.roret (by first | trivial | omega | exact hI.flds _ | exact hI.dflds _ | exact hI.recs _ | exact hI.drecs _ | exact hI.droot _ | omega)
    · skip
      refine OK.ilt (fun h3 => ?_) (fun h3 => ?_)
      · skip
        exact OK.roret (by first | trivial | omega | exact hI.flds _ | exact hI.dflds _ | exact hI.recs _ | exact hI.drecs _ | exact hI.droot _ | omega)
      · skip
        refine OK.ile (fun h4 => ?_) (fun h4 => ?_)
        · skip
          exact OK.roret (by first | trivial | omega | exact hI.flds _ | exact hI.dflds _ | exact hI.recs _ | exact hI.drecs _ | exact hI.droot _ | omega)
        · skip
          exact OK.roret (by first | trivial | omega | exact hI.flds _ | exact hI.dflds _ | exact hI.recs _ | exact hI.drecs _ | exact hI.droot _ | omega)

theorem k_X5_hasElse_4 (p0 : Int32) (p1 : Int32) (σ : ST) (hI : IA σ)  : OK (f_X5_hasElse 4 p0 p1 σ) (RO σ fun v => v.toInt = 0 ∨ v.toInt = 1) := by
  unfold f_X5_hasElse
  have lt_0 := li_0
  have lt_1 := li_1
  have lt_31 := li_31
  have lFU : ((FU : Nat) : Int) = 100000 := rfl
  refine OK.bndR (k_X5_isFieldOf _ _ _ hI ) (fun v1 h2 => ?_)
  dsimp only
  refine OK.ieq (fun h3 => ?_) (fun h3 => ?_)
  · skip
    exact OK.roret (by first | trivial | omega | exact hI.flds _ | exact hI.dflds _ | exact hI.recs _ | exact hI.drecs _ | exact hI.droot _ | omega)
  · skip
    refine OK.grd ⟨by omega, by omega⟩ ?_
    refine OK.ieq (fun h4 => ?_) (fun h4 => ?_)
    · skip
      exact OK.roret (by first | trivial | omega | exact hI.flds _ | exact hI.dflds _ | exact hI.recs _ | exact hI.drecs _ | exact hI.droot _ | omega)
    · skip
      exact OK.roret (by first | trivial | omega | exact hI.flds _ | exact hI.dflds _ | exact hI.recs _ | exact hI.drecs _ | exact hI.droot _ | omega)

theorem k_X5_fieldName_4 (p0 : Int32) (p1 : Int32) (σ : ST) (hI : IA σ)  : OK (f_X5_fieldName 4 p0 p1 σ) (RO σ fun v => True) := by
  unfold f_X5_fieldName
  have lt_0 := li_0
  have lt_1 := li_1
  have lt_8 := li_8
  have lFU : ((FU : Nat) : Int) = 100000 := rfl
  refine OK.bndR (k_X5_isFieldOf _ _ _ hI ) (fun v1 h2 => ?_)
  dsimp only
  refine OK.ieq (fun h3 => ?_) (fun h3 => ?_)
  · skip
    exact OK.roret (by first | trivial | omega | exact hI.flds _ | exact hI.dflds _ | exact hI.recs _ | exact hI.drecs _ | exact hI.droot _ | omega)
  · skip
    obtain ⟨a4k, a4, a4l, a4r⟩ := i_mul p0 8
    rw [li_8] at a4
    try (refine k0el (k := a4k) ?_ (fun e0 => ?_); (focus omega); subst e0)
    obtain ⟨a5k, a5, a5l, a5r⟩ := i_add (p0 * 8) p1
    try (refine k0el (k := a5k) ?_ (fun e0 => ?_); (focus omega); subst e0)
    refine OK.grd ⟨by omega, by omega⟩ ?_
    exact OK.roret (by first | trivial | omega | exact hI.flds _ | exact hI.dflds _ | exact hI.recs _ | exact hI.drecs _ | exact hI.droot _ | omega)

theorem k_X5_fieldName_20 (p0 : Int32) (p1 : Int32) (σ : ST) (hI : IA σ)  : OK (f_X5_fieldName 20 p0 p1 σ) (RO σ fun v => True) := by
  unfold f_X5_fieldName
  have lt_0 := li_0
  have lt_1 := li_1
  have lt_8 := li_8
  have lFU : ((FU : Nat) : Int) = 100000 := rfl
  refine OK.bndR (k_X5_isFieldOf _ _ _ hI ) (fun v1 h2 => ?_)
  dsimp only
  refine OK.ieq (fun h3 => ?_) (fun h3 => ?_)
  · skip
    exact OK.roret (by first | trivial | omega | exact hI.flds _ | exact hI.dflds _ | exact hI.recs _ | exact hI.drecs _ | exact hI.droot _ | omega)
  · skip
    obtain ⟨a4k, a4, a4l, a4r⟩ := i_mul p0 8
    rw [li_8] at a4
    try (refine k0el (k := a4k) ?_ (fun e0 => ?_); (focus omega); subst e0)
    obtain ⟨a5k, a5, a5l, a5r⟩ := i_add (p0 * 8) p1
    try (refine k0el (k := a5k) ?_ (fun e0 => ?_); (focus omega); subst e0)
    refine OK.grd ⟨by omega, by omega⟩ ?_
    exact OK.roret (by first | trivial | omega | exact hI.flds _ | exact hI.dflds _ | exact hI.recs _ | exact hI.drecs _ | exact hI.droot _ | omega)

theorem k_X5_fieldNamed_29_4 : ∀ (n : Nat) (x2 : Int64) (x4 : Int32) (x5 : Int32) (x6 : Int32) (σ : ST), IA σ → (0 ≤ x6.toInt ∧ x6.toInt ≤ 8 ∧ (x5.toInt ≤ 0 ∨ 0 ≤ x4.toInt ∧ x4.toInt ≤ 280) ∧ (8 : Int) - x6.toInt < n) → OK (f_X5_fieldNamed_29 4 n x2 x4 x5 x6 σ) (RO σ fun v => True) := by
  intro n
  induction n with
  | zero =>
    intro x2 x4 x5 x6 σ hI hv
    omega
  | succ n ih =>
    intro x2 x4 x5 x6 σ hI hv
    rw [f_X5_fieldNamed_29]
    have lt_m1 := li_m1
    have lt_0 := li_0
    have lt_1 := li_1
    have lt_8 := li_8
    have lFU : ((FU : Nat) : Int) = 100000 := rfl
    refine OK.ile (fun h1 => ?_) (fun h1 => ?_)
    · skip
      exact OK.roret (by first | trivial | omega | exact hI.flds _ | exact hI.dflds _ | exact hI.recs _ | exact hI.drecs _ | exact hI.droot _ | omega)
    · skip
      refine OK.ile (fun h2 => ?_) (fun h2 => ?_)
      · skip
        exact OK.roret (by first | trivial | omega | exact hI.flds _ | exact hI.dflds _ | exact hI.recs _ | exact hI.drecs _ | exact hI.droot _ | omega)
      · skip
        obtain ⟨a3k, a3, a3l, a3r⟩ := i_add x4 x6
        try (refine k0el (k := a3k) ?_ (fun e0 => ?_); (focus omega); subst e0)
        refine OK.grd ⟨by omega, by omega⟩ ?_
        refine OK.ieq (fun h4 => ?_) (fun h4 => ?_)
        · skip
          exact OK.roret (by first | trivial | omega | exact hI.flds _ | exact hI.dflds _ | exact hI.recs _ | exact hI.drecs _ | exact hI.droot _ | omega)
        · skip
          obtain ⟨a5k, a5, a5l, a5r⟩ := i_add x6 1
          try (refine k0el (k := a5k) ?_ (fun e0 => ?_); (focus omega); subst e0)
          exact OK.roq (ih _ _ _ _ _ hI (by omega)) (fun v hv => by first | trivial | omega | exact hI.flds _ | exact hI.dflds _ | exact hI.recs _ | exact hI.drecs _ | exact hI.droot _ | omega)

theorem k_X5_fieldNamed_29_20 : ∀ (n : Nat) (x2 : Int64) (x4 : Int32) (x5 : Int32) (x6 : Int32) (σ : ST), IA σ → (0 ≤ x6.toInt ∧ x6.toInt ≤ 8 ∧ (x5.toInt ≤ 0 ∨ 0 ≤ x4.toInt ∧ x4.toInt ≤ 280) ∧ (8 : Int) - x6.toInt < n) → OK (f_X5_fieldNamed_29 20 n x2 x4 x5 x6 σ) (RO σ fun v => True) := by
  intro n
  induction n with
  | zero =>
    intro x2 x4 x5 x6 σ hI hv
    omega
  | succ n ih =>
    intro x2 x4 x5 x6 σ hI hv
    rw [f_X5_fieldNamed_29]
    have lt_m1 := li_m1
    have lt_0 := li_0
    have lt_1 := li_1
    have lt_8 := li_8
    have lFU : ((FU : Nat) : Int) = 100000 := rfl
    refine OK.ile (fun h1 => ?_) (fun h1 => ?_)
    · skip
      exact OK.roret (by first | trivial | omega | exact hI.flds _ | exact hI.dflds _ | exact hI.recs _ | exact hI.drecs _ | exact hI.droot _ | omega)
    · skip
      refine OK.ile (fun h2 => ?_) (fun h2 => ?_)
      · skip
        exact OK.roret (by first | trivial | omega | exact hI.flds _ | exact hI.dflds _ | exact hI.recs _ | exact hI.drecs _ | exact hI.droot _ | omega)
      · skip
        obtain ⟨a3k, a3, a3l, a3r⟩ := i_add x4 x6
        try (refine k0el (k := a3k) ?_ (fun e0 => ?_); (focus omega); subst e0)
        refine OK.grd ⟨by omega, by omega⟩ ?_
        refine OK.ieq (fun h4 => ?_) (fun h4 => ?_)
        · skip
          exact OK.roret (by first | trivial | omega | exact hI.flds _ | exact hI.dflds _ | exact hI.recs _ | exact hI.drecs _ | exact hI.droot _ | omega)
        · skip
          obtain ⟨a5k, a5, a5l, a5r⟩ := i_add x6 1
          try (refine k0el (k := a5k) ?_ (fun e0 => ?_); (focus omega); subst e0)
          exact OK.roq (ih _ _ _ _ _ hI (by omega)) (fun v hv => by first | trivial | omega | exact hI.flds _ | exact hI.dflds _ | exact hI.recs _ | exact hI.drecs _ | exact hI.droot _ | omega)

theorem k_X5_fieldNamed_24_4 (x2 : Int64) (x4 : Int32) (y0 : Int32) (σ : ST) (hI : IA σ) (hp0 : y0.toInt ≤ 0 ∨ 0 ≤ x4.toInt ∧ x4.toInt ≤ 280)  : OK (f_X5_fieldNamed_24 4 x2 x4 y0 σ) (RO σ fun v => True) := by
  unfold f_X5_fieldNamed_24
  have lt_0 := li_0
  have lt_1 := li_1
  have lFU : ((FU : Nat) : Int) = 100000 := rfl
  exact OK.roq (k_X5_fieldNamed_29_4 FU _ _ _ _ _ hI (by omega)) (fun v hv => by first | trivial | omega | exact hI.flds _ | exact hI.dflds _ | exact hI.recs _ | exact hI.drecs _ | exact hI.droot _ | omega)

theorem k_X5_fieldNamed_24_20 (x2 : Int64) (x4 : Int32) (y0 : Int32) (σ : ST) (hI : IA σ) (hp0 : y0.toInt ≤ 0 ∨ 0 ≤ x4.toInt ∧ x4.toInt ≤ 280)  : OK (f_X5_fieldNamed_24 20 x2 x4 y0 σ) (RO σ fun v => True) := by
  unfold f_X5_fieldNamed_24
  have lt_0 := li_0
  have lt_1 := li_1
  have lFU : ((FU : Nat) : Int) = 100000 := rfl
  exact OK.roq (k_X5_fieldNamed_29_20 FU _ _ _ _ _ hI (by omega)) (fun v hv => by first | trivial | omega | exact hI.flds _ | exact hI.dflds _ | exact hI.recs _ | exact hI.drecs _ | exact hI.droot _ | omega)

theorem k_X5_fieldNamed_4 (p0 : Int32) (p1 : Int64) (σ : ST) (hI : IA σ)  : OK (f_X5_fieldNamed 4 p0 p1 σ) (RO σ fun v => True) := by
  unfold f_X5_fieldNamed
  have lt_0 := li_0
  have lt_1 := li_1
  have lt_8 := li_8
  have lFU : ((FU : Nat) : Int) = 100000 := rfl
  refine OK.bndR (k_X5_isFieldOf _ _ _ hI ) (fun v1 h2 => ?_)
  dsimp only
  refine OK.ieq (fun h3 => ?_) (fun h3 => ?_)
  · skip
    obtain ⟨a4k, a4, a4l, a4r⟩ := i_mul p0 8
    rw [li_8] at a4
    try (refine k0el (k := a4k) ?_ (fun e0 => ?_); (focus omega); subst e0)
    exact OK.roq (k_X5_fieldNamed_24_4 _ _ _ _ hI (show (0 : Int32).toInt ≤ 0 ∨ 0 ≤ (p0 * 8).toInt ∧ (p0 * 8).toInt ≤ 280 from by omega)) (fun v hv => by first | trivial | omega | exact hI.flds _ | exact hI.dflds _ | exact hI.recs _ | exact hI.drecs _ | exact hI.droot _ | omega)
  · skip
    refine OK.grd ⟨by omega, by omega⟩ ?_
    obtain ⟨a5k, a5, a5l, a5r⟩ := i_mul p0 8
    rw [li_8] at a5
    try (refine k0el (k := a5k) ?_ (fun e0 => ?_); (focus omega); subst e0)
    exact OK.roq (k_X5_fieldNamed_24_4 _ _ _ _ hI (show (σ.1 (4 + 3) p0.toNatClampNeg).toInt ≤ 0 ∨ 0 ≤ (p0 * 8).toInt ∧ (p0 * 8).toInt ≤ 280 from by omega)) (fun v hv => by first | trivial | omega | exact hI.flds _ | exact hI.dflds _ | exact hI.recs _ | exact hI.drecs _ | exact hI.droot _ | omega)

theorem k_X5_fieldNamed_20 (p0 : Int32) (p1 : Int64) (σ : ST) (hI : IA σ)  : OK (f_X5_fieldNamed 20 p0 p1 σ) (RO σ fun v => True) := by
  unfold f_X5_fieldNamed
  have lt_0 := li_0
  have lt_1 := li_1
  have lt_8 := li_8
  have lFU : ((FU : Nat) : Int) = 100000 := rfl
  refine OK.bndR (k_X5_isFieldOf _ _ _ hI ) (fun v1 h2 => ?_)
  dsimp only
  refine OK.ieq (fun h3 => ?_) (fun h3 => ?_)
  · skip
    obtain ⟨a4k, a4, a4l, a4r⟩ := i_mul p0 8
    rw [li_8] at a4
    try (refine k0el (k := a4k) ?_ (fun e0 => ?_); (focus omega); subst e0)
    exact OK.roq (k_X5_fieldNamed_24_20 _ _ _ _ hI (show (0 : Int32).toInt ≤ 0 ∨ 0 ≤ (p0 * 8).toInt ∧ (p0 * 8).toInt ≤ 280 from by omega)) (fun v hv => by first | trivial | omega | exact hI.flds _ | exact hI.dflds _ | exact hI.recs _ | exact hI.drecs _ | exact hI.droot _ | omega)
  · skip
    refine OK.grd ⟨by omega, by omega⟩ ?_
    obtain ⟨a5k, a5, a5l, a5r⟩ := i_mul p0 8
    rw [li_8] at a5
    try (refine k0el (k := a5k) ?_ (fun e0 => ?_); (focus omega); subst e0)
    exact OK.roq (k_X5_fieldNamed_24_20 _ _ _ _ hI (show (σ.1 (20 + 3) p0.toNatClampNeg).toInt ≤ 0 ∨ 0 ≤ (p0 * 8).toInt ∧ (p0 * 8).toInt ≤ 280 from by omega)) (fun v hv => by first | trivial | omega | exact hI.flds _ | exact hI.dflds _ | exact hI.recs _ | exact hI.drecs _ | exact hI.droot _ | omega)

theorem k_X5_formerName_4 (p0 : Int32) (p1 : Int32) (σ : ST) (hI : IA σ)  : OK (f_X5_formerName 4 p0 p1 σ) (RO σ fun v => True) := by
  unfold f_X5_formerName
  have lt_0 := li_0
  have lt_1 := li_1
  have lt_8 := li_8
  have lFU : ((FU : Nat) : Int) = 100000 := rfl
  refine OK.bndR (k_X5_isFieldOf _ _ _ hI ) (fun v1 h2 => ?_)
  dsimp only
  refine OK.ieq (fun h3 => ?_) (fun h3 => ?_)
  · skip
    exact OK.roret (by first | trivial | omega | exact hI.flds _ | exact hI.dflds _ | exact hI.recs _ | exact hI.drecs _ | exact hI.droot _ | omega)
  · skip
    obtain ⟨a4k, a4, a4l, a4r⟩ := i_mul p0 8
    rw [li_8] at a4
    try (refine k0el (k := a4k) ?_ (fun e0 => ?_); (focus omega); subst e0)
    obtain ⟨a5k, a5, a5l, a5r⟩ := i_add (p0 * 8) p1
    try (refine k0el (k := a5k) ?_ (fun e0 => ?_); (focus omega); subst e0)
    refine OK.grd ⟨by omega, by omega⟩ ?_
    exact OK.roret (by first | trivial | omega | exact hI.flds _ | exact hI.dflds _ | exact hI.recs _ | exact hI.drecs _ | exact hI.droot _ | omega)

theorem k_X5_sourceOf_4 (p0 : Int32) (p1 : Int32) (p2 : Int32) (σ : ST) (hI : IA σ)  : OK (f_X5_sourceOf 4 p0 p1 p2 σ) (RO σ fun v => True) := by
  unfold f_X5_sourceOf
  have lt_m1 := li_m1
  have lt_0 := li_0
  have lt_1 := li_1
  have lFU : ((FU : Nat) : Int) = 100000 := rfl
  refine OK.bndR (k_X5_fieldName_4 _ _ _ hI ) (fun v1 h2 => ?_)
  dsimp only
  refine OK.bndR (k_X5_fieldNamed_4 _ _ _ hI ) (fun v3 h4 => ?_)
  dsimp only
  refine OK.bndR (k_X5_formerName_4 _ _ _ hI ) (fun v5 h6 => ?_)
  dsimp only
  refine OK.ieq (fun h7 => ?_) (fun h7 => ?_)
  · skip
    refine OK.ieq (fun h8 => ?_) (fun h8 => ?_)
    · skip
      exact OK.roret (by first | trivial | omega | exact hI.flds _ | exact hI.dflds _ | exact hI.recs _ | exact hI.drecs _ | exact hI.droot _ | omega)
    · skip
      refine OK.bndR (k_X5_fieldNamed_4 _ _ _ hI ) (fun v9 h10 => ?_)
      dsimp only
      exact OK.roret (by first | trivial | omega | exact hI.flds _ | exact hI.dflds _ | exact hI.recs _ | exact hI.drecs _ | exact hI.droot _ | omega)
  · skip
    exact OK.roret (by first | trivial | omega | exact hI.flds _ | exact hI.dflds _ | exact hI.recs _ | exact hI.drecs _ | exact hI.droot _ | omega)

theorem k_X5_typeOf_4 (p0 : Int32) (p1 : Int32) (σ : ST) (hI : IA σ)  : OK (f_X5_typeOf 4 p0 p1 σ) (RO σ fun v => True) := by
  unfold f_X5_typeOf
  have lt_m1 := li_m1
  have lt_0 := li_0
  have lt_1 := li_1
  have lt_8 := li_8
  have lFU : ((FU : Nat) : Int) = 100000 := rfl
  refine OK.bndR (k_X5_isFieldOf _ _ _ hI ) (fun v1 h2 => ?_)
  dsimp only
  refine OK.ieq (fun h3 => ?_) (fun h3 => ?_)
  · skip
    exact OK.roret (by first | trivial | omega | exact hI.flds _ | exact hI.dflds _ | exact hI.recs _ | exact hI.drecs _ | exact hI.droot _ | omega)
  · skip
    obtain ⟨a4k, a4, a4l, a4r⟩ := i_mul p0 8
    rw [li_8] at a4
    try (refine k0el (k := a4k) ?_ (fun e0 => ?_); (focus omega); subst e0)
    obtain ⟨a5k, a5, a5l, a5r⟩ := i_add (p0 * 8) p1
    try (refine k0el (k := a5k) ?_ (fun e0 => ?_); (focus omega); subst e0)
    refine OK.grd ⟨by omega, by omega⟩ ?_
    exact OK.roret (by first | trivial | omega | exact hI.flds _ | exact hI.dflds _ | exact hI.recs _ | exact hI.drecs _ | exact hI.droot _ | omega)

theorem k_X5_typeOf_20 (p0 : Int32) (p1 : Int32) (σ : ST) (hI : IA σ)  : OK (f_X5_typeOf 20 p0 p1 σ) (RO σ fun v => True) := by
  unfold f_X5_typeOf
  have lt_m1 := li_m1
  have lt_0 := li_0
  have lt_1 := li_1
  have lt_8 := li_8
  have lFU : ((FU : Nat) : Int) = 100000 := rfl
  refine OK.bndR (k_X5_isFieldOf _ _ _ hI ) (fun v1 h2 => ?_)
  dsimp only
  refine OK.ieq (fun h3 => ?_) (fun h3 => ?_)
  · skip
    exact OK.roret (by first | trivial | omega | exact hI.flds _ | exact hI.dflds _ | exact hI.recs _ | exact hI.drecs _ | exact hI.droot _ | omega)
  · skip
    obtain ⟨a4k, a4, a4l, a4r⟩ := i_mul p0 8
    rw [li_8] at a4
    try (refine k0el (k := a4k) ?_ (fun e0 => ?_); (focus omega); subst e0)
    obtain ⟨a5k, a5, a5l, a5r⟩ := i_add (p0 * 8) p1
    try (refine k0el (k := a5k) ?_ (fun e0 => ?_); (focus omega); subst e0)
    refine OK.grd ⟨by omega, by omega⟩ ?_
    exact OK.roret (by first | trivial | omega | exact hI.flds _ | exact hI.dflds _ | exact hI.recs _ | exact hI.drecs _ | exact hI.droot _ | omega)

theorem k_X0_walk {N0 : Nat} {r_X0_walk : Int32 → Int32 → Int32 → ST → Option (ST)} (hr_X0_walk : ∀ (p0 : Int32) (p1 : Int32) (p2 : Int32) (σ : ST), IA σ → 0 ≤ p2.toInt ∧ p2.toInt ≤ 41 ∧ (84 : Int) ≤ (N0 : Nat) + 2 * p2.toInt → OK (r_X0_walk p0 p1 p2 σ) (RS σ)) {r_X0_walkBranches : Int32 → Int32 → Int32 → ST → Option (ST)} (hr_X0_walkBranches : ∀ (p0 : Int32) (p1 : Int32) (p2 : Int32) (σ : ST), IA σ → 0 ≤ p2.toInt ∧ p2.toInt ≤ 40 ∧ (83 : Int) ≤ (N0 : Nat) + 2 * p2.toInt → OK (r_X0_walkBranches p0 p1 p2 σ) (RS σ)) {r_X0_walkFields : Int32 → Int32 → Int32 → ST → Option (ST)} (hr_X0_walkFields : ∀ (p0 : Int32) (p1 : Int32) (p2 : Int32) (σ : ST), IA σ → 0 ≤ p2.toInt ∧ p2.toInt ≤ 40 ∧ (83 : Int) ≤ (N0 : Nat) + 2 * p2.toInt → OK (r_X0_walkFields p0 p1 p2 σ) (RS σ)) (p0 : Int32) (p1 : Int32) (p2 : Int32) (σ : ST) (hI : IA σ) (hv : 0 ≤ p2.toInt ∧ p2.toInt ≤ 41 ∧ (84 : Int) ≤ (N0 + 1 : Nat) + 2 * p2.toInt)  : OK (f_X0_walk r_X0_walk r_X0_walkBranches r_X0_walkFields  p0 p1 p2 σ) (RS σ) := by
  unfold f_X0_walk
  have lt_m1 := li_m1
  have lt_0 := li_0
  have lt_1 := li_1
  have lt_2 := li_2
  have lt_3 := li_3
  have lt_6 := li_6
  have lt_7 := li_7
  have lt_8 := li_8
  have lt_20 := li_20
  have lt_40 := li_40
  have lt_100 := li_100
  have lFU : ((FU : Nat) : Int) = 100000 := rfl
  have lFR : ((FR : Nat) : Int) = 160 := rfl
  refine OK.ilt (fun h1 => ?_) (fun h1 => ?_)
  · skip
    exact OK.sret hI Fr.rf
  · skip
    refine OK.ilt (fun h2 => ?_) (fun h2 => ?_)
    · skip
      refine OK.bndR (k_X5_sortOf_4 _ _ hI ) (fun v3 h4 => ?_)
      dsimp only
      refine OK.ieq (fun h5 => ?_) (fun h5 => ?_)
      · skip
        refine OK.bndS (hr_X0_walkBranches _ _ _ _ hI (by omega)) Fr.rf (fun s6 is6 fs6 => ?_)
        try dsimp only
        exact OK.sret is6 fs6
      · skip
        refine OK.bndR (k_X5_sortOf_4 _ _ hI ) (fun v7 h8 => ?_)
        dsimp only
        refine OK.ieq (fun h9 => ?_) (fun h9 => ?_)
        · skip
          refine OK.bndR (k_X0_chosen _ _ _ hI ) (fun v10 h11 => ?_)
          dsimp only
          refine OK.ieq (fun h12 => ?_) (fun h12 => ?_)
          · skip
            refine OK.bndS (k_X0_addMiss _ _ hI ) Fr.rf (fun s13 is13 fs13 => ?_)
            try dsimp only
            exact OK.sret is13 fs13
          · skip
            unfold f_X0_walk_77
            try dsimp only
            refine OK.bndR (k_X5_sortOf_4 _ _ hI ) (fun v14 h15 => ?_)
            dsimp only
            refine OK.bndR (k_X5_innerOf_4 _ _ hI ) (fun v16 h17 => ?_)
            dsimp only
            refine OK.bndR (k_X5_innerOf_4 _ _ hI ) (fun v18 h19 => ?_)
            dsimp only
            refine OK.ieq (fun h20 => ?_) (fun h20 => ?_)
            · skip
              refine OK.ieq (fun h21 => ?_) (fun h21 => ?_)
              · skip
                refine OK.bndR (k_X0_mayPair _ _ _ hI ) (fun v22 h23 => ?_)
                dsimp only
                refine OK.ieq (fun h24 => ?_) (fun h24 => ?_)
                · skip
                  unfold f_X0_walk_146
                  try dsimp only
                  refine OK.ieq (fun h25 => ?_) (fun h25 => ?_)
                  · skip
                    refine OK.ieq (fun h26 => ?_) (fun h26 => ?_)
                    · skip
                      refine OK.bndS (k_X0_step _ _ hI ) Fr.rf (fun s27 is27 fs27 => ?_)
                      try dsimp only
                      obtain ⟨a28k, a28, a28l, a28r⟩ := i_add p2 1
                      try (refine k0el (k := a28k) ?_ (fun e0 => ?_); (focus omega); subst e0)
                      refine OK.bndS (hr_X0_walk _ _ _ _ is27 (by omega)) fs27 (fun s29 is29 fs29 => ?_)
                      try dsimp only
                      exact OK.sret (ia_I_41 is29) (fr_I_41 fs29)
                    · skip
                      unfold f_X0_walk_190
                      try dsimp only
                      refine OK.bndR (k_X0_fits _ _ _ hI ) (fun v30 h31 => ?_)
                      dsimp only
                      refine OK.ieq (fun h32 => ?_) (fun h32 => ?_)
                      · skip
                        refine OK.bndS (k_X0_addMiss _ _ hI ) Fr.rf (fun s33 is33 fs33 => ?_)
                        try dsimp only
                        exact OK.sret is33 fs33
                      · skip
                        exact OK.sret hI Fr.rf
                  · skip
                    unfold f_X0_walk_190
                    try dsimp only
                    refine OK.bndR (k_X0_fits _ _ _ hI ) (fun v34 h35 => ?_)
                    dsimp only
                    refine OK.ieq (fun h36 => ?_) (fun h36 => ?_)
                    · skip
                      refine OK.bndS (k_X0_addMiss _ _ hI ) Fr.rf (fun s37 is37 fs37 => ?_)
                      try dsimp only
                      exact OK.sret is37 fs37
                    · skip
                      exact OK.sret hI Fr.rf
                · skip
                  refine OK.bndS (hr_X0_walkFields _ _ _ _ hI (by omega)) Fr.rf (fun s38 is38 fs38 => ?_)
                  try dsimp only
                  exact OK.sret is38 fs38
              · skip
                unfold f_X0_walk_146
                try dsimp only
                refine OK.ieq (fun h39 => ?_) (fun h39 => ?_)
                · skip
                  refine OK.ieq (fun h40 => ?_) (fun h40 => ?_)
                  · skip
                    refine OK.bndS (k_X0_step _ _ hI ) Fr.rf (fun s41 is41 fs41 => ?_)
                    try dsimp only
                    obtain ⟨a42k, a42, a42l, a42r⟩ := i_add p2 1
                    try (refine k0el (k := a42k) ?_ (fun e0 => ?_); (focus omega); subst e0)
                    refine OK.bndS (hr_X0_walk _ _ _ _ is41 (by omega)) fs41 (fun s43 is43 fs43 => ?_)
                    try dsimp only
                    exact OK.sret (ia_I_41 is43) (fr_I_41 fs43)
                  · skip
                    unfold f_X0_walk_190
                    try dsimp only
                    refine OK.bndR (k_X0_fits _ _ _ hI ) (fun v44 h45 => ?_)
                    dsimp only
                    refine OK.ieq (fun h46 => ?_) (fun h46 => ?_)
                    · skip
                      refine OK.bndS (k_X0_addMiss _ _ hI ) Fr.rf (fun s47 is47 fs47 => ?_)
                      try dsimp only
                      exact OK.sret is47 fs47
                    · skip
                      exact OK.sret hI Fr.rf
                · skip
                  unfold f_X0_walk_190
                  try dsimp only
                  refine OK.bndR (k_X0_fits _ _ _ hI ) (fun v48 h49 => ?_)
                  dsimp only
                  refine OK.ieq (fun h50 => ?_) (fun h50 => ?_)
                  · skip
                    refine OK.bndS (k_X0_addMiss _ _ hI ) Fr.rf (fun s51 is51 fs51 => ?_)
                    try dsimp only
                    exact OK.sret is51 fs51
                  · skip
                    exact OK.sret hI Fr.rf
            · skip
              unfold f_X0_walk_146
              try dsimp only
              refine OK.ieq (fun h52 => ?_) (fun h52 => ?_)
              · skip
                refine OK.ieq (fun h53 => ?_) (fun h53 => ?_)
                · skip
                  refine OK.bndS (k_X0_step _ _ hI ) Fr.rf (fun s54 is54 fs54 => ?_)
                  try dsimp only
                  obtain ⟨a55k, a55, a55l, a55r⟩ := i_add p2 1
                  try (refine k0el (k := a55k) ?_ (fun e0 => ?_); (focus omega); subst e0)
                  refine OK.bndS (hr_X0_walk _ _ _ _ is54 (by omega)) fs54 (fun s56 is56 fs56 => ?_)
                  try dsimp only
                  exact OK.sret (ia_I_41 is56) (fr_I_41 fs56)
                · skip
                  unfold f_X0_walk_190
                  try dsimp only
                  refine OK.bndR (k_X0_fits _ _ _ hI ) (fun v57 h58 => ?_)
                  dsimp only
                  refine OK.ieq (fun h59 => ?_) (fun h59 => ?_)
                  · skip
                    refine OK.bndS (k_X0_addMiss _ _ hI ) Fr.rf (fun s60 is60 fs60 => ?_)
                    try dsimp only
                    exact OK.sret is60 fs60
                  · skip
                    exact OK.sret hI Fr.rf
              · skip
                unfold f_X0_walk_190
                try dsimp only
                refine OK.bndR (k_X0_fits _ _ _ hI ) (fun v61 h62 => ?_)
                dsimp only
                refine OK.ieq (fun h63 => ?_) (fun h63 => ?_)
                · skip
                  refine OK.bndS (k_X0_addMiss _ _ hI ) Fr.rf (fun s64 is64 fs64 => ?_)
                  try dsimp only
                  exact OK.sret is64 fs64
                · skip
                  exact OK.sret hI Fr.rf
        · skip
          unfold f_X0_walk_77
          try dsimp only
          refine OK.bndR (k_X5_sortOf_4 _ _ hI ) (fun v65 h66 => ?_)
          dsimp only
          refine OK.bndR (k_X5_innerOf_4 _ _ hI ) (fun v67 h68 => ?_)
          dsimp only
          refine OK.bndR (k_X5_innerOf_4 _ _ hI ) (fun v69 h70 => ?_)
          dsimp only
          refine OK.ieq (fun h71 => ?_) (fun h71 => ?_)
          · skip
            refine OK.ieq (fun h72 => ?_) (fun h72 => ?_)
            · skip
              refine OK.bndR (k_X0_mayPair _ _ _ hI ) (fun v73 h74 => ?_)
              dsimp only
              refine OK.ieq (fun h75 => ?_) (fun h75 => ?_)
              · skip
                unfold f_X0_walk_146
                try dsimp only
                refine OK.ieq (fun h76 => ?_) (fun h76 => ?_)
                · skip
                  refine OK.ieq (fun h77 => ?_) (fun h77 => ?_)
                  · skip
                    refine OK.bndS (k_X0_step _ _ hI ) Fr.rf (fun s78 is78 fs78 => ?_)
                    try dsimp only
                    obtain ⟨a79k, a79, a79l, a79r⟩ := i_add p2 1
                    try (refine k0el (k := a79k) ?_ (fun e0 => ?_); (focus omega); subst e0)
                    refine OK.bndS (hr_X0_walk _ _ _ _ is78 (by omega)) fs78 (fun s80 is80 fs80 => ?_)
                    try dsimp only
                    exact OK.sret (ia_I_41 is80) (fr_I_41 fs80)
                  · skip
                    unfold f_X0_walk_190
                    try dsimp only
                    refine OK.bndR (k_X0_fits _ _ _ hI ) (fun v81 h82 => ?_)
                    dsimp only
                    refine OK.ieq (fun h83 => ?_) (fun h83 => ?_)
                    · skip
                      refine OK.bndS (k_X0_addMiss _ _ hI ) Fr.rf (fun s84 is84 fs84 => ?_)
                      try dsimp only
                      exact OK.sret is84 fs84
                    · skip
                      exact OK.sret hI Fr.rf
                · skip
                  unfold f_X0_walk_190
                  try dsimp only
                  refine OK.bndR (k_X0_fits _ _ _ hI ) (fun v85 h86 => ?_)
                  dsimp only
                  refine OK.ieq (fun h87 => ?_) (fun h87 => ?_)
                  · skip
                    refine OK.bndS (k_X0_addMiss _ _ hI ) Fr.rf (fun s88 is88 fs88 => ?_)
                    try dsimp only
                    exact OK.sret is88 fs88
                  · skip
                    exact OK.sret hI Fr.rf
              · skip
                refine OK.bndS (hr_X0_walkFields _ _ _ _ hI (by omega)) Fr.rf (fun s89 is89 fs89 => ?_)
                try dsimp only
                exact OK.sret is89 fs89
            · skip
              unfold f_X0_walk_146
              try dsimp only
              refine OK.ieq (fun h90 => ?_) (fun h90 => ?_)
              · skip
                refine OK.ieq (fun h91 => ?_) (fun h91 => ?_)
                · skip
                  refine OK.bndS (k_X0_step _ _ hI ) Fr.rf (fun s92 is92 fs92 => ?_)
                  try dsimp only
                  obtain ⟨a93k, a93, a93l, a93r⟩ := i_add p2 1
                  try (refine k0el (k := a93k) ?_ (fun e0 => ?_); (focus omega); subst e0)
                  refine OK.bndS (hr_X0_walk _ _ _ _ is92 (by omega)) fs92 (fun s94 is94 fs94 => ?_)
                  try dsimp only
                  exact OK.sret (ia_I_41 is94) (fr_I_41 fs94)
                · skip
                  unfold f_X0_walk_190
                  try dsimp only
                  refine OK.bndR (k_X0_fits _ _ _ hI ) (fun v95 h96 => ?_)
                  dsimp only
                  refine OK.ieq (fun h97 => ?_) (fun h97 => ?_)
                  · skip
                    refine OK.bndS (k_X0_addMiss _ _ hI ) Fr.rf (fun s98 is98 fs98 => ?_)
                    try dsimp only
                    exact OK.sret is98 fs98
                  · skip
                    exact OK.sret hI Fr.rf
              · skip
                unfold f_X0_walk_190
                try dsimp only
                refine OK.bndR (k_X0_fits _ _ _ hI ) (fun v99 h100 => ?_)
                dsimp only
                refine OK.ieq (fun h101 => ?_) (fun h101 => ?_)
                · skip
                  refine OK.bndS (k_X0_addMiss _ _ hI ) Fr.rf (fun s102 is102 fs102 => ?_)
                  try dsimp only
                  exact OK.sret is102 fs102
                · skip
                  exact OK.sret hI Fr.rf
          · skip
            unfold f_X0_walk_146
            try dsimp only
            refine OK.ieq (fun h103 => ?_) (fun h103 => ?_)
            · skip
              refine OK.ieq (fun h104 => ?_) (fun h104 => ?_)
              · skip
                refine OK.bndS (k_X0_step _ _ hI ) Fr.rf (fun s105 is105 fs105 => ?_)
                try dsimp only
                obtain ⟨a106k, a106, a106l, a106r⟩ := i_add p2 1
                try (refine k0el (k := a106k) ?_ (fun e0 => ?_); (focus omega); subst e0)
                refine OK.bndS (hr_X0_walk _ _ _ _ is105 (by omega)) fs105 (fun s107 is107 fs107 => ?_)
                try dsimp only
                exact OK.sret (ia_I_41 is107) (fr_I_41 fs107)
              · skip
                unfold f_X0_walk_190
                try dsimp only
                refine OK.bndR (k_X0_fits _ _ _ hI ) (fun v108 h109 => ?_)
                dsimp only
                refine OK.ieq (fun h110 => ?_) (fun h110 => ?_)
                · skip
                  refine OK.bndS (k_X0_addMiss _ _ hI ) Fr.rf (fun s111 is111 fs111 => ?_)
                  try dsimp only
                  exact OK.sret is111 fs111
                · skip
                  exact OK.sret hI Fr.rf
            · skip
              unfold f_X0_walk_190
              try dsimp only
              refine OK.bndR (k_X0_fits _ _ _ hI ) (fun v112 h113 => ?_)
              dsimp only
              refine OK.ieq (fun h114 => ?_) (fun h114 => ?_)
              · skip
                refine OK.bndS (k_X0_addMiss _ _ hI ) Fr.rf (fun s115 is115 fs115 => ?_)
                try dsimp only
                exact OK.sret is115 fs115
              · skip
                exact OK.sret hI Fr.rf
    · skip
      exact OK.sret hI Fr.rf
