theorem k_X10_kept (p0 : Int32) (σ : ST) (hI : IA σ)  : OK (f_X10_kept  p0 σ) (RO σ fun v => True) := by
  unfold f_X10_kept
  have lt_m1 := li_m1
  have lt_0 := li_0
  have lt_1 := li_1
  have lFU : ((FU : Nat) : Int) = 100000 := rfl
  refine OK.ieq (fun h1 => ?_) (fun h1 => ?_)
  · skip
    exact OK.roret (by first | trivial | omega | exact hI.flds _ | exact hI.dflds _ | exact hI.recs _ | exact hI.drecs _ | exact hI.droot _ | omega)
  · skip
    refine OK.bndR (k_X9_pairAt _ _ hI ) (fun v2 h3 => ?_)
    dsimp only
    exact OK.roret (by first | trivial | omega | exact hI.flds _ | exact hI.dflds _ | exact hI.recs _ | exact hI.drecs _ | exact hI.droot _ | omega)

theorem k_X10_letter_30 (σ : ST) (hI : IA σ)  : OK (f_X10_letter_30  σ) (RO σ fun v => True) := by
  unfold f_X10_letter_30
  have lt_0 := li_0
  have lt_1 := li_1
  have lFU : ((FU : Nat) : Int) = 100000 := rfl
  exact OK.roret (by first | trivial | omega | exact hI.flds _ | exact hI.dflds _ | exact hI.recs _ | exact hI.drecs _ | exact hI.droot _ | omega)

theorem k_X10_message (p0 : Int32) (p1 : Int32) (σ : ST) (hI : IA σ)  : OK (f_X10_message  p0 p1 σ) (RO σ fun v => True) := by
  unfold f_X10_message
  have lt_m1 := li_m1
  have lt_0 := li_0
  have lt_1 := li_1
  have lFU : ((FU : Nat) : Int) = 100000 := rfl
  refine OK.bndR (k_X1_isWritten _ _ hI ) (fun v1 h2 => ?_)
  dsimp only
  refine OK.ieq (fun h3 => ?_) (fun h3 => ?_)
  · skip
    exact OK.roret (by first | trivial | omega | exact hI.flds _ | exact hI.dflds _ | exact hI.recs _ | exact hI.drecs _ | exact hI.droot _ | omega)
  · skip
    refine OK.ieq (fun h4 => ?_) (fun h4 => ?_)
    · skip
      refine OK.bndR (k_X1_sizeOf _ _ hI ) (fun v5 h6 => ?_)
      dsimp only
      exact OK.roret (by first | trivial | omega | exact hI.flds _ | exact hI.dflds _ | exact hI.recs _ | exact hI.drecs _ | exact hI.droot _ | omega)
    · skip
      refine OK.ieq (fun h7 => ?_) (fun h7 => ?_)
      · skip
        refine OK.bndR (k_X1_planOf _ _ hI ) (fun v8 h9 => ?_)
        dsimp only
        exact OK.roret (by first | trivial | omega | exact hI.flds _ | exact hI.dflds _ | exact hI.recs _ | exact hI.drecs _ | exact hI.droot _ | omega)
      · skip
        exact OK.roret (by first | trivial | omega | exact hI.flds _ | exact hI.dflds _ | exact hI.recs _ | exact hI.drecs _ | exact hI.droot _ | omega)

theorem k_X7_isFilled_50 (p0 : Int32) (σ : ST) (hI : IA σ)  : OK (f_X7_isFilled 50 p0 σ) (RO σ fun v => v.toInt = 0 ∨ v.toInt = 1) := by
  unfold f_X7_isFilled
  have lt_0 := li_0
  have lt_1 := li_1
  have lFU : ((FU : Nat) : Int) = 100000 := rfl
  have g50 := (hI.t50).1
  have g50b : 0 ≤ (σ.1 50 1).toInt ∧ (σ.1 50 1).toInt ≤ 400 := (hI.t50).2.1
  have g50n : ((ln7 50 : Nat) : Int) = 400 := rfl
  refine OK.bndR (k_X7_isRow_50 _ _ hI ) (fun v1 h2 => ?_)
  dsimp only
  refine OK.ieq (fun h3 => ?_) (fun h3 => ?_)
  · skip
    exact OK.roret (by first | trivial | omega | exact hI.flds _ | exact hI.dflds _ | exact hI.recs _ | exact hI.drecs _ | exact hI.droot _ | omega)
  · skip
    refine OK.grd ⟨by omega, by omega⟩ ?_
    refine OK.ieq (fun h4 => ?_) (fun h4 => ?_)
    · skip
      exact OK.roret (by first | trivial | omega | exact hI.flds _ | exact hI.dflds _ | exact hI.recs _ | exact hI.drecs _ | exact hI.droot _ | omega)
    · skip
      exact OK.roret (by first | trivial | omega | exact hI.flds _ | exact hI.dflds _ | exact hI.recs _ | exact hI.drecs _ | exact hI.droot _ | omega)

theorem k_X7_numberOf_50 (p0 : Int32) (σ : ST) (hI : IA σ)  : OK (f_X7_numberOf 50 p0 σ) (RO σ fun v => True) := by
  unfold f_X7_numberOf
  have lt_m1 := li_m1
  have lt_0 := li_0
  have lt_1 := li_1
  have lFU : ((FU : Nat) : Int) = 100000 := rfl
  have g50 := (hI.t50).1
  have g50b : 0 ≤ (σ.1 50 1).toInt ∧ (σ.1 50 1).toInt ≤ 400 := (hI.t50).2.1
  have g50n : ((ln7 50 : Nat) : Int) = 400 := rfl
  refine OK.bndR (k_X7_isRow_50 _ _ hI ) (fun v1 h2 => ?_)
  dsimp only
  refine OK.ieq (fun h3 => ?_) (fun h3 => ?_)
  · skip
    exact OK.roret (by first | trivial | omega | exact hI.flds _ | exact hI.dflds _ | exact hI.recs _ | exact hI.drecs _ | exact hI.droot _ | omega)
  · skip
    refine OK.grd ⟨by omega, by omega⟩ ?_
    exact OK.roret (by first | trivial | omega | exact hI.flds _ | exact hI.dflds _ | exact hI.recs _ | exact hI.drecs _ | exact hI.droot _ | omega)

theorem k_X10_node_23 (σ : ST) (hI : IA σ)  : OK (f_X10_node_23  σ) (RO σ fun v => True) := by
  unfold f_X10_node_23
  have lt_0 := li_0
  have lt_1 := li_1
  have lFU : ((FU : Nat) : Int) = 100000 := rfl
  exact OK.roret (by first | trivial | omega | exact hI.flds _ | exact hI.dflds _ | exact hI.recs _ | exact hI.drecs _ | exact hI.droot _ | omega)

theorem k_X5_setInner_20 (p0 : Int32) (p1 : Int32) (σ : ST) (hI : IA σ)  : OK (f_X5_setInner 20 p0 p1 σ) (RS σ) := by
  unfold f_X5_setInner
  have lt_0 := li_0
  have lt_1 := li_1
  have lFU : ((FU : Nat) : Int) = 100000 := rfl
  refine OK.bndR (k_X5_isType_20 _ _ hI ) (fun v1 h2 => ?_)
  dsimp only
  refine OK.ieq (fun h3 => ?_) (fun h3 => ?_)
  · skip
    exact OK.sret hI Fr.rf
  · skip
    refine OK.grd ⟨by omega, by omega⟩ ?_
    exact OK.sret (ia_I_32 hI) (fr_I_32 Fr.rf)

theorem k_X6_isDigit (p0 : Int32) (σ : ST) (hI : IA σ)  : OK (f_X6_isDigit  p0 σ) (RO σ fun v => v.toInt = 0 ∨ v.toInt = 1) := by
  unfold f_X6_isDigit
  have lt_0 := li_0
  have lt_1 := li_1
  have lt_48 := li_48
  have lt_57 := li_57
  have lFU : ((FU : Nat) : Int) = 100000 := rfl
  refine OK.ilt (fun h1 => ?_) (fun h1 => ?_)
  · skip
    exact OK.roret (by first | trivial | omega | exact hI.flds _ | exact hI.dflds _ | exact hI.recs _ | exact hI.drecs _ | exact hI.droot _ | omega)
  · skip
    refine OK.ilt (fun h2 => ?_) (fun h2 => ?_)
    · skip
      exact OK.roret (by first | trivial | omega | exact hI.flds _ | exact hI.dflds _ | exact hI.recs _ | exact hI.drecs _ | exact hI.droot _ | omega)
    · skip
      exact OK.roret (by first | trivial | omega | exact hI.flds _ | exact hI.dflds _ | exact hI.recs _ | exact hI.drecs _ | exact hI.droot _ | omega)

theorem k_X6_isLetter (p0 : Int32) (σ : ST) (hI : IA σ)  : OK (f_X6_isLetter  p0 σ) (RO σ fun v => v.toInt = 0 ∨ v.toInt = 1) := by
  unfold f_X6_isLetter
  have lt_0 := li_0
  have lt_1 := li_1
  have lt_97 := li_97
  have lt_122 := li_122
  have lFU : ((FU : Nat) : Int) = 100000 := rfl
  refine OK.ilt (fun h1 => ?_) (fun h1 => ?_)
  · skip
    exact OK.roret (by first | trivial | omega | exact hI.flds _ | exact hI.dflds _ | exact hI.recs _ | exact hI.drecs _ | exact hI.droot _ | omega)
  · skip
    refine OK.ilt (fun h2 => ?_) (fun h2 => ?_)
    · skip
      exact OK.roret (by first | trivial | omega | exact hI.flds _ | exact hI.dflds _ | exact hI.recs _ | exact hI.drecs _ | exact hI.droot _ | omega)
    · skip
      exact OK.roret (by first | trivial | omega | exact hI.flds _ | exact hI.dflds _ | exact hI.recs _ | exact hI.drecs _ | exact hI.droot _ | omega)

theorem k_X6_signAt (p0 : Int32) (σ : ST) (hI : IA σ)  : OK (f_X6_signAt  p0 σ) (RO σ fun v => True) := by
  unfold f_X6_signAt
  have lt_0 := li_0
  have lt_1 := li_1
  have lt_255 := li_255
  have lt_1000 := li_1000
  have lFU : ((FU : Nat) : Int) = 100000 := rfl
  refine OK.ilt (fun h1 => ?_) (fun h1 => ?_)
  · skip
    exact OK.roret (by first | trivial | omega | exact hI.flds _ | exact hI.dflds _ | exact hI.recs _ | exact hI.drecs _ | exact hI.droot _ | omega)
  · skip
    refine OK.ile (fun h2 => ?_) (fun h2 => ?_)
    · skip
      exact OK.roret (by first | trivial | omega | exact hI.flds _ | exact hI.dflds _ | exact hI.recs _ | exact hI.drecs _ | exact hI.droot _ | omega)
    · skip
      refine OK.ile (fun h3 => ?_) (fun h3 => ?_)
      · skip
        exact OK.roret (by first | trivial | omega | exact hI.flds _ | exact hI.dflds _ | exact hI.recs _ | exact hI.drecs _ | exact hI.droot _ | omega)
      · skip
        refine OK.grd ⟨by omega, by omega⟩ ?_
        exact OK.roret (by first | trivial | omega | exact hI.flds _ | exact hI.dflds _ | exact hI.recs _ | exact hI.drecs _ | exact hI.droot _ | omega)

theorem k_X6_scanLettered_38 (σ : ST) (hI : IA σ)  : OK (f_X6_scanLettered_38  σ) (RS σ) := by
  unfold f_X6_scanLettered_38
  have lt_0 := li_0
  have lt_1 := li_1
  have lFU : ((FU : Nat) : Int) = 100000 := rfl
  exact OK.sret (ia_I_2_4 hI) (fr_I_2 Fr.rf)

theorem k_X6_scanWord_45 : ∀ (n : Nat) (x2 : Int32) (σ : ST), IA σ → (0 ≤ x2.toInt ∧ x2.toInt ≤ 15 ∧ (15 : Int) - x2.toInt < n) → OK (f_X6_scanWord_45  n x2 σ) (RS σ) := by
  intro n
  induction n with
  | zero =>
    intro x2 σ hI hv
    omega
  | succ n ih =>
    intro x2 σ hI hv
    rw [f_X6_scanWord_45]
    have lt_0 := li_0
    have lt_1 := li_1
    have lt_15 := li_15
    have lFU : ((FU : Nat) : Int) = 100000 := rfl
    refine OK.ile (fun h1 => ?_) (fun h1 => ?_)
    · skip
      exact OK.sret hI Fr.rf
    · skip
      refine OK.grd ⟨by omega, by omega⟩ ?_
      refine OK.ieq (fun h2 => ?_) (fun h2 => ?_)
      · skip
        unfold f_X6_scanWord_75
        try dsimp only
        obtain ⟨a3k, a3, a3l, a3r⟩ := i_add x2 1
        try (refine k0el (k := a3k) ?_ (fun e0 => ?_); (focus omega); subst e0)
        exact OK.trS (ih _ _ (ia_I_2_6 (ia_I_2_4 hI)) (by omega)) (fr_I_2 (fr_I_2 Fr.rf))
      · skip
        unfold f_X6_scanWord_75
        try dsimp only
        obtain ⟨a4k, a4, a4l, a4r⟩ := i_add x2 1
        try (refine k0el (k := a4k) ?_ (fun e0 => ?_); (focus omega); subst e0)
        exact OK.trS (ih _ _ hI (by omega)) Fr.rf

theorem k_X6_refuseAt (p0 : Int32) (p1 : Int32) (σ : ST) (hI : IA σ)  : OK (f_X6_refuseAt  p0 p1 σ) (RW σ fun v => v.toInt = 0 ∨ v.toInt = 1) := by
  unfold f_X6_refuseAt
  have lt_0 := li_0
  have lt_1 := li_1
  have lFU : ((FU : Nat) : Int) = 100000 := rfl
  refine OK.ieq (fun h1 => ?_) (fun h1 => ?_)
  · skip
    exact OK.wret (ia_I_2_13 (ia_I_2_12 hI)) (fr_I_2 (fr_I_2 Fr.rf)) (by first | trivial | omega | exact hI.flds _ | exact hI.dflds _ | exact hI.recs _ | exact hI.drecs _ | exact hI.droot _ | omega)
  · skip
    exact OK.wret hI Fr.rf (by first | trivial | omega | exact hI.flds _ | exact hI.dflds _ | exact hI.recs _ | exact hI.drecs _ | exact hI.droot _ | omega)

theorem k_X6_refuse (p0 : Int32) (σ : ST) (hI : IA σ)  : OK (f_X6_refuse  p0 σ) (RW σ fun v => v.toInt = 0 ∨ v.toInt = 1) := by
  unfold f_X6_refuse
  have lt_0 := li_0
  have lt_1 := li_1
  have lFU : ((FU : Nat) : Int) = 100000 := rfl
  refine OK.bndW (k_X6_refuseAt _ _ _ hI ) Fr.rf (fun v1 s3 is3 fs3 h2 => ?_)
  dsimp only
  refine OK.grd (b01 (by omega)) ?_
  exact OK.wret is3 fs3 (by first | trivial | omega | exact hI.flds _ | exact hI.dflds _ | exact hI.recs _ | exact hI.drecs _ | exact hI.droot _ | omega)

theorem k_X5_setElse_20 (p0 : Int32) (p1 : Int32) (p2 : Int64) (σ : ST) (hI : IA σ)  : OK (f_X5_setElse 20 p0 p1 p2 σ) (RS σ) := by
  unfold f_X5_setElse
  have lt_0 := li_0
  have lt_1 := li_1
  have lt_8 := li_8
  have lFU : ((FU : Nat) : Int) = 100000 := rfl
  refine OK.bndR (k_X5_isFieldOf _ _ _ hI ) (fun v1 h2 => ?_)
  dsimp only
  refine OK.ieq (fun h3 => ?_) (fun h3 => ?_)
  · skip
    exact OK.sret hI Fr.rf
  · skip
    refine OK.grd ⟨by omega, by omega⟩ ?_
    refine OK.lt (fun z4 h5 => ?_)
    have iz4 : IA z4 := by rw [h5]; exact (ia_I_25 hI)
    have fz4 : Fr σ z4 := by rw [h5]; exact (fr_I_25 Fr.rf)
    obtain ⟨a6k, a6, a6l, a6r⟩ := i_mul p0 8
    rw [li_8] at a6
    try (refine k0el (k := a6k) ?_ (fun e0 => ?_); (focus omega); subst e0)
    obtain ⟨a7k, a7, a7l, a7r⟩ := i_add (p0 * 8) p1
    try (refine k0el (k := a7k) ?_ (fun e0 => ?_); (focus omega); subst e0)
    refine OK.grd ⟨by omega, by omega⟩ ?_
    exact OK.sret (ia_L iz4) (fr_L fz4)

theorem k_X6_isKeyword (p0 : Int32) (σ : ST) (hI : IA σ)  : OK (f_X6_isKeyword  p0 σ) (RO σ fun v => v.toInt = 0 ∨ v.toInt = 1) := by
  unfold f_X6_isKeyword
  have lt_0 := li_0
  have lt_1 := li_1
  have lt_2 := li_2
  have lFU : ((FU : Nat) : Int) = 100000 := rfl
  refine OK.ieq (fun h1 => ?_) (fun h1 => ?_)
  · skip
    refine OK.ieq (fun h2 => ?_) (fun h2 => ?_)
    · skip
      exact OK.roret (by first | trivial | omega | exact hI.flds _ | exact hI.dflds _ | exact hI.recs _ | exact hI.drecs _ | exact hI.droot _ | omega)
    · skip
      exact OK.roret (by first | trivial | omega | exact hI.flds _ | exact hI.dflds _ | exact hI.recs _ | exact hI.drecs _ | exact hI.droot _ | omega)
  · skip
    exact OK.roret (by first | trivial | omega | exact hI.flds _ | exact hI.dflds _ | exact hI.recs _ | exact hI.drecs _ | exact hI.droot _ | omega)

theorem k_X6_beginsLiteral_52 (σ : ST) (hI : IA σ)  : OK (f_X6_beginsLiteral_52  σ) (RO σ fun v => v.toInt = 0 ∨ v.toInt = 1) := by
  unfold f_X6_beginsLiteral_52
  have lt_0 := li_0
  have lt_1 := li_1
  have lFU : ((FU : Nat) : Int) = 100000 := rfl
  exact OK.roret (by first | trivial | omega | exact hI.flds _ | exact hI.dflds _ | exact hI.recs _ | exact hI.drecs _ | exact hI.droot _ | omega)

theorem k_X6_beginsLiteral (σ : ST) (hI : IA σ)  : OK (f_X6_beginsLiteral  σ) (RO σ fun v => v.toInt = 0 ∨ v.toInt = 1) := by
  unfold f_X6_beginsLiteral
  have lt_0 := li_0
  have lt_1 := li_1
  have lt_4 := li_4
  have lt_5 := li_5
  have lt_91 := li_91
  have lFU : ((FU : Nat) : Int) = 100000 := rfl
  refine OK.ieq (fun h1 => ?_) (fun h1 => ?_)
  · skip
    exact OK.roq (k_X6_beginsLiteral_52 _ hI ) (fun v hv => by first | trivial | omega | exact hI.flds _ | exact hI.dflds _ | exact hI.recs _ | exact hI.drecs _ | exact hI.droot _ | omega)
  · skip
    refine OK.ieq (fun h2 => ?_) (fun h2 => ?_)
    · skip
      exact OK.roq (k_X6_beginsLiteral_52 _ hI ) (fun v hv => by first | trivial | omega | exact hI.flds _ | exact hI.dflds _ | exact hI.recs _ | exact hI.drecs _ | exact hI.droot _ | omega)
    · skip
      refine OK.ieq (fun h3 => ?_) (fun h3 => ?_)
      · skip
        exact OK.roq (k_X6_beginsLiteral_52 _ hI ) (fun v hv => by first | trivial | omega | exact hI.flds _ | exact hI.dflds _ | exact hI.recs _ | exact hI.drecs _ | exact hI.droot _ | omega)
      · skip
        refine OK.bndR (k_X6_isKeyword _ _ hI ) (fun v4 h5 => ?_)
        dsimp only
        refine OK.ieq (fun h6 => ?_) (fun h6 => ?_)
        · skip
          refine OK.bndR (k_X6_isKeyword _ _ hI ) (fun v7 h8 => ?_)
          dsimp only
          refine OK.ieq (fun h9 => ?_) (fun h9 => ?_)
          · skip
            refine OK.bndR (k_X6_isKeyword _ _ hI ) (fun v10 h11 => ?_)
            dsimp only
            refine OK.ieq (fun h12 => ?_) (fun h12 => ?_)
            · skip
              exact OK.roret (by first | trivial | omega | exact hI.flds _ | exact hI.dflds _ | exact hI.recs _ | exact hI.drecs _ | exact hI.droot _ | omega)
            · skip
              exact OK.roq (k_X6_beginsLiteral_52 _ hI ) (fun v hv => by first | trivial | omega | exact hI.flds _ | exact hI.dflds _ | exact hI.recs _ | exact hI.drecs _ | exact hI.droot _ | omega)
          · skip
            exact OK.roq (k_X6_beginsLiteral_52 _ hI ) (fun v hv => by first | trivial | omega | exact hI.flds _ | exact hI.dflds _ | exact hI.recs _ | exact hI.drecs _ | exact hI.droot _ | omega)
        · skip
          exact OK.roq (k_X6_beginsLiteral_52 _ hI ) (fun v hv => by first | trivial | omega | exact hI.flds _ | exact hI.dflds _ | exact hI.recs _ | exact hI.drecs _ | exact hI.droot _ | omega)

theorem k_X6_whole (σ : ST) (hI : IA σ)  : OK (f_X6_whole  σ) (RO σ fun v => True) := by
  unfold f_X6_whole
  have lt_0 := li_0
  have lt_1 := li_1
  have lFU : ((FU : Nat) : Int) = 100000 := rfl
  refine OK.ieq (fun h1 => ?_) (fun h1 => ?_)
  · skip
    exact OK.roret (by first | trivial | omega | exact hI.flds _ | exact hI.dflds _ | exact hI.recs _ | exact hI.drecs _ | exact hI.droot _ | omega)
  · skip
    exact OK.roret (by first | trivial | omega | exact hI.flds _ | exact hI.dflds _ | exact hI.recs _ | exact hI.drecs _ | exact hI.droot _ | omega)

theorem k_X6_fits_73 (σ : ST) (hI : IA σ)  : OK (f_X6_fits_73  σ) (RO σ fun v => v.toInt = 0 ∨ v.toInt = 1) := by
  unfold f_X6_fits_73
  have lt_0 := li_0
  have lt_1 := li_1
  have lFU : ((FU : Nat) : Int) = 100000 := rfl
  exact OK.roret (by first | trivial | omega | exact hI.flds _ | exact hI.dflds _ | exact hI.recs _ | exact hI.drecs _ | exact hI.droot _ | omega)

theorem k_X6_fits (p0 : Int32) (σ : ST) (hI : IA σ)  : OK (f_X6_fits  p0 σ) (RO σ fun v => v.toInt = 0 ∨ v.toInt = 1) := by
  unfold f_X6_fits
  have lt_0 := li_0
  have lt_1 := li_1
  have lt_2 := li_2
  have lt_3 := li_3
  have lt_4 := li_4
  have lt_5 := li_5
  have lt_6 := li_6
  have lt_7 := li_7
  have lt_91 := li_91
  have lt_123 := li_123
  have lFU : ((FU : Nat) : Int) = 100000 := rfl
  refine OK.ieq (fun h1 => ?_) (fun h1 => ?_)
  · skip
    refine OK.bndR (k_X6_isKeyword _ _ hI ) (fun v2 h3 => ?_)
    dsimp only
    refine OK.grd (b01 (by omega)) ?_
    exact OK.roret (by first | trivial | omega | exact hI.flds _ | exact hI.dflds _ | exact hI.recs _ | exact hI.drecs _ | exact hI.droot _ | omega)
  · skip
    refine OK.ieq (fun h4 => ?_) (fun h4 => ?_)
    · skip
      refine OK.bndR (k_X6_isKeyword _ _ hI ) (fun v5 h6 => ?_)
      dsimp only
      refine OK.ieq (fun h7 => ?_) (fun h7 => ?_)
      · skip
        refine OK.bndR (k_X6_isKeyword _ _ hI ) (fun v8 h9 => ?_)
        dsimp only
        refine OK.ieq (fun h10 => ?_) (fun h10 => ?_)
        · skip
          exact OK.roret (by first | trivial | omega | exact hI.flds _ | exact hI.dflds _ | exact hI.recs _ | exact hI.drecs _ | exact hI.droot _ | omega)
        · skip
          exact OK.roq (k_X6_fits_73 _ hI ) (fun v hv => by first | trivial | omega | exact hI.flds _ | exact hI.dflds _ | exact hI.recs _ | exact hI.drecs _ | exact hI.droot _ | omega)
      · skip
        exact OK.roq (k_X6_fits_73 _ hI ) (fun v hv => by first | trivial | omega | exact hI.flds _ | exact hI.dflds _ | exact hI.recs _ | exact hI.drecs _ | exact hI.droot _ | omega)
    · skip
      refine OK.ieq (fun h11 => ?_) (fun h11 => ?_)
      · skip
        refine OK.ieq (fun h12 => ?_) (fun h12 => ?_)
        · skip
          refine OK.ieq (fun h13 => ?_) (fun h13 => ?_)
          · skip
            refine OK.bndR (k_X6_whole _ hI ) (fun v14 h15 => ?_)
            dsimp only
            refine OK.bndR (k_X10_isInt _ _ hI ) (fun v16 h17 => ?_)
            dsimp only
            refine OK.ieq (fun h18 => ?_) (fun h18 => ?_)
            · skip
              exact OK.roret (by first | trivial | omega | exact hI.flds _ | exact hI.dflds _ | exact hI.recs _ | exact hI.drecs _ | exact hI.droot _ | omega)
            · skip
              exact OK.roret (by first | trivial | omega | exact hI.flds _ | exact hI.dflds _ | exact hI.recs _ | exact hI.drecs _ | exact hI.droot _ | omega)
          · skip
            exact OK.roret (by first | trivial | omega | exact hI.flds _ | exact hI.dflds _ | exact hI.recs _ | exact hI.drecs _ | exact hI.droot _ | omega)
        · skip
          exact OK.roret (by first | trivial | omega | exact hI.flds _ | exact hI.dflds _ | exact hI.recs _ | exact hI.drecs _ | exact hI.droot _ | omega)
      · skip
        refine OK.ieq (fun h19 => ?_) (fun h19 => ?_)
        · skip
          refine OK.ieq (fun h20 => ?_) (fun h20 => ?_)
          · skip
            refine OK.ieq (fun h21 => ?_) (fun h21 => ?_)
            · skip
              exact OK.roret (by first | trivial | omega | exact hI.flds _ | exact hI.dflds _ | exact hI.recs _ | exact hI.drecs _ | exact hI.droot _ | omega)
            · skip
              exact OK.roret (by first | trivial | omega | exact hI.flds _ | exact hI.dflds _ | exact hI.recs _ | exact hI.drecs _ | exact hI.droot _ | omega)
          · skip
            exact OK.roret (by first | trivial | omega | exact hI.flds _ | exact hI.dflds _ | exact hI.recs _ | exact hI.drecs _ | exact hI.droot _ | omega)
        · skip
          refine OK.ieq (fun h22 => ?_) (fun h22 => ?_)
          · skip
            refine OK.ieq (fun h23 => ?_) (fun h23 => ?_)
            · skip
              exact OK.roret (by first | trivial | omega | exact hI.flds _ | exact hI.dflds _ | exact hI.recs _ | exact hI.drecs _ | exact hI.droot _ | omega)
            · skip
              exact OK.roret (by first | trivial | omega | exact hI.flds _ | exact hI.dflds _ | exact hI.recs _ | exact hI.drecs _ | exact hI.droot _ | omega)
          · skip
            refine OK.ieq (fun h24 => ?_) (fun h24 => ?_)
            · skip
              refine OK.ieq (fun h25 => ?_) (fun h25 => ?_)
              · skip
                exact OK.roret (by first | trivial | omega | exact hI.flds _ | exact hI.dflds _ | exact hI.recs _ | exact hI.drecs _ | exact hI.droot _ | omega)
              · skip
                exact OK.roret (by first | trivial | omega | exact hI.flds _ | exact hI.dflds _ | exact hI.recs _ | exact hI.drecs _ | exact hI.droot _ | omega)
            · skip
              refine OK.ieq (fun h26 => ?_) (fun h26 => ?_)
              · skip
                refine OK.ieq (fun h27 => ?_) (fun h27 => ?_)
                · skip
                  exact OK.roret (by first | trivial | omega | exact hI.flds _ | exact hI.dflds _ | exact hI.recs _ | exact hI.drecs _ | exact hI.droot _ | omega)
                · skip
                  exact OK.roret (by first | trivial | omega | exact hI.flds _ | exact hI.dflds _ | exact hI.recs _ | exact hI.drecs _ | exact hI.droot _ | omega)
              · skip
                refine OK.ieq (fun h28 => ?_) (fun h28 => ?_)
                · skip
                  refine OK.ieq (fun h29 => ?_) (fun h29 => ?_)
                  · skip
                    exact OK.roret (by first | trivial | omega | exact hI.flds _ | exact hI.dflds _ | exact hI.recs _ | exact hI.drecs _ | exact hI.droot _ | omega)
                  · skip
                    exact OK.roret (by first | trivial | omega | exact hI.flds _ | exact hI.dflds _ | exact hI.recs _ | exact hI.drecs _ | exact hI.droot _ | omega)
                · skip
                  exact OK.roret (by first | trivial | omega | exact hI.flds _ | exact hI.dflds _ | exact hI.recs _ | exact hI.drecs _ | exact hI.droot _ | omega)

theorem k_X6_realBits_42 (x1 : Int64) (σ : ST) (hI : IA σ)  : OK (f_X6_realBits_42  x1 σ) (RO σ fun v => True) := by
  unfold f_X6_realBits_42
  have lt_0 := li_0
  have lt_1 := li_1
  have lFU : ((FU : Nat) : Int) = 100000 := rfl
  exact OK.roret (by first | trivial | omega | exact hI.flds _ | exact hI.dflds _ | exact hI.recs _ | exact hI.drecs _ | exact hI.droot _ | omega)

theorem k_X5_setFormerName_20 (p0 : Int32) (p1 : Int32) (p2 : Int64) (σ : ST) (hI : IA σ)  : OK (f_X5_setFormerName 20 p0 p1 p2 σ) (RS σ) := by
  unfold f_X5_setFormerName
  have lt_0 := li_0
  have lt_1 := li_1
  have lt_8 := li_8
  have lFU : ((FU : Nat) : Int) = 100000 := rfl
  refine OK.bndR (k_X5_isFieldOf _ _ _ hI ) (fun v1 h2 => ?_)
  dsimp only
  refine OK.ieq (fun h3 => ?_) (fun h3 => ?_)
  · skip
    exact OK.sret hI Fr.rf
  · skip
    obtain ⟨a4k, a4, a4l, a4r⟩ := i_mul p0 8
    rw [li_8] at a4
    try (refine k0el (k := a4k) ?_ (fun e0 => ?_); (focus omega); subst e0)
    obtain ⟨a5k, a5, a5l, a5r⟩ := i_add (p0 * 8) p1
    try (refine k0el (k := a5k) ?_ (fun e0 => ?_); (focus omega); subst e0)
    refine OK.grd ⟨by omega, by omega⟩ ?_
    exact OK.sret (ia_L hI) (fr_L Fr.rf)

theorem k_X5_setBranchAfter_20 (p0 : Int32) (p1 : Int32) (σ : ST) (hI : IA σ)  : OK (f_X5_setBranchAfter 20 p0 p1 σ) (RS σ) := by
  unfold f_X5_setBranchAfter
  have lt_0 := li_0
  have lt_1 := li_1
  have lFU : ((FU : Nat) : Int) = 100000 := rfl
  refine OK.bndR (k_X5_isType_20 _ _ hI ) (fun v1 h2 => ?_)
  dsimp only
  refine OK.ieq (fun h3 => ?_) (fun h3 => ?_)
  · skip
    exact OK.sret hI Fr.rf
  · skip
    refine OK.grd ⟨by omega, by omega⟩ ?_
    exact OK.sret (ia_I_33 hI) (fr_I_33 Fr.rf)

theorem k_X5_setAsked_20 (p0 : Int32) (p1 : Int64) (p2 : Int32) (σ : ST) (hI : IA σ)  : OK (f_X5_setAsked 20 p0 p1 p2 σ) (RS σ) := by
  unfold f_X5_setAsked
  have lt_0 := li_0
  have lt_1 := li_1
  have lFU : ((FU : Nat) : Int) = 100000 := rfl
  refine OK.bndR (k_X5_isType_20 _ _ hI ) (fun v1 h2 => ?_)
  dsimp only
  refine OK.ieq (fun h3 => ?_) (fun h3 => ?_)
  · skip
    exact OK.sret hI Fr.rf
  · skip
    refine OK.grd ⟨by omega, by omega⟩ ?_
    exact OK.sret (ia_I_35 (ia_L hI)) (fr_I_35 (fr_L Fr.rf))

theorem k_X6_sortBegun (σ : ST) (hI : IA σ)  : OK (f_X6_sortBegun  σ) (RO σ fun v => True) := by
  unfold f_X6_sortBegun
  have lt_m1 := li_m1
  have lt_0 := li_0
  have lt_1 := li_1
  have lt_2 := li_2
  have lt_3 := li_3
  have lt_4 := li_4
  have lt_5 := li_5
  have lt_6 := li_6
  have lt_7 := li_7
  have lt_8 := li_8
  have lt_12 := li_12
  have lFU : ((FU : Nat) : Int) = 100000 := rfl
  refine OK.ieq (fun h1 => ?_) (fun h1 => ?_)
  · skip
    exact OK.roret (by first | trivial | omega | exact hI.flds _ | exact hI.dflds _ | exact hI.recs _ | exact hI.drecs _ | exact hI.droot _ | omega)
  · skip
    refine OK.ieq (fun h2 => ?_) (fun h2 => ?_)
    · skip
      refine OK.ieq (fun h3 => ?_) (fun h3 => ?_)
      · skip
        exact OK.roret (by first | trivial | omega | exact hI.flds _ | exact hI.dflds _ | exact hI.recs _ | exact hI.drecs _ | exact hI.droot _ | omega)
      · skip
        refine OK.ieq (fun h4 => ?_) (fun h4 => ?_)
        · skip
          exact OK.roret (by first | trivial | omega | exact hI.flds _ | exact hI.dflds _ | exact hI.recs _ | exact hI.drecs _ | exact hI.droot _ | omega)
        · skip
          refine OK.ilt (fun h5 => ?_) (fun h5 => ?_)
          · skip
            exact OK.roret (by first | trivial | omega | exact hI.flds _ | exact hI.dflds _ | exact hI.recs _ | exact hI.drecs _ | exact hI.droot _ | omega)
          · skip
            refine OK.ilt (fun h6 => ?_) (fun h6 => ?_)
            · skip
              exact OK.roret (by first | trivial | omega | exact hI.flds _ | exact hI.dflds _ | exact hI.recs _ | exact hI.drecs _ | exact hI.droot _ | omega)
            · skip
              exact OK.roret (by first | trivial | omega | exact hI.flds _ | exact hI.dflds _ | exact hI.recs _ | exact hI.drecs _ | exact hI.droot _ | omega)
    · skip
      exact OK.roret (by first | trivial | omega | exact hI.flds _ | exact hI.dflds _ | exact hI.recs _ | exact hI.drecs _ | exact hI.droot _ | omega)

theorem k_X5_setType_20 (p0 : Int32) (p1 : Int32) (p2 : Int32) (σ : ST) (hI : IA σ)  : OK (f_X5_setType 20 p0 p1 p2 σ) (RS σ) := by
  unfold f_X5_setType
  have lt_0 := li_0
  have lt_1 := li_1
  have lt_8 := li_8
  have lFU : ((FU : Nat) : Int) = 100000 := rfl
  refine OK.bndR (k_X5_isFieldOf _ _ _ hI ) (fun v1 h2 => ?_)
  dsimp only
  refine OK.ieq (fun h3 => ?_) (fun h3 => ?_)
  · skip
    exact OK.sret hI Fr.rf
  · skip
    obtain ⟨a4k, a4, a4l, a4r⟩ := i_mul p0 8
    rw [li_8] at a4
    try (refine k0el (k := a4k) ?_ (fun e0 => ?_); (focus omega); subst e0)
    obtain ⟨a5k, a5, a5l, a5r⟩ := i_add (p0 * 8) p1
    try (refine k0el (k := a5k) ?_ (fun e0 => ?_); (focus omega); subst e0)
    refine OK.grd ⟨by omega, by omega⟩ ?_
    exact OK.sret (ia_I_29 hI) (fr_I_29 Fr.rf)

theorem k_X5_recordNamed_3_20 : ∀ (n : Nat) (x1 : Int32) (x2 : Int64) (x4 : Int32) (σ : ST), IA σ → (0 ≤ x4.toInt ∧ x4.toInt ≤ 36 ∧ (36 : Int) - x4.toInt < n) → OK (f_X5_recordNamed_3 20 n x1 x2 x4 σ) (RO σ fun v => True) := by
  intro n
  induction n with
  | zero =>
    intro x1 x2 x4 σ hI hv
    omega
  | succ n ih =>
    intro x1 x2 x4 σ hI hv
    rw [f_X5_recordNamed_3]
    have lt_m1 := li_m1
    have lt_0 := li_0
    have lt_1 := li_1
    have lt_6 := li_6
    have lFU : ((FU : Nat) : Int) = 100000 := rfl
    refine OK.bndR (k_X5_recordsOf_20 _ _ hI ) (fun v1 h2 => ?_)
    dsimp only
    refine OK.ile (fun h3 => ?_) (fun h3 => ?_)
    · skip
      exact OK.roret (by first | trivial | omega | exact hI.flds _ | exact hI.dflds _ | exact hI.recs _ | exact hI.drecs _ | exact hI.droot _ | omega)
    · skip
      refine OK.bndR (k_X5_recordName_20 _ _ hI ) (fun v4 h5 => ?_)
      dsimp only
      refine OK.ieq (fun h6 => ?_) (fun h6 => ?_)
      · skip
        exact OK.roret (by first | trivial | omega | exact hI.flds _ | exact hI.dflds _ | exact hI.recs _ | exact hI.drecs _ | exact hI.droot _ | omega)
      · skip
        obtain ⟨a7k, a7, a7l, a7r⟩ := i_add x4 1
        try (refine k0el (k := a7k) ?_ (fun e0 => ?_); (focus omega); subst e0)
        exact OK.roq (ih _ _ _ _ hI (by omega)) (fun v hv => by first | trivial | omega | exact hI.flds _ | exact hI.dflds _ | exact hI.recs _ | exact hI.drecs _ | exact hI.droot _ | omega)

theorem k_X5_recordNamed_20 (p0 : Int32) (p1 : Int64) (σ : ST) (hI : IA σ)  : OK (f_X5_recordNamed 20 p0 p1 σ) (RO σ fun v => True) := by
  unfold f_X5_recordNamed
  have lt_0 := li_0
  have lt_1 := li_1
  have lFU : ((FU : Nat) : Int) = 100000 := rfl
  exact OK.roq (k_X5_recordNamed_3_20 FU _ _ _ _ hI (by omega)) (fun v hv => by first | trivial | omega | exact hI.flds _ | exact hI.dflds _ | exact hI.recs _ | exact hI.drecs _ | exact hI.droot _ | omega)

theorem k_X5_askedPlace_20 (p0 : Int32) (σ : ST) (hI : IA σ)  : OK (f_X5_askedPlace 20 p0 σ) (RO σ fun v => True) := by
  unfold f_X5_askedPlace
  have lt_0 := li_0
  have lt_1 := li_1
  have lFU : ((FU : Nat) : Int) = 100000 := rfl
  refine OK.bndR (k_X5_isType_20 _ _ hI ) (fun v1 h2 => ?_)
  dsimp only
  refine OK.ieq (fun h3 => ?_) (fun h3 => ?_)
  · skip
    exact OK.roret (by first | trivial | omega | exact hI.flds _ | exact hI.dflds _ | exact hI.recs _ | exact hI.drecs _ | exact hI.droot _ | omega)
  · skip
    refine OK.grd ⟨by omega, by omega⟩ ?_
    exact OK.roret (by first | trivial | omega | exact hI.flds _ | exact hI.dflds _ | exact hI.recs _ | exact hI.drecs _ | exact hI.droot _ | omega)

theorem k_X5_resolve_6_20 : ∀ (n : Nat) (x1 : Int32) (x2 : Int32) (σ : ST), IA σ → (-1 ≤ x2.toInt ∧ x2.toInt ≤ 262 ∧ (262 : Int) - x2.toInt < n) → OK (f_X5_resolve_6 20 n x1 x2 σ) (RW σ fun v => True) := by
  intro n
  induction n with
  | zero =>
    intro x1 x2 σ hI hv
    omega
  | succ n ih =>
    intro x1 x2 σ hI hv
    rw [f_X5_resolve_6]
    have lt_m1 := li_m1
    have lt_0 := li_0
    have lt_1 := li_1
    have lFU : ((FU : Nat) : Int) = 100000 := rfl
    have g0 : 0 ≤ (σ.1 20 1).toInt ∧ (σ.1 20 1).toInt ≤ 262 := hI.dtypes
    refine OK.ile (fun h1 => ?_) (fun h1 => ?_)
    · skip
      exact OK.wret hI Fr.rf (by first | trivial | omega | exact hI.flds _ | exact hI.dflds _ | exact hI.recs _ | exact hI.drecs _ | exact hI.droot _ | omega)
    · skip
      refine OK.bndR (k_X5_isType_20 _ _ hI ) (fun v2 h3 => ?_)
      dsimp only
      refine OK.ieq (fun h4 => ?_) (fun h4 => ?_)
      · skip
        unfold f_X5_resolve_62
        try dsimp only
        obtain ⟨a5k, a5, a5l, a5r⟩ := i_add x2 1
        try (refine k0el (k := a5k) ?_ (fun e0 => ?_); (focus omega); subst e0)
        exact OK.trW (ih _ _ _ hI (by omega)) Fr.rf (fun v hv => by first | trivial | omega | exact hI.flds _ | exact hI.dflds _ | exact hI.recs _ | exact hI.drecs _ | exact hI.droot _ | omega)
      · skip
        refine OK.grd ⟨by omega, by omega⟩ ?_
        refine OK.ieq (fun h6 => ?_) (fun h6 => ?_)
        · skip
          unfold f_X5_resolve_62
          try dsimp only
          obtain ⟨a7k, a7, a7l, a7r⟩ := i_add x2 1
          try (refine k0el (k := a7k) ?_ (fun e0 => ?_); (focus omega); subst e0)
          exact OK.trW (ih _ _ _ hI (by omega)) Fr.rf (fun v hv => by first | trivial | omega | exact hI.flds _ | exact hI.dflds _ | exact hI.recs _ | exact hI.drecs _ | exact hI.droot _ | omega)
        · skip
          refine OK.bndR (k_X5_recordNamed_20 _ _ _ hI ) (fun v8 h9 => ?_)
          dsimp only
          refine OK.ieq (fun h10 => ?_) (fun h10 => ?_)
          · skip
            exact OK.wret (ia_I_32 hI) (fr_I_32 Fr.rf) (by first | trivial | omega | exact hI.flds _ | exact hI.dflds _ | exact hI.recs _ | exact hI.drecs _ | exact hI.droot _ | omega)
          · skip
            unfold f_X5_resolve_62
            try dsimp only
            obtain ⟨a11k, a11, a11l, a11r⟩ := i_add x2 1
            try (refine k0el (k := a11k) ?_ (fun e0 => ?_); (focus omega); subst e0)
            exact OK.trW (ih _ _ _ (ia_I_32 hI) (by omega)) (fr_I_32 Fr.rf) (fun v hv => by first | trivial | omega | exact hI.flds _ | exact hI.dflds _ | exact hI.recs _ | exact hI.drecs _ | exact hI.droot _ | omega)

theorem k_X5_resolve_20 (p0 : Int32) (σ : ST) (hI : IA σ)  : OK (f_X5_resolve 20 p0 σ) (RW σ fun v => True) := by
  unfold f_X5_resolve
  have lt_0 := li_0
  have lt_1 := li_1
  have lFU : ((FU : Nat) : Int) = 100000 := rfl
  refine OK.bndR (k_X5_rootType_20 _ _ hI ) (fun v1 h2 => ?_)
  dsimp only
  exact OK.trW (k_X5_resolve_6_20 FU _ _ _ hI (by omega)) Fr.rf (fun v hv => by first | trivial | omega | exact hI.flds _ | exact hI.dflds _ | exact hI.recs _ | exact hI.drecs _ | exact hI.droot _ | omega)

theorem k_X3_resolve_33 (σ : ST) (hI : IA σ)  : OK (f_X3_resolve_33  σ) (RO σ fun v => v.toInt = 0 ∨ v.toInt = 1) := by
  unfold f_X3_resolve_33
  have lt_0 := li_0
  have lt_1 := li_1
  have lFU : ((FU : Nat) : Int) = 100000 := rfl
  exact OK.roret (by first | trivial | omega | exact hI.flds _ | exact hI.dflds _ | exact hI.recs _ | exact hI.drecs _ | exact hI.droot _ | omega)

theorem k_X3_resolve (p0 : Int32) (σ : ST) (hI : IA σ)  : OK (f_X3_resolve  p0 σ) (RW σ fun v => v.toInt = 0 ∨ v.toInt = 1) := by
  unfold f_X3_resolve
  have lt_m1 := li_m1
  have lt_0 := li_0
  have lt_1 := li_1
  have lFU : ((FU : Nat) : Int) = 100000 := rfl
  refine OK.bndW (k_X5_resolve_20 _ _ hI ) Fr.rf (fun v1 s3 is3 fs3 h2 => ?_)
  dsimp only
  refine OK.ieq (fun h4 => ?_) (fun h4 => ?_)
  · skip
    exact OK.row (k_X3_resolve_33 _ is3 ) is3 fs3 (fun v hv => by first | trivial | omega | exact hI.flds _ | exact hI.dflds _ | exact hI.recs _ | exact hI.drecs _ | exact hI.droot _ | omega)
  · skip
    refine OK.bndR (k_X5_askedPlace_20 _ _ is3 ) (fun v5 h6 => ?_)
    dsimp only
    refine OK.bndW (k_X6_refuseAt _ _ _ is3 ) fs3 (fun v7 s9 is9 fs9 h8 => ?_)
    dsimp only
    refine OK.ieq (fun h10 => ?_) (fun h10 => ?_)
    · skip
      exact OK.wret is9 fs9 (by first | trivial | omega | exact hI.flds _ | exact hI.dflds _ | exact hI.recs _ | exact hI.drecs _ | exact hI.droot _ | omega)
    · skip
      exact OK.row (k_X3_resolve_33 _ is9 ) is9 fs9 (fun v hv => by first | trivial | omega | exact hI.flds _ | exact hI.dflds _ | exact hI.recs _ | exact hI.drecs _ | exact hI.droot _ | omega)

theorem k_X5_heightOfFields_4_4 : ∀ (n : Nat) (x1 : Int32) (x2 : Int32) (x3 : Int32) (σ : ST), IA σ → (0 ≤ x3.toInt ∧ x3.toInt ≤ 8 ∧ (8 : Int) - x3.toInt < n) → OK (f_X5_heightOfFields_4 4 n x1 x2 x3 σ) (RO σ fun v => True) := by
  intro n
  induction n with
  | zero =>
    intro x1 x2 x3 σ hI hv
    omega
  | succ n ih =>
    intro x1 x2 x3 σ hI hv
    rw [f_X5_heightOfFields_4]
    have lt_m1 := li_m1
    have lt_0 := li_0
    have lt_1 := li_1
    have lFU : ((FU : Nat) : Int) = 100000 := rfl
    refine OK.bndR (k_X5_fieldsOf_4 _ _ hI ) (fun v1 h2 => ?_)
    dsimp only
    refine OK.ile (fun h3 => ?_) (fun h3 => ?_)
    · skip
      exact OK.roret (by first | trivial | omega | exact hI.flds _ | exact hI.dflds _ | exact hI.recs _ | exact hI.drecs _ | exact hI.droot _ | omega)
    · skip
      refine OK.bndR (k_X5_typeOf_4 _ _ _ hI ) (fun v4 h5 => ?_)
      dsimp only
      refine OK.bndR (k_X5_emptyHeight_4 _ _ hI ) (fun v6 h7 => ?_)
      dsimp only
      refine OK.ieq (fun h8 => ?_) (fun h8 => ?_)
      · skip
        exact OK.roret (by first | trivial | omega | exact hI.flds _ | exact hI.dflds _ | exact hI.recs _ | exact hI.drecs _ | exact hI.droot _ | omega)
      · skip
        obtain ⟨a9k, a9, a9l, a9r⟩ := i_add x3 1
        try (refine k0el (k := a9k) ?_ (fun e0 => ?_); (focus omega); subst e0)
        exact OK.roq (ih _ _ _ _ hI (by omega)) (fun v hv => by first | trivial | omega | exact hI.flds _ | exact hI.dflds _ | exact hI.recs _ | exact hI.drecs _ | exact hI.droot _ | omega)

theorem k_X5_heightOfFields_4 (p0 : Int32) (σ : ST) (hI : IA σ)  : OK (f_X5_heightOfFields 4 p0 σ) (RO σ fun v => True) := by
  unfold f_X5_heightOfFields
  have lt_0 := li_0
  have lt_1 := li_1
  have lFU : ((FU : Nat) : Int) = 100000 := rfl
  exact OK.roq (k_X5_heightOfFields_4_4 FU _ _ _ _ hI (by omega)) (fun v hv => by first | trivial | omega | exact hI.flds _ | exact hI.dflds _ | exact hI.recs _ | exact hI.drecs _ | exact hI.droot _ | omega)

theorem k_X6_faultAnswer (σ : ST) (hI : IA σ)  : OK (f_X6_faultAnswer  σ) (RO σ fun v => True) := by
  unfold f_X6_faultAnswer
  have lt_0 := li_0
  have lt_1 := li_1
  have lt_2 := li_2
  have lt_8 := li_8
  have lFU : ((FU : Nat) : Int) = 100000 := rfl
  exact OK.roret (by first | trivial | omega | exact hI.flds _ | exact hI.dflds _ | exact hI.recs _ | exact hI.drecs _ | exact hI.droot _ | omega)

theorem k_X10_record (p0 : Int32) (p1 : Int32) (p2 : Int32) (σ : ST) (hI : IA σ)  : OK (f_X10_record  p0 p1 p2 σ) (RO σ fun v => True) := by
  unfold f_X10_record
  have lt_m1 := li_m1
  have lt_0 := li_0
  have lt_1 := li_1
  have lFU : ((FU : Nat) : Int) = 100000 := rfl
  refine OK.bndR (k_X10_isPlan _ _ hI ) (fun v1 h2 => ?_)
  dsimp only
  refine OK.ieq (fun h3 => ?_) (fun h3 => ?_)
  · skip
    exact OK.roret (by first | trivial | omega | exact hI.flds _ | exact hI.dflds _ | exact hI.recs _ | exact hI.drecs _ | exact hI.droot _ | omega)
  · skip
    refine OK.bndR (k_X5_recordsOf_4 _ _ hI ) (fun v4 h5 => ?_)
    dsimp only
    refine OK.ieq (fun h6 => ?_) (fun h6 => ?_)
    · skip
      exact OK.roret (by first | trivial | omega | exact hI.flds _ | exact hI.dflds _ | exact hI.recs _ | exact hI.drecs _ | exact hI.droot _ | omega)
    · skip
      refine OK.ilt (fun h7 => ?_) (fun h7 => ?_)
      · skip
        exact OK.roret (by first | trivial | omega | exact hI.flds _ | exact hI.dflds _ | exact hI.recs _ | exact hI.drecs _ | exact hI.droot _ | omega)
      · skip
        refine OK.ilt (fun h8 => ?_) (fun h8 => ?_)
        · skip
          refine OK.ieq (fun h9 => ?_) (fun h9 => ?_)
          · skip
            refine OK.bndR (k_X5_fieldsOf_4 _ _ hI ) (fun v10 h11 => ?_)
            dsimp only
            exact OK.roret (by first | trivial | omega | exact hI.flds _ | exact hI.dflds _ | exact hI.recs _ | exact hI.drecs _ | exact hI.droot _ | omega)
          · skip
            refine OK.ieq (fun h12 => ?_) (fun h12 => ?_)
            · skip
              refine OK.bndR (k_X5_recordName_4 _ _ hI ) (fun v13 h14 => ?_)
              dsimp only
              refine OK.bndR (k_X10_lettersIn _ _ hI ) (fun v15 h16 => ?_)
              dsimp only
              exact OK.roret (by first | trivial | omega | exact hI.flds _ | exact hI.dflds _ | exact hI.recs _ | exact hI.drecs _ | exact hI.droot _ | omega)
            · skip
              exact OK.roret (by first | trivial | omega | exact hI.flds _ | exact hI.dflds _ | exact hI.recs _ | exact hI.drecs _ | exact hI.droot _ | omega)
        · skip
          exact OK.roret (by first | trivial | omega | exact hI.flds _ | exact hI.dflds _ | exact hI.recs _ | exact hI.drecs _ | exact hI.droot _ | omega)

theorem k_X1_change (p0 : Int32) (p1 : Int32) (p2 : Int32) (σ : ST) (hI : IA σ)  : OK (f_X1_change  p0 p1 p2 σ) (RW σ fun v => True) := by
  unfold f_X1_change
  have lt_0 := li_0
  have lt_1 := li_1
  have lt_400 := li_400
  have lFU : ((FU : Nat) : Int) = 100000 := rfl
  refine OK.bndR (k_X1_byteOf _ _ _ hI ) (fun v1 h2 => ?_)
  dsimp only
  refine OK.bndR (k_X1_hasByte _ _ _ hI ) (fun v3 h4 => ?_)
  dsimp only
  refine OK.ieq (fun h5 => ?_) (fun h5 => ?_)
  · skip
    exact OK.wret hI Fr.rf (by first | trivial | omega | exact hI.flds _ | exact hI.dflds _ | exact hI.recs _ | exact hI.drecs _ | exact hI.droot _ | omega)
  · skip
    obtain ⟨a6k, a6, a6l, a6r⟩ := i_mul p0 400
    rw [li_400] at a6
    try (refine k0el (k := a6k) ?_ (fun e0 => ?_); (focus omega); subst e0)
    obtain ⟨a7k, a7, a7l, a7r⟩ := i_add (p0 * 400) p1
    try (refine k0el (k := a7k) ?_ (fun e0 => ?_); (focus omega); subst e0)
    refine OK.grd ⟨by omega, by omega⟩ ?_
    refine OK.lt (fun z8 h9 => ?_)
    have iz8 : IA z8 := by rw [h9]; exact (ia_I_38 hI)
    have fz8 : Fr σ z8 := by rw [h9]; exact (fr_I_38 Fr.rf)
    exact OK.wret iz8 fz8 (by first | trivial | omega | exact hI.flds _ | exact hI.dflds _ | exact hI.recs _ | exact hI.drecs _ | exact hI.droot _ | omega)

theorem k_X10_spoil (p0 : Int32) (p1 : Int32) (p2 : Int32) (σ : ST) (hI : IA σ)  : OK (f_X10_spoil  p0 p1 p2 σ) (RW σ fun v => True) := by
  unfold f_X10_spoil
  have lt_m1 := li_m1
  have lt_0 := li_0
  have lt_1 := li_1
  have lFU : ((FU : Nat) : Int) = 100000 := rfl
  refine OK.bndR (k_X1_hasByte _ _ _ hI ) (fun v1 h2 => ?_)
  dsimp only
  refine OK.ieq (fun h3 => ?_) (fun h3 => ?_)
  · skip
    exact OK.wret hI Fr.rf (by first | trivial | omega | exact hI.flds _ | exact hI.dflds _ | exact hI.recs _ | exact hI.drecs _ | exact hI.droot _ | omega)
  · skip
    refine OK.bndW (k_X1_change _ _ _ _ hI ) Fr.rf (fun v4 s6 is6 fs6 h5 => ?_)
    dsimp only
    exact OK.wret is6 fs6 (by first | trivial | omega | exact hI.flds _ | exact hI.dflds _ | exact hI.recs _ | exact hI.drecs _ | exact hI.droot _ | omega)

theorem k_X8_fittingType_48 : ∀ (n : Nat) (x2 : Int32) (x3 : Int32) (σ : ST), IA σ → (0 ≤ x3.toInt ∧ x3.toInt ≤ 4 ∧ (4 : Int) - x3.toInt < n) → OK (f_X8_fittingType_48  n x2 x3 σ) (RO σ fun v => True) := by
  intro n
  induction n with
  | zero =>
    intro x2 x3 σ hI hv
    omega
  | succ n ih =>
    intro x2 x3 σ hI hv
    rw [f_X8_fittingType_48]
    have lt_m1 := li_m1
    have lt_0 := li_0
    have lt_1 := li_1
    have lt_4 := li_4
    have lFU : ((FU : Nat) : Int) = 100000 := rfl
    refine OK.ile (fun h1 => ?_) (fun h1 => ?_)
    · skip
      exact OK.roret (by first | trivial | omega | exact hI.flds _ | exact hI.dflds _ | exact hI.recs _ | exact hI.drecs _ | exact hI.droot _ | omega)
    · skip
      refine OK.ieq (fun h2 => ?_) (fun h2 => ?_)
      · skip
        exact OK.roret (by first | trivial | omega | exact hI.flds _ | exact hI.dflds _ | exact hI.recs _ | exact hI.drecs _ | exact hI.droot _ | omega)
      · skip
        refine OK.bndR (k_X5_sortOf_4 _ _ hI ) (fun v3 h4 => ?_)
        dsimp only
        refine OK.bndR (k_X6_fits _ _ hI ) (fun v5 h6 => ?_)
        dsimp only
        refine OK.ieq (fun h7 => ?_) (fun h7 => ?_)
        · skip
          refine OK.bndR (k_X5_branchAfter_4 _ _ hI ) (fun v8 h9 => ?_)
          dsimp only
          obtain ⟨a10k, a10, a10l, a10r⟩ := i_add x3 1
          try (refine k0el (k := a10k) ?_ (fun e0 => ?_); (focus omega); subst e0)
          exact OK.roq (ih _ _ _ hI (by omega)) (fun v hv => by first | trivial | omega | exact hI.flds _ | exact hI.dflds _ | exact hI.recs _ | exact hI.drecs _ | exact hI.droot _ | omega)
        · skip
          exact OK.roret (by first | trivial | omega | exact hI.flds _ | exact hI.dflds _ | exact hI.recs _ | exact hI.drecs _ | exact hI.droot _ | omega)

theorem k_X8_fittingType (p0 : Int32) (σ : ST) (hI : IA σ)  : OK (f_X8_fittingType  p0 σ) (RO σ fun v => True) := by
  unfold f_X8_fittingType
  have lt_m1 := li_m1
  have lt_0 := li_0
  have lt_1 := li_1
  have lt_8 := li_8
  have lFU : ((FU : Nat) : Int) = 100000 := rfl
  refine OK.bndR (k_X5_sortOf_4 _ _ hI ) (fun v1 h2 => ?_)
  dsimp only
  refine OK.ieq (fun h3 => ?_) (fun h3 => ?_)
  · skip
    refine OK.bndR (k_X5_innerOf_4 _ _ hI ) (fun v4 h5 => ?_)
    dsimp only
    exact OK.roq (k_X8_fittingType_48 FU _ _ _ hI (by omega)) (fun v hv => by first | trivial | omega | exact hI.flds _ | exact hI.dflds _ | exact hI.recs _ | exact hI.drecs _ | exact hI.droot _ | omega)
  · skip
    refine OK.bndR (k_X5_sortOf_4 _ _ hI ) (fun v6 h7 => ?_)
    dsimp only
    refine OK.bndR (k_X6_fits _ _ hI ) (fun v8 h9 => ?_)
    dsimp only
    refine OK.ieq (fun h10 => ?_) (fun h10 => ?_)
    · skip
      exact OK.roret (by first | trivial | omega | exact hI.flds _ | exact hI.dflds _ | exact hI.recs _ | exact hI.drecs _ | exact hI.droot _ | omega)
    · skip
      exact OK.roret (by first | trivial | omega | exact hI.flds _ | exact hI.dflds _ | exact hI.recs _ | exact hI.drecs _ | exact hI.droot _ | omega)

theorem k_X8_parse_41 (σ : ST) (hI : IA σ)  : OK (f_X8_parse_41  σ) (RO σ fun v => v.toInt = 0 ∨ v.toInt = 1) := by
  unfold f_X8_parse_41
  have lt_0 := li_0
  have lt_1 := li_1
  have lFU : ((FU : Nat) : Int) = 100000 := rfl
  exact OK.roret (by first | trivial | omega | exact hI.flds _ | exact hI.dflds _ | exact hI.recs _ | exact hI.drecs _ | exact hI.droot _ | omega)
