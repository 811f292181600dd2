theorem k_X6_signAt (p0 : Int32) (σ : ST) (hI : IA σ)  : OK (f_X6_signAt  p0 σ) (RO σ fun v => True) := by
  unfold f_X6_signAt
  have lt_0 := li_0
  have lt_1 := li_1
  have lt_255 := li_255
  have lt_1000 := li_1000
  have lFU : ((FU : Nat) : Int) = 100000 := rfl
  refine OK.ilt (fun h1 => ?_) (fun h1 => ?_)
  · skip
    exact OK.roret (by first | trivial | omega | exact hI.flds _ | exact hI.dflds _ | exact hI.recs _ | exact hI.drecs _ | exact hI.droot _ | omega)
  · skip
    have g2 : 0 ≤ (σ.1 2 2).toInt ∧ (σ.1 2 2).toInt ≤ 1000 := hI.tend
    refine OK.ile (fun h3 => ?_) (fun h3 => ?_)
    · skip
      exact OK.roret (by first | trivial | omega | exact hI.flds _ | exact hI.dflds _ | exact hI.recs _ | exact hI.drecs _ | exact hI.droot _ | omega)
    · skip
      refine OK.ile (fun h4 => ?_) (fun h4 => ?_)
      · skip
        exact OK.roret (by first | trivial | omega | exact hI.flds _ | exact hI.dflds _ | exact hI.recs _ | exact hI.drecs _ | exact hI.droot _ | omega)
      · skip
        refine OK.grd ⟨by omega, by omega⟩ ?_
        exact OK.roret (by first | trivial | omega | exact hI.flds _ | exact hI.dflds _ | exact hI.recs _ | exact hI.drecs _ | exact hI.droot _ | omega)

theorem k_X6_scanLettered_38 (σ : ST) (hI : IA σ)  : OK (f_X6_scanLettered_38  σ) (RS σ) := by
  unfold f_X6_scanLettered_38
  have lt_0 := li_0
  have lt_1 := li_1
  have lFU : ((FU : Nat) : Int) = 100000 := rfl
  exact OK.sret (ia_I_2_4 hI) (fr_I_2 Fr.rf)

theorem k_X6_scanNumber_189 (x1 : Int32) (σ : ST) (hI : IA σ) (hp0 : 0 ≤ x1.toInt ∧ x1.toInt ≤ 1030)  : OK (f_X6_scanNumber_189  x1 σ) (RS σ) := by
  unfold f_X6_scanNumber_189
  have lt_0 := li_0
  have lt_1 := li_1
  have lFU : ((FU : Nat) : Int) = 100000 := rfl
  exact OK.sret (ia_J_2_3 (ia_I_2_4 hI) (show bI x1 0 1030 from ⟨by omega, by omega⟩)) (fr_I_2 (fr_I_2 Fr.rf))

theorem k_X6_scanNumber_119 (x1 : Int32) (x2 : Int32) (σ : ST) (hI : IA σ) (hp0 : 0 ≤ x1.toInt ∧ x1.toInt ≤ 1025)  : OK (f_X6_scanNumber_119  x1 x2 σ) (RS σ) := by
  unfold f_X6_scanNumber_119
  have lt_0 := li_0
  have lt_1 := li_1
  have lt_2 := li_2
  have lt_18 := li_18
  have lt_46 := li_46
  have lFU : ((FU : Nat) : Int) = 100000 := rfl
  refine OK.ieq (fun h1 => ?_) (fun h1 => ?_)
  · skip
    exact OK.sret hI Fr.rf
  · skip
    refine OK.ile (fun h2 => ?_) (fun h2 => ?_)
    · skip
      refine OK.bndR (k_X6_signAt _ _ hI ) (fun v3 h4 => ?_)
      dsimp only
      refine OK.ieq (fun h5 => ?_) (fun h5 => ?_)
      · skip
        refine OK.bndR (k_X6_signAt _ _ hI ) (fun v6 h7 => ?_)
        dsimp only
        refine OK.bndR (k_X6_isDigit _ _ hI ) (fun v8 h9 => ?_)
        dsimp only
        refine OK.ieq (fun h10 => ?_) (fun h10 => ?_)
        · skip
          exact OK.sret hI Fr.rf
        · skip
          refine OK.bndR (k_X6_signAt _ _ hI ) (fun v11 h12 => ?_)
          dsimp only
          refine OK.bndR (k_X6_isDigit _ _ hI ) (fun v13 h14 => ?_)
          dsimp only
          refine OK.ieq (fun h15 => ?_) (fun h15 => ?_)
          · skip
            refine OK.bndR (k_X6_signAt _ _ (ia_I_2_10 hI) ) (fun v16 h17 => ?_)
            dsimp only
            obtain ⟨a18k, a18, a18l, a18r⟩ := i_add x1 2
            try (refine k0el (k := a18k) ?_ (fun e0 => ?_); (focus omega); subst e0)
            exact OK.trS (k_X6_scanNumber_189 _ _ (ia_I_2_11 (ia_I_2_10 hI)) (show 0 ≤ (x1 + 2).toInt ∧ (x1 + 2).toInt ≤ 1030 from by omega)) (fr_I_2 (fr_I_2 Fr.rf))
          · skip
            exact OK.sret hI Fr.rf
      · skip
        exact OK.trS (k_X6_scanNumber_189 _ _ hI (show 0 ≤ x1.toInt ∧ x1.toInt ≤ 1030 from by omega)) Fr.rf
    · skip
      exact OK.sret hI Fr.rf

theorem k_X6_scanNumber_65 : ∀ (n : Nat) (x1 : Int32) (x2 : Int32) (σ : ST), IA σ → (0 ≤ x2.toInt ∧ x2.toInt ≤ 19 ∧ (0 ≤ x1.toInt ∧ x1.toInt ≤ 1001 + x2.toInt) ∧ (19 : Int) - x2.toInt < n) → OK (f_X6_scanNumber_65  n x1 x2 σ) (RS σ) := by
  intro n
  induction n with
  | zero =>
    intro x1 x2 σ hI hv
    omega
  | succ n ih =>
    intro x1 x2 σ hI hv
    rw [f_X6_scanNumber_65]
    have lt_0 := li_0
    have lt_1 := li_1
    have lt_18 := li_18
    have lFU : ((FU : Nat) : Int) = 100000 := rfl
    refine OK.ilt (fun h1 => ?_) (fun h1 => ?_)
    · skip
      exact OK.trS (k_X6_scanNumber_119 _ _ _ hI (show 0 ≤ x1.toInt ∧ x1.toInt ≤ 1025 from by omega)) Fr.rf
    · skip
      refine OK.bndR (k_X6_signAt _ _ hI ) (fun v2 h3 => ?_)
      dsimp only
      refine OK.bndR (k_X6_isDigit _ _ hI ) (fun v4 h5 => ?_)
      dsimp only
      refine OK.ieq (fun h6 => ?_) (fun h6 => ?_)
      · skip
        exact OK.trS (k_X6_scanNumber_119 _ _ _ hI (show 0 ≤ x1.toInt ∧ x1.toInt ≤ 1025 from by omega)) Fr.rf
      · skip
        refine OK.ile (fun h7 => ?_) (fun h7 => ?_)
        · skip
          unfold f_X6_scanNumber_110
          try dsimp only
          obtain ⟨a8k, a8, a8l, a8r⟩ := i_add x1 1
          try (refine k0el (k := a8k) ?_ (fun e0 => ?_); (focus omega); subst e0)
          obtain ⟨a9k, a9, a9l, a9r⟩ := i_add x2 1
          try (refine k0el (k := a9k) ?_ (fun e0 => ?_); (focus omega); subst e0)
          exact OK.trS (ih _ _ _ hI (by omega)) Fr.rf
        · skip
          refine OK.bndR (k_X6_signAt _ _ hI ) (fun v10 h11 => ?_)
          dsimp only
          unfold f_X6_scanNumber_110
          try dsimp only
          obtain ⟨a12k, a12, a12l, a12r⟩ := i_add x1 1
          try (refine k0el (k := a12k) ?_ (fun e0 => ?_); (focus omega); subst e0)
          obtain ⟨a13k, a13, a13l, a13r⟩ := i_add x2 1
          try (refine k0el (k := a13k) ?_ (fun e0 => ?_); (focus omega); subst e0)
          exact OK.trS (ih _ _ _ (ia_L hI) (by omega)) (fr_L Fr.rf)

theorem k_X6_scanNumber_62 (y0 : Int32) (σ : ST) (hI : IA σ) (hp0 : 0 ≤ y0.toInt ∧ y0.toInt ≤ 1001)  : OK (f_X6_scanNumber_62  y0 σ) (RS σ) := by
  unfold f_X6_scanNumber_62
  have lt_0 := li_0
  have lt_1 := li_1
  have lFU : ((FU : Nat) : Int) = 100000 := rfl
  exact OK.trS (k_X6_scanNumber_65 FU _ _ _ hI (by omega)) Fr.rf

theorem k_X6_scanNumber_19 (y0 : Int32) (σ : ST) (hI : IA σ) (hp0 : (σ.1 2 5).toInt < 1000) (hp1 : y0.toInt = 0 ∨ y0.toInt = 1)  : OK (f_X6_scanNumber_19  y0 σ) (RS σ) := by
  unfold f_X6_scanNumber_19
  have lt_0 := li_0
  have lt_1 := li_1
  have lFU : ((FU : Nat) : Int) = 100000 := rfl
  refine OK.grd (b01 (by omega)) ?_
  refine OK.ieq (fun h1 => ?_) (fun h1 => ?_)
  · skip
    have g2 : 0 ≤ (σ.1 2 5).toInt ∧ (σ.1 2 5).toInt ≤ 1030 := hI.tstart
    exact OK.trS (k_X6_scanNumber_62 _ _ (ia_I_2_4 (ia_L (ia_I_2_11 (ia_I_2_10 (ia_I_2_9 hI))))) (show 0 ≤ (σ.1 2 5).toInt ∧ (σ.1 2 5).toInt ≤ 1001 from by omega)) (fr_I_2 (fr_L (fr_I_2 (fr_I_2 (fr_I_2 Fr.rf)))))
  · skip
    have g3 : 0 ≤ (σ.1 2 5).toInt ∧ (σ.1 2 5).toInt ≤ 1030 := hI.tstart
    obtain ⟨a4k, a4, a4l, a4r⟩ := i_add (σ.1 2 5) 1
    try (refine k0el (k := a4k) ?_ (fun e0 => ?_); (focus omega); subst e0)
    exact OK.trS (k_X6_scanNumber_62 _ _ (ia_I_2_4 (ia_L (ia_I_2_11 (ia_I_2_10 (ia_I_2_9 hI))))) (show 0 ≤ ((σ.1 2 5) + 1).toInt ∧ ((σ.1 2 5) + 1).toInt ≤ 1001 from by omega)) (fr_I_2 (fr_L (fr_I_2 (fr_I_2 (fr_I_2 Fr.rf)))))

theorem k_X6_scanNumber (σ : ST) (hI : IA σ) (hp0 : (σ.1 2 5).toInt < 1000)  : OK (f_X6_scanNumber  σ) (RS σ) := by
  unfold f_X6_scanNumber
  have lt_0 := li_0
  have lt_1 := li_1
  have lt_45 := li_45
  have lFU : ((FU : Nat) : Int) = 100000 := rfl
  refine OK.bndR (k_X6_signAt _ _ hI ) (fun v1 h2 => ?_)
  dsimp only
  refine OK.ieq (fun h3 => ?_) (fun h3 => ?_)
  · skip
    have g4 : 0 ≤ (σ.1 2 5).toInt ∧ (σ.1 2 5).toInt ≤ 1030 := hI.tstart
    exact OK.trS (k_X6_scanNumber_19 _ _ hI (show (σ.1 2 5).toInt < 1000 from by omega) (show (1 : Int32).toInt = 0 ∨ (1 : Int32).toInt = 1 from by omega)) Fr.rf
  · skip
    have g5 : 0 ≤ (σ.1 2 5).toInt ∧ (σ.1 2 5).toInt ≤ 1030 := hI.tstart
    exact OK.trS (k_X6_scanNumber_19 _ _ hI (show (σ.1 2 5).toInt < 1000 from by omega) (show (0 : Int32).toInt = 0 ∨ (0 : Int32).toInt = 1 from by omega)) Fr.rf

theorem k_X6_scanWord_45 : ∀ (n : Nat) (x2 : Int32) (σ : ST), IA σ → (0 ≤ x2.toInt ∧ x2.toInt ≤ 15 ∧ (15 : Int) - x2.toInt < n) → OK (f_X6_scanWord_45  n x2 σ) (RS σ) := by
  intro n
  induction n with
  | zero =>
    intro x2 σ hI hv
    omega
  | succ n ih =>
    intro x2 σ hI hv
    rw [f_X6_scanWord_45]
    have lt_0 := li_0
    have lt_1 := li_1
    have lt_15 := li_15
    have lFU : ((FU : Nat) : Int) = 100000 := rfl
    refine OK.ile (fun h1 => ?_) (fun h1 => ?_)
    · skip
      exact OK.sret hI Fr.rf
    · skip
      refine OK.grd ⟨by omega, by omega⟩ ?_
      refine OK.ieq (fun h2 => ?_) (fun h2 => ?_)
      · skip
        unfold f_X6_scanWord_75
        try dsimp only
        obtain ⟨a3k, a3, a3l, a3r⟩ := i_add x2 1
        try (refine k0el (k := a3k) ?_ (fun e0 => ?_); (focus omega); subst e0)
        exact OK.trS (ih _ _ (ia_I_2_6 (ia_I_2_4 hI)) (by omega)) (fr_I_2 (fr_I_2 Fr.rf))
      · skip
        unfold f_X6_scanWord_75
        try dsimp only
        obtain ⟨a4k, a4, a4l, a4r⟩ := i_add x2 1
        try (refine k0el (k := a4k) ?_ (fun e0 => ?_); (focus omega); subst e0)
        exact OK.trS (ih _ _ hI (by omega)) Fr.rf

theorem k_X6_advance_113 (σ : ST) (hI : IA σ) (hp0 : (σ.1 2 5).toInt < 1000)  : OK (f_X6_advance_113  σ) (RS σ) := by
  unfold f_X6_advance_113
  have lt_0 := li_0
  have lt_1 := li_1
  have lFU : ((FU : Nat) : Int) = 100000 := rfl
  have g1 : 0 ≤ (σ.1 2 5).toInt ∧ (σ.1 2 5).toInt ≤ 1030 := hI.tstart
  refine OK.bndS (k_X6_scanNumber _ hI (show (σ.1 2 5).toInt < 1000 from by omega)) Fr.rf (fun s2 is2 fs2 => ?_)
  try dsimp only
  exact OK.sret is2 fs2

theorem k_X6_advance_169 (x1 : Int32) (σ : ST) (hI : IA σ) (hp0 : (σ.1 2 5).toInt < 1000)  : OK (f_X6_advance_169  x1 σ) (RS σ) := by
  unfold f_X6_advance_169
  have lt_0 := li_0
  have lt_1 := li_1
  have lFU : ((FU : Nat) : Int) = 100000 := rfl
  have g1 : 0 ≤ (σ.1 2 5).toInt ∧ (σ.1 2 5).toInt ≤ 1030 := hI.tstart
  obtain ⟨a2k, a2, a2l, a2r⟩ := i_add (σ.1 2 5) 1
  try (refine k0el (k := a2k) ?_ (fun e0 => ?_); (focus omega); subst e0)
  exact OK.sret (ia_J_2_3 (ia_I_2_4 hI) (show bI ((σ.1 2 5) + 1) 0 1030 from ⟨by omega, by omega⟩)) (fr_I_2 (fr_I_2 Fr.rf))

theorem k_X6_refuseAt (p0 : Int32) (p1 : Int32) (σ : ST) (hI : IA σ)  : OK (f_X6_refuseAt  p0 p1 σ) (RW σ fun v => v.toInt = 0 ∨ v.toInt = 1) := by
  unfold f_X6_refuseAt
  have lt_0 := li_0
  have lt_1 := li_1
  have lFU : ((FU : Nat) : Int) = 100000 := rfl
  refine OK.ieq (fun h1 => ?_) (fun h1 => ?_)
  · skip
    exact OK.wret (ia_I_2_13 (ia_I_2_12 hI)) (fr_I_2 (fr_I_2 Fr.rf)) (by first | trivial | omega | exact hI.flds _ | exact hI.dflds _ | exact hI.recs _ | exact hI.drecs _ | exact hI.droot _ | omega)
  · skip
    exact OK.wret hI Fr.rf (by first | trivial | omega | exact hI.flds _ | exact hI.dflds _ | exact hI.recs _ | exact hI.drecs _ | exact hI.droot _ | omega)

theorem k_X6_refuse (p0 : Int32) (σ : ST) (hI : IA σ)  : OK (f_X6_refuse  p0 σ) (RW σ fun v => v.toInt = 0 ∨ v.toInt = 1) := by
  unfold f_X6_refuse
  have lt_0 := li_0
  have lt_1 := li_1
  have lFU : ((FU : Nat) : Int) = 100000 := rfl
  refine OK.bndW (k_X6_refuseAt _ _ _ hI ) Fr.rf (fun v1 s3 is3 fs3 h2 => ?_)
  dsimp only
  refine OK.grd (b01 (by omega)) ?_
  exact OK.wret is3 fs3 (by first | trivial | omega | exact hI.flds _ | exact hI.dflds _ | exact hI.recs _ | exact hI.drecs _ | exact hI.droot _ | omega)

theorem k_X5_setElse_20 (p0 : Int32) (p1 : Int32) (p2 : Int64) (σ : ST) (hI : IA σ)  : OK (f_X5_setElse 20 p0 p1 p2 σ) (RS σ) := by
  unfold f_X5_setElse
  have lt_0 := li_0
  have lt_1 := li_1
  have lt_8 := li_8
  have lFU : ((FU : Nat) : Int) = 100000 := rfl
  refine OK.bndR (k_X5_isFieldOf _ _ _ hI ) (fun v1 h2 => ?_)
  dsimp only
  refine OK.ieq (fun h3 => ?_) (fun h3 => ?_)
  · skip
    exact OK.sret hI Fr.rf
  · skip
    refine OK.grd ⟨by omega, by omega⟩ ?_
    refine OK.lt (fun z4 h5 => ?_)
    have iz4 : IA z4 := by rw [h5]; exact (ia_I_25 hI)
    have fz4 : Fr σ z4 := by rw [h5]; exact (fr_I_25 Fr.rf)
    obtain ⟨a6k, a6, a6l, a6r⟩ := i_mul p0 8
    rw [li_8] at a6
    try (refine k0el (k := a6k) ?_ (fun e0 => ?_); (focus omega); subst e0)
    obtain ⟨a7k, a7, a7l, a7r⟩ := i_add (p0 * 8) p1
    try (refine k0el (k := a7k) ?_ (fun e0 => ?_); (focus omega); subst e0)
    refine OK.grd ⟨by omega, by omega⟩ ?_
    exact OK.sret (ia_L iz4) (fr_L fz4)

theorem k_X6_isKeyword (p0 : Int32) (σ : ST) (hI : IA σ)  : OK (f_X6_isKeyword  p0 σ) (RO σ fun v => v.toInt = 0 ∨ v.toInt = 1) := by
  unfold f_X6_isKeyword
  have lt_0 := li_0
  have lt_1 := li_1
  have lt_2 := li_2
  have lFU : ((FU : Nat) : Int) = 100000 := rfl
  refine OK.ieq (fun h1 => ?_) (fun h1 => ?_)
  · skip
    refine OK.ieq (fun h2 => ?_) (fun h2 => ?_)
    · skip
      exact OK.roret (by first | trivial | omega | exact hI.flds _ | exact hI.dflds _ | exact hI.recs _ | exact hI.drecs _ | exact hI.droot _ | omega)
    · skip
      exact OK.roret (by first | trivial | omega | exact hI.flds _ | exact hI.dflds _ | exact hI.recs _ | exact hI.drecs _ | exact hI.droot _ | omega)
  · skip
    exact OK.roret (by first | trivial | omega | exact hI.flds _ | exact hI.dflds _ | exact hI.recs _ | exact hI.drecs _ | exact hI.droot _ | omega)

theorem k_X6_beginsLiteral_52 (σ : ST) (hI : IA σ)  : OK (f_X6_beginsLiteral_52  σ) (RO σ fun v => v.toInt = 0 ∨ v.toInt = 1) := by
  unfold f_X6_beginsLiteral_52
  have lt_0 := li_0
  have lt_1 := li_1
  have lFU : ((FU : Nat) : Int) = 100000 := rfl
  exact OK.roret (by first | trivial | omega | exact hI.flds _ | exact hI.dflds _ | exact hI.recs _ | exact hI.drecs _ | exact hI.droot _ | omega)

theorem k_X6_beginsLiteral (σ : ST) (hI : IA σ)  : OK (f_X6_beginsLiteral  σ) (RO σ fun v => v.toInt = 0 ∨ v.toInt = 1) := by
  unfold f_X6_beginsLiteral
  have lt_0 := li_0
  have lt_1 := li_1
  have lt_4 := li_4
  have lt_5 := li_5
  have lt_91 := li_91
  have lFU : ((FU : Nat) : Int) = 100000 := rfl
  refine OK.ieq (fun h1 => ?_) (fun h1 => ?_)
  · skip
    exact OK.roq (k_X6_beginsLiteral_52 _ hI ) (fun v hv => by first | trivial | omega | exact hI.flds _ | exact hI.dflds _ | exact hI.recs _ | exact hI.drecs _ | exact hI.droot _ | omega)
  · skip
    refine OK.ieq (fun h2 => ?_) (fun h2 => ?_)
    · skip
      exact OK.roq (k_X6_beginsLiteral_52 _ hI ) (fun v hv => by first | trivial | omega | exact hI.flds _ | exact hI.dflds _ | exact hI.recs _ | exact hI.drecs _ | exact hI.droot _ | omega)
    · skip
      refine OK.ieq (fun h3 => ?_) (fun h3 => ?_)
      · skip
        exact OK.roq (k_X6_beginsLiteral_52 _ hI ) (fun v hv => by first | trivial | omega | exact hI.flds _ | exact hI.dflds _ | exact hI.recs _ | exact hI.drecs _ | exact hI.droot _ | omega)
      · skip
        refine OK.bndR (k_X6_isKeyword _ _ hI ) (fun v4 h5 => ?_)
        dsimp only
        refine OK.ieq (fun h6 => ?_) (fun h6 => ?_)
        · skip
          refine OK.bndR (k_X6_isKeyword _ _ hI ) (fun v7 h8 => ?_)
          dsimp only
          refine OK.ieq (fun h9 => ?_) (fun h9 => ?_)
          · skip
            refine OK.bndR (k_X6_isKeyword _ _ hI ) (fun v10 h11 => ?_)
            dsimp only
            refine OK.ieq (fun h12 => ?_) (fun h12 => ?_)
            · skip
              exact OK.roret (by first | trivial | omega | exact hI.flds _ | exact hI.dflds _ | exact hI.recs _ | exact hI.drecs _ | exact hI.droot _ | omega)
            · skip
              exact OK.roq (k_X6_beginsLiteral_52 _ hI ) (fun v hv => by first | trivial | omega | exact hI.flds _ | exact hI.dflds _ | exact hI.recs _ | exact hI.drecs _ | exact hI.droot _ | omega)
          · skip
            exact OK.roq (k_X6_beginsLiteral_52 _ hI ) (fun v hv => by first | trivial | omega | exact hI.flds _ | exact hI.dflds _ | exact hI.recs _ | exact hI.drecs _ | exact hI.droot _ | omega)
        · skip
          exact OK.roq (k_X6_beginsLiteral_52 _ hI ) (fun v hv => by first | trivial | omega | exact hI.flds _ | exact hI.dflds _ | exact hI.recs _ | exact hI.drecs _ | exact hI.droot _ | omega)

theorem k_X6_whole (σ : ST) (hI : IA σ)  : OK (f_X6_whole  σ) (RO σ fun v => True) := by
  unfold f_X6_whole
  have lt_0 := li_0
  have lt_1 := li_1
  have lFU : ((FU : Nat) : Int) = 100000 := rfl
  refine OK.ieq (fun h1 => ?_) (fun h1 => ?_)
  · skip
    exact OK.roret (by first | trivial | omega | exact hI.flds _ | exact hI.dflds _ | exact hI.recs _ | exact hI.drecs _ | exact hI.droot _ | omega)
  · skip
    exact OK.roret (by first | trivial | omega | exact hI.flds _ | exact hI.dflds _ | exact hI.recs _ | exact hI.drecs _ | exact hI.droot _ | omega)

theorem k_X6_fits_73 (σ : ST) (hI : IA σ)  : OK (f_X6_fits_73  σ) (RO σ fun v => v.toInt = 0 ∨ v.toInt = 1) := by
  unfold f_X6_fits_73
  have lt_0 := li_0
  have lt_1 := li_1
  have lFU : ((FU : Nat) : Int) = 100000 := rfl
  exact OK.roret (by first | trivial | omega | exact hI.flds _ | exact hI.dflds _ | exact hI.recs _ | exact hI.drecs _ | exact hI.droot _ | omega)

theorem k_X6_fits (p0 : Int32) (σ : ST) (hI : IA σ)  : OK (f_X6_fits  p0 σ) (RO σ fun v => v.toInt = 0 ∨ v.toInt = 1) := by
  unfold f_X6_fits
  have lt_0 := li_0
  have lt_1 := li_1
  have lt_2 := li_2
  have lt_3 := li_3
  have lt_4 := li_4
  have lt_5 := li_5
  have lt_6 := li_6
  have lt_7 := li_7
  have lt_91 := li_91
  have lt_123 := li_123
  have lFU : ((FU : Nat) : Int) = 100000 := rfl
  refine OK.ieq (fun h1 => ?_) (fun h1 => ?_)
  · skip
    refine OK.bndR (k_X6_isKeyword _ _ hI ) (fun v2 h3 => ?_)
    dsimp only
    refine OK.grd (b01 (by omega)) ?_
    exact OK.roret (by first | trivial | omega | exact hI.flds _ | exact hI.dflds _ | exact hI.recs _ | exact hI.drecs _ | exact hI.droot _ | omega)
  · skip
    refine OK.ieq (fun h4 => ?_) (fun h4 => ?_)
    · skip
      refine OK.bndR (k_X6_isKeyword _ _ hI ) (fun v5 h6 => ?_)
      dsimp only
      refine OK.ieq (fun h7 => ?_) (fun h7 => ?_)
      · skip
        refine OK.bndR (k_X6_isKeyword _ _ hI ) (fun v8 h9 => ?_)
        dsimp only
        refine OK.ieq (fun h10 => ?_) (fun h10 => ?_)
        · skip
          exact OK.roret (by first | trivial | omega | exact hI.flds _ | exact hI.dflds _ | exact hI.recs _ | exact hI.drecs _ | exact hI.droot _ | omega)
        · skip
          exact OK.roq (k_X6_fits_73 _ hI ) (fun v hv => by first | trivial | omega | exact hI.flds _ | exact hI.dflds _ | exact hI.recs _ | exact hI.drecs _ | exact hI.droot _ | omega)
      · skip
        exact OK.roq (k_X6_fits_73 _ hI ) (fun v hv => by first | trivial | omega | exact hI.flds _ | exact hI.dflds _ | exact hI.recs _ | exact hI.drecs _ | exact hI.droot _ | omega)
    · skip
      refine OK.ieq (fun h11 => ?_) (fun h11 => ?_)
      · skip
        refine OK.ieq (fun h12 => ?_) (fun h12 => ?_)
        · skip
          refine OK.ieq (fun h13 => ?_) (fun h13 => ?_)
          · skip
            refine OK.bndR (k_X6_whole _ hI ) (fun v14 h15 => ?_)
            dsimp only
            refine OK.bndR (k_X10_isInt _ _ hI ) (fun v16 h17 => ?_)
            dsimp only
            refine OK.ieq (fun h18 => ?_) (fun h18 => ?_)
            · skip
              exact OK.roret (by first | trivial | omega | exact hI.flds _ | exact hI.dflds _ | exact hI.recs _ | exact hI.drecs _ | exact hI.droot _ | omega)
            · skip
              exact OK.roret (by first | trivial | omega | exact hI.flds _ | exact hI.dflds _ | exact hI.recs _ | exact hI.drecs _ | exact hI.droot _ | omega)
          · skip
            exact OK.roret (by first | trivial | omega | exact hI.flds _ | exact hI.dflds _ | exact hI.recs _ | exact hI.drecs _ | exact hI.droot _ | omega)
        · skip
          exact OK.roret (by first | trivial | omega | exact hI.flds _ | exact hI.dflds _ | exact hI.recs _ | exact hI.drecs _ | exact hI.droot _ | omega)
      · skip
        refine OK.ieq (fun h19 => ?_) (fun h19 => ?_)
        · skip
          refine OK.ieq (fun h20 => ?_) (fun h20 => ?_)
          · skip
            refine OK.ieq (fun h21 => ?_) (fun h21 => ?_)
            · skip
              exact OK.roret (by first | trivial | omega | exact hI.flds _ | exact hI.dflds _ | exact hI.recs _ | exact hI.drecs _ | exact hI.droot _ | omega)
            · skip
              exact OK.roret (by first | trivial | omega | exact hI.flds _ | exact hI.dflds _ | exact hI.recs _ | exact hI.drecs _ | exact hI.droot _ | omega)
          · skip
            exact OK.roret (by first | trivial | omega | exact hI.flds _ | exact hI.dflds _ | exact hI.recs _ | exact hI.drecs _ | exact hI.droot _ | omega)
        · skip
          refine OK.ieq (fun h22 => ?_) (fun h22 => ?_)
          · skip
            refine OK.ieq (fun h23 => ?_) (fun h23 => ?_)
            · skip
              exact OK.roret (by first | trivial | omega | exact hI.flds _ | exact hI.dflds _ | exact hI.recs _ | exact hI.drecs _ | exact hI.droot _ | omega)
            · skip
              exact OK.roret (by first | trivial | omega | exact hI.flds _ | exact hI.dflds _ | exact hI.recs _ | exact hI.drecs _ | exact hI.droot _ | omega)
          · skip
            refine OK.ieq (fun h24 => ?_) (fun h24 => ?_)
            · skip
              refine OK.ieq (fun h25 => ?_) (fun h25 => ?_)
              · skip
                exact OK.roret (by first | trivial | omega | exact hI.flds _ | exact hI.dflds _ | exact hI.recs _ | exact hI.drecs _ | exact hI.droot _ | omega)
              · skip
                exact OK.roret (by first | trivial | omega | exact hI.flds _ | exact hI.dflds _ | exact hI.recs _ | exact hI.drecs _ | exact hI.droot _ | omega)
            · skip
              refine OK.ieq (fun h26 => ?_) (fun h26 => ?_)
              · skip
                refine OK.ieq (fun h27 => ?_) (fun h27 => ?_)
                · skip
                  exact OK.roret (by first | trivial | omega | exact hI.flds _ | exact hI.dflds _ | exact hI.recs _ | exact hI.drecs _ | exact hI.droot _ | omega)
                · skip
                  exact OK.roret (by first | trivial | omega | exact hI.flds _ | exact hI.dflds _ | exact hI.recs _ | exact hI.drecs _ | exact hI.droot _ | omega)
              · skip
                refine OK.ieq (fun h28 => ?_) (fun h28 => ?_)
                · skip
                  refine OK.ieq (fun h29 => ?_) (fun h29 => ?_)
                  · skip
                    exact OK.roret (by first | trivial | omega | exact hI.flds _ | exact hI.dflds _ | exact hI.recs _ | exact hI.drecs _ | exact hI.droot _ | omega)
                  · skip
                    exact OK.roret (by first | trivial | omega | exact hI.flds _ | exact hI.dflds _ | exact hI.recs _ | exact hI.drecs _ | exact hI.droot _ | omega)
                · skip
                  exact OK.roret (by first | trivial | omega | exact hI.flds _ | exact hI.dflds _ | exact hI.recs _ | exact hI.drecs _ | exact hI.droot _ | omega)

theorem k_X6_realBits_42 (x1 : Int64) (σ : ST) (hI : IA σ)  : OK (f_X6_realBits_42  x1 σ) (RO σ fun v => True) := by
  unfold f_X6_realBits_42
  have lt_0 := li_0
  have lt_1 := li_1
  have lFU : ((FU : Nat) : Int) = 100000 := rfl
  exact OK.roret (by first | trivial | omega | exact hI.flds _ | exact hI.dflds _ | exact hI.recs _ | exact hI.drecs _ | exact hI.droot _ | omega)

theorem k_X6_realBits (σ : ST) (hI : IA σ) : OK (f_X6_realBits σ) (RO σ fun _ => True) := by
  unfold f_X6_realBits
  have h1 := FP.Core.ddiv_out (FP.Core.i2d_fin (σ.1 2 11)).notNaN fp10_fin fp10_nz
  have h2 := FP.Core.dadd_out' (FP.Core.l2d_fin (σ.2.1 2 8)) h1
  refine OK.grd (fl_num h1) ?_
  refine OK.grd (fl_num h2) ?_
  refine OK.bndR (k_X10_bitsOfPositive _ _ h2) (fun v h3 => ?_)
  dsimp only
  refine OK.ieq (fun h => OK.roret trivial) (fun h => ?_)
  refine OK.ieq (fun h => ?_) (fun h => ?_)
  · exact OK.ieq (fun h => OK.roret trivial) (fun h => OK.roret trivial)
  · exact OK.roret trivial


theorem k_X6_worth (p0 : Int32) (σ : ST) (hI : IA σ)  : OK (f_X6_worth  p0 σ) (RO σ fun v => True) := by
  unfold f_X6_worth
  have lt_0 := li_0
  have lt_1 := li_1
  have lt_2 := li_2
  have lt_3 := li_3
  have lt_4 := li_4
  have lt_5 := li_5
  have lFU : ((FU : Nat) : Int) = 100000 := rfl
  refine OK.ieq (fun h1 => ?_) (fun h1 => ?_)
  · skip
    refine OK.bndR (k_X6_isKeyword _ _ hI ) (fun v2 h3 => ?_)
    dsimp only
    refine OK.ieq (fun h4 => ?_) (fun h4 => ?_)
    · skip
      exact OK.roret (by first | trivial | omega | exact hI.flds _ | exact hI.dflds _ | exact hI.recs _ | exact hI.drecs _ | exact hI.droot _ | omega)
    · skip
      exact OK.roret (by first | trivial | omega | exact hI.flds _ | exact hI.dflds _ | exact hI.recs _ | exact hI.drecs _ | exact hI.droot _ | omega)
  · skip
    refine OK.ieq (fun h5 => ?_) (fun h5 => ?_)
    · skip
      refine OK.bndR (k_X6_whole _ hI ) (fun v6 h7 => ?_)
      dsimp only
      exact OK.roret (by first | trivial | omega | exact hI.flds _ | exact hI.dflds _ | exact hI.recs _ | exact hI.drecs _ | exact hI.droot _ | omega)
    · skip
      refine OK.ieq (fun h8 => ?_) (fun h8 => ?_)
      · skip
        refine OK.bndR (k_X6_whole _ hI ) (fun v9 h10 => ?_)
        dsimp only
        exact OK.roret (by first | trivial | omega | exact hI.flds _ | exact hI.dflds _ | exact hI.recs _ | exact hI.drecs _ | exact hI.droot _ | omega)
      · skip
        refine OK.ieq (fun h11 => ?_) (fun h11 => ?_)
        · skip
          refine OK.bndR (k_X6_realBits _ hI ) (fun v12 h13 => ?_)
          dsimp only
          exact OK.roret (by first | trivial | omega | exact hI.flds _ | exact hI.dflds _ | exact hI.recs _ | exact hI.drecs _ | exact hI.droot _ | omega)
        · skip
          refine OK.ieq (fun h14 => ?_) (fun h14 => ?_)
          · skip
            exact OK.roret (by first | trivial | omega | exact hI.flds _ | exact hI.dflds _ | exact hI.recs _ | exact hI.drecs _ | exact hI.droot _ | omega)
          · skip
            exact OK.roret (by first | trivial | omega | exact hI.flds _ | exact hI.dflds _ | exact hI.recs _ | exact hI.drecs _ | exact hI.droot _ | omega)

theorem k_X5_setFormerName_20 (p0 : Int32) (p1 : Int32) (p2 : Int64) (σ : ST) (hI : IA σ)  : OK (f_X5_setFormerName 20 p0 p1 p2 σ) (RS σ) := by
  unfold f_X5_setFormerName
  have lt_0 := li_0
  have lt_1 := li_1
  have lt_8 := li_8
  have lFU : ((FU : Nat) : Int) = 100000 := rfl
  refine OK.bndR (k_X5_isFieldOf _ _ _ hI ) (fun v1 h2 => ?_)
  dsimp only
  refine OK.ieq (fun h3 => ?_) (fun h3 => ?_)
  · skip
    exact OK.sret hI Fr.rf
  · skip
    obtain ⟨a4k, a4, a4l, a4r⟩ := i_mul p0 8
    rw [li_8] at a4
    try (refine k0el (k := a4k) ?_ (fun e0 => ?_); (focus omega); subst e0)
    obtain ⟨a5k, a5, a5l, a5r⟩ := i_add (p0 * 8) p1
    try (refine k0el (k := a5k) ?_ (fun e0 => ?_); (focus omega); subst e0)
    refine OK.grd ⟨by omega, by omega⟩ ?_
    exact OK.sret (ia_L hI) (fr_L Fr.rf)

theorem k_X5_setBranchAfter_20 (p0 : Int32) (p1 : Int32) (σ : ST) (hI : IA σ)  : OK (f_X5_setBranchAfter 20 p0 p1 σ) (RS σ) := by
  unfold f_X5_setBranchAfter
  have lt_0 := li_0
  have lt_1 := li_1
  have lFU : ((FU : Nat) : Int) = 100000 := rfl
  refine OK.bndR (k_X5_isType_20 _ _ hI ) (fun v1 h2 => ?_)
  dsimp only
  refine OK.ieq (fun h3 => ?_) (fun h3 => ?_)
  · skip
    exact OK.sret hI Fr.rf
  · skip
    refine OK.grd ⟨by omega, by omega⟩ ?_
    exact OK.sret (ia_I_33 hI) (fr_I_33 Fr.rf)

theorem k_X5_setAsked_20 (p0 : Int32) (p1 : Int64) (p2 : Int32) (σ : ST) (hI : IA σ)  : OK (f_X5_setAsked 20 p0 p1 p2 σ) (RS σ) := by
  unfold f_X5_setAsked
  have lt_0 := li_0
  have lt_1 := li_1
  have lFU : ((FU : Nat) : Int) = 100000 := rfl
  refine OK.bndR (k_X5_isType_20 _ _ hI ) (fun v1 h2 => ?_)
  dsimp only
  refine OK.ieq (fun h3 => ?_) (fun h3 => ?_)
  · skip
    exact OK.sret hI Fr.rf
  · skip
    refine OK.grd ⟨by omega, by omega⟩ ?_
    exact OK.sret (ia_I_35 (ia_L hI)) (fr_I_35 (fr_L Fr.rf))

theorem k_X6_sortBegun (σ : ST) (hI : IA σ)  : OK (f_X6_sortBegun  σ) (RO σ fun v => True) := by
  unfold f_X6_sortBegun
  have lt_m1 := li_m1
  have lt_0 := li_0
  have lt_1 := li_1
  have lt_2 := li_2
  have lt_3 := li_3
  have lt_4 := li_4
  have lt_5 := li_5
  have lt_6 := li_6
  have lt_7 := li_7
  have lt_8 := li_8
  have lt_12 := li_12
  have lFU : ((FU : Nat) : Int) = 100000 := rfl
  refine OK.ieq (fun h1 => ?_) (fun h1 => ?_)
  · skip
    exact OK.roret (by first | trivial | omega | exact hI.flds _ | exact hI.dflds _ | exact hI.recs _ | exact hI.drecs _ | exact hI.droot _ | omega)
  · skip
    refine OK.ieq (fun h2 => ?_) (fun h2 => ?_)
    · skip
      refine OK.ieq (fun h3 => ?_) (fun h3 => ?_)
      · skip
        exact OK.roret (by first | trivial | omega | exact hI.flds _ | exact hI.dflds _ | exact hI.recs _ | exact hI.drecs _ | exact hI.droot _ | omega)
      · skip
        refine OK.ieq (fun h4 => ?_) (fun h4 => ?_)
        · skip
          exact OK.roret (by first | trivial | omega | exact hI.flds _ | exact hI.dflds _ | exact hI.recs _ | exact hI.drecs _ | exact hI.droot _ | omega)
        · skip
          refine OK.ilt (fun h5 => ?_) (fun h5 => ?_)
          · skip
            exact OK.roret (by first | trivial | omega | exact hI.flds _ | exact hI.dflds _ | exact hI.recs _ | exact hI.drecs _ | exact hI.droot _ | omega)
          · skip
            refine OK.ilt (fun h6 => ?_) (fun h6 => ?_)
            · skip
              exact OK.roret (by first | trivial | omega | exact hI.flds _ | exact hI.dflds _ | exact hI.recs _ | exact hI.drecs _ | exact hI.droot _ | omega)
            · skip
              exact OK.roret (by first | trivial | omega | exact hI.flds _ | exact hI.dflds _ | exact hI.recs _ | exact hI.drecs _ | exact hI.droot _ | omega)
    · skip
      exact OK.roret (by first | trivial | omega | exact hI.flds _ | exact hI.dflds _ | exact hI.recs _ | exact hI.drecs _ | exact hI.droot _ | omega)

theorem k_X5_addField_20 (p0 : Int32) (p1 : Int64) (σ : ST) (hI : IA σ)  : OK (f_X5_addField 20 p0 p1 σ) (RS σ) := by
  unfold f_X5_addField
  have lt_0 := li_0
  have lt_1 := li_1
  have lt_8 := li_8
  have lFU : ((FU : Nat) : Int) = 100000 := rfl
  refine OK.bndR (k_X5_fieldsOf_20 _ _ hI ) (fun v1 h2 => ?_)
  dsimp only
  refine OK.bndR (k_X5_isFieldOf _ _ _ hI ) (fun v3 h4 => ?_)
  dsimp only
  refine OK.ieq (fun h5 => ?_) (fun h5 => ?_)
  · skip
    exact OK.sret hI Fr.rf
  · skip
    obtain ⟨a6k, a6, a6l, a6r⟩ := i_mul p0 8
    rw [li_8] at a6
    try (refine k0el (k := a6k) ?_ (fun e0 => ?_); (focus omega); subst e0)
    obtain ⟨a7k, a7, a7l, a7r⟩ := i_add (p0 * 8) v1
    try (refine k0el (k := a7k) ?_ (fun e0 => ?_); (focus omega); subst e0)
    refine OK.grd ⟨by omega, by omega⟩ ?_
    refine OK.lt (fun z8 h9 => ?_)
    have iz8 : IA z8 := by rw [h9]; exact (ia_L (ia_L hI))
    have fz8 : Fr σ z8 := by rw [h9]; exact (fr_L (fr_L Fr.rf))
    refine OK.lt (fun z10 h11 => ?_)
    have iz10 : IA z10 := by rw [h11]; exact (ia_L (ia_I_29 iz8))
    have fz10 : Fr σ z10 := by rw [h11]; exact (fr_L (fr_I_29 fz8))
    refine OK.grd ⟨by omega, by omega⟩ ?_
    obtain ⟨a12k, a12, a12l, a12r⟩ := i_add (z10.1 (20 + 3) p0.toNatClampNeg) 1
    try (refine k0el (k := a12k) ?_ (fun e0 => ?_); (focus omega); subst e0)
    exact OK.sret (ia_J_23 iz10 (show bI ((z10.1 (20 + 3) p0.toNatClampNeg) + 1) 0 8 from ⟨by omega, by omega⟩)) (fr_I_23 fz10)

theorem k_X5_setType_20 (p0 : Int32) (p1 : Int32) (p2 : Int32) (σ : ST) (hI : IA σ)  : OK (f_X5_setType 20 p0 p1 p2 σ) (RS σ) := by
  unfold f_X5_setType
  have lt_0 := li_0
  have lt_1 := li_1
  have lt_8 := li_8
  have lFU : ((FU : Nat) : Int) = 100000 := rfl
  refine OK.bndR (k_X5_isFieldOf _ _ _ hI ) (fun v1 h2 => ?_)
  dsimp only
  refine OK.ieq (fun h3 => ?_) (fun h3 => ?_)
  · skip
    exact OK.sret hI Fr.rf
  · skip
    obtain ⟨a4k, a4, a4l, a4r⟩ := i_mul p0 8
    rw [li_8] at a4
    try (refine k0el (k := a4k) ?_ (fun e0 => ?_); (focus omega); subst e0)
    obtain ⟨a5k, a5, a5l, a5r⟩ := i_add (p0 * 8) p1
    try (refine k0el (k := a5k) ?_ (fun e0 => ?_); (focus omega); subst e0)
    refine OK.grd ⟨by omega, by omega⟩ ?_
    exact OK.sret (ia_I_29 hI) (fr_I_29 Fr.rf)

theorem k_X5_addRecord_20 (p0 : Int32) (p1 : Int64) (σ : ST) (hI : IA σ)  : OK (f_X5_addRecord 20 p0 p1 σ) (RS σ) := by
  unfold f_X5_addRecord
  have lt_0 := li_0
  have lt_1 := li_1
  have lt_6 := li_6
  have lFU : ((FU : Nat) : Int) = 100000 := rfl
  refine OK.bndR (k_X5_recordsOf_20 _ _ hI ) (fun v1 h2 => ?_)
  dsimp only
  refine OK.ilt (fun h3 => ?_) (fun h3 => ?_)
  · skip
    exact OK.sret hI Fr.rf
  · skip
    refine OK.ile (fun h4 => ?_) (fun h4 => ?_)
    · skip
      exact OK.sret hI Fr.rf
    · skip
      refine OK.bndR (k_X5_isRecord _ _ hI ) (fun v5 h6 => ?_)
      dsimp only
      refine OK.ieq (fun h7 => ?_) (fun h7 => ?_)
      · skip
        exact OK.sret hI Fr.rf
      · skip
        obtain ⟨a8k, a8, a8l, a8r⟩ := i_mul p0 6
        rw [li_6] at a8
        try (refine k0el (k := a8k) ?_ (fun e0 => ?_); (focus omega); subst e0)
        obtain ⟨a9k, a9, a9l, a9r⟩ := i_add (p0 * 6) v1
        try (refine k0el (k := a9k) ?_ (fun e0 => ?_); (focus omega); subst e0)
        refine OK.grd ⟨by omega, by omega⟩ ?_
        refine OK.lt (fun z10 h11 => ?_)
        have iz10 : IA z10 := by rw [h11]; exact (ia_J_23 (ia_L hI) (show bI 0 0 8 from ⟨by omega, by omega⟩))
        have fz10 : Fr σ z10 := by rw [h11]; exact (fr_I_23 (fr_L Fr.rf))
        refine OK.grd ⟨by omega, by omega⟩ ?_
        obtain ⟨a12k, a12, a12l, a12r⟩ := i_add (z10.1 (20 + 1) p0.toNatClampNeg) 1
        try (refine k0el (k := a12k) ?_ (fun e0 => ?_); (focus omega); subst e0)
        refine OK.lt (fun z13 h14 => ?_)
        have iz13 : IA z13 := by rw [h14]; exact (ia_J_21 (ia_I_25 iz10) (show bI ((z10.1 (20 + 1) p0.toNatClampNeg) + 1) 0 36 from ⟨by omega, by omega⟩))
        have fz13 : Fr σ z13 := by rw [h14]; exact (fr_I_21 (fr_I_25 fz10))
        exact OK.sret iz13 fz13

theorem k_X5_recordNamed_3_20 : ∀ (n : Nat) (x1 : Int32) (x2 : Int64) (x4 : Int32) (σ : ST), IA σ → (0 ≤ x4.toInt ∧ x4.toInt ≤ 36 ∧ (36 : Int) - x4.toInt < n) → OK (f_X5_recordNamed_3 20 n x1 x2 x4 σ) (RO σ fun v => True) := by
  intro n
  induction n with
  | zero =>
    intro x1 x2 x4 σ hI hv
    omega
  | succ n ih =>
    intro x1 x2 x4 σ hI hv
    rw [f_X5_recordNamed_3]
    have lt_m1 := li_m1
    have lt_0 := li_0
    have lt_1 := li_1
    have lt_6 := li_6
    have lFU : ((FU : Nat) : Int) = 100000 := rfl
    refine OK.bndR (k_X5_recordsOf_20 _ _ hI ) (fun v1 h2 => ?_)
    dsimp only
    refine OK.ile (fun h3 => ?_) (fun h3 => ?_)
    · skip
      exact OK.roret (by first | trivial | omega | exact hI.flds _ | exact hI.dflds _ | exact hI.recs _ | exact hI.drecs _ | exact hI.droot _ | omega)
    · skip
      refine OK.bndR (k_X5_recordName_20 _ _ hI ) (fun v4 h5 => ?_)
      dsimp only
      refine OK.ieq (fun h6 => ?_) (fun h6 => ?_)
      · skip
        exact OK.roret (by first | trivial | omega | exact hI.flds _ | exact hI.dflds _ | exact hI.recs _ | exact hI.drecs _ | exact hI.droot _ | omega)
      · skip
        obtain ⟨a7k, a7, a7l, a7r⟩ := i_add x4 1
        try (refine k0el (k := a7k) ?_ (fun e0 => ?_); (focus omega); subst e0)
        exact OK.roq (ih _ _ _ _ hI (by omega)) (fun v hv => by first | trivial | omega | exact hI.flds _ | exact hI.dflds _ | exact hI.recs _ | exact hI.drecs _ | exact hI.droot _ | omega)

theorem k_X5_recordNamed_20 (p0 : Int32) (p1 : Int64) (σ : ST) (hI : IA σ)  : OK (f_X5_recordNamed 20 p0 p1 σ) (RO σ fun v => True) := by
  unfold f_X5_recordNamed
  have lt_0 := li_0
  have lt_1 := li_1
  have lFU : ((FU : Nat) : Int) = 100000 := rfl
  exact OK.roq (k_X5_recordNamed_3_20 FU _ _ _ _ hI (by omega)) (fun v hv => by first | trivial | omega | exact hI.flds _ | exact hI.dflds _ | exact hI.recs _ | exact hI.drecs _ | exact hI.droot _ | omega)

theorem k_X5_askedPlace_20 (p0 : Int32) (σ : ST) (hI : IA σ)  : OK (f_X5_askedPlace 20 p0 σ) (RO σ fun v => True) := by
  unfold f_X5_askedPlace
  have lt_0 := li_0
  have lt_1 := li_1
  have lFU : ((FU : Nat) : Int) = 100000 := rfl
  refine OK.bndR (k_X5_isType_20 _ _ hI ) (fun v1 h2 => ?_)
  dsimp only
  refine OK.ieq (fun h3 => ?_) (fun h3 => ?_)
  · skip
    exact OK.roret (by first | trivial | omega | exact hI.flds _ | exact hI.dflds _ | exact hI.recs _ | exact hI.drecs _ | exact hI.droot _ | omega)
  · skip
    refine OK.grd ⟨by omega, by omega⟩ ?_
    exact OK.roret (by first | trivial | omega | exact hI.flds _ | exact hI.dflds _ | exact hI.recs _ | exact hI.drecs _ | exact hI.droot _ | omega)

theorem k_X5_resolve_6_20 : ∀ (n : Nat) (x1 : Int32) (x2 : Int32) (σ : ST), IA σ → (-1 ≤ x2.toInt ∧ x2.toInt ≤ 262 ∧ (262 : Int) - x2.toInt < n) → OK (f_X5_resolve_6 20 n x1 x2 σ) (RW σ fun v => True) := by
  intro n
  induction n with
  | zero =>
    intro x1 x2 σ hI hv
    omega
  | succ n ih =>
    intro x1 x2 σ hI hv
    rw [f_X5_resolve_6]
    have lt_m1 := li_m1
    have lt_0 := li_0
    have lt_1 := li_1
    have lFU : ((FU : Nat) : Int) = 100000 := rfl
    have g0 : 0 ≤ (σ.1 20 1).toInt ∧ (σ.1 20 1).toInt ≤ 262 := hI.dtypes
    have g1 : 0 ≤ (σ.1 20 1).toInt ∧ (σ.1 20 1).toInt ≤ 262 := hI.dtypes
    refine OK.ile (fun h2 => ?_) (fun h2 => ?_)
    · skip
      exact OK.wret hI Fr.rf (by first | trivial | omega | exact hI.flds _ | exact hI.dflds _ | exact hI.recs _ | exact hI.drecs _ | exact hI.droot _ | omega)
    · skip
      refine OK.bndR (k_X5_isType_20 _ _ hI ) (fun v3 h4 => ?_)
      dsimp only
      refine OK.ieq (fun h5 => ?_) (fun h5 => ?_)
      · skip
        unfold f_X5_resolve_62
        try dsimp only
        obtain ⟨a6k, a6, a6l, a6r⟩ := i_add x2 1
        try (refine k0el (k := a6k) ?_ (fun e0 => ?_); (focus omega); subst e0)
        exact OK.trW (ih _ _ _ hI (by omega)) Fr.rf (fun v hv => by first | trivial | omega | exact hI.flds _ | exact hI.dflds _ | exact hI.recs _ | exact hI.drecs _ | exact hI.droot _ | omega)
      · skip
        refine OK.grd ⟨by omega, by omega⟩ ?_
        refine OK.ieq (fun h7 => ?_) (fun h7 => ?_)
        · skip
          unfold f_X5_resolve_62
          try dsimp only
          obtain ⟨a8k, a8, a8l, a8r⟩ := i_add x2 1
          try (refine k0el (k := a8k) ?_ (fun e0 => ?_); (focus omega); subst e0)
          exact OK.trW (ih _ _ _ hI (by omega)) Fr.rf (fun v hv => by first | trivial | omega | exact hI.flds _ | exact hI.dflds _ | exact hI.recs _ | exact hI.drecs _ | exact hI.droot _ | omega)
        · skip
          refine OK.bndR (k_X5_recordNamed_20 _ _ _ hI ) (fun v9 h10 => ?_)
          dsimp only
          refine OK.ieq (fun h11 => ?_) (fun h11 => ?_)
          · skip
            exact OK.wret (ia_I_32 hI) (fr_I_32 Fr.rf) (by first | trivial | omega | exact hI.flds _ | exact hI.dflds _ | exact hI.recs _ | exact hI.drecs _ | exact hI.droot _ | omega)
          · skip
            unfold f_X5_resolve_62
            try dsimp only
            obtain ⟨a12k, a12, a12l, a12r⟩ := i_add x2 1
            try (refine k0el (k := a12k) ?_ (fun e0 => ?_); (focus omega); subst e0)
            exact OK.trW (ih _ _ _ (ia_I_32 hI) (by omega)) (fr_I_32 Fr.rf) (fun v hv => by first | trivial | omega | exact hI.flds _ | exact hI.dflds _ | exact hI.recs _ | exact hI.drecs _ | exact hI.droot _ | omega)

theorem k_X5_resolve_20 (p0 : Int32) (σ : ST) (hI : IA σ)  : OK (f_X5_resolve 20 p0 σ) (RW σ fun v => True) := by
  unfold f_X5_resolve
  have lt_0 := li_0
  have lt_1 := li_1
  have lFU : ((FU : Nat) : Int) = 100000 := rfl
  refine OK.bndR (k_X5_rootType_20 _ _ hI ) (fun v1 h2 => ?_)
  dsimp only
  exact OK.trW (k_X5_resolve_6_20 FU _ _ _ hI (by omega)) Fr.rf (fun v hv => by first | trivial | omega | exact hI.flds _ | exact hI.dflds _ | exact hI.recs _ | exact hI.drecs _ | exact hI.droot _ | omega)

theorem k_X3_resolve_33 (σ : ST) (hI : IA σ)  : OK (f_X3_resolve_33  σ) (RO σ fun v => v.toInt = 0 ∨ v.toInt = 1) := by
  unfold f_X3_resolve_33
  have lt_0 := li_0
  have lt_1 := li_1
  have lFU : ((FU : Nat) : Int) = 100000 := rfl
  exact OK.roret (by first | trivial | omega | exact hI.flds _ | exact hI.dflds _ | exact hI.recs _ | exact hI.drecs _ | exact hI.droot _ | omega)

theorem k_X3_resolve (p0 : Int32) (σ : ST) (hI : IA σ)  : OK (f_X3_resolve  p0 σ) (RW σ fun v => v.toInt = 0 ∨ v.toInt = 1) := by
  unfold f_X3_resolve
  have lt_m1 := li_m1
  have lt_0 := li_0
  have lt_1 := li_1
  have lFU : ((FU : Nat) : Int) = 100000 := rfl
  refine OK.bndW (k_X5_resolve_20 _ _ hI ) Fr.rf (fun v1 s3 is3 fs3 h2 => ?_)
  dsimp only
  refine OK.ieq (fun h4 => ?_) (fun h4 => ?_)
  · skip
    exact OK.row (k_X3_resolve_33 _ is3 ) is3 fs3 (fun v hv => by first | trivial | omega | exact hI.flds _ | exact hI.dflds _ | exact hI.recs _ | exact hI.drecs _ | exact hI.droot _ | omega)
  · skip
    refine OK.bndR (k_X5_askedPlace_20 _ _ is3 ) (fun v5 h6 => ?_)
    dsimp only
    refine OK.bndW (k_X6_refuseAt _ _ _ is3 ) fs3 (fun v7 s9 is9 fs9 h8 => ?_)
    dsimp only
    refine OK.ieq (fun h10 => ?_) (fun h10 => ?_)
    · skip
      exact OK.wret is9 fs9 (by first | trivial | omega | exact hI.flds _ | exact hI.dflds _ | exact hI.recs _ | exact hI.drecs _ | exact hI.droot _ | omega)
    · skip
      exact OK.row (k_X3_resolve_33 _ is9 ) is9 fs9 (fun v hv => by first | trivial | omega | exact hI.flds _ | exact hI.dflds _ | exact hI.recs _ | exact hI.drecs _ | exact hI.droot _ | omega)

theorem k_X5_clear_20 (σ : ST) (hI : IA σ)  : OK (f_X5_clear 20 σ) (RS σ) := by
  unfold f_X5_clear
  have lt_0 := li_0
  have lt_1 := li_1
  have lFU : ((FU : Nat) : Int) = 100000 := rfl
  exact OK.sret (ia_J_20_1 (ia_J_20_0 hI (show bI 0 0 6 from ⟨by omega, by omega⟩)) (show bI 0 0 262 from ⟨by omega, by omega⟩)) (fr_I_20 (fr_I_20 Fr.rf))

theorem k_X5_heightOfFields_4_4 : ∀ (n : Nat) (x1 : Int32) (x2 : Int32) (x3 : Int32) (σ : ST), IA σ → (0 ≤ x3.toInt ∧ x3.toInt ≤ 8 ∧ (8 : Int) - x3.toInt < n) → OK (f_X5_heightOfFields_4 4 n x1 x2 x3 σ) (RO σ fun v => True) := by
  intro n
  induction n with
  | zero =>
    intro x1 x2 x3 σ hI hv
    omega
  | succ n ih =>
    intro x1 x2 x3 σ hI hv
    rw [f_X5_heightOfFields_4]
    have lt_m1 := li_m1
    have lt_0 := li_0
    have lt_1 := li_1
    have lFU : ((FU : Nat) : Int) = 100000 := rfl
    refine OK.bndR (k_X5_fieldsOf_4 _ _ hI ) (fun v1 h2 => ?_)
    dsimp only
    refine OK.ile (fun h3 => ?_) (fun h3 => ?_)
    · skip
      exact OK.roret (by first | trivial | omega | exact hI.flds _ | exact hI.dflds _ | exact hI.recs _ | exact hI.drecs _ | exact hI.droot _ | omega)
    · skip
      refine OK.bndR (k_X5_typeOf_4 _ _ _ hI ) (fun v4 h5 => ?_)
      dsimp only
      refine OK.bndR (k_X5_emptyHeight_4 _ _ hI ) (fun v6 h7 => ?_)
      dsimp only
      refine OK.ieq (fun h8 => ?_) (fun h8 => ?_)
      · skip
        exact OK.roret (by first | trivial | omega | exact hI.flds _ | exact hI.dflds _ | exact hI.recs _ | exact hI.drecs _ | exact hI.droot _ | omega)
      · skip
        obtain ⟨a9k, a9, a9l, a9r⟩ := i_add x3 1
        try (refine k0el (k := a9k) ?_ (fun e0 => ?_); (focus omega); subst e0)
        exact OK.roq (ih _ _ _ _ hI (by omega)) (fun v hv => by first | trivial | omega | exact hI.flds _ | exact hI.dflds _ | exact hI.recs _ | exact hI.drecs _ | exact hI.droot _ | omega)

theorem k_X5_heightOfFields_4 (p0 : Int32) (σ : ST) (hI : IA σ)  : OK (f_X5_heightOfFields 4 p0 σ) (RO σ fun v => True) := by
  unfold f_X5_heightOfFields
  have lt_0 := li_0
  have lt_1 := li_1
  have lFU : ((FU : Nat) : Int) = 100000 := rfl
  exact OK.roq (k_X5_heightOfFields_4_4 FU _ _ _ _ hI (by omega)) (fun v hv => by first | trivial | omega | exact hI.flds _ | exact hI.dflds _ | exact hI.recs _ | exact hI.drecs _ | exact hI.droot _ | omega)

theorem k_X5_findEmptyRecords_28_4 {k10 : Int32 → ST → Option (ST)} {k18 : Int32 → Int32 → ST → Option (ST)} {P : ST → Prop} : ∀ (n : Nat) (x1 : Int32) (x2 : Int32) (x3 : Int32) (σ : ST), IA σ → (∀ s9 : ST, IA s9 → Fr σ s9 → OK (k18 x1 (x2 + 1) s9) P) → (0 ≤ x3.toInt ∧ x3.toInt ≤ 36 ∧ (36 : Int) - x3.toInt < n) → OK (f_X5_findEmptyRecords_28 k10 k18 4 n x1 x2 x3 σ) P := by
  intro n
  induction n with
  | zero =>
    intro x1 x2 x3 σ hI hk hv
    omega
  | succ n ih =>
    intro x1 x2 x3 σ hI hk hv
    rw [f_X5_findEmptyRecords_28]
    have lt_m1 := li_m1
    have lt_0 := li_0
    have lt_1 := li_1
    have lt_6 := li_6
    have lFU : ((FU : Nat) : Int) = 100000 := rfl
    refine OK.bndR (k_X5_recordsOf_4 _ _ hI ) (fun v1 h2 => ?_)
    dsimp only
    refine OK.ile (fun h3 => ?_) (fun h3 => ?_)
    · skip
      obtain ⟨a4k, a4, a4l, a4r⟩ := i_add x2 1
      try (refine k0el (k := a4k) ?_ (fun e0 => ?_); (focus omega); subst e0)
      exact (hk _ hI Fr.rf)
    · skip
      refine OK.bndR (k_X5_isRecord _ _ hI ) (fun v5 h6 => ?_)
      dsimp only
      refine OK.ieq (fun h7 => ?_) (fun h7 => ?_)
      · skip
        unfold f_X5_findEmptyRecords_77
        try dsimp only
        obtain ⟨a8k, a8, a8l, a8r⟩ := i_add x3 1
        try (refine k0el (k := a8k) ?_ (fun e0 => ?_); (focus omega); subst e0)
        exact (ih _ _ _ _ hI (fun s9 i9 f9 => hk s9 i9 (Fr.trans Fr.rf f9)) (by omega))
      · skip
        obtain ⟨a9k, a9, a9l, a9r⟩ := i_mul x2 6
        rw [li_6] at a9
        try (refine k0el (k := a9k) ?_ (fun e0 => ?_); (focus omega); subst e0)
        obtain ⟨a10k, a10, a10l, a10r⟩ := i_add (x2 * 6) x3
        try (refine k0el (k := a10k) ?_ (fun e0 => ?_); (focus omega); subst e0)
        refine OK.grd ⟨by omega, by omega⟩ ?_
        refine OK.ieq (fun h11 => ?_) (fun h11 => ?_)
        · skip
          refine OK.bndR (k_X5_heightOfFields_4 _ _ hI ) (fun v12 h13 => ?_)
          dsimp only
          unfold f_X5_findEmptyRecords_77
          try dsimp only
          obtain ⟨a14k, a14, a14l, a14r⟩ := i_add x3 1
          try (refine k0el (k := a14k) ?_ (fun e0 => ?_); (focus omega); subst e0)
          exact (ih _ _ _ _ (ia_I_10 hI) (fun s9 i9 f9 => hk s9 i9 (Fr.trans (fr_I_10 Fr.rf) f9)) (by omega))
        · skip
          unfold f_X5_findEmptyRecords_77
          try dsimp only
          obtain ⟨a15k, a15, a15l, a15r⟩ := i_add x3 1
          try (refine k0el (k := a15k) ?_ (fun e0 => ?_); (focus omega); subst e0)
          exact (ih _ _ _ _ hI (fun s9 i9 f9 => hk s9 i9 (Fr.trans Fr.rf f9)) (by omega))

theorem k_X5_findEmptyRecords_18_4 {k10 : Int32 → ST → Option (ST)} {P : ST → Prop} : ∀ (n : Nat) (x1 : Int32) (x2 : Int32) (σ : ST), IA σ → (∀ s9 : ST, IA s9 → Fr σ s9 → OK (k10 (x1 + 1) s9) P) → (0 ≤ x2.toInt ∧ x2.toInt ≤ 6 ∧ (6 : Int) - x2.toInt < n) → OK (f_X5_findEmptyRecords_18 k10 4 n x1 x2 σ) P := by
  intro n
  induction n with
  | zero =>
    intro x1 x2 σ hI hk hv
    omega
  | succ n ih =>
    intro x1 x2 σ hI hk hv
    rw [f_X5_findEmptyRecords_18]
    have lt_0 := li_0
    have lt_1 := li_1
    have lFU : ((FU : Nat) : Int) = 100000 := rfl
    have g0 : 0 ≤ (σ.1 4 0).toInt ∧ (σ.1 4 0).toInt ≤ 6 := hI.plans
    have g1 : 0 ≤ (σ.1 4 0).toInt ∧ (σ.1 4 0).toInt ≤ 6 := hI.plans
    refine OK.ile (fun h2 => ?_) (fun h2 => ?_)
    · skip
      obtain ⟨a3k, a3, a3l, a3r⟩ := i_add x1 1
      try (refine k0el (k := a3k) ?_ (fun e0 => ?_); (focus omega); subst e0)
      exact (hk _ hI Fr.rf)
    · skip
      obtain ⟨a4k, a4, a4l, a4r⟩ := i_add x2 1
      try (refine k0el (k := a4k) ?_ (fun e0 => ?_); (focus omega); subst e0)
      exact (k_X5_findEmptyRecords_28_4 FU _ _ _ _ hI (fun s9 i9 f9 => ih _ _ _ i9 (fun s8 i8 f8 => hk s8 i8 (Fr.trans (Fr.trans Fr.rf f9) f8)) (by omega)) (by omega))

theorem k_X5_findEmptyRecords_10_4 : ∀ (n : Nat) (x1 : Int32) (σ : ST), IA σ → (0 ≤ x1.toInt ∧ x1.toInt ≤ 6 ∧ (6 : Int) - x1.toInt < n) → OK (f_X5_findEmptyRecords_10 4 n x1 σ) (RS σ) := by
  intro n
  induction n with
  | zero =>
    intro x1 σ hI hv
    omega
  | succ n ih =>
    intro x1 σ hI hv
    rw [f_X5_findEmptyRecords_10]
    have lt_0 := li_0
    have lt_1 := li_1
    have lt_6 := li_6
    have lFU : ((FU : Nat) : Int) = 100000 := rfl
    refine OK.ile (fun h1 => ?_) (fun h1 => ?_)
    · skip
      exact OK.sret hI Fr.rf
    · skip
      obtain ⟨a2k, a2, a2l, a2r⟩ := i_add x1 1
      try (refine k0el (k := a2k) ?_ (fun e0 => ?_); (focus omega); subst e0)
      exact (k_X5_findEmptyRecords_18_4 FU _ _ _ hI (fun s9 i9 f9 => OK.trS (ih _ _ i9 (by omega)) (Fr.trans Fr.rf f9)) (by omega))

theorem k_X5_findEmptyRecords_4 (σ : ST) (hI : IA σ)  : OK (f_X5_findEmptyRecords 4 σ) (RS σ) := by
  unfold f_X5_findEmptyRecords
  have lt_0 := li_0
  have lt_1 := li_1
  have lFU : ((FU : Nat) : Int) = 100000 := rfl
  refine OK.bndS (k_J7_fill_53178_10 _ _ hI ) Fr.rf (fun s1 is1 fs1 => ?_)
  try dsimp only
  exact OK.trS (k_X5_findEmptyRecords_10_4 FU _ _ is1 (by omega)) fs1

theorem k_X6_faultAnswer (σ : ST) (hI : IA σ)  : OK (f_X6_faultAnswer  σ) (RO σ fun v => True) := by
  unfold f_X6_faultAnswer
  have lt_0 := li_0
  have lt_1 := li_1
  have lt_2 := li_2
  have lt_8 := li_8
  have lFU : ((FU : Nat) : Int) = 100000 := rfl
  exact OK.roret (by first | trivial | omega | exact hI.flds _ | exact hI.dflds _ | exact hI.recs _ | exact hI.drecs _ | exact hI.droot _ | omega)

theorem k_X9_clear (σ : ST) (hI : IA σ)  : OK (f_X9_clear  σ) (RS σ) := by
  unfold f_X9_clear
  have lt_0 := li_0
  have lt_1 := li_1
  have lFU : ((FU : Nat) : Int) = 100000 := rfl
  exact OK.sret (ia_I_48_3 (ia_I_48_2 (ia_J_48_1 hI (show bI 0 0 4 from ⟨by omega, by omega⟩)))) (fr_I_48 (fr_I_48 (fr_I_48 Fr.rf)))

theorem k_X10_readers_24 : ∀ (n : Nat) (x1 : Int32) (x2 : Int32) (x3 : Int32) (x4 : Int32) (σ : ST), IA σ → (0 ≤ x4.toInt ∧ x4.toInt ≤ 6 ∧ (6 : Int) - x4.toInt < n) → OK (f_X10_readers_24  n x1 x2 x3 x4 σ) (RW σ fun v => True) := by
  intro n
  induction n with
  | zero =>
    intro x1 x2 x3 x4 σ hI hv
    omega
  | succ n ih =>
    intro x1 x2 x3 x4 σ hI hv
    rw [f_X10_readers_24]
    have lt_0 := li_0
    have lt_1 := li_1
    have lFU : ((FU : Nat) : Int) = 100000 := rfl
    have g0 : 0 ≤ (σ.1 4 0).toInt ∧ (σ.1 4 0).toInt ≤ 6 := hI.plans
    have g1 : 0 ≤ (σ.1 4 0).toInt ∧ (σ.1 4 0).toInt ≤ 6 := hI.plans
    refine OK.ile (fun h2 => ?_) (fun h2 => ?_)
    · skip
      exact OK.wret hI Fr.rf (by first | trivial | omega | exact hI.flds _ | exact hI.dflds _ | exact hI.recs _ | exact hI.drecs _ | exact hI.droot _ | omega)
    · skip
      refine OK.bndW (k_X0_verdict _ _ _ hI ) Fr.rf (fun v3 s5 is5 fs5 h4 => ?_)
      dsimp only
      refine OK.ilt (fun h6 => ?_) (fun h6 => ?_)
      · skip
        unfold f_X10_readers_57
        try dsimp only
        obtain ⟨a7k, a7, a7l, a7r⟩ := i_add x4 1
        try (refine k0el (k := a7k) ?_ (fun e0 => ?_); (focus omega); subst e0)
        exact OK.trW (ih _ _ _ _ _ is5 (by omega)) fs5 (fun v hv => by first | trivial | omega | exact hI.flds _ | exact hI.dflds _ | exact hI.recs _ | exact hI.drecs _ | exact hI.droot _ | omega)
      · skip
        unfold f_X10_readers_57
        try dsimp only
        obtain ⟨a8k, a8, a8l, a8r⟩ := i_add x4 1
        try (refine k0el (k := a8k) ?_ (fun e0 => ?_); (focus omega); subst e0)
        exact OK.trW (ih _ _ _ _ _ is5 (by omega)) fs5 (fun v hv => by first | trivial | omega | exact hI.flds _ | exact hI.dflds _ | exact hI.recs _ | exact hI.drecs _ | exact hI.droot _ | omega)

theorem k_X10_readers (p0 : Int32) (p1 : Int32) (σ : ST) (hI : IA σ)  : OK (f_X10_readers  p0 p1 σ) (RW σ fun v => True) := by
  unfold f_X10_readers
  have lt_m1 := li_m1
  have lt_0 := li_0
  have lt_1 := li_1
  have lFU : ((FU : Nat) : Int) = 100000 := rfl
  refine OK.bndR (k_X10_isPlan _ _ hI ) (fun v1 h2 => ?_)
  dsimp only
  refine OK.ieq (fun h3 => ?_) (fun h3 => ?_)
  · skip
    exact OK.wret hI Fr.rf (by first | trivial | omega | exact hI.flds _ | exact hI.dflds _ | exact hI.recs _ | exact hI.drecs _ | exact hI.droot _ | omega)
  · skip
    refine OK.ilt (fun h4 => ?_) (fun h4 => ?_)
    · skip
      exact OK.wret hI Fr.rf (by first | trivial | omega | exact hI.flds _ | exact hI.dflds _ | exact hI.recs _ | exact hI.drecs _ | exact hI.droot _ | omega)
    · skip
      refine OK.ile (fun h5 => ?_) (fun h5 => ?_)
      · skip
        exact OK.trW (k_X10_readers_24 FU _ _ _ _ _ hI (by omega)) Fr.rf (fun v hv => by first | trivial | omega | exact hI.flds _ | exact hI.dflds _ | exact hI.recs _ | exact hI.drecs _ | exact hI.droot _ | omega)
      · skip
        exact OK.wret hI Fr.rf (by first | trivial | omega | exact hI.flds _ | exact hI.dflds _ | exact hI.recs _ | exact hI.drecs _ | exact hI.droot _ | omega)

theorem k_X10_record (p0 : Int32) (p1 : Int32) (p2 : Int32) (σ : ST) (hI : IA σ)  : OK (f_X10_record  p0 p1 p2 σ) (RO σ fun v => True) := by
  unfold f_X10_record
  have lt_m1 := li_m1
  have lt_0 := li_0
  have lt_1 := li_1
  have lFU : ((FU : Nat) : Int) = 100000 := rfl
  refine OK.bndR (k_X10_isPlan _ _ hI ) (fun v1 h2 => ?_)
  dsimp only
  refine OK.ieq (fun h3 => ?_) (fun h3 => ?_)
  · skip
    exact OK.roret (by first | trivial | omega | exact hI.flds _ | exact hI.dflds _ | exact hI.recs _ | exact hI.drecs _ | exact hI.droot _ | omega)
  · skip
    refine OK.bndR (k_X5_recordsOf_4 _ _ hI ) (fun v4 h5 => ?_)
    dsimp only
    refine OK.ieq (fun h6 => ?_) (fun h6 => ?_)
    · skip
      exact OK.roret (by first | trivial | omega | exact hI.flds _ | exact hI.dflds _ | exact hI.recs _ | exact hI.drecs _ | exact hI.droot _ | omega)
    · skip
      refine OK.ilt (fun h7 => ?_) (fun h7 => ?_)
      · skip
        exact OK.roret (by first | trivial | omega | exact hI.flds _ | exact hI.dflds _ | exact hI.recs _ | exact hI.drecs _ | exact hI.droot _ | omega)
      · skip
        refine OK.ilt (fun h8 => ?_) (fun h8 => ?_)
        · skip
          refine OK.ieq (fun h9 => ?_) (fun h9 => ?_)
          · skip
            refine OK.bndR (k_X5_fieldsOf_4 _ _ hI ) (fun v10 h11 => ?_)
            dsimp only
            exact OK.roret (by first | trivial | omega | exact hI.flds _ | exact hI.dflds _ | exact hI.recs _ | exact hI.drecs _ | exact hI.droot _ | omega)
          · skip
            refine OK.ieq (fun h12 => ?_) (fun h12 => ?_)
            · skip
              refine OK.bndR (k_X5_recordName_4 _ _ hI ) (fun v13 h14 => ?_)
              dsimp only
              refine OK.bndR (k_X10_lettersIn _ _ hI ) (fun v15 h16 => ?_)
              dsimp only
              exact OK.roret (by first | trivial | omega | exact hI.flds _ | exact hI.dflds _ | exact hI.recs _ | exact hI.drecs _ | exact hI.droot _ | omega)
            · skip
              exact OK.roret (by first | trivial | omega | exact hI.flds _ | exact hI.dflds _ | exact hI.recs _ | exact hI.drecs _ | exact hI.droot _ | omega)
        · skip
          exact OK.roret (by first | trivial | omega | exact hI.flds _ | exact hI.dflds _ | exact hI.recs _ | exact hI.drecs _ | exact hI.droot _ | omega)

theorem k_X1_change (p0 : Int32) (p1 : Int32) (p2 : Int32) (σ : ST) (hI : IA σ)  : OK (f_X1_change  p0 p1 p2 σ) (RW σ fun v => True) := by
  unfold f_X1_change
  have lt_0 := li_0
  have lt_1 := li_1
  have lt_400 := li_400
  have lFU : ((FU : Nat) : Int) = 100000 := rfl
  refine OK.bndR (k_X1_byteOf _ _ _ hI ) (fun v1 h2 => ?_)
  dsimp only
  refine OK.bndR (k_X1_hasByte _ _ _ hI ) (fun v3 h4 => ?_)
  dsimp only
  refine OK.ieq (fun h5 => ?_) (fun h5 => ?_)
  · skip
    exact OK.wret hI Fr.rf (by first | trivial | omega | exact hI.flds _ | exact hI.dflds _ | exact hI.recs _ | exact hI.drecs _ | exact hI.droot _ | omega)
  · skip
    obtain ⟨a6k, a6, a6l, a6r⟩ := i_mul p0 400
    rw [li_400] at a6
    try (refine k0el (k := a6k) ?_ (fun e0 => ?_); (focus omega); subst e0)
    obtain ⟨a7k, a7, a7l, a7r⟩ := i_add (p0 * 400) p1
    try (refine k0el (k := a7k) ?_ (fun e0 => ?_); (focus omega); subst e0)
    refine OK.grd ⟨by omega, by omega⟩ ?_
    refine OK.lt (fun z8 h9 => ?_)
    have iz8 : IA z8 := by rw [h9]; exact (ia_I_38 hI)
    have fz8 : Fr σ z8 := by rw [h9]; exact (fr_I_38 Fr.rf)
    exact OK.wret iz8 fz8 (by first | trivial | omega | exact hI.flds _ | exact hI.dflds _ | exact hI.recs _ | exact hI.drecs _ | exact hI.droot _ | omega)

theorem k_X10_spoil (p0 : Int32) (p1 : Int32) (p2 : Int32) (σ : ST) (hI : IA σ)  : OK (f_X10_spoil  p0 p1 p2 σ) (RW σ fun v => True) := by
  unfold f_X10_spoil
  have lt_m1 := li_m1
  have lt_0 := li_0
  have lt_1 := li_1
  have lFU : ((FU : Nat) : Int) = 100000 := rfl
  refine OK.bndR (k_X1_hasByte _ _ _ hI ) (fun v1 h2 => ?_)
  dsimp only
  refine OK.ieq (fun h3 => ?_) (fun h3 => ?_)
  · skip
    exact OK.wret hI Fr.rf (by first | trivial | omega | exact hI.flds _ | exact hI.dflds _ | exact hI.recs _ | exact hI.drecs _ | exact hI.droot _ | omega)
  · skip
    refine OK.bndW (k_X1_change _ _ _ _ hI ) Fr.rf (fun v4 s6 is6 fs6 h5 => ?_)
    dsimp only
    exact OK.wret is6 fs6 (by first | trivial | omega | exact hI.flds _ | exact hI.dflds _ | exact hI.recs _ | exact hI.drecs _ | exact hI.droot _ | omega)

theorem k_X10_value (p0 : Int32) (σ : ST) (hI : IA σ)  : OK (f_X10_value  p0 σ) (RO σ fun v => True) := by
  unfold f_X10_value
  have lt_m1 := li_m1
  have lt_0 := li_0
  have lt_1 := li_1
  have lt_5 := li_5
  have lFU : ((FU : Nat) : Int) = 100000 := rfl
  refine OK.bndR (k_X7_rowAt_50 _ _ hI ) (fun v1 h2 => ?_)
  dsimp only
  refine OK.ieq (fun h3 => ?_) (fun h3 => ?_)
  · skip
    exact OK.roret (by first | trivial | omega | exact hI.flds _ | exact hI.dflds _ | exact hI.recs _ | exact hI.drecs _ | exact hI.droot _ | omega)
  · skip
    refine OK.bndR (k_X7_sortAt_50 _ _ hI ) (fun v4 h5 => ?_)
    dsimp only
    refine OK.ieq (fun h6 => ?_) (fun h6 => ?_)
    · skip
      exact OK.roret (by first | trivial | omega | exact hI.flds _ | exact hI.dflds _ | exact hI.recs _ | exact hI.drecs _ | exact hI.droot _ | omega)
    · skip
      refine OK.bndR (k_X7_worthOf_50 _ _ hI ) (fun v7 h8 => ?_)
      dsimp only
      exact OK.roret (by first | trivial | omega | exact hI.flds _ | exact hI.dflds _ | exact hI.recs _ | exact hI.drecs _ | exact hI.droot _ | omega)

theorem k_X8_fittingType_48 : ∀ (n : Nat) (x2 : Int32) (x3 : Int32) (σ : ST), IA σ → (0 ≤ x3.toInt ∧ x3.toInt ≤ 4 ∧ (4 : Int) - x3.toInt < n) → OK (f_X8_fittingType_48  n x2 x3 σ) (RO σ fun v => True) := by
  intro n
  induction n with
  | zero =>
    intro x2 x3 σ hI hv
    omega
  | succ n ih =>
    intro x2 x3 σ hI hv
    rw [f_X8_fittingType_48]
    have lt_m1 := li_m1
    have lt_0 := li_0
    have lt_1 := li_1
    have lt_4 := li_4
    have lFU : ((FU : Nat) : Int) = 100000 := rfl
    refine OK.ile (fun h1 => ?_) (fun h1 => ?_)
    · skip
      exact OK.roret (by first | trivial | omega | exact hI.flds _ | exact hI.dflds _ | exact hI.recs _ | exact hI.drecs _ | exact hI.droot _ | omega)
    · skip
      refine OK.ieq (fun h2 => ?_) (fun h2 => ?_)
      · skip
        exact OK.roret (by first | trivial | omega | exact hI.flds _ | exact hI.dflds _ | exact hI.recs _ | exact hI.drecs _ | exact hI.droot _ | omega)
      · skip
        refine OK.bndR (k_X5_sortOf_4 _ _ hI ) (fun v3 h4 => ?_)
        dsimp only
        refine OK.bndR (k_X6_fits _ _ hI ) (fun v5 h6 => ?_)
        dsimp only
        refine OK.ieq (fun h7 => ?_) (fun h7 => ?_)
        · skip
          refine OK.bndR (k_X5_branchAfter_4 _ _ hI ) (fun v8 h9 => ?_)
          dsimp only
          obtain ⟨a10k, a10, a10l, a10r⟩ := i_add x3 1
          try (refine k0el (k := a10k) ?_ (fun e0 => ?_); (focus omega); subst e0)
          exact OK.roq (ih _ _ _ hI (by omega)) (fun v hv => by first | trivial | omega | exact hI.flds _ | exact hI.dflds _ | exact hI.recs _ | exact hI.drecs _ | exact hI.droot _ | omega)
        · skip
          exact OK.roret (by first | trivial | omega | exact hI.flds _ | exact hI.dflds _ | exact hI.recs _ | exact hI.drecs _ | exact hI.droot _ | omega)

theorem k_X8_fittingType (p0 : Int32) (σ : ST) (hI : IA σ)  : OK (f_X8_fittingType  p0 σ) (RO σ fun v => True) := by
  unfold f_X8_fittingType
  have lt_m1 := li_m1
  have lt_0 := li_0
  have lt_1 := li_1
  have lt_8 := li_8
  have lFU : ((FU : Nat) : Int) = 100000 := rfl
  refine OK.bndR (k_X5_sortOf_4 _ _ hI ) (fun v1 h2 => ?_)
  dsimp only
  refine OK.ieq (fun h3 => ?_) (fun h3 => ?_)
  · skip
    refine OK.bndR (k_X5_innerOf_4 _ _ hI ) (fun v4 h5 => ?_)
    dsimp only
    exact OK.roq (k_X8_fittingType_48 FU _ _ _ hI (by omega)) (fun v hv => by first | trivial | omega | exact hI.flds _ | exact hI.dflds _ | exact hI.recs _ | exact hI.drecs _ | exact hI.droot _ | omega)
  · skip
    refine OK.bndR (k_X5_sortOf_4 _ _ hI ) (fun v6 h7 => ?_)
    dsimp only
    refine OK.bndR (k_X6_fits _ _ hI ) (fun v8 h9 => ?_)
    dsimp only
    refine OK.ieq (fun h10 => ?_) (fun h10 => ?_)
    · skip
      exact OK.roret (by first | trivial | omega | exact hI.flds _ | exact hI.dflds _ | exact hI.recs _ | exact hI.drecs _ | exact hI.droot _ | omega)
    · skip
      exact OK.roret (by first | trivial | omega | exact hI.flds _ | exact hI.dflds _ | exact hI.recs _ | exact hI.drecs _ | exact hI.droot _ | omega)

theorem k_X8_parse_41 (σ : ST) (hI : IA σ)  : OK (f_X8_parse_41  σ) (RO σ fun v => v.toInt = 0 ∨ v.toInt = 1) := by
  unfold f_X8_parse_41
  have lt_0 := li_0
  have lt_1 := li_1
  have lFU : ((FU : Nat) : Int) = 100000 := rfl
  exact OK.roret (by first | trivial | omega | exact hI.flds _ | exact hI.dflds _ | exact hI.recs _ | exact hI.drecs _ | exact hI.droot _ | omega)
