theorem k_X5_setFormerName_20 (p0 : Int32) (p1 : Int32) (p2 : Int64) (σ : ST) (hI : IA σ)  : OK (f_X5_setFormerName 20 p0 p1 p2 σ) (RS σ) := by
  unfold f_X5_setFormerName
  have lt_0 := li_0
  have lt_1 := li_1
  have lt_8 := li_8
  have lFU : ((FU : Nat) : Int) = 100000 := rfl
  refine OK.bndR (k_X5_isFieldOf _ _ _ hI ) (fun v1 h2 => ?_)
  dsimp only
  refine OK.ieq (fun h3 => ?_) (fun h3 => ?_)
  · skip
    exact OK.sret hI Fr.rf
  · skip
    obtain ⟨a4k, a4, a4l, a4r⟩ := i_mul p0 8
    rw [li_8] at a4
    try (refine k0el (k := a4k) ?_ (fun e0 => ?_); (focus omega); subst e0)
    obtain ⟨a5k, a5, a5l, a5r⟩ := i_add (p0 * 8) p1
    try (refine k0el (k := a5k) ?_ (fun e0 => ?_); (focus omega); subst e0)
    refine OK.grd ⟨by omega, by omega⟩ ?_
    exact OK.sret (ia_L hI) (fr_L Fr.rf)

theorem k_X3_parseFormerName (p0 : Int32) (p1 : Int32) (σ : ST) (hI : IA σ)  : OK (f_X3_parseFormerName  p0 p1 σ) (RW σ fun v => v.toInt = 0 ∨ v.toInt = 1) := by
  unfold f_X3_parseFormerName
  have lt_0 := li_0
  have lt_1 := li_1
  have lt_2 := li_2
  have lt_3 := li_3
  have lFU : ((FU : Nat) : Int) = 100000 := rfl
  refine OK.bndR (k_X6_isKeyword _ _ hI ) (fun v1 h2 => ?_)
  dsimp only
  refine OK.ieq (fun h3 => ?_) (fun h3 => ?_)
  · skip
    exact OK.wret hI Fr.rf (by first | trivial | omega | exact hI.flds _ | exact hI.dflds _ | exact hI.recs _ | exact hI.drecs _ | exact hI.droot _ | omega)
  · skip
    refine OK.bndS (k_X6_advance _ hI ) Fr.rf (fun s4 is4 fs4 => ?_)
    try dsimp only
    refine OK.ieq (fun h5 => ?_) (fun h5 => ?_)
    · skip
      refine OK.bndR (k_X5_fieldName_20 _ _ _ is4 ) (fun v6 h7 => ?_)
      dsimp only
      refine OK.ieq (fun h8 => ?_) (fun h8 => ?_)
      · skip
        refine OK.bndW (k_X6_refuse _ _ is4 ) fs4 (fun v9 s11 is11 fs11 h10 => ?_)
        dsimp only
        refine OK.grd (b01 (by omega)) ?_
        exact OK.wret is11 fs11 (by first | trivial | omega | exact hI.flds _ | exact hI.dflds _ | exact hI.recs _ | exact hI.drecs _ | exact hI.droot _ | omega)
      · skip
        refine OK.bndS (k_X5_setFormerName_20 _ _ _ _ is4 ) fs4 (fun s12 is12 fs12 => ?_)
        try dsimp only
        refine OK.bndS (k_X6_advance _ is12 ) fs12 (fun s13 is13 fs13 => ?_)
        try dsimp only
        exact OK.wret is13 fs13 (by first | trivial | omega | exact hI.flds _ | exact hI.dflds _ | exact hI.recs _ | exact hI.drecs _ | exact hI.droot _ | omega)
    · skip
      refine OK.bndW (k_X6_refuse _ _ is4 ) fs4 (fun v14 s16 is16 fs16 h15 => ?_)
      dsimp only
      refine OK.grd (b01 (by omega)) ?_
      exact OK.wret is16 fs16 (by first | trivial | omega | exact hI.flds _ | exact hI.dflds _ | exact hI.recs _ | exact hI.drecs _ | exact hI.droot _ | omega)

theorem k_X5_setBranchAfter_20 (p0 : Int32) (p1 : Int32) (σ : ST) (hI : IA σ)  : OK (f_X5_setBranchAfter 20 p0 p1 σ) (RS σ) := by
  unfold f_X5_setBranchAfter
  have lt_0 := li_0
  have lt_1 := li_1
  have lFU : ((FU : Nat) : Int) = 100000 := rfl
  refine OK.bndR (k_X5_isType_20 _ _ hI ) (fun v1 h2 => ?_)
  dsimp only
  refine OK.ieq (fun h3 => ?_) (fun h3 => ?_)
  · skip
    exact OK.sret hI Fr.rf
  · skip
    refine OK.grd ⟨by omega, by omega⟩ ?_
    exact OK.sret (ia_I_33 hI) (fr_I_33 Fr.rf)

theorem k_X5_setAsked_20 (p0 : Int32) (p1 : Int64) (p2 : Int32) (σ : ST) (hI : IA σ)  : OK (f_X5_setAsked 20 p0 p1 p2 σ) (RS σ) := by
  unfold f_X5_setAsked
  have lt_0 := li_0
  have lt_1 := li_1
  have lFU : ((FU : Nat) : Int) = 100000 := rfl
  refine OK.bndR (k_X5_isType_20 _ _ hI ) (fun v1 h2 => ?_)
  dsimp only
  refine OK.ieq (fun h3 => ?_) (fun h3 => ?_)
  · skip
    exact OK.sret hI Fr.rf
  · skip
    refine OK.grd ⟨by omega, by omega⟩ ?_
    exact OK.sret (ia_I_35 (ia_L hI)) (fr_I_35 (fr_L Fr.rf))

theorem k_X6_sortBegun (σ : ST) (hI : IA σ)  : OK (f_X6_sortBegun  σ) (RO σ fun v => True) := by
  unfold f_X6_sortBegun
  have lt_m1 := li_m1
  have lt_0 := li_0
  have lt_1 := li_1
  have lt_2 := li_2
  have lt_3 := li_3
  have lt_4 := li_4
  have lt_5 := li_5
  have lt_6 := li_6
  have lt_7 := li_7
  have lt_8 := li_8
  have lt_12 := li_12
  have lFU : ((FU : Nat) : Int) = 100000 := rfl
  refine OK.ieq (fun h1 => ?_) (fun h1 => ?_)
  · skip
    exact OK.roret (by first | trivial | omega | exact hI.flds _ | exact hI.dflds _ | exact hI.recs _ | exact hI.drecs _ | exact hI.droot _ | omega)
  · skip
    refine OK.ieq (fun h2 => ?_) (fun h2 => ?_)
    · skip
      refine OK.ieq (fun h3 => ?_) (fun h3 => ?_)
      · skip
        exact OK.roret (by first | trivial | omega | exact hI.flds _ | exact hI.dflds _ | exact hI.recs _ | exact hI.drecs _ | exact hI.droot _ | omega)
      · skip
        refine OK.ieq (fun h4 => ?_) (fun h4 => ?_)
        · skip
          exact OK.roret (by first | trivial | omega | exact hI.flds _ | exact hI.dflds _ | exact hI.recs _ | exact hI.drecs _ | exact hI.droot _ | omega)
        · skip
          refine OK.ilt (fun h5 => ?_) (fun h5 => ?_)
          · skip
            exact OK.roret (by first | trivial | omega | exact hI.flds _ | exact hI.dflds _ | exact hI.recs _ | exact hI.drecs _ | exact hI.droot _ | omega)
          · skip
            refine OK.ilt (fun h6 => ?_) (fun h6 => ?_)
            · skip
              exact OK.roret (by first | trivial | omega | exact hI.flds _ | exact hI.dflds _ | exact hI.recs _ | exact hI.drecs _ | exact hI.droot _ | omega)
            · skip
              exact OK.roret (by first | trivial | omega | exact hI.flds _ | exact hI.dflds _ | exact hI.recs _ | exact hI.drecs _ | exact hI.droot _ | omega)
    · skip
      exact OK.roret (by first | trivial | omega | exact hI.flds _ | exact hI.dflds _ | exact hI.recs _ | exact hI.drecs _ | exact hI.droot _ | omega)

theorem k_X3_parseBranches_10 {N0 : Nat} {r_X3_parseBranches : Int32 → Int32 → ST → Option (Int32 × ST)} (hr_X3_parseBranches : ∀ (p0 : Int32) (p1 : Int32) (σ : ST), IA σ → 0 ≤ p1.toInt ∧ p1.toInt ≤ 3 ∧ (9 : Int) ≤ (N0 : Nat) + 2 * p1.toInt → OK (r_X3_parseBranches p0 p1 σ) (RW σ fun v => v.toInt = 0 ∨ v.toInt = 1)) {r_X3_parseType : Int32 → Int32 → ST → Option (Int32 × ST)} (hr_X3_parseType : ∀ (p0 : Int32) (p1 : Int32) (σ : ST), IA σ → 0 ≤ p0.toInt ∧ p0.toInt ≤ 4 ∧ (10 : Int) ≤ (N0 : Nat) + 2 * p0.toInt → OK (r_X3_parseType p0 p1 σ) (RW σ fun v => True)) : ∀ (n : Nat) (x1 : Int32) (x2 : Int32) (x3 : Int32) (x4 : Int32) (x5 : Int32) (σ : ST), IA σ → ((0 ≤ x2.toInt ∧ x2.toInt ≤ 3 ∧ (9 : Int) ≤ (N0 + 1 : Nat) + 2 * x2.toInt) ∧ 0 ≤ x5.toInt ∧ x5.toInt ≤ 5 ∧ (5 : Int) - x5.toInt < n) → OK (f_X3_parseBranches_10 r_X3_parseBranches r_X3_parseType  n x1 x2 x3 x4 x5 σ) (RW σ fun v => v.toInt = 0 ∨ v.toInt = 1) := by
  intro n
  induction n with
  | zero =>
    intro x1 x2 x3 x4 x5 σ hI hv
    omega
  | succ n ih =>
    intro x1 x2 x3 x4 x5 σ hI hv
    rw [f_X3_parseBranches_10]
    have lt_m1 := li_m1
    have lt_0 := li_0
    have lt_1 := li_1
    have lt_4 := li_4
    have lt_6 := li_6
    have lFU : ((FU : Nat) : Int) = 100000 := rfl
    have lFR : ((FR : Nat) : Int) = 160 := rfl
    refine OK.ilt (fun h1 => ?_) (fun h1 => ?_)
    · skip
      exact OK.wret hI Fr.rf (by first | trivial | omega | exact hI.flds _ | exact hI.dflds _ | exact hI.recs _ | exact hI.drecs _ | exact hI.droot _ | omega)
    · skip
      obtain ⟨a2k, a2, a2l, a2r⟩ := i_add x2 1
      try (refine k0el (k := a2k) ?_ (fun e0 => ?_); (focus omega); subst e0)
      refine OK.bndW (hr_X3_parseType _ _ _ hI (by omega)) Fr.rf (fun v3 s5 is5 fs5 h4 => ?_)
      dsimp only
      refine OK.ieq (fun h6 => ?_) (fun h6 => ?_)
      · skip
        exact OK.wret is5 fs5 (by first | trivial | omega | exact hI.flds _ | exact hI.dflds _ | exact hI.recs _ | exact hI.drecs _ | exact hI.droot _ | omega)
      · skip
        refine OK.ieq (fun h7 => ?_) (fun h7 => ?_)
        · skip
          refine OK.bndS (k_X5_setInner_20 _ _ _ is5 ) fs5 (fun s8 is8 fs8 => ?_)
          try dsimp only
          unfold f_X3_parseBranches_64
          try dsimp only
          refine OK.bndR (k_X5_sortOf_20 _ _ is8 ) (fun v9 h10 => ?_)
          dsimp only
          refine OK.bndR (k_X6_isKeyword _ _ is8 ) (fun v11 h12 => ?_)
          dsimp only
          refine OK.ieq (fun h13 => ?_) (fun h13 => ?_)
          · skip
            refine OK.ilt (fun h14 => ?_) (fun h14 => ?_)
            · skip
              unfold f_X3_parseBranches_110
              try dsimp only
              exact OK.wret is8 fs8 (by first | trivial | omega | exact hI.flds _ | exact hI.dflds _ | exact hI.recs _ | exact hI.drecs _ | exact hI.droot _ | omega)
            · skip
              refine OK.bndW (k_X6_refuse _ _ is8 ) fs8 (fun v15 s17 is17 fs17 h16 => ?_)
              dsimp only
              refine OK.ieq (fun h18 => ?_) (fun h18 => ?_)
              · skip
                exact OK.wret is17 fs17 (by first | trivial | omega | exact hI.flds _ | exact hI.dflds _ | exact hI.recs _ | exact hI.drecs _ | exact hI.droot _ | omega)
              · skip
                unfold f_X3_parseBranches_110
                try dsimp only
                exact OK.wret is17 fs17 (by first | trivial | omega | exact hI.flds _ | exact hI.dflds _ | exact hI.recs _ | exact hI.drecs _ | exact hI.droot _ | omega)
          · skip
            refine OK.bndS (k_X6_advance _ is8 ) fs8 (fun s19 is19 fs19 => ?_)
            try dsimp only
            obtain ⟨a20k, a20, a20l, a20r⟩ := i_add x5 1
            try (refine k0el (k := a20k) ?_ (fun e0 => ?_); (focus omega); subst e0)
            exact OK.trW (ih _ _ _ _ _ _ is19 (by omega)) fs19 (fun v hv => by first | trivial | omega | exact hI.flds _ | exact hI.dflds _ | exact hI.recs _ | exact hI.drecs _ | exact hI.droot _ | omega)
        · skip
          refine OK.bndS (k_X5_setBranchAfter_20 _ _ _ is5 ) fs5 (fun s21 is21 fs21 => ?_)
          try dsimp only
          unfold f_X3_parseBranches_64
          try dsimp only
          refine OK.bndR (k_X5_sortOf_20 _ _ is21 ) (fun v22 h23 => ?_)
          dsimp only
          refine OK.bndR (k_X6_isKeyword _ _ is21 ) (fun v24 h25 => ?_)
          dsimp only
          refine OK.ieq (fun h26 => ?_) (fun h26 => ?_)
          · skip
            refine OK.ilt (fun h27 => ?_) (fun h27 => ?_)
            · skip
              unfold f_X3_parseBranches_110
              try dsimp only
              exact OK.wret is21 fs21 (by first | trivial | omega | exact hI.flds _ | exact hI.dflds _ | exact hI.recs _ | exact hI.drecs _ | exact hI.droot _ | omega)
            · skip
              refine OK.bndW (k_X6_refuse _ _ is21 ) fs21 (fun v28 s30 is30 fs30 h29 => ?_)
              dsimp only
              refine OK.ieq (fun h31 => ?_) (fun h31 => ?_)
              · skip
                exact OK.wret is30 fs30 (by first | trivial | omega | exact hI.flds _ | exact hI.dflds _ | exact hI.recs _ | exact hI.drecs _ | exact hI.droot _ | omega)
              · skip
                unfold f_X3_parseBranches_110
                try dsimp only
                exact OK.wret is30 fs30 (by first | trivial | omega | exact hI.flds _ | exact hI.dflds _ | exact hI.recs _ | exact hI.drecs _ | exact hI.droot _ | omega)
          · skip
            refine OK.bndS (k_X6_advance _ is21 ) fs21 (fun s32 is32 fs32 => ?_)
            try dsimp only
            obtain ⟨a33k, a33, a33l, a33r⟩ := i_add x5 1
            try (refine k0el (k := a33k) ?_ (fun e0 => ?_); (focus omega); subst e0)
            exact OK.trW (ih _ _ _ _ _ _ is32 (by omega)) fs32 (fun v hv => by first | trivial | omega | exact hI.flds _ | exact hI.dflds _ | exact hI.recs _ | exact hI.drecs _ | exact hI.droot _ | omega)

theorem k_X3_parseBranches {N0 : Nat} {r_X3_parseBranches : Int32 → Int32 → ST → Option (Int32 × ST)} (hr_X3_parseBranches : ∀ (p0 : Int32) (p1 : Int32) (σ : ST), IA σ → 0 ≤ p1.toInt ∧ p1.toInt ≤ 3 ∧ (9 : Int) ≤ (N0 : Nat) + 2 * p1.toInt → OK (r_X3_parseBranches p0 p1 σ) (RW σ fun v => v.toInt = 0 ∨ v.toInt = 1)) {r_X3_parseType : Int32 → Int32 → ST → Option (Int32 × ST)} (hr_X3_parseType : ∀ (p0 : Int32) (p1 : Int32) (σ : ST), IA σ → 0 ≤ p0.toInt ∧ p0.toInt ≤ 4 ∧ (10 : Int) ≤ (N0 : Nat) + 2 * p0.toInt → OK (r_X3_parseType p0 p1 σ) (RW σ fun v => True)) (p0 : Int32) (p1 : Int32) (σ : ST) (hI : IA σ) (hv : 0 ≤ p1.toInt ∧ p1.toInt ≤ 3 ∧ (9 : Int) ≤ (N0 + 1 : Nat) + 2 * p1.toInt)  : OK (f_X3_parseBranches r_X3_parseBranches r_X3_parseType  p0 p1 σ) (RW σ fun v => v.toInt = 0 ∨ v.toInt = 1) := by
  unfold f_X3_parseBranches
  have lt_m1 := li_m1
  have lt_0 := li_0
  have lt_1 := li_1
  have lt_256 := li_256
  have lFU : ((FU : Nat) : Int) = 100000 := rfl
  have lFR : ((FR : Nat) : Int) = 160 := rfl
  exact OK.trW (k_X3_parseBranches_10 hr_X3_parseBranches hr_X3_parseType FU _ _ _ _ _ _ hI (by omega)) Fr.rf (fun v hv => by first | trivial | omega | exact hI.flds _ | exact hI.dflds _ | exact hI.recs _ | exact hI.drecs _ | exact hI.droot _ | omega)

theorem k_X3_parseType {N0 : Nat} {r_X3_parseBranches : Int32 → Int32 → ST → Option (Int32 × ST)} (hr_X3_parseBranches : ∀ (p0 : Int32) (p1 : Int32) (σ : ST), IA σ → 0 ≤ p1.toInt ∧ p1.toInt ≤ 3 ∧ (9 : Int) ≤ (N0 : Nat) + 2 * p1.toInt → OK (r_X3_parseBranches p0 p1 σ) (RW σ fun v => v.toInt = 0 ∨ v.toInt = 1)) {r_X3_parseType : Int32 → Int32 → ST → Option (Int32 × ST)} (hr_X3_parseType : ∀ (p0 : Int32) (p1 : Int32) (σ : ST), IA σ → 0 ≤ p0.toInt ∧ p0.toInt ≤ 4 ∧ (10 : Int) ≤ (N0 : Nat) + 2 * p0.toInt → OK (r_X3_parseType p0 p1 σ) (RW σ fun v => True)) (p0 : Int32) (p1 : Int32) (σ : ST) (hI : IA σ) (hv : 0 ≤ p0.toInt ∧ p0.toInt ≤ 4 ∧ (10 : Int) ≤ (N0 + 1 : Nat) + 2 * p0.toInt)  : OK (f_X3_parseType r_X3_parseBranches r_X3_parseType  p0 p1 σ) (RW σ fun v => True) := by
  unfold f_X3_parseType
  have lt_m1 := li_m1
  have lt_0 := li_0
  have lt_1 := li_1
  have lt_3 := li_3
  have lt_4 := li_4
  have lt_5 := li_5
  have lt_6 := li_6
  have lt_7 := li_7
  have lt_8 := li_8
  have lt_31 := li_31
  have lFU : ((FU : Nat) : Int) = 100000 := rfl
  have lFR : ((FR : Nat) : Int) = 160 := rfl
  refine OK.bndR (k_X6_sortBegun _ hI ) (fun v1 h2 => ?_)
  dsimp only
  refine OK.ieq (fun h3 => ?_) (fun h3 => ?_)
  · skip
    refine OK.bndW (k_X6_refuse _ _ hI ) Fr.rf (fun v4 s6 is6 fs6 h5 => ?_)
    dsimp only
    exact OK.wret is6 fs6 (by first | trivial | omega | exact hI.flds _ | exact hI.dflds _ | exact hI.recs _ | exact hI.drecs _ | exact hI.droot _ | omega)
  · skip
    refine OK.ilt (fun h7 => ?_) (fun h7 => ?_)
    · skip
      unfold f_X3_parseType_37
      try dsimp only
      unfold f_X3_parseType_49
      try dsimp only
      refine OK.ieq (fun h8 => ?_) (fun h8 => ?_)
      · skip
        refine OK.bndW (k_X6_refuse _ _ hI ) Fr.rf (fun v9 s11 is11 fs11 h10 => ?_)
        dsimp only
        exact OK.wret is11 fs11 (by first | trivial | omega | exact hI.flds _ | exact hI.dflds _ | exact hI.recs _ | exact hI.drecs _ | exact hI.droot _ | omega)
      · skip
        refine OK.ieq (fun h12 => ?_) (fun h12 => ?_)
        · skip
          refine OK.ieq (fun h13 => ?_) (fun h13 => ?_)
          · skip
            refine OK.bndS (k_X5_setAsked_20 _ _ _ _ hI ) Fr.rf (fun s14 is14 fs14 => ?_)
            try dsimp only
            unfold f_X3_parseType_116
            try dsimp only
            refine OK.bndS (k_X6_advance _ is14 ) fs14 (fun s15 is15 fs15 => ?_)
            try dsimp only
            refine OK.ieq (fun h16 => ?_) (fun h16 => ?_)
            · skip
              refine OK.bndW (hr_X3_parseBranches _ _ _ is15 (by omega)) fs15 (fun v17 s19 is19 fs19 h18 => ?_)
              dsimp only
              refine OK.ieq (fun h20 => ?_) (fun h20 => ?_)
              · skip
                exact OK.wret is19 fs19 (by first | trivial | omega | exact hI.flds _ | exact hI.dflds _ | exact hI.recs _ | exact hI.drecs _ | exact hI.droot _ | omega)
              · skip
                exact OK.wret is19 fs19 (by first | trivial | omega | exact hI.flds _ | exact hI.dflds _ | exact hI.recs _ | exact hI.drecs _ | exact hI.droot _ | omega)
            · skip
              refine OK.ieq (fun h21 => ?_) (fun h21 => ?_)
              · skip
                obtain ⟨a22k, a22, a22l, a22r⟩ := i_add p0 1
                try (refine k0el (k := a22k) ?_ (fun e0 => ?_); (focus omega); subst e0)
                refine OK.bndW (hr_X3_parseType _ _ _ is15 (by omega)) fs15 (fun v23 s25 is25 fs25 h24 => ?_)
                dsimp only
                refine OK.bndS (k_X5_setInner_20 _ _ _ is25 ) fs25 (fun s26 is26 fs26 => ?_)
                try dsimp only
                refine OK.ieq (fun h27 => ?_) (fun h27 => ?_)
                · skip
                  exact OK.wret is26 fs26 (by first | trivial | omega | exact hI.flds _ | exact hI.dflds _ | exact hI.recs _ | exact hI.drecs _ | exact hI.droot _ | omega)
                · skip
                  exact OK.wret is26 fs26 (by first | trivial | omega | exact hI.flds _ | exact hI.dflds _ | exact hI.recs _ | exact hI.drecs _ | exact hI.droot _ | omega)
              · skip
                exact OK.wret is15 fs15 (by first | trivial | omega | exact hI.flds _ | exact hI.dflds _ | exact hI.recs _ | exact hI.drecs _ | exact hI.droot _ | omega)
          · skip
            unfold f_X3_parseType_116
            try dsimp only
            refine OK.bndS (k_X6_advance _ hI ) Fr.rf (fun s28 is28 fs28 => ?_)
            try dsimp only
            refine OK.ieq (fun h29 => ?_) (fun h29 => ?_)
            · skip
              refine OK.bndW (hr_X3_parseBranches _ _ _ is28 (by omega)) fs28 (fun v30 s32 is32 fs32 h31 => ?_)
              dsimp only
              refine OK.ieq (fun h33 => ?_) (fun h33 => ?_)
              · skip
                exact OK.wret is32 fs32 (by first | trivial | omega | exact hI.flds _ | exact hI.dflds _ | exact hI.recs _ | exact hI.drecs _ | exact hI.droot _ | omega)
              · skip
                exact OK.wret is32 fs32 (by first | trivial | omega | exact hI.flds _ | exact hI.dflds _ | exact hI.recs _ | exact hI.drecs _ | exact hI.droot _ | omega)
            · skip
              refine OK.ieq (fun h34 => ?_) (fun h34 => ?_)
              · skip
                obtain ⟨a35k, a35, a35l, a35r⟩ := i_add p0 1
                try (refine k0el (k := a35k) ?_ (fun e0 => ?_); (focus omega); subst e0)
                refine OK.bndW (hr_X3_parseType _ _ _ is28 (by omega)) fs28 (fun v36 s38 is38 fs38 h37 => ?_)
                dsimp only
                refine OK.bndS (k_X5_setInner_20 _ _ _ is38 ) fs38 (fun s39 is39 fs39 => ?_)
                try dsimp only
                refine OK.ieq (fun h40 => ?_) (fun h40 => ?_)
                · skip
                  exact OK.wret is39 fs39 (by first | trivial | omega | exact hI.flds _ | exact hI.dflds _ | exact hI.recs _ | exact hI.drecs _ | exact hI.droot _ | omega)
                · skip
                  exact OK.wret is39 fs39 (by first | trivial | omega | exact hI.flds _ | exact hI.dflds _ | exact hI.recs _ | exact hI.drecs _ | exact hI.droot _ | omega)
              · skip
                exact OK.wret is28 fs28 (by first | trivial | omega | exact hI.flds _ | exact hI.dflds _ | exact hI.recs _ | exact hI.drecs _ | exact hI.droot _ | omega)
        · skip
          refine OK.bndW (k_X6_refuse _ _ hI ) Fr.rf (fun v41 s43 is43 fs43 h42 => ?_)
          dsimp only
          exact OK.wret is43 fs43 (by first | trivial | omega | exact hI.flds _ | exact hI.dflds _ | exact hI.recs _ | exact hI.drecs _ | exact hI.droot _ | omega)
    · skip
      refine OK.bndR (k_J6_bitCount_0f7a4 _ _ hI ) (fun v44 h45 => ?_)
      dsimp only
      refine OK.ile (fun h46 => ?_) (fun h46 => ?_)
      · skip
        refine OK.bndW (k_X5_addType_20 _ _ hI ) Fr.rf (fun v47 s49 is49 fs49 h48 => ?_)
        dsimp only
        unfold f_X3_parseType_49
        try dsimp only
        refine OK.ieq (fun h50 => ?_) (fun h50 => ?_)
        · skip
          refine OK.bndW (k_X6_refuse _ _ is49 ) fs49 (fun v51 s53 is53 fs53 h52 => ?_)
          dsimp only
          exact OK.wret is53 fs53 (by first | trivial | omega | exact hI.flds _ | exact hI.dflds _ | exact hI.recs _ | exact hI.drecs _ | exact hI.droot _ | omega)
        · skip
          refine OK.ieq (fun h54 => ?_) (fun h54 => ?_)
          · skip
            refine OK.ieq (fun h55 => ?_) (fun h55 => ?_)
            · skip
              refine OK.bndS (k_X5_setAsked_20 _ _ _ _ is49 ) fs49 (fun s56 is56 fs56 => ?_)
              try dsimp only
              unfold f_X3_parseType_116
              try dsimp only
              refine OK.bndS (k_X6_advance _ is56 ) fs56 (fun s57 is57 fs57 => ?_)
              try dsimp only
              refine OK.ieq (fun h58 => ?_) (fun h58 => ?_)
              · skip
                refine OK.bndW (hr_X3_parseBranches _ _ _ is57 (by omega)) fs57 (fun v59 s61 is61 fs61 h60 => ?_)
                dsimp only
                refine OK.ieq (fun h62 => ?_) (fun h62 => ?_)
                · skip
                  exact OK.wret is61 fs61 (by first | trivial | omega | exact hI.flds _ | exact hI.dflds _ | exact hI.recs _ | exact hI.drecs _ | exact hI.droot _ | omega)
                · skip
                  exact OK.wret is61 fs61 (by first | trivial | omega | exact hI.flds _ | exact hI.dflds _ | exact hI.recs _ | exact hI.drecs _ | exact hI.droot _ | omega)
              · skip
                refine OK.ieq (fun h63 => ?_) (fun h63 => ?_)
                · skip
                  obtain ⟨a64k, a64, a64l, a64r⟩ := i_add p0 1
                  try (refine k0el (k := a64k) ?_ (fun e0 => ?_); (focus omega); subst e0)
                  refine OK.bndW (hr_X3_parseType _ _ _ is57 (by omega)) fs57 (fun v65 s67 is67 fs67 h66 => ?_)
                  dsimp only
                  refine OK.bndS (k_X5_setInner_20 _ _ _ is67 ) fs67 (fun s68 is68 fs68 => ?_)
                  try dsimp only
                  refine OK.ieq (fun h69 => ?_) (fun h69 => ?_)
                  · skip
                    exact OK.wret is68 fs68 (by first | trivial | omega | exact hI.flds _ | exact hI.dflds _ | exact hI.recs _ | exact hI.drecs _ | exact hI.droot _ | omega)
                  · skip
                    exact OK.wret is68 fs68 (by first | trivial | omega | exact hI.flds _ | exact hI.dflds _ | exact hI.recs _ | exact hI.drecs _ | exact hI.droot _ | omega)
                · skip
                  exact OK.wret is57 fs57 (by first | trivial | omega | exact hI.flds _ | exact hI.dflds _ | exact hI.recs _ | exact hI.drecs _ | exact hI.droot _ | omega)
            · skip
              unfold f_X3_parseType_116
              try dsimp only
              refine OK.bndS (k_X6_advance _ is49 ) fs49 (fun s70 is70 fs70 => ?_)
              try dsimp only
              refine OK.ieq (fun h71 => ?_) (fun h71 => ?_)
              · skip
                refine OK.bndW (hr_X3_parseBranches _ _ _ is70 (by omega)) fs70 (fun v72 s74 is74 fs74 h73 => ?_)
                dsimp only
                refine OK.ieq (fun h75 => ?_) (fun h75 => ?_)
                · skip
                  exact OK.wret is74 fs74 (by first | trivial | omega | exact hI.flds _ | exact hI.dflds _ | exact hI.recs _ | exact hI.drecs _ | exact hI.droot _ | omega)
                · skip
                  exact OK.wret is74 fs74 (by first | trivial | omega | exact hI.flds _ | exact hI.dflds _ | exact hI.recs _ | exact hI.drecs _ | exact hI.droot _ | omega)
              · skip
                refine OK.ieq (fun h76 => ?_) (fun h76 => ?_)
                · skip
                  obtain ⟨a77k, a77, a77l, a77r⟩ := i_add p0 1
                  try (refine k0el (k := a77k) ?_ (fun e0 => ?_); (focus omega); subst e0)
                  refine OK.bndW (hr_X3_parseType _ _ _ is70 (by omega)) fs70 (fun v78 s80 is80 fs80 h79 => ?_)
                  dsimp only
                  refine OK.bndS (k_X5_setInner_20 _ _ _ is80 ) fs80 (fun s81 is81 fs81 => ?_)
                  try dsimp only
                  refine OK.ieq (fun h82 => ?_) (fun h82 => ?_)
                  · skip
                    exact OK.wret is81 fs81 (by first | trivial | omega | exact hI.flds _ | exact hI.dflds _ | exact hI.recs _ | exact hI.drecs _ | exact hI.droot _ | omega)
                  · skip
                    exact OK.wret is81 fs81 (by first | trivial | omega | exact hI.flds _ | exact hI.dflds _ | exact hI.recs _ | exact hI.drecs _ | exact hI.droot _ | omega)
                · skip
                  exact OK.wret is70 fs70 (by first | trivial | omega | exact hI.flds _ | exact hI.dflds _ | exact hI.recs _ | exact hI.drecs _ | exact hI.droot _ | omega)
          · skip
            refine OK.bndW (k_X6_refuse _ _ is49 ) fs49 (fun v83 s85 is85 fs85 h84 => ?_)
            dsimp only
            exact OK.wret is85 fs85 (by first | trivial | omega | exact hI.flds _ | exact hI.dflds _ | exact hI.recs _ | exact hI.drecs _ | exact hI.droot _ | omega)
      · skip
        unfold f_X3_parseType_37
        try dsimp only
        unfold f_X3_parseType_49
        try dsimp only
        refine OK.ieq (fun h86 => ?_) (fun h86 => ?_)
        · skip
          refine OK.bndW (k_X6_refuse _ _ hI ) Fr.rf (fun v87 s89 is89 fs89 h88 => ?_)
          dsimp only
          exact OK.wret is89 fs89 (by first | trivial | omega | exact hI.flds _ | exact hI.dflds _ | exact hI.recs _ | exact hI.drecs _ | exact hI.droot _ | omega)
        · skip
          refine OK.ieq (fun h90 => ?_) (fun h90 => ?_)
          · skip
            refine OK.ieq (fun h91 => ?_) (fun h91 => ?_)
            · skip
              refine OK.bndS (k_X5_setAsked_20 _ _ _ _ hI ) Fr.rf (fun s92 is92 fs92 => ?_)
              try dsimp only
              unfold f_X3_parseType_116
              try dsimp only
              refine OK.bndS (k_X6_advance _ is92 ) fs92 (fun s93 is93 fs93 => ?_)
              try dsimp only
              refine OK.ieq (fun h94 => ?_) (fun h94 => ?_)
              · skip
                refine OK.bndW (hr_X3_parseBranches _ _ _ is93 (by omega)) fs93 (fun v95 s97 is97 fs97 h96 => ?_)
                dsimp only
                refine OK.ieq (fun h98 => ?_) (fun h98 => ?_)
                · skip
                  exact OK.wret is97 fs97 (by first | trivial | omega | exact hI.flds _ | exact hI.dflds _ | exact hI.recs _ | exact hI.drecs _ | exact hI.droot _ | omega)
                · skip
                  exact OK.wret is97 fs97 (by first | trivial | omega | exact hI.flds _ | exact hI.dflds _ | exact hI.recs _ | exact hI.drecs _ | exact hI.droot _ | omega)
              · skip
                refine OK.ieq (fun h99 => ?_) (fun h99 => ?_)
                · skip
                  obtain ⟨a100k, a100, a100l, a100r⟩ := i_add p0 1
                  try (refine k0el (k := a100k) ?_ (fun e0 => ?_); (focus omega); subst e0)
                  refine OK.bndW (hr_X3_parseType _ _ _ is93 (by omega)) fs93 (fun v101 s103 is103 fs103 h102 => ?_)
                  dsimp only
                  refine OK.bndS (k_X5_setInner_20 _ _ _ is103 ) fs103 (fun s104 is104 fs104 => ?_)
                  try dsimp only
                  refine OK.ieq (fun h105 => ?_) (fun h105 => ?_)
                  · skip
                    exact OK.wret is104 fs104 (by first | trivial | omega | exact hI.flds _ | exact hI.dflds _ | exact hI.recs _ | exact hI.drecs _ | exact hI.droot _ | omega)
                  · skip
                    exact OK.wret is104 fs104 (by first | trivial | omega | exact hI.flds _ | exact hI.dflds _ | exact hI.recs _ | exact hI.drecs _ | exact hI.droot _ | omega)
                · skip
                  exact OK.wret is93 fs93 (by first | trivial | omega | exact hI.flds _ | exact hI.dflds _ | exact hI.recs _ | exact hI.drecs _ | exact hI.droot _ | omega)
            · skip
              unfold f_X3_parseType_116
              try dsimp only
              refine OK.bndS (k_X6_advance _ hI ) Fr.rf (fun s106 is106 fs106 => ?_)
              try dsimp only
              refine OK.ieq (fun h107 => ?_) (fun h107 => ?_)
              · skip
                refine OK.bndW (hr_X3_parseBranches _ _ _ is106 (by omega)) fs106 (fun v108 s110 is110 fs110 h109 => ?_)
                dsimp only
                refine OK.ieq (fun h111 => ?_) (fun h111 => ?_)
                · skip
                  exact OK.wret is110 fs110 (by first | trivial | omega | exact hI.flds _ | exact hI.dflds _ | exact hI.recs _ | exact hI.drecs _ | exact hI.droot _ | omega)
                · skip
                  exact OK.wret is110 fs110 (by first | trivial | omega | exact hI.flds _ | exact hI.dflds _ | exact hI.recs _ | exact hI.drecs _ | exact hI.droot _ | omega)
              · skip
                refine OK.ieq (fun h112 => ?_) (fun h112 => ?_)
                · skip
                  obtain ⟨a113k, a113, a113l, a113r⟩ := i_add p0 1
                  try (refine k0el (k := a113k) ?_ (fun e0 => ?_); (focus omega); subst e0)
                  refine OK.bndW (hr_X3_parseType _ _ _ is106 (by omega)) fs106 (fun v114 s116 is116 fs116 h115 => ?_)
                  dsimp only
                  refine OK.bndS (k_X5_setInner_20 _ _ _ is116 ) fs116 (fun s117 is117 fs117 => ?_)
                  try dsimp only
                  refine OK.ieq (fun h118 => ?_) (fun h118 => ?_)
                  · skip
                    exact OK.wret is117 fs117 (by first | trivial | omega | exact hI.flds _ | exact hI.dflds _ | exact hI.recs _ | exact hI.drecs _ | exact hI.droot _ | omega)
                  · skip
                    exact OK.wret is117 fs117 (by first | trivial | omega | exact hI.flds _ | exact hI.dflds _ | exact hI.recs _ | exact hI.drecs _ | exact hI.droot _ | omega)
                · skip
                  exact OK.wret is106 fs106 (by first | trivial | omega | exact hI.flds _ | exact hI.dflds _ | exact hI.recs _ | exact hI.drecs _ | exact hI.droot _ | omega)
          · skip
            refine OK.bndW (k_X6_refuse _ _ hI ) Fr.rf (fun v119 s121 is121 fs121 h120 => ?_)
            dsimp only
            exact OK.wret is121 fs121 (by first | trivial | omega | exact hI.flds _ | exact hI.dflds _ | exact hI.recs _ | exact hI.drecs _ | exact hI.droot _ | omega)

theorem kR_X3_parseBranches : ∀ n : Nat, (∀ (p0 : Int32) (p1 : Int32) (σ : ST), IA σ → 0 ≤ p1.toInt ∧ p1.toInt ≤ 3 ∧ (9 : Int) ≤ (n : Nat) + 2 * p1.toInt → OK ((R_X3_parseBranches n).1 p0 p1 σ) (RW σ fun v => v.toInt = 0 ∨ v.toInt = 1)) ∧ (∀ (p0 : Int32) (p1 : Int32) (σ : ST), IA σ → 0 ≤ p0.toInt ∧ p0.toInt ≤ 4 ∧ (10 : Int) ≤ (n : Nat) + 2 * p0.toInt → OK ((R_X3_parseBranches n).2 p0 p1 σ) (RW σ fun v => True)) := by
  intro n
  induction n with
  | zero =>
    refine ⟨?_, ?_⟩
    · intro p0 p1 σ hI hv; omega
    · intro p0 p1 σ hI hv; omega
  | succ n ih =>
    obtain ⟨ih0, ih1⟩ := ih
    refine ⟨?_, ?_⟩
    · intro p0 p1 σ hI hv; exact k_X3_parseBranches (N0 := n) ih0 ih1 p0 p1 σ hI (by omega)
    · intro p0 p1 σ hI hv; exact k_X3_parseType (N0 := n) ih0 ih1 p0 p1 σ hI (by omega)
theorem kT_X3_parseBranches (p0 : Int32) (p1 : Int32) (σ : ST) (hI : IA σ) (hv : 0 ≤ p1.toInt ∧ p1.toInt ≤ 3 ∧ (9 : Int) ≤ (FR : Nat) + 2 * p1.toInt) : OK (f_T_X3_parseBranches p0 p1 σ) (RW σ fun v => v.toInt = 0 ∨ v.toInt = 1) := (kR_X3_parseBranches FR).1 p0 p1 σ hI hv
theorem kT_X3_parseType (p0 : Int32) (p1 : Int32) (σ : ST) (hI : IA σ) (hv : 0 ≤ p0.toInt ∧ p0.toInt ≤ 4 ∧ (10 : Int) ≤ (FR : Nat) + 2 * p0.toInt) : OK (f_T_X3_parseType p0 p1 σ) (RW σ fun v => True) := (kR_X3_parseBranches FR).2 p0 p1 σ hI hv

theorem k_X5_addField_20 (p0 : Int32) (p1 : Int64) (σ : ST) (hI : IA σ) : OK (f_X5_addField 20 p0 p1 σ) (RS σ) := by
  unfold f_X5_addField
  have lt_0 := li_0
  have lt_1 := li_1
  refine OK.bndR (k_X5_fieldsOf_20 _ _ hI) (fun v h1 => ?_)
  dsimp only
  refine OK.bndR (k_X5_isFieldOf _ _ _ hI) (fun w h2 => ?_)
  dsimp only
  refine OK.ieq (fun _ => OK.sret hI Fr.rf) (fun h3 => ?_)
  obtain ⟨ak, a, al, ar⟩ := i_mul p0 8
  rw [li_8] at a
  try (refine k0el (k := ak) ?_ (fun e0 => ?_); (focus omega); subst e0)
  obtain ⟨bk, b, bl, br⟩ := i_add (p0 * 8) v
  try (refine k0el (k := bk) ?_ (fun e0 => ?_); (focus omega); subst e0)
  refine OK.grd ⟨by omega, by omega⟩ ?_
  refine OK.lt (fun z6 e6 => ?_)
  refine OK.lt (fun z7 e7 => ?_)
  have i7 : IA z7 := by rw [e7, e6]; exact ia_L (ia_I_29 (ia_L (ia_L hI)))
  have f7 : Fr σ z7 := by rw [e7, e6]; exact fr_L (fr_I_29 (fr_L (fr_L Fr.rf)))
  have e : z7.1 (20 + 3) p0.toNatClampNeg = σ.1 (20 + 3) p0.toNatClampNeg := by rw [e7, e6]; rfl
  refine OK.grd ⟨by omega, by omega⟩ ?_
  obtain ⟨ck, c, cl, cr⟩ := i_add (σ.1 (20 + 3) p0.toNatClampNeg) 1
  try (refine k0el (k := ck) ?_ (fun e0 => ?_); (focus omega); subst e0)
  exact OK.sret (ia_J_23 i7 (by rw [e]; exact ⟨by omega, by omega⟩)) (fr_I_23 f7)


theorem k_X5_setType_20 (p0 : Int32) (p1 : Int32) (p2 : Int32) (σ : ST) (hI : IA σ)  : OK (f_X5_setType 20 p0 p1 p2 σ) (RS σ) := by
  unfold f_X5_setType
  have lt_0 := li_0
  have lt_1 := li_1
  have lt_8 := li_8
  have lFU : ((FU : Nat) : Int) = 100000 := rfl
  refine OK.bndR (k_X5_isFieldOf _ _ _ hI ) (fun v1 h2 => ?_)
  dsimp only
  refine OK.ieq (fun h3 => ?_) (fun h3 => ?_)
  · skip
    exact OK.sret hI Fr.rf
  · skip
    obtain ⟨a4k, a4, a4l, a4r⟩ := i_mul p0 8
    rw [li_8] at a4
    try (refine k0el (k := a4k) ?_ (fun e0 => ?_); (focus omega); subst e0)
    obtain ⟨a5k, a5, a5l, a5r⟩ := i_add (p0 * 8) p1
    try (refine k0el (k := a5k) ?_ (fun e0 => ?_); (focus omega); subst e0)
    refine OK.grd ⟨by omega, by omega⟩ ?_
    exact OK.sret (ia_I_29 hI) (fr_I_29 Fr.rf)

theorem k_X3_parseField (p0 : Int32) (p1 : Int32) (σ : ST) (hI : IA σ)  : OK (f_X3_parseField  p0 p1 σ) (RW σ fun v => v.toInt = 0 ∨ v.toInt = 1) := by
  unfold f_X3_parseField
  have lt_m1 := li_m1
  have lt_0 := li_0
  have lt_1 := li_1
  have lt_3 := li_3
  have lt_4 := li_4
  have lt_8 := li_8
  have lFU : ((FU : Nat) : Int) = 100000 := rfl
  have lFR : ((FR : Nat) : Int) = 160 := rfl
  refine OK.ieq (fun h1 => ?_) (fun h1 => ?_)
  · skip
    refine OK.bndR (k_X5_fieldNamed_20 _ _ _ hI ) (fun v2 h3 => ?_)
    dsimp only
    refine OK.ieq (fun h4 => ?_) (fun h4 => ?_)
    · skip
      refine OK.ilt (fun h5 => ?_) (fun h5 => ?_)
      · skip
        refine OK.bndS (k_X5_addField_20 _ _ _ hI ) Fr.rf (fun s6 is6 fs6 => ?_)
        try dsimp only
        refine OK.bndS (k_X6_advance _ is6 ) fs6 (fun s7 is7 fs7 => ?_)
        try dsimp only
        refine OK.bndW (kT_X3_parseType _ _ _ is7 (by omega)) fs7 (fun v8 s10 is10 fs10 h9 => ?_)
        dsimp only
        refine OK.ieq (fun h11 => ?_) (fun h11 => ?_)
        · skip
          exact OK.wret is10 fs10 (by first | trivial | omega | exact hI.flds _ | exact hI.dflds _ | exact hI.recs _ | exact hI.drecs _ | exact hI.droot _ | omega)
        · skip
          refine OK.bndS (k_X5_setType_20 _ _ _ _ is10 ) fs10 (fun s12 is12 fs12 => ?_)
          try dsimp only
          refine OK.bndW (k_X3_parseFormerName _ _ _ is12 ) fs12 (fun v13 s15 is15 fs15 h14 => ?_)
          dsimp only
          refine OK.ieq (fun h16 => ?_) (fun h16 => ?_)
          · skip
            exact OK.wret is15 fs15 (by first | trivial | omega | exact hI.flds _ | exact hI.dflds _ | exact hI.recs _ | exact hI.drecs _ | exact hI.droot _ | omega)
          · skip
            refine OK.bndW (k_X3_parseElse _ _ _ is15 ) fs15 (fun v17 s19 is19 fs19 h18 => ?_)
            dsimp only
            refine OK.ieq (fun h20 => ?_) (fun h20 => ?_)
            · skip
              exact OK.wret is19 fs19 (by first | trivial | omega | exact hI.flds _ | exact hI.dflds _ | exact hI.recs _ | exact hI.drecs _ | exact hI.droot _ | omega)
            · skip
              exact OK.wret is19 fs19 (by first | trivial | omega | exact hI.flds _ | exact hI.dflds _ | exact hI.recs _ | exact hI.drecs _ | exact hI.droot _ | omega)
      · skip
        refine OK.bndW (k_X6_refuse _ _ hI ) Fr.rf (fun v21 s23 is23 fs23 h22 => ?_)
        dsimp only
        refine OK.grd (b01 (by omega)) ?_
        exact OK.wret is23 fs23 (by first | trivial | omega | exact hI.flds _ | exact hI.dflds _ | exact hI.recs _ | exact hI.drecs _ | exact hI.droot _ | omega)
    · skip
      refine OK.bndW (k_X6_refuse _ _ hI ) Fr.rf (fun v24 s26 is26 fs26 h25 => ?_)
      dsimp only
      refine OK.grd (b01 (by omega)) ?_
      exact OK.wret is26 fs26 (by first | trivial | omega | exact hI.flds _ | exact hI.dflds _ | exact hI.recs _ | exact hI.drecs _ | exact hI.droot _ | omega)
  · skip
    refine OK.bndW (k_X6_refuse _ _ hI ) Fr.rf (fun v27 s29 is29 fs29 h28 => ?_)
    dsimp only
    refine OK.grd (b01 (by omega)) ?_
    exact OK.wret is29 fs29 (by first | trivial | omega | exact hI.flds _ | exact hI.dflds _ | exact hI.recs _ | exact hI.drecs _ | exact hI.droot _ | omega)

theorem k_X5_addRecord_20 (p0 : Int32) (p1 : Int64) (σ : ST) (hI : IA σ) : OK (f_X5_addRecord 20 p0 p1 σ) (RS σ) := by
  unfold f_X5_addRecord
  have lt_0 := li_0
  have lt_1 := li_1
  have lt_6 := li_6
  refine OK.bndR (k_X5_recordsOf_20 _ _ hI) (fun v h1 => ?_)
  dsimp only
  refine OK.ilt (fun _ => OK.sret hI Fr.rf) (fun h2 => ?_)
  refine OK.ile (fun _ => OK.sret hI Fr.rf) (fun h3 => ?_)
  obtain ⟨ak, a, al, ar⟩ := i_mul p0 6
  rw [li_6] at a
  try (refine k0el (k := ak) ?_ (fun e0 => ?_); (focus omega); subst e0)
  obtain ⟨bk, b, bl, br⟩ := i_add (p0 * 6) v
  try (refine k0el (k := bk) ?_ (fun e0 => ?_); (focus omega); subst e0)
  refine OK.bndR (k_X5_isRecord _ _ hI) (fun w h4 => ?_)
  dsimp only
  refine OK.ieq (fun _ => OK.sret hI Fr.rf) (fun h5 => ?_)
  refine OK.grd ⟨by omega, by omega⟩ ?_
  refine OK.lt (fun z6 e6 => ?_)
  have i6 : IA z6 := by rw [e6]; exact ia_J_23 (ia_L hI) ⟨by decide, by decide⟩
  have f6 : Fr σ z6 := by rw [e6]; exact fr_I_23 (fr_L Fr.rf)
  have e : z6.1 (20 + 1) p0.toNatClampNeg = σ.1 (20 + 1) p0.toNatClampNeg := by rw [e6]; rfl
  refine OK.grd ⟨by omega, by omega⟩ ?_
  refine OK.lt (fun z8 e8 => ?_)
  obtain ⟨ck, c, cl, cr⟩ := i_add (σ.1 (20 + 1) p0.toNatClampNeg) 1
  try (refine k0el (k := ck) ?_ (fun e0 => ?_); (focus omega); subst e0)
  have i8 : IA z8 := by
    rw [e8]
    exact ia_J_21 (ia_I_25 i6) (show bI (z6.1 (20 + 1) p0.toNatClampNeg + 1) 0 36 from by rw [e]; exact ⟨by omega, by omega⟩)
  have f8 : Fr σ z8 := by rw [e8]; exact fr_I_21 (fr_I_25 f6)
  exact OK.sret i8 f8


theorem k_X5_recordNamed_3_20 : ∀ (n : Nat) (x1 : Int32) (x2 : Int64) (x4 : Int32) (σ : ST), IA σ → (0 ≤ x4.toInt ∧ x4.toInt ≤ 36 ∧ (36 : Int) - x4.toInt < n) → OK (f_X5_recordNamed_3 20 n x1 x2 x4 σ) (RO σ fun v => True) := by
  intro n
  induction n with
  | zero =>
    intro x1 x2 x4 σ hI hv
    omega
  | succ n ih =>
    intro x1 x2 x4 σ hI hv
    rw [f_X5_recordNamed_3]
    have lt_m1 := li_m1
    have lt_0 := li_0
    have lt_1 := li_1
    have lt_6 := li_6
    have lFU : ((FU : Nat) : Int) = 100000 := rfl
    refine OK.bndR (k_X5_recordsOf_20 _ _ hI ) (fun v1 h2 => ?_)
    dsimp only
    refine OK.ile (fun h3 => ?_) (fun h3 => ?_)
    · skip
      exact OK.roret (by first | trivial | omega | exact hI.flds _ | exact hI.dflds _ | exact hI.recs _ | exact hI.drecs _ | exact hI.droot _ | omega)
    · skip
      refine OK.bndR (k_X5_recordName_20 _ _ hI ) (fun v4 h5 => ?_)
      dsimp only
      refine OK.ieq (fun h6 => ?_) (fun h6 => ?_)
      · skip
        exact OK.roret (by first | trivial | omega | exact hI.flds _ | exact hI.dflds _ | exact hI.recs _ | exact hI.drecs _ | exact hI.droot _ | omega)
      · skip
        obtain ⟨a7k, a7, a7l, a7r⟩ := i_add x4 1
        try (refine k0el (k := a7k) ?_ (fun e0 => ?_); (focus omega); subst e0)
        exact OK.roq (ih _ _ _ _ hI (by omega)) (fun v hv => by first | trivial | omega | exact hI.flds _ | exact hI.dflds _ | exact hI.recs _ | exact hI.drecs _ | exact hI.droot _ | omega)

theorem k_X5_recordNamed_20 (p0 : Int32) (p1 : Int64) (σ : ST) (hI : IA σ)  : OK (f_X5_recordNamed 20 p0 p1 σ) (RO σ fun v => True) := by
  unfold f_X5_recordNamed
  have lt_0 := li_0
  have lt_1 := li_1
  have lFU : ((FU : Nat) : Int) = 100000 := rfl
  exact OK.roq (k_X5_recordNamed_3_20 FU _ _ _ _ hI (by omega)) (fun v hv => by first | trivial | omega | exact hI.flds _ | exact hI.dflds _ | exact hI.recs _ | exact hI.drecs _ | exact hI.droot _ | omega)

theorem k_X3_parseRecord_108 : ∀ (n : Nat) (x2 : Int32) (x3 : Int32) (σ : ST), IA σ → (0 ≤ x3.toInt ∧ x3.toInt ≤ 9 ∧ (9 : Int) - x3.toInt < n) → OK (f_X3_parseRecord_108  n x2 x3 σ) (RW σ fun v => v.toInt = 0 ∨ v.toInt = 1) := by
  intro n
  induction n with
  | zero =>
    intro x2 x3 σ hI hv
    omega
  | succ n ih =>
    intro x2 x3 σ hI hv
    rw [f_X3_parseRecord_108]
    have lt_0 := li_0
    have lt_1 := li_1
    have lt_8 := li_8
    have lt_44 := li_44
    have lt_59 := li_59
    have lFU : ((FU : Nat) : Int) = 100000 := rfl
    refine OK.ilt (fun h1 => ?_) (fun h1 => ?_)
    · skip
      exact OK.wret hI Fr.rf (by first | trivial | omega | exact hI.flds _ | exact hI.dflds _ | exact hI.recs _ | exact hI.drecs _ | exact hI.droot _ | omega)
    · skip
      refine OK.bndS (k_X6_advance _ hI ) Fr.rf (fun s2 is2 fs2 => ?_)
      try dsimp only
      refine OK.bndW (k_X3_parseField _ _ _ is2 ) fs2 (fun v3 s5 is5 fs5 h4 => ?_)
      dsimp only
      refine OK.ieq (fun h6 => ?_) (fun h6 => ?_)
      · skip
        exact OK.wret is5 fs5 (by first | trivial | omega | exact hI.flds _ | exact hI.dflds _ | exact hI.recs _ | exact hI.drecs _ | exact hI.droot _ | omega)
      · skip
        refine OK.ieq (fun h7 => ?_) (fun h7 => ?_)
        · skip
          refine OK.bndS (k_X6_advance _ is5 ) fs5 (fun s8 is8 fs8 => ?_)
          try dsimp only
          exact OK.wret is8 fs8 (by first | trivial | omega | exact hI.flds _ | exact hI.dflds _ | exact hI.recs _ | exact hI.drecs _ | exact hI.droot _ | omega)
        · skip
          refine OK.ieq (fun h9 => ?_) (fun h9 => ?_)
          · skip
            obtain ⟨a10k, a10, a10l, a10r⟩ := i_add x3 1
            try (refine k0el (k := a10k) ?_ (fun e0 => ?_); (focus omega); subst e0)
            exact OK.trW (ih _ _ _ is5 (by omega)) fs5 (fun v hv => by first | trivial | omega | exact hI.flds _ | exact hI.dflds _ | exact hI.recs _ | exact hI.drecs _ | exact hI.droot _ | omega)
          · skip
            refine OK.bndW (k_X6_refuse _ _ is5 ) fs5 (fun v11 s13 is13 fs13 h12 => ?_)
            dsimp only
            refine OK.grd (b01 (by omega)) ?_
            exact OK.wret is13 fs13 (by first | trivial | omega | exact hI.flds _ | exact hI.dflds _ | exact hI.recs _ | exact hI.drecs _ | exact hI.droot _ | omega)

theorem k_X3_parseRecord (p0 : Int32) (σ : ST) (hI : IA σ)  : OK (f_X3_parseRecord  p0 σ) (RW σ fun v => v.toInt = 0 ∨ v.toInt = 1) := by
  unfold f_X3_parseRecord
  have lt_m1 := li_m1
  have lt_0 := li_0
  have lt_1 := li_1
  have lt_3 := li_3
  have lt_4 := li_4
  have lt_6 := li_6
  have lFU : ((FU : Nat) : Int) = 100000 := rfl
  refine OK.bndR (k_X5_recordsOf_20 _ _ hI ) (fun v1 h2 => ?_)
  dsimp only
  refine OK.ilt (fun h3 => ?_) (fun h3 => ?_)
  · skip
    refine OK.bndS (k_X6_advance _ hI ) Fr.rf (fun s4 is4 fs4 => ?_)
    try dsimp only
    refine OK.ieq (fun h5 => ?_) (fun h5 => ?_)
    · skip
      refine OK.bndR (k_X5_recordNamed_20 _ _ _ is4 ) (fun v6 h7 => ?_)
      dsimp only
      refine OK.ieq (fun h8 => ?_) (fun h8 => ?_)
      · skip
        refine OK.bndR (k_X5_recordsOf_20 _ _ is4 ) (fun v9 h10 => ?_)
        dsimp only
        refine OK.bndS (k_X5_addRecord_20 _ _ _ is4 ) fs4 (fun s11 is11 fs11 => ?_)
        try dsimp only
        obtain ⟨a12k, a12, a12l, a12r⟩ := i_mul p0 6
        rw [li_6] at a12
        try (refine k0el (k := a12k) ?_ (fun e0 => ?_); (focus omega); subst e0)
        obtain ⟨a13k, a13, a13l, a13r⟩ := i_add (p0 * 6) v9
        try (refine k0el (k := a13k) ?_ (fun e0 => ?_); (focus omega); subst e0)
        exact OK.trW (k_X3_parseRecord_108 FU _ _ _ is11 (by omega)) fs11 (fun v hv => by first | trivial | omega | exact hI.flds _ | exact hI.dflds _ | exact hI.recs _ | exact hI.drecs _ | exact hI.droot _ | omega)
      · skip
        refine OK.bndW (k_X6_refuse _ _ is4 ) fs4 (fun v14 s16 is16 fs16 h15 => ?_)
        dsimp only
        refine OK.grd (b01 (by omega)) ?_
        exact OK.wret is16 fs16 (by first | trivial | omega | exact hI.flds _ | exact hI.dflds _ | exact hI.recs _ | exact hI.drecs _ | exact hI.droot _ | omega)
    · skip
      refine OK.bndW (k_X6_refuse _ _ is4 ) fs4 (fun v17 s19 is19 fs19 h18 => ?_)
      dsimp only
      refine OK.grd (b01 (by omega)) ?_
      exact OK.wret is19 fs19 (by first | trivial | omega | exact hI.flds _ | exact hI.dflds _ | exact hI.recs _ | exact hI.drecs _ | exact hI.droot _ | omega)
  · skip
    refine OK.bndW (k_X6_refuse _ _ hI ) Fr.rf (fun v20 s22 is22 fs22 h21 => ?_)
    dsimp only
    refine OK.grd (b01 (by omega)) ?_
    exact OK.wret is22 fs22 (by first | trivial | omega | exact hI.flds _ | exact hI.dflds _ | exact hI.recs _ | exact hI.drecs _ | exact hI.droot _ | omega)

theorem k_X5_askedPlace_20 (p0 : Int32) (σ : ST) (hI : IA σ)  : OK (f_X5_askedPlace 20 p0 σ) (RO σ fun v => True) := by
  unfold f_X5_askedPlace
  have lt_0 := li_0
  have lt_1 := li_1
  have lFU : ((FU : Nat) : Int) = 100000 := rfl
  refine OK.bndR (k_X5_isType_20 _ _ hI ) (fun v1 h2 => ?_)
  dsimp only
  refine OK.ieq (fun h3 => ?_) (fun h3 => ?_)
  · skip
    exact OK.roret (by first | trivial | omega | exact hI.flds _ | exact hI.dflds _ | exact hI.recs _ | exact hI.drecs _ | exact hI.droot _ | omega)
  · skip
    refine OK.grd ⟨by omega, by omega⟩ ?_
    exact OK.roret (by first | trivial | omega | exact hI.flds _ | exact hI.dflds _ | exact hI.recs _ | exact hI.drecs _ | exact hI.droot _ | omega)

theorem k_X5_resolve_6_20 : ∀ (n : Nat) (x1 : Int32) (x2 : Int32) (σ : ST), IA σ → (-1 ≤ x2.toInt ∧ (263 : Int) - x2.toInt ≤ n ∧ (0 : Int) < n) → OK (f_X5_resolve_6 20 n x1 x2 σ) (RW σ fun v => True) := by
  intro n
  induction n with
  | zero =>
    intro x1 x2 σ hI hv
    omega
  | succ n ih =>
    intro x1 x2 σ hI hv
    rw [f_X5_resolve_6]
    have lt_m1 := li_m1
    have lt_0 := li_0
    have lt_1 := li_1
    have lFU : ((FU : Nat) : Int) = 100000 := rfl
    have g0 : 0 ≤ (σ.1 20 1).toInt ∧ (σ.1 20 1).toInt ≤ 262 := hI.dtypes
    have g1 : 0 ≤ (σ.1 20 1).toInt ∧ (σ.1 20 1).toInt ≤ 262 := hI.dtypes
    refine OK.ile (fun h2 => ?_) (fun h2 => ?_)
    · skip
      exact OK.wret hI Fr.rf (by first | trivial | omega | exact hI.flds _ | exact hI.dflds _ | exact hI.recs _ | exact hI.drecs _ | exact hI.droot _ | omega)
    · skip
      refine OK.bndR (k_X5_isType_20 _ _ hI ) (fun v3 h4 => ?_)
      dsimp only
      refine OK.ieq (fun h5 => ?_) (fun h5 => ?_)
      · skip
        unfold f_X5_resolve_62
        try dsimp only
        obtain ⟨a6k, a6, a6l, a6r⟩ := i_add x2 1
        try (refine k0el (k := a6k) ?_ (fun e0 => ?_); (focus omega); subst e0)
        exact OK.trW (ih _ _ _ hI (by omega)) Fr.rf (fun v hv => by first | trivial | omega | exact hI.flds _ | exact hI.dflds _ | exact hI.recs _ | exact hI.drecs _ | exact hI.droot _ | omega)
      · skip
        refine OK.grd ⟨by omega, by omega⟩ ?_
        refine OK.ieq (fun h7 => ?_) (fun h7 => ?_)
        · skip
          unfold f_X5_resolve_62
          try dsimp only
          obtain ⟨a8k, a8, a8l, a8r⟩ := i_add x2 1
          try (refine k0el (k := a8k) ?_ (fun e0 => ?_); (focus omega); subst e0)
          exact OK.trW (ih _ _ _ hI (by omega)) Fr.rf (fun v hv => by first | trivial | omega | exact hI.flds _ | exact hI.dflds _ | exact hI.recs _ | exact hI.drecs _ | exact hI.droot _ | omega)
        · skip
          refine OK.bndR (k_X5_recordNamed_20 _ _ _ hI ) (fun v9 h10 => ?_)
          dsimp only
          refine OK.ieq (fun h11 => ?_) (fun h11 => ?_)
          · skip
            exact OK.wret (ia_I_32 hI) (fr_I_32 Fr.rf) (by first | trivial | omega | exact hI.flds _ | exact hI.dflds _ | exact hI.recs _ | exact hI.drecs _ | exact hI.droot _ | omega)
          · skip
            unfold f_X5_resolve_62
            try dsimp only
            obtain ⟨a12k, a12, a12l, a12r⟩ := i_add x2 1
            try (refine k0el (k := a12k) ?_ (fun e0 => ?_); (focus omega); subst e0)
            exact OK.trW (ih _ _ _ (ia_I_32 hI) (by omega)) (fr_I_32 Fr.rf) (fun v hv => by first | trivial | omega | exact hI.flds _ | exact hI.dflds _ | exact hI.recs _ | exact hI.drecs _ | exact hI.droot _ | omega)

theorem k_X5_resolve_20 (p0 : Int32) (σ : ST) (hI : IA σ)  : OK (f_X5_resolve 20 p0 σ) (RW σ fun v => True) := by
  unfold f_X5_resolve
  have lt_0 := li_0
  have lt_1 := li_1
  have lFU : ((FU : Nat) : Int) = 100000 := rfl
  refine OK.bndR (k_X5_rootType_20 _ _ hI ) (fun v1 h2 => ?_)
  dsimp only
  exact OK.trW (k_X5_resolve_6_20 FU _ _ _ hI (by omega)) Fr.rf (fun v hv => by first | trivial | omega | exact hI.flds _ | exact hI.dflds _ | exact hI.recs _ | exact hI.drecs _ | exact hI.droot _ | omega)

theorem k_X3_resolve_33 (σ : ST) (hI : IA σ)  : OK (f_X3_resolve_33  σ) (RO σ fun v => v.toInt = 0 ∨ v.toInt = 1) := by
  unfold f_X3_resolve_33
  have lt_0 := li_0
  have lt_1 := li_1
  have lFU : ((FU : Nat) : Int) = 100000 := rfl
  exact OK.roret (by first | trivial | omega | exact hI.flds _ | exact hI.dflds _ | exact hI.recs _ | exact hI.drecs _ | exact hI.droot _ | omega)

theorem k_X3_resolve (p0 : Int32) (σ : ST) (hI : IA σ)  : OK (f_X3_resolve  p0 σ) (RW σ fun v => v.toInt = 0 ∨ v.toInt = 1) := by
  unfold f_X3_resolve
  have lt_m1 := li_m1
  have lt_0 := li_0
  have lt_1 := li_1
  have lt_3 := li_3
  have lFU : ((FU : Nat) : Int) = 100000 := rfl
  refine OK.bndW (k_X5_resolve_20 _ _ hI ) Fr.rf (fun v1 s3 is3 fs3 h2 => ?_)
  dsimp only
  refine OK.ieq (fun h4 => ?_) (fun h4 => ?_)
  · skip
    exact OK.row (k_X3_resolve_33 _ is3 ) is3 fs3 (fun v hv => by first | trivial | omega | exact hI.flds _ | exact hI.dflds _ | exact hI.recs _ | exact hI.drecs _ | exact hI.droot _ | omega)
  · skip
    refine OK.bndR (k_X5_askedPlace_20 _ _ is3 ) (fun v5 h6 => ?_)
    dsimp only
    refine OK.bndW (k_X6_refuseAt _ _ _ is3 ) fs3 (fun v7 s9 is9 fs9 h8 => ?_)
    dsimp only
    refine OK.ieq (fun h10 => ?_) (fun h10 => ?_)
    · skip
      exact OK.wret is9 fs9 (by first | trivial | omega | exact hI.flds _ | exact hI.dflds _ | exact hI.recs _ | exact hI.drecs _ | exact hI.droot _ | omega)
    · skip
      exact OK.row (k_X3_resolve_33 _ is9 ) is9 fs9 (fun v hv => by first | trivial | omega | exact hI.flds _ | exact hI.dflds _ | exact hI.recs _ | exact hI.drecs _ | exact hI.droot _ | omega)

theorem k_X5_clear_20 (σ : ST) (hI : IA σ)  : OK (f_X5_clear 20 σ) (RS σ) := by
  unfold f_X5_clear
  have lt_0 := li_0
  have lt_1 := li_1
  have lFU : ((FU : Nat) : Int) = 100000 := rfl
  exact OK.sret (ia_J_20_1 (ia_J_20_0 hI (show bI 0 0 6 from ⟨by omega, by omega⟩)) (show bI 0 0 262 from ⟨by omega, by omega⟩)) (fr_I_20 (fr_I_20 Fr.rf))

theorem k_X3_parse_11 : ∀ (n : Nat) (x1 : Int32) (x2 : Int32) (σ : ST), IA σ → (0 ≤ x2.toInt ∧ x2.toInt ≤ 43 ∧ (43 : Int) - x2.toInt < n) → OK (f_X3_parse_11  n x1 x2 σ) (RW σ fun v => v.toInt = 0 ∨ v.toInt = 1) := by
  intro n
  induction n with
  | zero =>
    intro x1 x2 σ hI hv
    omega
  | succ n ih =>
    intro x1 x2 σ hI hv
    rw [f_X3_parse_11]
    have lt_m1 := li_m1
    have lt_0 := li_0
    have lt_1 := li_1
    have lt_42 := li_42
    have lFU : ((FU : Nat) : Int) = 100000 := rfl
    refine OK.ilt (fun h1 => ?_) (fun h1 => ?_)
    · skip
      exact OK.wret hI Fr.rf (by first | trivial | omega | exact hI.flds _ | exact hI.dflds _ | exact hI.recs _ | exact hI.drecs _ | exact hI.droot _ | omega)
    · skip
      refine OK.bndR (k_X5_recordsOf_20 _ _ hI ) (fun v2 h3 => ?_)
      dsimp only
      refine OK.ile (fun h4 => ?_) (fun h4 => ?_)
      · skip
        unfold f_X3_parse_33
        try dsimp only
        refine OK.ieq (fun h5 => ?_) (fun h5 => ?_)
        · skip
          unfold f_X3_parse_60
          try dsimp only
          refine OK.ieq (fun h6 => ?_) (fun h6 => ?_)
          · skip
            unfold f_X3_parse_78
            try dsimp only
            unfold f_X3_parse_79
            try dsimp only
            refine OK.ieq (fun h7 => ?_) (fun h7 => ?_)
            · skip
              refine OK.ieq (fun h8 => ?_) (fun h8 => ?_)
              · skip
                unfold f_X3_parse_90
                try dsimp only
                refine OK.bndR (k_X6_isKeyword _ _ hI ) (fun v9 h10 => ?_)
                dsimp only
                refine OK.ieq (fun h11 => ?_) (fun h11 => ?_)
                · skip
                  unfold f_X3_parse_105
                  try dsimp only
                  unfold f_X3_parse_106
                  try dsimp only
                  refine OK.ieq (fun h12 => ?_) (fun h12 => ?_)
                  · skip
                    refine OK.ieq (fun h13 => ?_) (fun h13 => ?_)
                    · skip
                      refine OK.bndW (k_X6_refuse _ _ hI ) Fr.rf (fun v14 s16 is16 fs16 h15 => ?_)
                      dsimp only
                      refine OK.grd (b01 (by omega)) ?_
                      exact OK.wret is16 fs16 (by first | trivial | omega | exact hI.flds _ | exact hI.dflds _ | exact hI.recs _ | exact hI.drecs _ | exact hI.droot _ | omega)
                    · skip
                      unfold f_X3_parse_127
                      try dsimp only
                      refine OK.bndW (k_X3_resolve _ _ hI ) Fr.rf (fun v17 s19 is19 fs19 h18 => ?_)
                      dsimp only
                      refine OK.ieq (fun h20 => ?_) (fun h20 => ?_)
                      · skip
                        exact OK.wret is19 fs19 (by first | trivial | omega | exact hI.flds _ | exact hI.dflds _ | exact hI.recs _ | exact hI.drecs _ | exact hI.droot _ | omega)
                      · skip
                        refine OK.ieq (fun h21 => ?_) (fun h21 => ?_)
                        · skip
                          refine OK.bndW (k_X3_beginPlan _ _ is19 ) fs19 (fun v22 s24 is24 fs24 h23 => ?_)
                          dsimp only
                          refine OK.ieq (fun h25 => ?_) (fun h25 => ?_)
                          · skip
                            exact OK.wret is24 fs24 (by first | trivial | omega | exact hI.flds _ | exact hI.dflds _ | exact hI.recs _ | exact hI.drecs _ | exact hI.droot _ | omega)
                          · skip
                            unfold f_X3_parse_157
                            try dsimp only
                            obtain ⟨a26k, a26, a26l, a26r⟩ := i_add x1 1
                            try (refine k0el (k := a26k) ?_ (fun e0 => ?_); (focus omega); subst e0)
                            obtain ⟨a27k, a27, a27l, a27r⟩ := i_add x2 1
                            try (refine k0el (k := a27k) ?_ (fun e0 => ?_); (focus omega); subst e0)
                            exact OK.trW (ih _ _ _ is24 (by omega)) fs24 (fun v hv => by first | trivial | omega | exact hI.flds _ | exact hI.dflds _ | exact hI.recs _ | exact hI.drecs _ | exact hI.droot _ | omega)
                        · skip
                          exact OK.wret is19 fs19 (by first | trivial | omega | exact hI.flds _ | exact hI.dflds _ | exact hI.recs _ | exact hI.drecs _ | exact hI.droot _ | omega)
                  · skip
                    unfold f_X3_parse_127
                    try dsimp only
                    refine OK.bndW (k_X3_resolve _ _ hI ) Fr.rf (fun v28 s30 is30 fs30 h29 => ?_)
                    dsimp only
                    refine OK.ieq (fun h31 => ?_) (fun h31 => ?_)
                    · skip
                      exact OK.wret is30 fs30 (by first | trivial | omega | exact hI.flds _ | exact hI.dflds _ | exact hI.recs _ | exact hI.drecs _ | exact hI.droot _ | omega)
                    · skip
                      refine OK.ieq (fun h32 => ?_) (fun h32 => ?_)
                      · skip
                        refine OK.bndW (k_X3_beginPlan _ _ is30 ) fs30 (fun v33 s35 is35 fs35 h34 => ?_)
                        dsimp only
                        refine OK.ieq (fun h36 => ?_) (fun h36 => ?_)
                        · skip
                          exact OK.wret is35 fs35 (by first | trivial | omega | exact hI.flds _ | exact hI.dflds _ | exact hI.recs _ | exact hI.drecs _ | exact hI.droot _ | omega)
                        · skip
                          unfold f_X3_parse_157
                          try dsimp only
                          obtain ⟨a37k, a37, a37l, a37r⟩ := i_add x1 1
                          try (refine k0el (k := a37k) ?_ (fun e0 => ?_); (focus omega); subst e0)
                          obtain ⟨a38k, a38, a38l, a38r⟩ := i_add x2 1
                          try (refine k0el (k := a38k) ?_ (fun e0 => ?_); (focus omega); subst e0)
                          exact OK.trW (ih _ _ _ is35 (by omega)) fs35 (fun v hv => by first | trivial | omega | exact hI.flds _ | exact hI.dflds _ | exact hI.recs _ | exact hI.drecs _ | exact hI.droot _ | omega)
                      · skip
                        exact OK.wret is30 fs30 (by first | trivial | omega | exact hI.flds _ | exact hI.dflds _ | exact hI.recs _ | exact hI.drecs _ | exact hI.droot _ | omega)
                · skip
                  unfold f_X3_parse_106
                  try dsimp only
                  refine OK.ieq (fun h39 => ?_) (fun h39 => ?_)
                  · skip
                    refine OK.ieq (fun h40 => ?_) (fun h40 => ?_)
                    · skip
                      refine OK.bndW (k_X6_refuse _ _ hI ) Fr.rf (fun v41 s43 is43 fs43 h42 => ?_)
                      dsimp only
                      refine OK.grd (b01 (by omega)) ?_
                      exact OK.wret is43 fs43 (by first | trivial | omega | exact hI.flds _ | exact hI.dflds _ | exact hI.recs _ | exact hI.drecs _ | exact hI.droot _ | omega)
                    · skip
                      unfold f_X3_parse_127
                      try dsimp only
                      refine OK.bndW (k_X3_resolve _ _ hI ) Fr.rf (fun v44 s46 is46 fs46 h45 => ?_)
                      dsimp only
                      refine OK.ieq (fun h47 => ?_) (fun h47 => ?_)
                      · skip
                        exact OK.wret is46 fs46 (by first | trivial | omega | exact hI.flds _ | exact hI.dflds _ | exact hI.recs _ | exact hI.drecs _ | exact hI.droot _ | omega)
                      · skip
                        refine OK.ieq (fun h48 => ?_) (fun h48 => ?_)
                        · skip
                          refine OK.bndW (k_X3_beginPlan _ _ is46 ) fs46 (fun v49 s51 is51 fs51 h50 => ?_)
                          dsimp only
                          refine OK.ieq (fun h52 => ?_) (fun h52 => ?_)
                          · skip
                            exact OK.wret is51 fs51 (by first | trivial | omega | exact hI.flds _ | exact hI.dflds _ | exact hI.recs _ | exact hI.drecs _ | exact hI.droot _ | omega)
                          · skip
                            unfold f_X3_parse_157
                            try dsimp only
                            obtain ⟨a53k, a53, a53l, a53r⟩ := i_add x1 1
                            try (refine k0el (k := a53k) ?_ (fun e0 => ?_); (focus omega); subst e0)
                            obtain ⟨a54k, a54, a54l, a54r⟩ := i_add x2 1
                            try (refine k0el (k := a54k) ?_ (fun e0 => ?_); (focus omega); subst e0)
                            exact OK.trW (ih _ _ _ is51 (by omega)) fs51 (fun v hv => by first | trivial | omega | exact hI.flds _ | exact hI.dflds _ | exact hI.recs _ | exact hI.drecs _ | exact hI.droot _ | omega)
                        · skip
                          exact OK.wret is46 fs46 (by first | trivial | omega | exact hI.flds _ | exact hI.dflds _ | exact hI.recs _ | exact hI.drecs _ | exact hI.droot _ | omega)
                  · skip
                    unfold f_X3_parse_127
                    try dsimp only
                    refine OK.bndW (k_X3_resolve _ _ hI ) Fr.rf (fun v55 s57 is57 fs57 h56 => ?_)
                    dsimp only
                    refine OK.ieq (fun h58 => ?_) (fun h58 => ?_)
                    · skip
                      exact OK.wret is57 fs57 (by first | trivial | omega | exact hI.flds _ | exact hI.dflds _ | exact hI.recs _ | exact hI.drecs _ | exact hI.droot _ | omega)
                    · skip
                      refine OK.ieq (fun h59 => ?_) (fun h59 => ?_)
                      · skip
                        refine OK.bndW (k_X3_beginPlan _ _ is57 ) fs57 (fun v60 s62 is62 fs62 h61 => ?_)
                        dsimp only
                        refine OK.ieq (fun h63 => ?_) (fun h63 => ?_)
                        · skip
                          exact OK.wret is62 fs62 (by first | trivial | omega | exact hI.flds _ | exact hI.dflds _ | exact hI.recs _ | exact hI.drecs _ | exact hI.droot _ | omega)
                        · skip
                          unfold f_X3_parse_157
                          try dsimp only
                          obtain ⟨a64k, a64, a64l, a64r⟩ := i_add x1 1
                          try (refine k0el (k := a64k) ?_ (fun e0 => ?_); (focus omega); subst e0)
                          obtain ⟨a65k, a65, a65l, a65r⟩ := i_add x2 1
                          try (refine k0el (k := a65k) ?_ (fun e0 => ?_); (focus omega); subst e0)
                          exact OK.trW (ih _ _ _ is62 (by omega)) fs62 (fun v hv => by first | trivial | omega | exact hI.flds _ | exact hI.dflds _ | exact hI.recs _ | exact hI.drecs _ | exact hI.droot _ | omega)
                      · skip
                        exact OK.wret is57 fs57 (by first | trivial | omega | exact hI.flds _ | exact hI.dflds _ | exact hI.recs _ | exact hI.drecs _ | exact hI.droot _ | omega)
              · skip
                unfold f_X3_parse_105
                try dsimp only
                unfold f_X3_parse_106
                try dsimp only
                refine OK.ieq (fun h66 => ?_) (fun h66 => ?_)
                · skip
                  refine OK.ieq (fun h67 => ?_) (fun h67 => ?_)
                  · skip
                    refine OK.bndW (k_X6_refuse _ _ hI ) Fr.rf (fun v68 s70 is70 fs70 h69 => ?_)
                    dsimp only
                    refine OK.grd (b01 (by omega)) ?_
                    exact OK.wret is70 fs70 (by first | trivial | omega | exact hI.flds _ | exact hI.dflds _ | exact hI.recs _ | exact hI.drecs _ | exact hI.droot _ | omega)
                  · skip
                    unfold f_X3_parse_127
                    try dsimp only
                    refine OK.bndW (k_X3_resolve _ _ hI ) Fr.rf (fun v71 s73 is73 fs73 h72 => ?_)
                    dsimp only
                    refine OK.ieq (fun h74 => ?_) (fun h74 => ?_)
                    · skip
                      exact OK.wret is73 fs73 (by first | trivial | omega | exact hI.flds _ | exact hI.dflds _ | exact hI.recs _ | exact hI.drecs _ | exact hI.droot _ | omega)
                    · skip
                      refine OK.ieq (fun h75 => ?_) (fun h75 => ?_)
                      · skip
                        refine OK.bndW (k_X3_beginPlan _ _ is73 ) fs73 (fun v76 s78 is78 fs78 h77 => ?_)
                        dsimp only
                        refine OK.ieq (fun h79 => ?_) (fun h79 => ?_)
                        · skip
                          exact OK.wret is78 fs78 (by first | trivial | omega | exact hI.flds _ | exact hI.dflds _ | exact hI.recs _ | exact hI.drecs _ | exact hI.droot _ | omega)
                        · skip
                          unfold f_X3_parse_157
                          try dsimp only
                          obtain ⟨a80k, a80, a80l, a80r⟩ := i_add x1 1
                          try (refine k0el (k := a80k) ?_ (fun e0 => ?_); (focus omega); subst e0)
                          obtain ⟨a81k, a81, a81l, a81r⟩ := i_add x2 1
                          try (refine k0el (k := a81k) ?_ (fun e0 => ?_); (focus omega); subst e0)
                          exact OK.trW (ih _ _ _ is78 (by omega)) fs78 (fun v hv => by first | trivial | omega | exact hI.flds _ | exact hI.dflds _ | exact hI.recs _ | exact hI.drecs _ | exact hI.droot _ | omega)
                      · skip
                        exact OK.wret is73 fs73 (by first | trivial | omega | exact hI.flds _ | exact hI.dflds _ | exact hI.recs _ | exact hI.drecs _ | exact hI.droot _ | omega)
                · skip
                  unfold f_X3_parse_127
                  try dsimp only
                  refine OK.bndW (k_X3_resolve _ _ hI ) Fr.rf (fun v82 s84 is84 fs84 h83 => ?_)
                  dsimp only
                  refine OK.ieq (fun h85 => ?_) (fun h85 => ?_)
                  · skip
                    exact OK.wret is84 fs84 (by first | trivial | omega | exact hI.flds _ | exact hI.dflds _ | exact hI.recs _ | exact hI.drecs _ | exact hI.droot _ | omega)
                  · skip
                    refine OK.ieq (fun h86 => ?_) (fun h86 => ?_)
                    · skip
                      refine OK.bndW (k_X3_beginPlan _ _ is84 ) fs84 (fun v87 s89 is89 fs89 h88 => ?_)
                      dsimp only
                      refine OK.ieq (fun h90 => ?_) (fun h90 => ?_)
                      · skip
                        exact OK.wret is89 fs89 (by first | trivial | omega | exact hI.flds _ | exact hI.dflds _ | exact hI.recs _ | exact hI.drecs _ | exact hI.droot _ | omega)
                      · skip
                        unfold f_X3_parse_157
                        try dsimp only
                        obtain ⟨a91k, a91, a91l, a91r⟩ := i_add x1 1
                        try (refine k0el (k := a91k) ?_ (fun e0 => ?_); (focus omega); subst e0)
                        obtain ⟨a92k, a92, a92l, a92r⟩ := i_add x2 1
                        try (refine k0el (k := a92k) ?_ (fun e0 => ?_); (focus omega); subst e0)
                        exact OK.trW (ih _ _ _ is89 (by omega)) fs89 (fun v hv => by first | trivial | omega | exact hI.flds _ | exact hI.dflds _ | exact hI.recs _ | exact hI.drecs _ | exact hI.droot _ | omega)
                    · skip
                      exact OK.wret is84 fs84 (by first | trivial | omega | exact hI.flds _ | exact hI.dflds _ | exact hI.recs _ | exact hI.drecs _ | exact hI.droot _ | omega)
            · skip
              unfold f_X3_parse_90
              try dsimp only
              refine OK.bndR (k_X6_isKeyword _ _ hI ) (fun v93 h94 => ?_)
              dsimp only
              refine OK.ieq (fun h95 => ?_) (fun h95 => ?_)
              · skip
                unfold f_X3_parse_105
                try dsimp only
                unfold f_X3_parse_106
                try dsimp only
                refine OK.ieq (fun h96 => ?_) (fun h96 => ?_)
                · skip
                  refine OK.ieq (fun h97 => ?_) (fun h97 => ?_)
                  · skip
                    refine OK.bndW (k_X6_refuse _ _ hI ) Fr.rf (fun v98 s100 is100 fs100 h99 => ?_)
                    dsimp only
                    refine OK.grd (b01 (by omega)) ?_
                    exact OK.wret is100 fs100 (by first | trivial | omega | exact hI.flds _ | exact hI.dflds _ | exact hI.recs _ | exact hI.drecs _ | exact hI.droot _ | omega)
                  · skip
                    unfold f_X3_parse_127
                    try dsimp only
                    refine OK.bndW (k_X3_resolve _ _ hI ) Fr.rf (fun v101 s103 is103 fs103 h102 => ?_)
                    dsimp only
                    refine OK.ieq (fun h104 => ?_) (fun h104 => ?_)
                    · skip
                      exact OK.wret is103 fs103 (by first | trivial | omega | exact hI.flds _ | exact hI.dflds _ | exact hI.recs _ | exact hI.drecs _ | exact hI.droot _ | omega)
                    · skip
                      refine OK.ieq (fun h105 => ?_) (fun h105 => ?_)
                      · skip
                        refine OK.bndW (k_X3_beginPlan _ _ is103 ) fs103 (fun v106 s108 is108 fs108 h107 => ?_)
                        dsimp only
                        refine OK.ieq (fun h109 => ?_) (fun h109 => ?_)
                        · skip
                          exact OK.wret is108 fs108 (by first | trivial | omega | exact hI.flds _ | exact hI.dflds _ | exact hI.recs _ | exact hI.drecs _ | exact hI.droot _ | omega)
                        · skip
                          unfold f_X3_parse_157
                          try dsimp only
                          obtain ⟨a110k, a110, a110l, a110r⟩ := i_add x1 1
                          try (refine k0el (k := a110k) ?_ (fun e0 => ?_); (focus omega); subst e0)
                          obtain ⟨a111k, a111, a111l, a111r⟩ := i_add x2 1
                          try (refine k0el (k := a111k) ?_ (fun e0 => ?_); (focus omega); subst e0)
                          exact OK.trW (ih _ _ _ is108 (by omega)) fs108 (fun v hv => by first | trivial | omega | exact hI.flds _ | exact hI.dflds _ | exact hI.recs _ | exact hI.drecs _ | exact hI.droot _ | omega)
                      · skip
                        exact OK.wret is103 fs103 (by first | trivial | omega | exact hI.flds _ | exact hI.dflds _ | exact hI.recs _ | exact hI.drecs _ | exact hI.droot _ | omega)
                · skip
                  unfold f_X3_parse_127
                  try dsimp only
                  refine OK.bndW (k_X3_resolve _ _ hI ) Fr.rf (fun v112 s114 is114 fs114 h113 => ?_)
                  dsimp only
                  refine OK.ieq (fun h115 => ?_) (fun h115 => ?_)
                  · skip
                    exact OK.wret is114 fs114 (by first | trivial | omega | exact hI.flds _ | exact hI.dflds _ | exact hI.recs _ | exact hI.drecs _ | exact hI.droot _ | omega)
                  · skip
                    refine OK.ieq (fun h116 => ?_) (fun h116 => ?_)
                    · skip
                      refine OK.bndW (k_X3_beginPlan _ _ is114 ) fs114 (fun v117 s119 is119 fs119 h118 => ?_)
                      dsimp only
                      refine OK.ieq (fun h120 => ?_) (fun h120 => ?_)
                      · skip
                        exact OK.wret is119 fs119 (by first | trivial | omega | exact hI.flds _ | exact hI.dflds _ | exact hI.recs _ | exact hI.drecs _ | exact hI.droot _ | omega)
                      · skip
                        unfold f_X3_parse_157
                        try dsimp only
                        obtain ⟨a121k, a121, a121l, a121r⟩ := i_add x1 1
                        try (refine k0el (k := a121k) ?_ (fun e0 => ?_); (focus omega); subst e0)
                        obtain ⟨a122k, a122, a122l, a122r⟩ := i_add x2 1
                        try (refine k0el (k := a122k) ?_ (fun e0 => ?_); (focus omega); subst e0)
                        exact OK.trW (ih _ _ _ is119 (by omega)) fs119 (fun v hv => by first | trivial | omega | exact hI.flds _ | exact hI.dflds _ | exact hI.recs _ | exact hI.drecs _ | exact hI.droot _ | omega)
                    · skip
                      exact OK.wret is114 fs114 (by first | trivial | omega | exact hI.flds _ | exact hI.dflds _ | exact hI.recs _ | exact hI.drecs _ | exact hI.droot _ | omega)
              · skip
                unfold f_X3_parse_106
                try dsimp only
                refine OK.ieq (fun h123 => ?_) (fun h123 => ?_)
                · skip
                  refine OK.ieq (fun h124 => ?_) (fun h124 => ?_)
                  · skip
                    refine OK.bndW (k_X6_refuse _ _ hI ) Fr.rf (fun v125 s127 is127 fs127 h126 => ?_)
                    dsimp only
                    refine OK.grd (b01 (by omega)) ?_
                    exact OK.wret is127 fs127 (by first | trivial | omega | exact hI.flds _ | exact hI.dflds _ | exact hI.recs _ | exact hI.drecs _ | exact hI.droot _ | omega)
                  · skip
                    unfold f_X3_parse_127
                    try dsimp only
                    refine OK.bndW (k_X3_resolve _ _ hI ) Fr.rf (fun v128 s130 is130 fs130 h129 => ?_)
                    dsimp only
                    refine OK.ieq (fun h131 => ?_) (fun h131 => ?_)
                    · skip
                      exact OK.wret is130 fs130 (by first | trivial | omega | exact hI.flds _ | exact hI.dflds _ | exact hI.recs _ | exact hI.drecs _ | exact hI.droot _ | omega)
                    · skip
                      refine OK.ieq (fun h132 => ?_) (fun h132 => ?_)
                      · skip
                        refine OK.bndW (k_X3_beginPlan _ _ is130 ) fs130 (fun v133 s135 is135 fs135 h134 => ?_)
                        dsimp only
                        refine OK.ieq (fun h136 => ?_) (fun h136 => ?_)
                        · skip
                          exact OK.wret is135 fs135 (by first | trivial | omega | exact hI.flds _ | exact hI.dflds _ | exact hI.recs _ | exact hI.drecs _ | exact hI.droot _ | omega)
                        · skip
                          unfold f_X3_parse_157
                          try dsimp only
                          obtain ⟨a137k, a137, a137l, a137r⟩ := i_add x1 1
                          try (refine k0el (k := a137k) ?_ (fun e0 => ?_); (focus omega); subst e0)
                          obtain ⟨a138k, a138, a138l, a138r⟩ := i_add x2 1
                          try (refine k0el (k := a138k) ?_ (fun e0 => ?_); (focus omega); subst e0)
                          exact OK.trW (ih _ _ _ is135 (by omega)) fs135 (fun v hv => by first | trivial | omega | exact hI.flds _ | exact hI.dflds _ | exact hI.recs _ | exact hI.drecs _ | exact hI.droot _ | omega)
                      · skip
                        exact OK.wret is130 fs130 (by first | trivial | omega | exact hI.flds _ | exact hI.dflds _ | exact hI.recs _ | exact hI.drecs _ | exact hI.droot _ | omega)
                · skip
                  unfold f_X3_parse_127
                  try dsimp only
                  refine OK.bndW (k_X3_resolve _ _ hI ) Fr.rf (fun v139 s141 is141 fs141 h140 => ?_)
                  dsimp only
                  refine OK.ieq (fun h142 => ?_) (fun h142 => ?_)
                  · skip
                    exact OK.wret is141 fs141 (by first | trivial | omega | exact hI.flds _ | exact hI.dflds _ | exact hI.recs _ | exact hI.drecs _ | exact hI.droot _ | omega)
                  · skip
                    refine OK.ieq (fun h143 => ?_) (fun h143 => ?_)
                    · skip
                      refine OK.bndW (k_X3_beginPlan _ _ is141 ) fs141 (fun v144 s146 is146 fs146 h145 => ?_)
                      dsimp only
                      refine OK.ieq (fun h147 => ?_) (fun h147 => ?_)
                      · skip
                        exact OK.wret is146 fs146 (by first | trivial | omega | exact hI.flds _ | exact hI.dflds _ | exact hI.recs _ | exact hI.drecs _ | exact hI.droot _ | omega)
                      · skip
                        unfold f_X3_parse_157
                        try dsimp only
                        obtain ⟨a148k, a148, a148l, a148r⟩ := i_add x1 1
                        try (refine k0el (k := a148k) ?_ (fun e0 => ?_); (focus omega); subst e0)
                        obtain ⟨a149k, a149, a149l, a149r⟩ := i_add x2 1
                        try (refine k0el (k := a149k) ?_ (fun e0 => ?_); (focus omega); subst e0)
                        exact OK.trW (ih _ _ _ is146 (by omega)) fs146 (fun v hv => by first | trivial | omega | exact hI.flds _ | exact hI.dflds _ | exact hI.recs _ | exact hI.drecs _ | exact hI.droot _ | omega)
                    · skip
                      exact OK.wret is141 fs141 (by first | trivial | omega | exact hI.flds _ | exact hI.dflds _ | exact hI.recs _ | exact hI.drecs _ | exact hI.droot _ | omega)
          · skip
            refine OK.ieq (fun h150 => ?_) (fun h150 => ?_)
            · skip
              unfold f_X3_parse_79
              try dsimp only
              refine OK.ieq (fun h151 => ?_) (fun h151 => ?_)
              · skip
                refine OK.ieq (fun h152 => ?_) (fun h152 => ?_)
                · skip
                  unfold f_X3_parse_90
                  try dsimp only
                  refine OK.bndR (k_X6_isKeyword _ _ hI ) (fun v153 h154 => ?_)
                  dsimp only
                  refine OK.ieq (fun h155 => ?_) (fun h155 => ?_)
                  · skip
                    unfold f_X3_parse_105
                    try dsimp only
                    unfold f_X3_parse_106
                    try dsimp only
                    refine OK.ieq (fun h156 => ?_) (fun h156 => ?_)
                    · skip
                      refine OK.ieq (fun h157 => ?_) (fun h157 => ?_)
                      · skip
                        refine OK.bndW (k_X6_refuse _ _ hI ) Fr.rf (fun v158 s160 is160 fs160 h159 => ?_)
                        dsimp only
                        refine OK.grd (b01 (by omega)) ?_
                        exact OK.wret is160 fs160 (by first | trivial | omega | exact hI.flds _ | exact hI.dflds _ | exact hI.recs _ | exact hI.drecs _ | exact hI.droot _ | omega)
                      · skip
                        unfold f_X3_parse_127
                        try dsimp only
                        refine OK.bndW (k_X3_resolve _ _ hI ) Fr.rf (fun v161 s163 is163 fs163 h162 => ?_)
                        dsimp only
                        refine OK.ieq (fun h164 => ?_) (fun h164 => ?_)
                        · skip
                          exact OK.wret is163 fs163 (by first | trivial | omega | exact hI.flds _ | exact hI.dflds _ | exact hI.recs _ | exact hI.drecs _ | exact hI.droot _ | omega)
                        · skip
                          refine OK.ieq (fun h165 => ?_) (fun h165 => ?_)
                          · skip
                            refine OK.bndW (k_X3_beginPlan _ _ is163 ) fs163 (fun v166 s168 is168 fs168 h167 => ?_)
                            dsimp only
                            refine OK.ieq (fun h169 => ?_) (fun h169 => ?_)
                            · skip
                              exact OK.wret is168 fs168 (by first | trivial | omega | exact hI.flds _ | exact hI.dflds _ | exact hI.recs _ | exact hI.drecs _ | exact hI.droot _ | omega)
                            · skip
                              unfold f_X3_parse_157
                              try dsimp only
                              obtain ⟨a170k, a170, a170l, a170r⟩ := i_add x1 1
                              try (refine k0el (k := a170k) ?_ (fun e0 => ?_); (focus omega); subst e0)
                              obtain ⟨a171k, a171, a171l, a171r⟩ := i_add x2 1
                              try (refine k0el (k := a171k) ?_ (fun e0 => ?_); (focus omega); subst e0)
                              exact OK.trW (ih _ _ _ is168 (by omega)) fs168 (fun v hv => by first | trivial | omega | exact hI.flds _ | exact hI.dflds _ | exact hI.recs _ | exact hI.drecs _ | exact hI.droot _ | omega)
                          · skip
                            exact OK.wret is163 fs163 (by first | trivial | omega | exact hI.flds _ | exact hI.dflds _ | exact hI.recs _ | exact hI.drecs _ | exact hI.droot _ | omega)
                    · skip
                      unfold f_X3_parse_127
                      try dsimp only
                      refine OK.bndW (k_X3_resolve _ _ hI ) Fr.rf (fun v172 s174 is174 fs174 h173 => ?_)
                      dsimp only
                      refine OK.ieq (fun h175 => ?_) (fun h175 => ?_)
                      · skip
                        exact OK.wret is174 fs174 (by first | trivial | omega | exact hI.flds _ | exact hI.dflds _ | exact hI.recs _ | exact hI.drecs _ | exact hI.droot _ | omega)
                      · skip
                        refine OK.ieq (fun h176 => ?_) (fun h176 => ?_)
                        · skip
                          refine OK.bndW (k_X3_beginPlan _ _ is174 ) fs174 (fun v177 s179 is179 fs179 h178 => ?_)
                          dsimp only
                          refine OK.ieq (fun h180 => ?_) (fun h180 => ?_)
                          · skip
                            exact OK.wret is179 fs179 (by first | trivial | omega | exact hI.flds _ | exact hI.dflds _ | exact hI.recs _ | exact hI.drecs _ | exact hI.droot _ | omega)
                          · skip
                            unfold f_X3_parse_157
                            try dsimp only
                            obtain ⟨a181k, a181, a181l, a181r⟩ := i_add x1 1
                            try (refine k0el (k := a181k) ?_ (fun e0 => ?_); (focus omega); subst e0)
                            obtain ⟨a182k, a182, a182l, a182r⟩ := i_add x2 1
                            try (refine k0el (k := a182k) ?_ (fun e0 => ?_); (focus omega); subst e0)
                            exact OK.trW (ih _ _ _ is179 (by omega)) fs179 (fun v hv => by first | trivial | omega | exact hI.flds _ | exact hI.dflds _ | exact hI.recs _ | exact hI.drecs _ | exact hI.droot _ | omega)
                        · skip
                          exact OK.wret is174 fs174 (by first | trivial | omega | exact hI.flds _ | exact hI.dflds _ | exact hI.recs _ | exact hI.drecs _ | exact hI.droot _ | omega)
                  · skip
                    unfold f_X3_parse_106
                    try dsimp only
                    refine OK.ieq (fun h183 => ?_) (fun h183 => ?_)
                    · skip
                      refine OK.ieq (fun h184 => ?_) (fun h184 => ?_)
                      · skip
                        refine OK.bndW (k_X6_refuse _ _ hI ) Fr.rf (fun v185 s187 is187 fs187 h186 => ?_)
                        dsimp only
                        refine OK.grd (b01 (by omega)) ?_
                        exact OK.wret is187 fs187 (by first | trivial | omega | exact hI.flds _ | exact hI.dflds _ | exact hI.recs _ | exact hI.drecs _ | exact hI.droot _ | omega)
                      · skip
                        unfold f_X3_parse_127
                        try dsimp only
                        refine OK.bndW (k_X3_resolve _ _ hI ) Fr.rf (fun v188 s190 is190 fs190 h189 => ?_)
                        dsimp only
                        refine OK.ieq (fun h191 => ?_) (fun h191 => ?_)
                        · skip
                          exact OK.wret is190 fs190 (by first | trivial | omega | exact hI.flds _ | exact hI.dflds _ | exact hI.recs _ | exact hI.drecs _ | exact hI.droot _ | omega)
                        · skip
                          refine OK.ieq (fun h192 => ?_) (fun h192 => ?_)
                          · skip
                            refine OK.bndW (k_X3_beginPlan _ _ is190 ) fs190 (fun v193 s195 is195 fs195 h194 => ?_)
                            dsimp only
                            refine OK.ieq (fun h196 => ?_) (fun h196 => ?_)
                            · skip
                              exact OK.wret is195 fs195 (by first | trivial | omega | exact hI.flds _ | exact hI.dflds _ | exact hI.recs _ | exact hI.drecs _ | exact hI.droot _ | omega)
                            · skip
                              unfold f_X3_parse_157
                              try dsimp only
                              obtain ⟨a197k, a197, a197l, a197r⟩ := i_add x1 1
                              try (refine k0el (k := a197k) ?_ (fun e0 => ?_); (focus omega); subst e0)
                              obtain ⟨a198k, a198, a198l, a198r⟩ := i_add x2 1
                              try (refine k0el (k := a198k) ?_ (fun e0 => ?_); (focus omega); subst e0)
                              exact OK.trW (ih _ _ _ is195 (by omega)) fs195 (fun v hv => by first | trivial | omega | exact hI.flds _ | exact hI.dflds _ | exact hI.recs _ | exact hI.drecs _ | exact hI.droot _ | omega)
                          · skip
                            exact OK.wret is190 fs190 (by first | trivial | omega | exact hI.flds _ | exact hI.dflds _ | exact hI.recs _ | exact hI.drecs _ | exact hI.droot _ | omega)
                    · skip
                      unfold f_X3_parse_127
                      try dsimp only
                      refine OK.bndW (k_X3_resolve _ _ hI ) Fr.rf (fun v199 s201 is201 fs201 h200 => ?_)
                      dsimp only
                      refine OK.ieq (fun h202 => ?_) (fun h202 => ?_)
                      · skip
                        exact OK.wret is201 fs201 (by first | trivial | omega | exact hI.flds _ | exact hI.dflds _ | exact hI.recs _ | exact hI.drecs _ | exact hI.droot _ | omega)
                      · skip
                        refine OK.ieq (fun h203 => ?_) (fun h203 => ?_)
                        · skip
                          refine OK.bndW (k_X3_beginPlan _ _ is201 ) fs201 (fun v204 s206 is206 fs206 h205 => ?_)
                          dsimp only
                          refine OK.ieq (fun h207 => ?_) (fun h207 => ?_)
                          · skip
                            exact OK.wret is206 fs206 (by first | trivial | omega | exact hI.flds _ | exact hI.dflds _ | exact hI.recs _ | exact hI.drecs _ | exact hI.droot _ | omega)
                          · skip
                            unfold f_X3_parse_157
                            try dsimp only
                            obtain ⟨a208k, a208, a208l, a208r⟩ := i_add x1 1
                            try (refine k0el (k := a208k) ?_ (fun e0 => ?_); (focus omega); subst e0)
                            obtain ⟨a209k, a209, a209l, a209r⟩ := i_add x2 1
                            try (refine k0el (k := a209k) ?_ (fun e0 => ?_); (focus omega); subst e0)
                            exact OK.trW (ih _ _ _ is206 (by omega)) fs206 (fun v hv => by first | trivial | omega | exact hI.flds _ | exact hI.dflds _ | exact hI.recs _ | exact hI.drecs _ | exact hI.droot _ | omega)
                        · skip
                          exact OK.wret is201 fs201 (by first | trivial | omega | exact hI.flds _ | exact hI.dflds _ | exact hI.recs _ | exact hI.drecs _ | exact hI.droot _ | omega)
                · skip
                  unfold f_X3_parse_105
                  try dsimp only
                  unfold f_X3_parse_106
                  try dsimp only
                  refine OK.ieq (fun h210 => ?_) (fun h210 => ?_)
                  · skip
                    refine OK.ieq (fun h211 => ?_) (fun h211 => ?_)
                    · skip
                      refine OK.bndW (k_X6_refuse _ _ hI ) Fr.rf (fun v212 s214 is214 fs214 h213 => ?_)
                      dsimp only
                      refine OK.grd (b01 (by omega)) ?_
                      exact OK.wret is214 fs214 (by first | trivial | omega | exact hI.flds _ | exact hI.dflds _ | exact hI.recs _ | exact hI.drecs _ | exact hI.droot _ | omega)
                    · skip
                      unfold f_X3_parse_127
                      try dsimp only
                      refine OK.bndW (k_X3_resolve _ _ hI ) Fr.rf (fun v215 s217 is217 fs217 h216 => ?_)
                      dsimp only
                      refine OK.ieq (fun h218 => ?_) (fun h218 => ?_)
                      · skip
                        exact OK.wret is217 fs217 (by first | trivial | omega | exact hI.flds _ | exact hI.dflds _ | exact hI.recs _ | exact hI.drecs _ | exact hI.droot _ | omega)
                      · skip
                        refine OK.ieq (fun h219 => ?_) (fun h219 => ?_)
                        · skip
                          refine OK.bndW (k_X3_beginPlan _ _ is217 ) fs217 (fun v220 s222 is222 fs222 h221 => ?_)
                          dsimp only
                          refine OK.ieq (fun h223 => ?_) (fun h223 => ?_)
                          · skip
                            exact OK.wret is222 fs222 (by first | trivial | omega | exact hI.flds _ | exact hI.dflds _ | exact hI.recs _ | exact hI.drecs _ | exact hI.droot _ | omega)
                          · skip
                            unfold f_X3_parse_157
                            try dsimp only
                            obtain ⟨a224k, a224, a224l, a224r⟩ := i_add x1 1
                            try (refine k0el (k := a224k) ?_ (fun e0 => ?_); (focus omega); subst e0)
                            obtain ⟨a225k, a225, a225l, a225r⟩ := i_add x2 1
                            try (refine k0el (k := a225k) ?_ (fun e0 => ?_); (focus omega); subst e0)
                            exact OK.trW (ih _ _ _ is222 (by omega)) fs222 (fun v hv => by first | trivial | omega | exact hI.flds _ | exact hI.dflds _ | exact hI.recs _ | exact hI.drecs _ | exact hI.droot _ | omega)
                        · skip
                          exact OK.wret is217 fs217 (by first | trivial | omega | exact hI.flds _ | exact hI.dflds _ | exact hI.recs _ | exact hI.drecs _ | exact hI.droot _ | omega)
                  · skip
                    unfold f_X3_parse_127
                    try dsimp only
                    refine OK.bndW (k_X3_resolve _ _ hI ) Fr.rf (fun v226 s228 is228 fs228 h227 => ?_)
                    dsimp only
                    refine OK.ieq (fun h229 => ?_) (fun h229 => ?_)
                    · skip
                      exact OK.wret is228 fs228 (by first | trivial | omega | exact hI.flds _ | exact hI.dflds _ | exact hI.recs _ | exact hI.drecs _ | exact hI.droot _ | omega)
                    · skip
                      refine OK.ieq (fun h230 => ?_) (fun h230 => ?_)
                      · skip
                        refine OK.bndW (k_X3_beginPlan _ _ is228 ) fs228 (fun v231 s233 is233 fs233 h232 => ?_)
                        dsimp only
                        refine OK.ieq (fun h234 => ?_) (fun h234 => ?_)
                        · skip
                          exact OK.wret is233 fs233 (by first | trivial | omega | exact hI.flds _ | exact hI.dflds _ | exact hI.recs _ | exact hI.drecs _ | exact hI.droot _ | omega)
                        · skip
                          unfold f_X3_parse_157
                          try dsimp only
                          obtain ⟨a235k, a235, a235l, a235r⟩ := i_add x1 1
                          try (refine k0el (k := a235k) ?_ (fun e0 => ?_); (focus omega); subst e0)
                          obtain ⟨a236k, a236, a236l, a236r⟩ := i_add x2 1
                          try (refine k0el (k := a236k) ?_ (fun e0 => ?_); (focus omega); subst e0)
                          exact OK.trW (ih _ _ _ is233 (by omega)) fs233 (fun v hv => by first | trivial | omega | exact hI.flds _ | exact hI.dflds _ | exact hI.recs _ | exact hI.drecs _ | exact hI.droot _ | omega)
                      · skip
                        exact OK.wret is228 fs228 (by first | trivial | omega | exact hI.flds _ | exact hI.dflds _ | exact hI.recs _ | exact hI.drecs _ | exact hI.droot _ | omega)
              · skip
                unfold f_X3_parse_90
                try dsimp only
                refine OK.bndR (k_X6_isKeyword _ _ hI ) (fun v237 h238 => ?_)
                dsimp only
                refine OK.ieq (fun h239 => ?_) (fun h239 => ?_)
                · skip
                  unfold f_X3_parse_105
                  try dsimp only
                  unfold f_X3_parse_106
                  try dsimp only
                  refine OK.ieq (fun h240 => ?_) (fun h240 => ?_)
                  · skip
                    refine OK.ieq (fun h241 => ?_) (fun h241 => ?_)
                    · skip
                      refine OK.bndW (k_X6_refuse _ _ hI ) Fr.rf (fun v242 s244 is244 fs244 h243 => ?_)
                      dsimp only
                      refine OK.grd (b01 (by omega)) ?_
                      exact OK.wret is244 fs244 (by first | trivial | omega | exact hI.flds _ | exact hI.dflds _ | exact hI.recs _ | exact hI.drecs _ | exact hI.droot _ | omega)
                    · skip
                      unfold f_X3_parse_127
                      try dsimp only
                      refine OK.bndW (k_X3_resolve _ _ hI ) Fr.rf (fun v245 s247 is247 fs247 h246 => ?_)
                      dsimp only
                      refine OK.ieq (fun h248 => ?_) (fun h248 => ?_)
                      · skip
                        exact OK.wret is247 fs247 (by first | trivial | omega | exact hI.flds _ | exact hI.dflds _ | exact hI.recs _ | exact hI.drecs _ | exact hI.droot _ | omega)
                      · skip
                        refine OK.ieq (fun h249 => ?_) (fun h249 => ?_)
                        · skip
                          refine OK.bndW (k_X3_beginPlan _ _ is247 ) fs247 (fun v250 s252 is252 fs252 h251 => ?_)
                          dsimp only
                          refine OK.ieq (fun h253 => ?_) (fun h253 => ?_)
                          · skip
                            exact OK.wret is252 fs252 (by first | trivial | omega | exact hI.flds _ | exact hI.dflds _ | exact hI.recs _ | exact hI.drecs _ | exact hI.droot _ | omega)
                          · skip
                            unfold f_X3_parse_157
                            try dsimp only
                            obtain ⟨a254k, a254, a254l, a254r⟩ := i_add x1 1
                            try (refine k0el (k := a254k) ?_ (fun e0 => ?_); (focus omega); subst e0)
                            obtain ⟨a255k, a255, a255l, a255r⟩ := i_add x2 1
                            try (refine k0el (k := a255k) ?_ (fun e0 => ?_); (focus omega); subst e0)
                            exact OK.trW (ih _ _ _ is252 (by omega)) fs252 (fun v hv => by first | trivial | omega | exact hI.flds _ | exact hI.dflds _ | exact hI.recs _ | exact hI.drecs _ | exact hI.droot _ | omega)
                        · skip
                          exact OK.wret is247 fs247 (by first | trivial | omega | exact hI.flds _ | exact hI.dflds _ | exact hI.recs _ | exact hI.drecs _ | exact hI.droot _ | omega)
                  · skip
                    unfold f_X3_parse_127
                    try dsimp only
                    refine OK.bndW (k_X3_resolve _ _ hI ) Fr.rf (fun v256 s258 is258 fs258 h257 => ?_)
                    dsimp only
                    refine OK.ieq (fun h259 => ?_) (fun h259 => ?_)
                    · skip
                      exact OK.wret is258 fs258 (by first | trivial | omega | exact hI.flds _ | exact hI.dflds _ | exact hI.recs _ | exact hI.drecs _ | exact hI.droot _ | omega)
                    · skip
                      refine OK.ieq (fun h260 => ?_) (fun h260 => ?_)
                      · skip
                        refine OK.bndW (k_X3_beginPlan _ _ is258 ) fs258 (fun v261 s263 is263 fs263 h262 => ?_)
                        dsimp only
                        refine OK.ieq (fun h264 => ?_) (fun h264 => ?_)
                        · skip
                          exact OK.wret is263 fs263 (by first | trivial | omega | exact hI.flds _ | exact hI.dflds _ | exact hI.recs _ | exact hI.drecs _ | exact hI.droot _ | omega)
                        · skip
                          unfold f_X3_parse_157
                          try dsimp only
                          obtain ⟨a265k, a265, a265l, a265r⟩ := i_add x1 1
                          try (refine k0el (k := a265k) ?_ (fun e0 => ?_); (focus omega); subst e0)
                          obtain ⟨a266k, a266, a266l, a266r⟩ := i_add x2 1
                          try (refine k0el (k := a266k) ?_ (fun e0 => ?_); (focus omega); subst e0)
                          exact OK.trW (ih _ _ _ is263 (by omega)) fs263 (fun v hv => by first | trivial | omega | exact hI.flds _ | exact hI.dflds _ | exact hI.recs _ | exact hI.drecs _ | exact hI.droot _ | omega)
                      · skip
                        exact OK.wret is258 fs258 (by first | trivial | omega | exact hI.flds _ | exact hI.dflds _ | exact hI.recs _ | exact hI.drecs _ | exact hI.droot _ | omega)
                · skip
                  unfold f_X3_parse_106
                  try dsimp only
                  refine OK.ieq (fun h267 => ?_) (fun h267 => ?_)
                  · skip
                    refine OK.ieq (fun h268 => ?_) (fun h268 => ?_)
                    · skip
                      refine OK.bndW (k_X6_refuse _ _ hI ) Fr.rf (fun v269 s271 is271 fs271 h270 => ?_)
                      dsimp only
                      refine OK.grd (b01 (by omega)) ?_
                      exact OK.wret is271 fs271 (by first | trivial | omega | exact hI.flds _ | exact hI.dflds _ | exact hI.recs _ | exact hI.drecs _ | exact hI.droot _ | omega)
                    · skip
                      unfold f_X3_parse_127
                      try dsimp only
                      refine OK.bndW (k_X3_resolve _ _ hI ) Fr.rf (fun v272 s274 is274 fs274 h273 => ?_)
                      dsimp only
                      refine OK.ieq (fun h275 => ?_) (fun h275 => ?_)
                      · skip
                        exact OK.wret is274 fs274 (by first | trivial | omega | exact hI.flds _ | exact hI.dflds _ | exact hI.recs _ | exact hI.drecs _ | exact hI.droot _ | omega)
                      · skip
                        refine OK.ieq (fun h276 => ?_) (fun h276 => ?_)
                        · skip
                          refine OK.bndW (k_X3_beginPlan _ _ is274 ) fs274 (fun v277 s279 is279 fs279 h278 => ?_)
                          dsimp only
                          refine OK.ieq (fun h280 => ?_) (fun h280 => ?_)
                          · skip
                            exact OK.wret is279 fs279 (by first | trivial | omega | exact hI.flds _ | exact hI.dflds _ | exact hI.recs _ | exact hI.drecs _ | exact hI.droot _ | omega)
                          · skip
                            unfold f_X3_parse_157
                            try dsimp only
                            obtain ⟨a281k, a281, a281l, a281r⟩ := i_add x1 1
                            try (refine k0el (k := a281k) ?_ (fun e0 => ?_); (focus omega); subst e0)
                            obtain ⟨a282k, a282, a282l, a282r⟩ := i_add x2 1
                            try (refine k0el (k := a282k) ?_ (fun e0 => ?_); (focus omega); subst e0)
                            exact OK.trW (ih _ _ _ is279 (by omega)) fs279 (fun v hv => by first | trivial | omega | exact hI.flds _ | exact hI.dflds _ | exact hI.recs _ | exact hI.drecs _ | exact hI.droot _ | omega)
                        · skip
                          exact OK.wret is274 fs274 (by first | trivial | omega | exact hI.flds _ | exact hI.dflds _ | exact hI.recs _ | exact hI.drecs _ | exact hI.droot _ | omega)
                  · skip
                    unfold f_X3_parse_127
                    try dsimp only
                    refine OK.bndW (k_X3_resolve _ _ hI ) Fr.rf (fun v283 s285 is285 fs285 h284 => ?_)
                    dsimp only
                    refine OK.ieq (fun h286 => ?_) (fun h286 => ?_)
                    · skip
                      exact OK.wret is285 fs285 (by first | trivial | omega | exact hI.flds _ | exact hI.dflds _ | exact hI.recs _ | exact hI.drecs _ | exact hI.droot _ | omega)
                    · skip
                      refine OK.ieq (fun h287 => ?_) (fun h287 => ?_)
                      · skip
                        refine OK.bndW (k_X3_beginPlan _ _ is285 ) fs285 (fun v288 s290 is290 fs290 h289 => ?_)
                        dsimp only
                        refine OK.ieq (fun h291 => ?_) (fun h291 => ?_)
                        · skip
                          exact OK.wret is290 fs290 (by first | trivial | omega | exact hI.flds _ | exact hI.dflds _ | exact hI.recs _ | exact hI.drecs _ | exact hI.droot _ | omega)
                        · skip
                          unfold f_X3_parse_157
                          try dsimp only
                          obtain ⟨a292k, a292, a292l, a292r⟩ := i_add x1 1
                          try (refine k0el (k := a292k) ?_ (fun e0 => ?_); (focus omega); subst e0)
                          obtain ⟨a293k, a293, a293l, a293r⟩ := i_add x2 1
                          try (refine k0el (k := a293k) ?_ (fun e0 => ?_); (focus omega); subst e0)
                          exact OK.trW (ih _ _ _ is290 (by omega)) fs290 (fun v hv => by first | trivial | omega | exact hI.flds _ | exact hI.dflds _ | exact hI.recs _ | exact hI.drecs _ | exact hI.droot _ | omega)
                      · skip
                        exact OK.wret is285 fs285 (by first | trivial | omega | exact hI.flds _ | exact hI.dflds _ | exact hI.recs _ | exact hI.drecs _ | exact hI.droot _ | omega)
            · skip
              unfold f_X3_parse_78
              try dsimp only
              unfold f_X3_parse_79
              try dsimp only
              refine OK.ieq (fun h294 => ?_) (fun h294 => ?_)
              · skip
                refine OK.ieq (fun h295 => ?_) (fun h295 => ?_)
                · skip
                  unfold f_X3_parse_90
                  try dsimp only
                  refine OK.bndR (k_X6_isKeyword _ _ hI ) (fun v296 h297 => ?_)
                  dsimp only
                  refine OK.ieq (fun h298 => ?_) (fun h298 => ?_)
                  · skip
                    unfold f_X3_parse_105
                    try dsimp only
                    unfold f_X3_parse_106
                    try dsimp only
                    refine OK.ieq (fun h299 => ?_) (fun h299 => ?_)
                    · skip
                      refine OK.ieq (fun h300 => ?_) (fun h300 => ?_)
                      · skip
                        refine OK.bndW (k_X6_refuse _ _ hI ) Fr.rf (fun v301 s303 is303 fs303 h302 => ?_)
                        dsimp only
                        refine OK.grd (b01 (by omega)) ?_
                        exact OK.wret is303 fs303 (by first | trivial | omega | exact hI.flds _ | exact hI.dflds _ | exact hI.recs _ | exact hI.drecs _ | exact hI.droot _ | omega)
                      · skip
                        unfold f_X3_parse_127
                        try dsimp only
                        refine OK.bndW (k_X3_resolve _ _ hI ) Fr.rf (fun v304 s306 is306 fs306 h305 => ?_)
                        dsimp only
                        refine OK.ieq (fun h307 => ?_) (fun h307 => ?_)
                        · skip
                          exact OK.wret is306 fs306 (by first | trivial | omega | exact hI.flds _ | exact hI.dflds _ | exact hI.recs _ | exact hI.drecs _ | exact hI.droot _ | omega)
                        · skip
                          refine OK.ieq (fun h308 => ?_) (fun h308 => ?_)
                          · skip
                            refine OK.bndW (k_X3_beginPlan _ _ is306 ) fs306 (fun v309 s311 is311 fs311 h310 => ?_)
                            dsimp only
                            refine OK.ieq (fun h312 => ?_) (fun h312 => ?_)
                            · skip
                              exact OK.wret is311 fs311 (by first | trivial | omega | exact hI.flds _ | exact hI.dflds _ | exact hI.recs _ | exact hI.drecs _ | exact hI.droot _ | omega)
                            · skip
                              unfold f_X3_parse_157
                              try dsimp only
                              obtain ⟨a313k, a313, a313l, a313r⟩ := i_add x1 1
                              try (refine k0el (k := a313k) ?_ (fun e0 => ?_); (focus omega); subst e0)
                              obtain ⟨a314k, a314, a314l, a314r⟩ := i_add x2 1
                              try (refine k0el (k := a314k) ?_ (fun e0 => ?_); (focus omega); subst e0)
                              exact OK.trW (ih _ _ _ is311 (by omega)) fs311 (fun v hv => by first | trivial | omega | exact hI.flds _ | exact hI.dflds _ | exact hI.recs _ | exact hI.drecs _ | exact hI.droot _ | omega)
                          · skip
                            exact OK.wret is306 fs306 (by first | trivial | omega | exact hI.flds _ | exact hI.dflds _ | exact hI.recs _ | exact hI.drecs _ | exact hI.droot _ | omega)
                    · skip
                      unfold f_X3_parse_127
                      try dsimp only
                      refine OK.bndW (k_X3_resolve _ _ hI ) Fr.rf (fun v315 s317 is317 fs317 h316 => ?_)
                      dsimp only
                      refine OK.ieq (fun h318 => ?_) (fun h318 => ?_)
                      · skip
                        exact OK.wret is317 fs317 (by first | trivial | omega | exact hI.flds _ | exact hI.dflds _ | exact hI.recs _ | exact hI.drecs _ | exact hI.droot _ | omega)
                      · skip
                        refine OK.ieq (fun h319 => ?_) (fun h319 => ?_)
                        · skip
                          refine OK.bndW (k_X3_beginPlan _ _ is317 ) fs317 (fun v320 s322 is322 fs322 h321 => ?_)
                          dsimp only
                          refine OK.ieq (fun h323 => ?_) (fun h323 => ?_)
                          · skip
                            exact OK.wret is322 fs322 (by first | trivial | omega | exact hI.flds _ | exact hI.dflds _ | exact hI.recs _ | exact hI.drecs _ | exact hI.droot _ | omega)
                          · skip
                            unfold f_X3_parse_157
                            try dsimp only
                            obtain ⟨a324k, a324, a324l, a324r⟩ := i_add x1 1
                            try (refine k0el (k := a324k) ?_ (fun e0 => ?_); (focus omega); subst e0)
                            obtain ⟨a325k, a325, a325l, a325r⟩ := i_add x2 1
                            try (refine k0el (k := a325k) ?_ (fun e0 => ?_); (focus omega); subst e0)
                            exact OK.trW (ih _ _ _ is322 (by omega)) fs322 (fun v hv => by first | trivial | omega | exact hI.flds _ | exact hI.dflds _ | exact hI.recs _ | exact hI.drecs _ | exact hI.droot _ | omega)
                        · skip
                          exact OK.wret is317 fs317 (by first | trivial | omega | exact hI.flds _ | exact hI.dflds _ | exact hI.recs _ | exact hI.drecs _ | exact hI.droot _ | omega)
                  · skip
                    unfold f_X3_parse_106
                    try dsimp only
                    refine OK.ieq (fun h326 => ?_) (fun h326 => ?_)
                    · skip
                      refine OK.ieq (fun h327 => ?_) (fun h327 => ?_)
                      · skip
                        refine OK.bndW (k_X6_refuse _ _ hI ) Fr.rf (fun v328 s330 is330 fs330 h329 => ?_)
                        dsimp only
                        refine OK.grd (b01 (by omega)) ?_
                        exact OK.wret is330 fs330 (by first | trivial | omega | exact hI.flds _ | exact hI.dflds _ | exact hI.recs _ | exact hI.drecs _ | exact hI.droot _ | omega)
                      · skip
                        unfold f_X3_parse_127
                        try dsimp only
                        refine OK.bndW (k_X3_resolve _ _ hI ) Fr.rf (fun v331 s333 is333 fs333 h332 => ?_)
                        dsimp only
                        refine OK.ieq (fun h334 => ?_) (fun h334 => ?_)
                        · skip
                          exact OK.wret is333 fs333 (by first | trivial | omega | exact hI.flds _ | exact hI.dflds _ | exact hI.recs _ | exact hI.drecs _ | exact hI.droot _ | omega)
                        · skip
                          refine OK.ieq (fun h335 => ?_) (fun h335 => ?_)
                          · skip
                            refine OK.bndW (k_X3_beginPlan _ _ is333 ) fs333 (fun v336 s338 is338 fs338 h337 => ?_)
                            dsimp only
                            refine OK.ieq (fun h339 => ?_) (fun h339 => ?_)
                            · skip
                              exact OK.wret is338 fs338 (by first | trivial | omega | exact hI.flds _ | exact hI.dflds _ | exact hI.recs _ | exact hI.drecs _ | exact hI.droot _ | omega)
                            · skip
                              unfold f_X3_parse_157
                              try dsimp only
                              obtain ⟨a340k, a340, a340l, a340r⟩ := i_add x1 1
                              try (refine k0el (k := a340k) ?_ (fun e0 => ?_); (focus omega); subst e0)
                              obtain ⟨a341k, a341, a341l, a341r⟩ := i_add x2 1
                              try (refine k0el (k := a341k) ?_ (fun e0 => ?_); (focus omega); subst e0)
                              exact OK.trW (ih _ _ _ is338 (by omega)) fs338 (fun v hv => by first | trivial | omega | exact hI.flds _ | exact hI.dflds _ | exact hI.recs _ | exact hI.drecs _ | exact hI.droot _ | omega)
                          · skip
                            exact OK.wret is333 fs333 (by first | trivial | omega | exact hI.flds _ | exact hI.dflds _ | exact hI.recs _ | exact hI.drecs _ | exact hI.droot _ | omega)
                    · skip
                      unfold f_X3_parse_127
                      try dsimp only
                      refine OK.bndW (k_X3_resolve _ _ hI ) Fr.rf (fun v342 s344 is344 fs344 h343 => ?_)
                      dsimp only
                      refine OK.ieq (fun h345 => ?_) (fun h345 => ?_)
                      · skip
                        exact OK.wret is344 fs344 (by first | trivial | omega | exact hI.flds _ | exact hI.dflds _ | exact hI.recs _ | exact hI.drecs _ | exact hI.droot _ | omega)
                      · skip
                        refine OK.ieq (fun h346 => ?_) (fun h346 => ?_)
                        · skip
                          refine OK.bndW (k_X3_beginPlan _ _ is344 ) fs344 (fun v347 s349 is349 fs349 h348 => ?_)
                          dsimp only
                          refine OK.ieq (fun h350 => ?_) (fun h350 => ?_)
                          · skip
                            exact OK.wret is349 fs349 (by first | trivial | omega | exact hI.flds _ | exact hI.dflds _ | exact hI.recs _ | exact hI.drecs _ | exact hI.droot _ | omega)
                          · skip
                            unfold f_X3_parse_157
                            try dsimp only
                            obtain ⟨a351k, a351, a351l, a351r⟩ := i_add x1 1
                            try (refine k0el (k := a351k) ?_ (fun e0 => ?_); (focus omega); subst e0)
                            obtain ⟨a352k, a352, a352l, a352r⟩ := i_add x2 1
                            try (refine k0el (k := a352k) ?_ (fun e0 => ?_); (focus omega); subst e0)
                            exact OK.trW (ih _ _ _ is349 (by omega)) fs349 (fun v hv => by first | trivial | omega | exact hI.flds _ | exact hI.dflds _ | exact hI.recs _ | exact hI.drecs _ | exact hI.droot _ | omega)
                        · skip
                          exact OK.wret is344 fs344 (by first | trivial | omega | exact hI.flds _ | exact hI.dflds _ | exact hI.recs _ | exact hI.drecs _ | exact hI.droot _ | omega)
                · skip
                  unfold f_X3_parse_105
                  try dsimp only
                  unfold f_X3_parse_106
                  try dsimp only
                  refine OK.ieq (fun h353 => ?_) (fun h353 => ?_)
                  · skip
                    refine OK.ieq (fun h354 => ?_) (fun h354 => ?_)
                    · skip
                      refine OK.bndW (k_X6_refuse _ _ hI ) Fr.rf (fun v355 s357 is357 fs357 h356 => ?_)
                      dsimp only
                      refine OK.grd (b01 (by omega)) ?_
                      exact OK.wret is357 fs357 (by first | trivial | omega | exact hI.flds _ | exact hI.dflds _ | exact hI.recs _ | exact hI.drecs _ | exact hI.droot _ | omega)
                    · skip
                      unfold f_X3_parse_127
                      try dsimp only
                      refine OK.bndW (k_X3_resolve _ _ hI ) Fr.rf (fun v358 s360 is360 fs360 h359 => ?_)
                      dsimp only
                      refine OK.ieq (fun h361 => ?_) (fun h361 => ?_)
                      · skip
                        exact OK.wret is360 fs360 (by first | trivial | omega | exact hI.flds _ | exact hI.dflds _ | exact hI.recs _ | exact hI.drecs _ | exact hI.droot _ | omega)
                      · skip
                        refine OK.ieq (fun h362 => ?_) (fun h362 => ?_)
                        · skip
                          refine OK.bndW (k_X3_beginPlan _ _ is360 ) fs360 (fun v363 s365 is365 fs365 h364 => ?_)
                          dsimp only
                          refine OK.ieq (fun h366 => ?_) (fun h366 => ?_)
                          · skip
                            exact OK.wret is365 fs365 (by first | trivial | omega | exact hI.flds _ | exact hI.dflds _ | exact hI.recs _ | exact hI.drecs _ | exact hI.droot _ | omega)
                          · skip
                            unfold f_X3_parse_157
                            try dsimp only
                            obtain ⟨a367k, a367, a367l, a367r⟩ := i_add x1 1
                            try (refine k0el (k := a367k) ?_ (fun e0 => ?_); (focus omega); subst e0)
                            obtain ⟨a368k, a368, a368l, a368r⟩ := i_add x2 1
                            try (refine k0el (k := a368k) ?_ (fun e0 => ?_); (focus omega); subst e0)
                            exact OK.trW (ih _ _ _ is365 (by omega)) fs365 (fun v hv => by first | trivial | omega | exact hI.flds _ | exact hI.dflds _ | exact hI.recs _ | exact hI.drecs _ | exact hI.droot _ | omega)
                        · skip
                          exact OK.wret is360 fs360 (by first | trivial | omega | exact hI.flds _ | exact hI.dflds _ | exact hI.recs _ | exact hI.drecs _ | exact hI.droot _ | omega)
                  · skip
                    unfold f_X3_parse_127
                    try dsimp only
                    refine OK.bndW (k_X3_resolve _ _ hI ) Fr.rf (fun v369 s371 is371 fs371 h370 => ?_)
                    dsimp only
                    refine OK.ieq (fun h372 => ?_) (fun h372 => ?_)
                    · skip
                      exact OK.wret is371 fs371 (by first | trivial | omega | exact hI.flds _ | exact hI.dflds _ | exact hI.recs _ | exact hI.drecs _ | exact hI.droot _ | omega)
                    · skip
                      refine OK.ieq (fun h373 => ?_) (fun h373 => ?_)
                      · skip
                        refine OK.bndW (k_X3_beginPlan _ _ is371 ) fs371 (fun v374 s376 is376 fs376 h375 => ?_)
                        dsimp only
                        refine OK.ieq (fun h377 => ?_) (fun h377 => ?_)
                        · skip
                          exact OK.wret is376 fs376 (by first | trivial | omega | exact hI.flds _ | exact hI.dflds _ | exact hI.recs _ | exact hI.drecs _ | exact hI.droot _ | omega)
                        · skip
                          unfold f_X3_parse_157
                          try dsimp only
                          obtain ⟨a378k, a378, a378l, a378r⟩ := i_add x1 1
                          try (refine k0el (k := a378k) ?_ (fun e0 => ?_); (focus omega); subst e0)
                          obtain ⟨a379k, a379, a379l, a379r⟩ := i_add x2 1
                          try (refine k0el (k := a379k) ?_ (fun e0 => ?_); (focus omega); subst e0)
                          exact OK.trW (ih _ _ _ is376 (by omega)) fs376 (fun v hv => by first | trivial | omega | exact hI.flds _ | exact hI.dflds _ | exact hI.recs _ | exact hI.drecs _ | exact hI.droot _ | omega)
                      · skip
                        exact OK.wret is371 fs371 (by first | trivial | omega | exact hI.flds _ | exact hI.dflds _ | exact hI.recs _ | exact hI.drecs _ | exact hI.droot _ | omega)
              · skip
                unfold f_X3_parse_90
                try dsimp only
                refine OK.bndR (k_X6_isKeyword _ _ hI ) (fun v380 h381 => ?_)
                dsimp only
                refine OK.ieq (fun h382 => ?_) (fun h382 => ?_)
                · skip
                  unfold f_X3_parse_105
                  try dsimp only
                  unfold f_X3_parse_106
                  try dsimp only
                  refine OK.ieq (fun h383 => ?_) (fun h383 => ?_)
                  · skip
                    refine OK.ieq (fun h384 => ?_) (fun h384 => ?_)
                    · skip
                      refine OK.bndW (k_X6_refuse _ _ hI ) Fr.rf (fun v385 s387 is387 fs387 h386 => ?_)
                      dsimp only
                      refine OK.grd (b01 (by omega)) ?_
                      exact OK.wret is387 fs387 (by first | trivial | omega | exact hI.flds _ | exact hI.dflds _ | exact hI.recs _ | exact hI.drecs _ | exact hI.droot _ | omega)
                    · skip
                      unfold f_X3_parse_127
                      try dsimp only
                      refine OK.bndW (k_X3_resolve _ _ hI ) Fr.rf (fun v388 s390 is390 fs390 h389 => ?_)
                      dsimp only
                      refine OK.ieq (fun h391 => ?_) (fun h391 => ?_)
                      · skip
                        exact OK.wret is390 fs390 (by first | trivial | omega | exact hI.flds _ | exact hI.dflds _ | exact hI.recs _ | exact hI.drecs _ | exact hI.droot _ | omega)
                      · skip
                        refine OK.ieq (fun h392 => ?_) (fun h392 => ?_)
                        · skip
                          refine OK.bndW (k_X3_beginPlan _ _ is390 ) fs390 (fun v393 s395 is395 fs395 h394 => ?_)
                          dsimp only
                          refine OK.ieq (fun h396 => ?_) (fun h396 => ?_)
                          · skip
                            exact OK.wret is395 fs395 (by first | trivial | omega | exact hI.flds _ | exact hI.dflds _ | exact hI.recs _ | exact hI.drecs _ | exact hI.droot _ | omega)
                          · skip
                            unfold f_X3_parse_157
                            try dsimp only
                            obtain ⟨a397k, a397, a397l, a397r⟩ := i_add x1 1
                            try (refine k0el (k := a397k) ?_ (fun e0 => ?_); (focus omega); subst e0)
                            obtain ⟨a398k, a398, a398l, a398r⟩ := i_add x2 1
                            try (refine k0el (k := a398k) ?_ (fun e0 => ?_); (focus omega); subst e0)
                            exact OK.trW (ih _ _ _ is395 (by omega)) fs395 (fun v hv => by first | trivial | omega | exact hI.flds _ | exact hI.dflds _ | exact hI.recs _ | exact hI.drecs _ | exact hI.droot _ | omega)
                        · skip
                          exact OK.wret is390 fs390 (by first | trivial | omega | exact hI.flds _ | exact hI.dflds _ | exact hI.recs _ | exact hI.drecs _ | exact hI.droot _ | omega)
                  · skip
                    unfold f_X3_parse_127
                    try dsimp only
                    refine OK.bndW (k_X3_resolve _ _ hI ) Fr.rf (fun v399 s401 is401 fs401 h400 => ?_)
                    dsimp only
                    refine OK.ieq (fun h402 => ?_) (fun h402 => ?_)
                    · skip
                      exact OK.wret is401 fs401 (by first | trivial | omega | exact hI.flds _ | exact hI.dflds _ | exact hI.recs _ | exact hI.drecs _ | exact hI.droot _ | omega)
                    · skip
                      refine OK.ieq (fun h403 => ?_) (fun h403 => ?_)
                      · skip
                        refine OK.bndW (k_X3_beginPlan _ _ is401 ) fs401 (fun v404 s406 is406 fs406 h405 => ?_)
                        dsimp only
                        refine OK.ieq (fun h407 => ?_) (fun h407 => ?_)
                        · skip
                          exact OK.wret is406 fs406 (by first | trivial | omega | exact hI.flds _ | exact hI.dflds _ | exact hI.recs _ | exact hI.drecs _ | exact hI.droot _ | omega)
                        · skip
                          unfold f_X3_parse_157
                          try dsimp only
                          obtain ⟨a408k, a408, a408l, a408r⟩ := i_add x1 1
                          try (refine k0el (k := a408k) ?_ (fun e0 => ?_); (focus omega); subst e0)
                          obtain ⟨a409k, a409, a409l, a409r⟩ := i_add x2 1
                          try (refine k0el (k := a409k) ?_ (fun e0 => ?_); (focus omega); subst e0)
                          exact OK.trW (ih _ _ _ is406 (by omega)) fs406 (fun v hv => by first | trivial | omega | exact hI.flds _ | exact hI.dflds _ | exact hI.recs _ | exact hI.drecs _ | exact hI.droot _ | omega)
                      · skip
                        exact OK.wret is401 fs401 (by first | trivial | omega | exact hI.flds _ | exact hI.dflds _ | exact hI.recs _ | exact hI.drecs _ | exact hI.droot _ | omega)
                · skip
                  unfold f_X3_parse_106
                  try dsimp only
                  refine OK.ieq (fun h410 => ?_) (fun h410 => ?_)
                  · skip
                    refine OK.ieq (fun h411 => ?_) (fun h411 => ?_)
                    · skip
                      refine OK.bndW (k_X6_refuse _ _ hI ) Fr.rf (fun v412 s414 is414 fs414 h413 => ?_)
                      dsimp only
                      refine OK.grd (b01 (by omega)) ?_
                      exact OK.wret is414 fs414 (by first | trivial | omega | exact hI.flds _ | exact hI.dflds _ | exact hI.recs _ | exact hI.drecs _ | exact hI.droot _ | omega)
                    · skip
                      unfold f_X3_parse_127
                      try dsimp only
                      refine OK.bndW (k_X3_resolve _ _ hI ) Fr.rf (fun v415 s417 is417 fs417 h416 => ?_)
                      dsimp only
                      refine OK.ieq (fun h418 => ?_) (fun h418 => ?_)
                      · skip
                        exact OK.wret is417 fs417 (by first | trivial | omega | exact hI.flds _ | exact hI.dflds _ | exact hI.recs _ | exact hI.drecs _ | exact hI.droot _ | omega)
                      · skip
                        refine OK.ieq (fun h419 => ?_) (fun h419 => ?_)
                        · skip
                          refine OK.bndW (k_X3_beginPlan _ _ is417 ) fs417 (fun v420 s422 is422 fs422 h421 => ?_)
                          dsimp only
                          refine OK.ieq (fun h423 => ?_) (fun h423 => ?_)
                          · skip
                            exact OK.wret is422 fs422 (by first | trivial | omega | exact hI.flds _ | exact hI.dflds _ | exact hI.recs _ | exact hI.drecs _ | exact hI.droot _ | omega)
                          · skip
                            unfold f_X3_parse_157
                            try dsimp only
                            obtain ⟨a424k, a424, a424l, a424r⟩ := i_add x1 1
                            try (refine k0el (k := a424k) ?_ (fun e0 => ?_); (focus omega); subst e0)
                            obtain ⟨a425k, a425, a425l, a425r⟩ := i_add x2 1
                            try (refine k0el (k := a425k) ?_ (fun e0 => ?_); (focus omega); subst e0)
                            exact OK.trW (ih _ _ _ is422 (by omega)) fs422 (fun v hv => by first | trivial | omega | exact hI.flds _ | exact hI.dflds _ | exact hI.recs _ | exact hI.drecs _ | exact hI.droot _ | omega)
                        · skip
                          exact OK.wret is417 fs417 (by first | trivial | omega | exact hI.flds _ | exact hI.dflds _ | exact hI.recs _ | exact hI.drecs _ | exact hI.droot _ | omega)
                  · skip
                    unfold f_X3_parse_127
                    try dsimp only
                    refine OK.bndW (k_X3_resolve _ _ hI ) Fr.rf (fun v426 s428 is428 fs428 h427 => ?_)
                    dsimp only
                    refine OK.ieq (fun h429 => ?_) (fun h429 => ?_)
                    · skip
                      exact OK.wret is428 fs428 (by first | trivial | omega | exact hI.flds _ | exact hI.dflds _ | exact hI.recs _ | exact hI.drecs _ | exact hI.droot _ | omega)
                    · skip
                      refine OK.ieq (fun h430 => ?_) (fun h430 => ?_)
                      · skip
                        refine OK.bndW (k_X3_beginPlan _ _ is428 ) fs428 (fun v431 s433 is433 fs433 h432 => ?_)
                        dsimp only
                        refine OK.ieq (fun h434 => ?_) (fun h434 => ?_)
                        · skip
                          exact OK.wret is433 fs433 (by first | trivial | omega | exact hI.flds _ | exact hI.dflds _ | exact hI.recs _ | exact hI.drecs _ | exact hI.droot _ | omega)
                        · skip
                          unfold f_X3_parse_157
                          try dsimp only
                          obtain ⟨a435k, a435, a435l, a435r⟩ := i_add x1 1
                          try (refine k0el (k := a435k) ?_ (fun e0 => ?_); (focus omega); subst e0)
                          obtain ⟨a436k, a436, a436l, a436r⟩ := i_add x2 1
                          try (refine k0el (k := a436k) ?_ (fun e0 => ?_); (focus omega); subst e0)
                          exact OK.trW (ih _ _ _ is433 (by omega)) fs433 (fun v hv => by first | trivial | omega | exact hI.flds _ | exact hI.dflds _ | exact hI.recs _ | exact hI.drecs _ | exact hI.droot _ | omega)
                      · skip
                        exact OK.wret is428 fs428 (by first | trivial | omega | exact hI.flds _ | exact hI.dflds _ | exact hI.recs _ | exact hI.drecs _ | exact hI.droot _ | omega)
        · skip
          refine OK.bndR (k_X6_isKeyword _ _ hI ) (fun v437 h438 => ?_)
          dsimp only
          refine OK.ieq (fun h439 => ?_) (fun h439 => ?_)
          · skip
            unfold f_X3_parse_60
            try dsimp only
            refine OK.ieq (fun h440 => ?_) (fun h440 => ?_)
            · skip
              unfold f_X3_parse_78
              try dsimp only
              unfold f_X3_parse_79
              try dsimp only
              refine OK.ieq (fun h441 => ?_) (fun h441 => ?_)
              · skip
                refine OK.ieq (fun h442 => ?_) (fun h442 => ?_)
                · skip
                  unfold f_X3_parse_90
                  try dsimp only
                  refine OK.bndR (k_X6_isKeyword _ _ hI ) (fun v443 h444 => ?_)
                  dsimp only
                  refine OK.ieq (fun h445 => ?_) (fun h445 => ?_)
                  · skip
                    unfold f_X3_parse_105
                    try dsimp only
                    unfold f_X3_parse_106
                    try dsimp only
                    refine OK.ieq (fun h446 => ?_) (fun h446 => ?_)
                    · skip
                      refine OK.ieq (fun h447 => ?_) (fun h447 => ?_)
                      · skip
                        refine OK.bndW (k_X6_refuse _ _ hI ) Fr.rf (fun v448 s450 is450 fs450 h449 => ?_)
                        dsimp only
                        refine OK.grd (b01 (by omega)) ?_
                        exact OK.wret is450 fs450 (by first | trivial | omega | exact hI.flds _ | exact hI.dflds _ | exact hI.recs _ | exact hI.drecs _ | exact hI.droot _ | omega)
                      · skip
                        unfold f_X3_parse_127
                        try dsimp only
                        refine OK.bndW (k_X3_resolve _ _ hI ) Fr.rf (fun v451 s453 is453 fs453 h452 => ?_)
                        dsimp only
                        refine OK.ieq (fun h454 => ?_) (fun h454 => ?_)
                        · skip
                          exact OK.wret is453 fs453 (by first | trivial | omega | exact hI.flds _ | exact hI.dflds _ | exact hI.recs _ | exact hI.drecs _ | exact hI.droot _ | omega)
                        · skip
                          refine OK.ieq (fun h455 => ?_) (fun h455 => ?_)
                          · skip
                            refine OK.bndW (k_X3_beginPlan _ _ is453 ) fs453 (fun v456 s458 is458 fs458 h457 => ?_)
                            dsimp only
                            refine OK.ieq (fun h459 => ?_) (fun h459 => ?_)
                            · skip
                              exact OK.wret is458 fs458 (by first | trivial | omega | exact hI.flds _ | exact hI.dflds _ | exact hI.recs _ | exact hI.drecs _ | exact hI.droot _ | omega)
                            · skip
                              unfold f_X3_parse_157
                              try dsimp only
                              obtain ⟨a460k, a460, a460l, a460r⟩ := i_add x1 1
                              try (refine k0el (k := a460k) ?_ (fun e0 => ?_); (focus omega); subst e0)
                              obtain ⟨a461k, a461, a461l, a461r⟩ := i_add x2 1
                              try (refine k0el (k := a461k) ?_ (fun e0 => ?_); (focus omega); subst e0)
                              exact OK.trW (ih _ _ _ is458 (by omega)) fs458 (fun v hv => by first | trivial | omega | exact hI.flds _ | exact hI.dflds _ | exact hI.recs _ | exact hI.drecs _ | exact hI.droot _ | omega)
                          · skip
                            exact OK.wret is453 fs453 (by first | trivial | omega | exact hI.flds _ | exact hI.dflds _ | exact hI.recs _ | exact hI.drecs _ | exact hI.droot _ | omega)
                    · skip
                      unfold f_X3_parse_127
                      try dsimp only
                      refine OK.bndW (k_X3_resolve _ _ hI ) Fr.rf (fun v462 s464 is464 fs464 h463 => ?_)
                      dsimp only
                      refine OK.ieq (fun h465 => ?_) (fun h465 => ?_)
                      · skip
                        exact OK.wret is464 fs464 (by first | trivial | omega | exact hI.flds _ | exact hI.dflds _ | exact hI.recs _ | exact hI.drecs _ | exact hI.droot _ | omega)
                      · skip
                        refine OK.ieq (fun h466 => ?_) (fun h466 => ?_)
                        · skip
                          refine OK.bndW (k_X3_beginPlan _ _ is464 ) fs464 (fun v467 s469 is469 fs469 h468 => ?_)
                          dsimp only
                          refine OK.ieq (fun h470 => ?_) (fun h470 => ?_)
                          · skip
                            exact OK.wret is469 fs469 (by first | trivial | omega | exact hI.flds _ | exact hI.dflds _ | exact hI.recs _ | exact hI.drecs _ | exact hI.droot _ | omega)
                          · skip
                            unfold f_X3_parse_157
                            try dsimp only
                            obtain ⟨a471k, a471, a471l, a471r⟩ := i_add x1 1
                            try (refine k0el (k := a471k) ?_ (fun e0 => ?_); (focus omega); subst e0)
                            obtain ⟨a472k, a472, a472l, a472r⟩ := i_add x2 1
                            try (refine k0el (k := a472k) ?_ (fun e0 => ?_); (focus omega); subst e0)
                            exact OK.trW (ih _ _ _ is469 (by omega)) fs469 (fun v hv => by first | trivial | omega | exact hI.flds _ | exact hI.dflds _ | exact hI.recs _ | exact hI.drecs _ | exact hI.droot _ | omega)
                        · skip
                          exact OK.wret is464 fs464 (by first | trivial | omega | exact hI.flds _ | exact hI.dflds _ | exact hI.recs _ | exact hI.drecs _ | exact hI.droot _ | omega)
                  · skip
                    unfold f_X3_parse_106
                    try dsimp only
                    refine OK.ieq (fun h473 => ?_) (fun h473 => ?_)
                    · skip
                      refine OK.ieq (fun h474 => ?_) (fun h474 => ?_)
                      · skip
                        refine OK.bndW (k_X6_refuse _ _ hI ) Fr.rf (fun v475 s477 is477 fs477 h476 => ?_)
                        dsimp only
                        refine OK.grd (b01 (by omega)) ?_
                        exact OK.wret is477 fs477 (by first | trivial | omega | exact hI.flds _ | exact hI.dflds _ | exact hI.recs _ | exact hI.drecs _ | exact hI.droot _ | omega)
                      · skip
                        unfold f_X3_parse_127
                        try dsimp only
                        refine OK.bndW (k_X3_resolve _ _ hI ) Fr.rf (fun v478 s480 is480 fs480 h479 => ?_)
                        dsimp only
                        refine OK.ieq (fun h481 => ?_) (fun h481 => ?_)
                        · skip
                          exact OK.wret is480 fs480 (by first | trivial | omega | exact hI.flds _ | exact hI.dflds _ | exact hI.recs _ | exact hI.drecs _ | exact hI.droot _ | omega)
                        · skip
                          refine OK.ieq (fun h482 => ?_) (fun h482 => ?_)
                          · skip
                            refine OK.bndW (k_X3_beginPlan _ _ is480 ) fs480 (fun v483 s485 is485 fs485 h484 => ?_)
                            dsimp only
                            refine OK.ieq (fun h486 => ?_) (fun h486 => ?_)
                            · skip
                              exact OK.wret is485 fs485 (by first | trivial | omega | exact hI.flds _ | exact hI.dflds _ | exact hI.recs _ | exact hI.drecs _ | exact hI.droot _ | omega)
                            · skip
                              unfold f_X3_parse_157
                              try dsimp only
                              obtain ⟨a487k, a487, a487l, a487r⟩ := i_add x1 1
                              try (refine k0el (k := a487k) ?_ (fun e0 => ?_); (focus omega); subst e0)
                              obtain ⟨a488k, a488, a488l, a488r⟩ := i_add x2 1
                              try (refine k0el (k := a488k) ?_ (fun e0 => ?_); (focus omega); subst e0)
                              exact OK.trW (ih _ _ _ is485 (by omega)) fs485 (fun v hv => by first | trivial | omega | exact hI.flds _ | exact hI.dflds _ | exact hI.recs _ | exact hI.drecs _ | exact hI.droot _ | omega)
                          · skip
                            exact OK.wret is480 fs480 (by first | trivial | omega | exact hI.flds _ | exact hI.dflds _ | exact hI.recs _ | exact hI.drecs _ | exact hI.droot _ | omega)
                    · skip
                      unfold f_X3_parse_127
                      try dsimp only
                      refine OK.bndW (k_X3_resolve _ _ hI ) Fr.rf (fun v489 s491 is491 fs491 h490 => ?_)
                      dsimp only
                      refine OK.ieq (fun h492 => ?_) (fun h492 => ?_)
                      · skip
                        exact OK.wret is491 fs491 (by first | trivial | omega | exact hI.flds _ | exact hI.dflds _ | exact hI.recs _ | exact hI.drecs _ | exact hI.droot _ | omega)
                      · skip
                        refine OK.ieq (fun h493 => ?_) (fun h493 => ?_)
                        · skip
                          refine OK.bndW (k_X3_beginPlan _ _ is491 ) fs491 (fun v494 s496 is496 fs496 h495 => ?_)
                          dsimp only
                          refine OK.ieq (fun h497 => ?_) (fun h497 => ?_)
                          · skip
                            exact OK.wret is496 fs496 (by first | trivial | omega | exact hI.flds _ | exact hI.dflds _ | exact hI.recs _ | exact hI.drecs _ | exact hI.droot _ | omega)
                          · skip
                            unfold f_X3_parse_157
                            try dsimp only
                            obtain ⟨a498k, a498, a498l, a498r⟩ := i_add x1 1
                            try (refine k0el (k := a498k) ?_ (fun e0 => ?_); (focus omega); subst e0)
                            obtain ⟨a499k, a499, a499l, a499r⟩ := i_add x2 1
                            try (refine k0el (k := a499k) ?_ (fun e0 => ?_); (focus omega); subst e0)
                            exact OK.trW (ih _ _ _ is496 (by omega)) fs496 (fun v hv => by first | trivial | omega | exact hI.flds _ | exact hI.dflds _ | exact hI.recs _ | exact hI.drecs _ | exact hI.droot _ | omega)
                        · skip
                          exact OK.wret is491 fs491 (by first | trivial | omega | exact hI.flds _ | exact hI.dflds _ | exact hI.recs _ | exact hI.drecs _ | exact hI.droot _ | omega)
                · skip
                  unfold f_X3_parse_105
                  try dsimp only
                  unfold f_X3_parse_106
                  try dsimp only
                  refine OK.ieq (fun h500 => ?_) (fun h500 => ?_)
                  · skip
                    refine OK.ieq (fun h501 => ?_) (fun h501 => ?_)
                    · skip
                      refine OK.bndW (k_X6_refuse _ _ hI ) Fr.rf (fun v502 s504 is504 fs504 h503 => ?_)
                      dsimp only
                      refine OK.grd (b01 (by omega)) ?_
                      exact OK.wret is504 fs504 (by first | trivial | omega | exact hI.flds _ | exact hI.dflds _ | exact hI.recs _ | exact hI.drecs _ | exact hI.droot _ | omega)
                    · skip
                      unfold f_X3_parse_127
                      try dsimp only
                      refine OK.bndW (k_X3_resolve _ _ hI ) Fr.rf (fun v505 s507 is507 fs507 h506 => ?_)
                      dsimp only
                      refine OK.ieq (fun h508 => ?_) (fun h508 => ?_)
                      · skip
                        exact OK.wret is507 fs507 (by first | trivial | omega | exact hI.flds _ | exact hI.dflds _ | exact hI.recs _ | exact hI.drecs _ | exact hI.droot _ | omega)
                      · skip
                        refine OK.ieq (fun h509 => ?_) (fun h509 => ?_)
                        · skip
                          refine OK.bndW (k_X3_beginPlan _ _ is507 ) fs507 (fun v510 s512 is512 fs512 h511 => ?_)
                          dsimp only
                          refine OK.ieq (fun h513 => ?_) (fun h513 => ?_)
                          · skip
                            exact OK.wret is512 fs512 (by first | trivial | omega | exact hI.flds _ | exact hI.dflds _ | exact hI.recs _ | exact hI.drecs _ | exact hI.droot _ | omega)
                          · skip
                            unfold f_X3_parse_157
                            try dsimp only
                            obtain ⟨a514k, a514, a514l, a514r⟩ := i_add x1 1
                            try (refine k0el (k := a514k) ?_ (fun e0 => ?_); (focus omega); subst e0)
                            obtain ⟨a515k, a515, a515l, a515r⟩ := i_add x2 1
                            try (refine k0el (k := a515k) ?_ (fun e0 => ?_); (focus omega); subst e0)
                            exact OK.trW (ih _ _ _ is512 (by omega)) fs512 (fun v hv => by first | trivial | omega | exact hI.flds _ | exact hI.dflds _ | exact hI.recs _ | exact hI.drecs _ | exact hI.droot _ | omega)
                        · skip
                          exact OK.wret is507 fs507 (by first | trivial | omega | exact hI.flds _ | exact hI.dflds _ | exact hI.recs _ | exact hI.drecs _ | exact hI.droot _ | omega)
                  · skip
                    unfold f_X3_parse_127
                    try dsimp only
                    refine OK.bndW (k_X3_resolve _ _ hI ) Fr.rf (fun v516 s518 is518 fs518 h517 => ?_)
                    dsimp only
                    refine OK.ieq (fun h519 => ?_) (fun h519 => ?_)
                    · skip
                      exact OK.wret is518 fs518 (by first | trivial | omega | exact hI.flds _ | exact hI.dflds _ | exact hI.recs _ | exact hI.drecs _ | exact hI.droot _ | omega)
                    · skip
                      refine OK.ieq (fun h520 => ?_) (fun h520 => ?_)
                      · skip
                        refine OK.bndW (k_X3_beginPlan _ _ is518 ) fs518 (fun v521 s523 is523 fs523 h522 => ?_)
                        dsimp only
                        refine OK.ieq (fun h524 => ?_) (fun h524 => ?_)
                        · skip
                          exact OK.wret is523 fs523 (by first | trivial | omega | exact hI.flds _ | exact hI.dflds _ | exact hI.recs _ | exact hI.drecs _ | exact hI.droot _ | omega)
                        · skip
                          unfold f_X3_parse_157
                          try dsimp only
                          obtain ⟨a525k, a525, a525l, a525r⟩ := i_add x1 1
                          try (refine k0el (k := a525k) ?_ (fun e0 => ?_); (focus omega); subst e0)
                          obtain ⟨a526k, a526, a526l, a526r⟩ := i_add x2 1
                          try (refine k0el (k := a526k) ?_ (fun e0 => ?_); (focus omega); subst e0)
                          exact OK.trW (ih _ _ _ is523 (by omega)) fs523 (fun v hv => by first | trivial | omega | exact hI.flds _ | exact hI.dflds _ | exact hI.recs _ | exact hI.drecs _ | exact hI.droot _ | omega)
                      · skip
                        exact OK.wret is518 fs518 (by first | trivial | omega | exact hI.flds _ | exact hI.dflds _ | exact hI.recs _ | exact hI.drecs _ | exact hI.droot _ | omega)
              · skip
                unfold f_X3_parse_90
                try dsimp only
                refine OK.bndR (k_X6_isKeyword _ _ hI ) (fun v527 h528 => ?_)
                dsimp only
                refine OK.ieq (fun h529 => ?_) (fun h529 => ?_)
                · skip
                  unfold f_X3_parse_105
                  try dsimp only
                  unfold f_X3_parse_106
                  try dsimp only
                  refine OK.ieq (fun h530 => ?_) (fun h530 => ?_)
                  · skip
                    refine OK.ieq (fun h531 => ?_) (fun h531 => ?_)
                    · skip
                      refine OK.bndW (k_X6_refuse _ _ hI ) Fr.rf (fun v532 s534 is534 fs534 h533 => ?_)
                      dsimp only
                      refine OK.grd (b01 (by omega)) ?_
                      exact OK.wret is534 fs534 (by first | trivial | omega | exact hI.flds _ | exact hI.dflds _ | exact hI.recs _ | exact hI.drecs _ | exact hI.droot _ | omega)
                    · skip
                      unfold f_X3_parse_127
                      try dsimp only
                      refine OK.bndW (k_X3_resolve _ _ hI ) Fr.rf (fun v535 s537 is537 fs537 h536 => ?_)
                      dsimp only
                      refine OK.ieq (fun h538 => ?_) (fun h538 => ?_)
                      · skip
                        exact OK.wret is537 fs537 (by first | trivial | omega | exact hI.flds _ | exact hI.dflds _ | exact hI.recs _ | exact hI.drecs _ | exact hI.droot _ | omega)
                      · skip
                        refine OK.ieq (fun h539 => ?_) (fun h539 => ?_)
                        · skip
                          refine OK.bndW (k_X3_beginPlan _ _ is537 ) fs537 (fun v540 s542 is542 fs542 h541 => ?_)
                          dsimp only
                          refine OK.ieq (fun h543 => ?_) (fun h543 => ?_)
                          · skip
                            exact OK.wret is542 fs542 (by first | trivial | omega | exact hI.flds _ | exact hI.dflds _ | exact hI.recs _ | exact hI.drecs _ | exact hI.droot _ | omega)
                          · skip
                            unfold f_X3_parse_157
                            try dsimp only
                            obtain ⟨a544k, a544, a544l, a544r⟩ := i_add x1 1
                            try (refine k0el (k := a544k) ?_ (fun e0 => ?_); (focus omega); subst e0)
                            obtain ⟨a545k, a545, a545l, a545r⟩ := i_add x2 1
                            try (refine k0el (k := a545k) ?_ (fun e0 => ?_); (focus omega); subst e0)
                            exact OK.trW (ih _ _ _ is542 (by omega)) fs542 (fun v hv => by first | trivial | omega | exact hI.flds _ | exact hI.dflds _ | exact hI.recs _ | exact hI.drecs _ | exact hI.droot _ | omega)
                        · skip
                          exact OK.wret is537 fs537 (by first | trivial | omega | exact hI.flds _ | exact hI.dflds _ | exact hI.recs _ | exact hI.drecs _ | exact hI.droot _ | omega)
                  · skip
                    unfold f_X3_parse_127
                    try dsimp only
                    refine OK.bndW (k_X3_resolve _ _ hI ) Fr.rf (fun v546 s548 is548 fs548 h547 => ?_)
                    dsimp only
                    refine OK.ieq (fun h549 => ?_) (fun h549 => ?_)
                    · skip
                      exact OK.wret is548 fs548 (by first | trivial | omega | exact hI.flds _ | exact hI.dflds _ | exact hI.recs _ | exact hI.drecs _ | exact hI.droot _ | omega)
                    · skip
                      refine OK.ieq (fun h550 => ?_) (fun h550 => ?_)
                      · skip
                        refine OK.bndW (k_X3_beginPlan _ _ is548 ) fs548 (fun v551 s553 is553 fs553 h552 => ?_)
                        dsimp only
                        refine OK.ieq (fun h554 => ?_) (fun h554 => ?_)
                        · skip
                          exact OK.wret is553 fs553 (by first | trivial | omega | exact hI.flds _ | exact hI.dflds _ | exact hI.recs _ | exact hI.drecs _ | exact hI.droot _ | omega)
                        · skip
                          unfold f_X3_parse_157
                          try dsimp only
                          obtain ⟨a555k, a555, a555l, a555r⟩ := i_add x1 1
                          try (refine k0el (k := a555k) ?_ (fun e0 => ?_); (focus omega); subst e0)
                          obtain ⟨a556k, a556, a556l, a556r⟩ := i_add x2 1
                          try (refine k0el (k := a556k) ?_ (fun e0 => ?_); (focus omega); subst e0)
                          exact OK.trW (ih _ _ _ is553 (by omega)) fs553 (fun v hv => by first | trivial | omega | exact hI.flds _ | exact hI.dflds _ | exact hI.recs _ | exact hI.drecs _ | exact hI.droot _ | omega)
                      · skip
                        exact OK.wret is548 fs548 (by first | trivial | omega | exact hI.flds _ | exact hI.dflds _ | exact hI.recs _ | exact hI.drecs _ | exact hI.droot _ | omega)
                · skip
                  unfold f_X3_parse_106
                  try dsimp only
                  refine OK.ieq (fun h557 => ?_) (fun h557 => ?_)
                  · skip
                    refine OK.ieq (fun h558 => ?_) (fun h558 => ?_)
                    · skip
                      refine OK.bndW (k_X6_refuse _ _ hI ) Fr.rf (fun v559 s561 is561 fs561 h560 => ?_)
                      dsimp only
                      refine OK.grd (b01 (by omega)) ?_
                      exact OK.wret is561 fs561 (by first | trivial | omega | exact hI.flds _ | exact hI.dflds _ | exact hI.recs _ | exact hI.drecs _ | exact hI.droot _ | omega)
                    · skip
                      unfold f_X3_parse_127
                      try dsimp only
                      refine OK.bndW (k_X3_resolve _ _ hI ) Fr.rf (fun v562 s564 is564 fs564 h563 => ?_)
                      dsimp only
                      refine OK.ieq (fun h565 => ?_) (fun h565 => ?_)
                      · skip
                        exact OK.wret is564 fs564 (by first | trivial | omega | exact hI.flds _ | exact hI.dflds _ | exact hI.recs _ | exact hI.drecs _ | exact hI.droot _ | omega)
                      · skip
                        refine OK.ieq (fun h566 => ?_) (fun h566 => ?_)
                        · skip
                          refine OK.bndW (k_X3_beginPlan _ _ is564 ) fs564 (fun v567 s569 is569 fs569 h568 => ?_)
                          dsimp only
                          refine OK.ieq (fun h570 => ?_) (fun h570 => ?_)
                          · skip
                            exact OK.wret is569 fs569 (by first | trivial | omega | exact hI.flds _ | exact hI.dflds _ | exact hI.recs _ | exact hI.drecs _ | exact hI.droot _ | omega)
                          · skip
                            unfold f_X3_parse_157
                            try dsimp only
                            obtain ⟨a571k, a571, a571l, a571r⟩ := i_add x1 1
                            try (refine k0el (k := a571k) ?_ (fun e0 => ?_); (focus omega); subst e0)
                            obtain ⟨a572k, a572, a572l, a572r⟩ := i_add x2 1
                            try (refine k0el (k := a572k) ?_ (fun e0 => ?_); (focus omega); subst e0)
                            exact OK.trW (ih _ _ _ is569 (by omega)) fs569 (fun v hv => by first | trivial | omega | exact hI.flds _ | exact hI.dflds _ | exact hI.recs _ | exact hI.drecs _ | exact hI.droot _ | omega)
                        · skip
                          exact OK.wret is564 fs564 (by first | trivial | omega | exact hI.flds _ | exact hI.dflds _ | exact hI.recs _ | exact hI.drecs _ | exact hI.droot _ | omega)
                  · skip
                    unfold f_X3_parse_127
                    try dsimp only
                    refine OK.bndW (k_X3_resolve _ _ hI ) Fr.rf (fun v573 s575 is575 fs575 h574 => ?_)
                    dsimp only
                    refine OK.ieq (fun h576 => ?_) (fun h576 => ?_)
                    · skip
                      exact OK.wret is575 fs575 (by first | trivial | omega | exact hI.flds _ | exact hI.dflds _ | exact hI.recs _ | exact hI.drecs _ | exact hI.droot _ | omega)
                    · skip
                      refine OK.ieq (fun h577 => ?_) (fun h577 => ?_)
                      · skip
                        refine OK.bndW (k_X3_beginPlan _ _ is575 ) fs575 (fun v578 s580 is580 fs580 h579 => ?_)
                        dsimp only
                        refine OK.ieq (fun h581 => ?_) (fun h581 => ?_)
                        · skip
                          exact OK.wret is580 fs580 (by first | trivial | omega | exact hI.flds _ | exact hI.dflds _ | exact hI.recs _ | exact hI.drecs _ | exact hI.droot _ | omega)
                        · skip
                          unfold f_X3_parse_157
                          try dsimp only
                          obtain ⟨a582k, a582, a582l, a582r⟩ := i_add x1 1
                          try (refine k0el (k := a582k) ?_ (fun e0 => ?_); (focus omega); subst e0)
                          obtain ⟨a583k, a583, a583l, a583r⟩ := i_add x2 1
                          try (refine k0el (k := a583k) ?_ (fun e0 => ?_); (focus omega); subst e0)
                          exact OK.trW (ih _ _ _ is580 (by omega)) fs580 (fun v hv => by first | trivial | omega | exact hI.flds _ | exact hI.dflds _ | exact hI.recs _ | exact hI.drecs _ | exact hI.droot _ | omega)
                      · skip
                        exact OK.wret is575 fs575 (by first | trivial | omega | exact hI.flds _ | exact hI.dflds _ | exact hI.recs _ | exact hI.drecs _ | exact hI.droot _ | omega)
            · skip
              refine OK.ieq (fun h584 => ?_) (fun h584 => ?_)
              · skip
                unfold f_X3_parse_79
                try dsimp only
                refine OK.ieq (fun h585 => ?_) (fun h585 => ?_)
                · skip
                  refine OK.ieq (fun h586 => ?_) (fun h586 => ?_)
                  · skip
                    unfold f_X3_parse_90
                    try dsimp only
                    refine OK.bndR (k_X6_isKeyword _ _ hI ) (fun v587 h588 => ?_)
                    dsimp only
                    refine OK.ieq (fun h589 => ?_) (fun h589 => ?_)
                    · skip
                      unfold f_X3_parse_105
                      try dsimp only
                      unfold f_X3_parse_106
                      try dsimp only
                      refine OK.ieq (fun h590 => ?_) (fun h590 => ?_)
                      · skip
                        refine OK.ieq (fun h591 => ?_) (fun h591 => ?_)
                        · skip
                          refine OK.bndW (k_X6_refuse _ _ hI ) Fr.rf (fun v592 s594 is594 fs594 h593 => ?_)
                          dsimp only
                          refine OK.grd (b01 (by omega)) ?_
                          exact OK.wret is594 fs594 (by first | trivial | omega | exact hI.flds _ | exact hI.dflds _ | exact hI.recs _ | exact hI.drecs _ | exact hI.droot _ | omega)
                        · skip
                          unfold f_X3_parse_127
                          try dsimp only
                          refine OK.bndW (k_X3_resolve _ _ hI ) Fr.rf (fun v595 s597 is597 fs597 h596 => ?_)
                          dsimp only
                          refine OK.ieq (fun h598 => ?_) (fun h598 => ?_)
                          · skip
                            exact OK.wret is597 fs597 (by first | trivial | omega | exact hI.flds _ | exact hI.dflds _ | exact hI.recs _ | exact hI.drecs _ | exact hI.droot _ | omega)
                          · skip
                            refine OK.ieq (fun h599 => ?_) (fun h599 => ?_)
                            · skip
                              refine OK.bndW (k_X3_beginPlan _ _ is597 ) fs597 (fun v600 s602 is602 fs602 h601 => ?_)
                              dsimp only
                              refine OK.ieq (fun h603 => ?_) (fun h603 => ?_)
                              · skip
                                exact OK.wret is602 fs602 (by first | trivial | omega | exact hI.flds _ | exact hI.dflds _ | exact hI.recs _ | exact hI.drecs _ | exact hI.droot _ | omega)
                              · skip
                                unfold f_X3_parse_157
                                try dsimp only
                                obtain ⟨a604k, a604, a604l, a604r⟩ := i_add x1 1
                                try (refine k0el (k := a604k) ?_ (fun e0 => ?_); (focus omega); subst e0)
                                obtain ⟨a605k, a605, a605l, a605r⟩ := i_add x2 1
                                try (refine k0el (k := a605k) ?_ (fun e0 => ?_); (focus omega); subst e0)
                                exact OK.trW (ih _ _ _ is602 (by omega)) fs602 (fun v hv => by first | trivial | omega | exact hI.flds _ | exact hI.dflds _ | exact hI.recs _ | exact hI.drecs _ | exact hI.droot _ | omega)
                            · skip
                              exact OK.wret is597 fs597 (by first | trivial | omega | exact hI.flds _ | exact hI.dflds _ | exact hI.recs _ | exact hI.drecs _ | exact hI.droot _ | omega)
                      · skip
                        unfold f_X3_parse_127
                        try dsimp only
                        refine OK.bndW (k_X3_resolve _ _ hI ) Fr.rf (fun v606 s608 is608 fs608 h607 => ?_)
                        dsimp only
                        refine OK.ieq (fun h609 => ?_) (fun h609 => ?_)
                        · skip
                          exact OK.wret is608 fs608 (by first | trivial | omega | exact hI.flds _ | exact hI.dflds _ | exact hI.recs _ | exact hI.drecs _ | exact hI.droot _ | omega)
                        · skip
                          refine OK.ieq (fun h610 => ?_) (fun h610 => ?_)
                          · skip
                            refine OK.bndW (k_X3_beginPlan _ _ is608 ) fs608 (fun v611 s613 is613 fs613 h612 => ?_)
                            dsimp only
                            refine OK.ieq (fun h614 => ?_) (fun h614 => ?_)
                            · skip
                              exact OK.wret is613 fs613 (by first | trivial | omega | exact hI.flds _ | exact hI.dflds _ | exact hI.recs _ | exact hI.drecs _ | exact hI.droot _ | omega)
                            · skip
                              unfold f_X3_parse_157
                              try dsimp only
                              obtain ⟨a615k, a615, a615l, a615r⟩ := i_add x1 1
                              try (refine k0el (k := a615k) ?_ (fun e0 => ?_); (focus omega); subst e0)
                              obtain ⟨a616k, a616, a616l, a616r⟩ := i_add x2 1
                              try (refine k0el (k := a616k) ?_ (fun e0 => ?_); (focus omega); subst e0)
                              exact OK.trW (ih _ _ _ is613 (by omega)) fs613 (fun v hv => by first | trivial | omega | exact hI.flds _ | exact hI.dflds _ | exact hI.recs _ | exact hI.drecs _ | exact hI.droot _ | omega)
                          · skip
                            exact OK.wret is608 fs608 (by first | trivial | omega | exact hI.flds _ | exact hI.dflds _ | exact hI.recs _ | exact hI.drecs _ | exact hI.droot _ | omega)
                    · skip
                      unfold f_X3_parse_106
                      try dsimp only
                      refine OK.ieq (fun h617 => ?_) (fun h617 => ?_)
                      · skip
                        refine OK.ieq (fun h618 => ?_) (fun h618 => ?_)
                        · skip
                          refine OK.bndW (k_X6_refuse _ _ hI ) Fr.rf (fun v619 s621 is621 fs621 h620 => ?_)
                          dsimp only
                          refine OK.grd (b01 (by omega)) ?_
                          exact OK.wret is621 fs621 (by first | trivial | omega | exact hI.flds _ | exact hI.dflds _ | exact hI.recs _ | exact hI.drecs _ | exact hI.droot _ | omega)
                        · skip
                          unfold f_X3_parse_127
                          try dsimp only
                          refine OK.bndW (k_X3_resolve _ _ hI ) Fr.rf (fun v622 s624 is624 fs624 h623 => ?_)
                          dsimp only
                          refine OK.ieq (fun h625 => ?_) (fun h625 => ?_)
                          · skip
                            exact OK.wret is624 fs624 (by first | trivial | omega | exact hI.flds _ | exact hI.dflds _ | exact hI.recs _ | exact hI.drecs _ | exact hI.droot _ | omega)
                          · skip
                            refine OK.ieq (fun h626 => ?_) (fun h626 => ?_)
                            · skip
                              refine OK.bndW (k_X3_beginPlan _ _ is624 ) fs624 (fun v627 s629 is629 fs629 h628 => ?_)
                              dsimp only
                              refine OK.ieq (fun h630 => ?_) (fun h630 => ?_)
                              · skip
                                exact OK.wret is629 fs629 (by first | trivial | omega | exact hI.flds _ | exact hI.dflds _ | exact hI.recs _ | exact hI.drecs _ | exact hI.droot _ | omega)
                              · skip
                                unfold f_X3_parse_157
                                try dsimp only
                                obtain ⟨a631k, a631, a631l, a631r⟩ := i_add x1 1
                                try (refine k0el (k := a631k) ?_ (fun e0 => ?_); (focus omega); subst e0)
                                obtain ⟨a632k, a632, a632l, a632r⟩ := i_add x2 1
                                try (refine k0el (k := a632k) ?_ (fun e0 => ?_); (focus omega); subst e0)
                                exact OK.trW (ih _ _ _ is629 (by omega)) fs629 (fun v hv => by first | trivial | omega | exact hI.flds _ | exact hI.dflds _ | exact hI.recs _ | exact hI.drecs _ | exact hI.droot _ | omega)
                            · skip
                              exact OK.wret is624 fs624 (by first | trivial | omega | exact hI.flds _ | exact hI.dflds _ | exact hI.recs _ | exact hI.drecs _ | exact hI.droot _ | omega)
                      · skip
                        unfold f_X3_parse_127
                        try dsimp only
                        refine OK.bndW (k_X3_resolve _ _ hI ) Fr.rf (fun v633 s635 is635 fs635 h634 => ?_)
                        dsimp only
                        refine OK.ieq (fun h636 => ?_) (fun h636 => ?_)
                        · skip
                          exact OK.wret is635 fs635 (by first | trivial | omega | exact hI.flds _ | exact hI.dflds _ | exact hI.recs _ | exact hI.drecs _ | exact hI.droot _ | omega)
                        · skip
                          refine OK.ieq (fun h637 => ?_) (fun h637 => ?_)
                          · skip
                            refine OK.bndW (k_X3_beginPlan _ _ is635 ) fs635 (fun v638 s640 is640 fs640 h639 => ?_)
                            dsimp only
                            refine OK.ieq (fun h641 => ?_) (fun h641 => ?_)
                            · skip
                              exact OK.wret is640 fs640 (by first | trivial | omega | exact hI.flds _ | exact hI.dflds _ | exact hI.recs _ | exact hI.drecs _ | exact hI.droot _ | omega)
                            · skip
                              unfold f_X3_parse_157
                              try dsimp only
                              obtain ⟨a642k, a642, a642l, a642r⟩ := i_add x1 1
                              try (refine k0el (k := a642k) ?_ (fun e0 => ?_); (focus omega); subst e0)
                              obtain ⟨a643k, a643, a643l, a643r⟩ := i_add x2 1
                              try (refine k0el (k := a643k) ?_ (fun e0 => ?_); (focus omega); subst e0)
                              exact OK.trW (ih _ _ _ is640 (by omega)) fs640 (fun v hv => by first | trivial | omega | exact hI.flds _ | exact hI.dflds _ | exact hI.recs _ | exact hI.drecs _ | exact hI.droot _ | omega)
                          · skip
                            exact OK.wret is635 fs635 (by first | trivial | omega | exact hI.flds _ | exact hI.dflds _ | exact hI.recs _ | exact hI.drecs _ | exact hI.droot _ | omega)
                  · skip
                    unfold f_X3_parse_105
                    try dsimp only
                    unfold f_X3_parse_106
                    try dsimp only
                    refine OK.ieq (fun h644 => ?_) (fun h644 => ?_)
                    · skip
                      refine OK.ieq (fun h645 => ?_) (fun h645 => ?_)
                      · skip
                        refine OK.bndW (k_X6_refuse _ _ hI ) Fr.rf (fun v646 s648 is648 fs648 h647 => ?_)
                        dsimp only
                        refine OK.grd (b01 (by omega)) ?_
                        exact OK.wret is648 fs648 (by first | trivial | omega | exact hI.flds _ | exact hI.dflds _ | exact hI.recs _ | exact hI.drecs _ | exact hI.droot _ | omega)
                      · skip
                        unfold f_X3_parse_127
                        try dsimp only
                        refine OK.bndW (k_X3_resolve _ _ hI ) Fr.rf (fun v649 s651 is651 fs651 h650 => ?_)
                        dsimp only
                        refine OK.ieq (fun h652 => ?_) (fun h652 => ?_)
                        · skip
                          exact OK.wret is651 fs651 (by first | trivial | omega | exact hI.flds _ | exact hI.dflds _ | exact hI.recs _ | exact hI.drecs _ | exact hI.droot _ | omega)
                        · skip
                          refine OK.ieq (fun h653 => ?_) (fun h653 => ?_)
                          · skip
                            refine OK.bndW (k_X3_beginPlan _ _ is651 ) fs651 (fun v654 s656 is656 fs656 h655 => ?_)
                            dsimp only
                            refine OK.ieq (fun h657 => ?_) (fun h657 => ?_)
                            · skip
                              exact OK.wret is656 fs656 (by first | trivial | omega | exact hI.flds _ | exact hI.dflds _ | exact hI.recs _ | exact hI.drecs _ | exact hI.droot _ | omega)
                            · skip
                              unfold f_X3_parse_157
                              try dsimp only
                              obtain ⟨a658k, a658, a658l, a658r⟩ := i_add x1 1
                              try (refine k0el (k := a658k) ?_ (fun e0 => ?_); (focus omega); subst e0)
                              obtain ⟨a659k, a659, a659l, a659r⟩ := i_add x2 1
                              try (refine k0el (k := a659k) ?_ (fun e0 => ?_); (focus omega); subst e0)
                              exact OK.trW (ih _ _ _ is656 (by omega)) fs656 (fun v hv => by first | trivial | omega | exact hI.flds _ | exact hI.dflds _ | exact hI.recs _ | exact hI.drecs _ | exact hI.droot _ | omega)
                          · skip
                            exact OK.wret is651 fs651 (by first | trivial | omega | exact hI.flds _ | exact hI.dflds _ | exact hI.recs _ | exact hI.drecs _ | exact hI.droot _ | omega)
                    · skip
                      unfold f_X3_parse_127
                      try dsimp only
                      refine OK.bndW (k_X3_resolve _ _ hI ) Fr.rf (fun v660 s662 is662 fs662 h661 => ?_)
                      dsimp only
                      refine OK.ieq (fun h663 => ?_) (fun h663 => ?_)
                      · skip
                        exact OK.wret is662 fs662 (by first | trivial | omega | exact hI.flds _ | exact hI.dflds _ | exact hI.recs _ | exact hI.drecs _ | exact hI.droot _ | omega)
                      · skip
                        refine OK.ieq (fun h664 => ?_) (fun h664 => ?_)
                        · skip
                          refine OK.bndW (k_X3_beginPlan _ _ is662 ) fs662 (fun v665 s667 is667 fs667 h666 => ?_)
                          dsimp only
                          refine OK.ieq (fun h668 => ?_) (fun h668 => ?_)
                          · skip
                            exact OK.wret is667 fs667 (by first | trivial | omega | exact hI.flds _ | exact hI.dflds _ | exact hI.recs _ | exact hI.drecs _ | exact hI.droot _ | omega)
                          · skip
                            unfold f_X3_parse_157
                            try dsimp only
                            obtain ⟨a669k, a669, a669l, a669r⟩ := i_add x1 1
                            try (refine k0el (k := a669k) ?_ (fun e0 => ?_); (focus omega); subst e0)
                            obtain ⟨a670k, a670, a670l, a670r⟩ := i_add x2 1
                            try (refine k0el (k := a670k) ?_ (fun e0 => ?_); (focus omega); subst e0)
                            exact OK.trW (ih _ _ _ is667 (by omega)) fs667 (fun v hv => by first | trivial | omega | exact hI.flds _ | exact hI.dflds _ | exact hI.recs _ | exact hI.drecs _ | exact hI.droot _ | omega)
                        · skip
                          exact OK.wret is662 fs662 (by first | trivial | omega | exact hI.flds _ | exact hI.dflds _ | exact hI.recs _ | exact hI.drecs _ | exact hI.droot _ | omega)
                · skip
                  unfold f_X3_parse_90
                  try dsimp only
                  refine OK.bndR (k_X6_isKeyword _ _ hI ) (fun v671 h672 => ?_)
                  dsimp only
                  refine OK.ieq (fun h673 => ?_) (fun h673 => ?_)
                  · skip
                    unfold f_X3_parse_105
                    try dsimp only
                    unfold f_X3_parse_106
                    try dsimp only
                    refine OK.ieq (fun h674 => ?_) (fun h674 => ?_)
                    · skip
                      refine OK.ieq (fun h675 => ?_) (fun h675 => ?_)
                      · skip
                        refine OK.bndW (k_X6_refuse _ _ hI ) Fr.rf (fun v676 s678 is678 fs678 h677 => ?_)
                        dsimp only
                        refine OK.grd (b01 (by omega)) ?_
                        exact OK.wret is678 fs678 (by first | trivial | omega | exact hI.flds _ | exact hI.dflds _ | exact hI.recs _ | exact hI.drecs _ | exact hI.droot _ | omega)
                      · skip
                        unfold f_X3_parse_127
                        try dsimp only
                        refine OK.bndW (k_X3_resolve _ _ hI ) Fr.rf (fun v679 s681 is681 fs681 h680 => ?_)
                        dsimp only
                        refine OK.ieq (fun h682 => ?_) (fun h682 => ?_)
                        · skip
                          exact OK.wret is681 fs681 (by first | trivial | omega | exact hI.flds _ | exact hI.dflds _ | exact hI.recs _ | exact hI.drecs _ | exact hI.droot _ | omega)
                        · skip
                          refine OK.ieq (fun h683 => ?_) (fun h683 => ?_)
                          · skip
                            refine OK.bndW (k_X3_beginPlan _ _ is681 ) fs681 (fun v684 s686 is686 fs686 h685 => ?_)
                            dsimp only
                            refine OK.ieq (fun h687 => ?_) (fun h687 => ?_)
                            · skip
                              exact OK.wret is686 fs686 (by first | trivial | omega | exact hI.flds _ | exact hI.dflds _ | exact hI.recs _ | exact hI.drecs _ | exact hI.droot _ | omega)
                            · skip
                              unfold f_X3_parse_157
                              try dsimp only
                              obtain ⟨a688k, a688, a688l, a688r⟩ := i_add x1 1
                              try (refine k0el (k := a688k) ?_ (fun e0 => ?_); (focus omega); subst e0)
                              obtain ⟨a689k, a689, a689l, a689r⟩ := i_add x2 1
                              try (refine k0el (k := a689k) ?_ (fun e0 => ?_); (focus omega); subst e0)
                              exact OK.trW (ih _ _ _ is686 (by omega)) fs686 (fun v hv => by first | trivial | omega | exact hI.flds _ | exact hI.dflds _ | exact hI.recs _ | exact hI.drecs _ | exact hI.droot _ | omega)
                          · skip
                            exact OK.wret is681 fs681 (by first | trivial | omega | exact hI.flds _ | exact hI.dflds _ | exact hI.recs _ | exact hI.drecs _ | exact hI.droot _ | omega)
                    · skip
                      unfold f_X3_parse_127
                      try dsimp only
                      refine OK.bndW (k_X3_resolve _ _ hI ) Fr.rf (fun v690 s692 is692 fs692 h691 => ?_)
                      dsimp only
                      refine OK.ieq (fun h693 => ?_) (fun h693 => ?_)
                      · skip
                        exact OK.wret is692 fs692 (by first | trivial | omega | exact hI.flds _ | exact hI.dflds _ | exact hI.recs _ | exact hI.drecs _ | exact hI.droot _ | omega)
                      · skip
                        refine OK.ieq (fun h694 => ?_) (fun h694 => ?_)
                        · skip
                          refine OK.bndW (k_X3_beginPlan _ _ is692 ) fs692 (fun v695 s697 is697 fs697 h696 => ?_)
                          dsimp only
                          refine OK.ieq (fun h698 => ?_) (fun h698 => ?_)
                          · skip
                            exact OK.wret is697 fs697 (by first | trivial | omega | exact hI.flds _ | exact hI.dflds _ | exact hI.recs _ | exact hI.drecs _ | exact hI.droot _ | omega)
                          · skip
                            unfold f_X3_parse_157
                            try dsimp only
                            obtain ⟨a699k, a699, a699l, a699r⟩ := i_add x1 1
                            try (refine k0el (k := a699k) ?_ (fun e0 => ?_); (focus omega); subst e0)
                            obtain ⟨a700k, a700, a700l, a700r⟩ := i_add x2 1
                            try (refine k0el (k := a700k) ?_ (fun e0 => ?_); (focus omega); subst e0)
                            exact OK.trW (ih _ _ _ is697 (by omega)) fs697 (fun v hv => by first | trivial | omega | exact hI.flds _ | exact hI.dflds _ | exact hI.recs _ | exact hI.drecs _ | exact hI.droot _ | omega)
                        · skip
                          exact OK.wret is692 fs692 (by first | trivial | omega | exact hI.flds _ | exact hI.dflds _ | exact hI.recs _ | exact hI.drecs _ | exact hI.droot _ | omega)
                  · skip
                    unfold f_X3_parse_106
                    try dsimp only
                    refine OK.ieq (fun h701 => ?_) (fun h701 => ?_)
                    · skip
                      refine OK.ieq (fun h702 => ?_) (fun h702 => ?_)
                      · skip
                        refine OK.bndW (k_X6_refuse _ _ hI ) Fr.rf (fun v703 s705 is705 fs705 h704 => ?_)
                        dsimp only
                        refine OK.grd (b01 (by omega)) ?_
                        exact OK.wret is705 fs705 (by first | trivial | omega | exact hI.flds _ | exact hI.dflds _ | exact hI.recs _ | exact hI.drecs _ | exact hI.droot _ | omega)
                      · skip
                        unfold f_X3_parse_127
                        try dsimp only
                        refine OK.bndW (k_X3_resolve _ _ hI ) Fr.rf (fun v706 s708 is708 fs708 h707 => ?_)
                        dsimp only
                        refine OK.ieq (fun h709 => ?_) (fun h709 => ?_)
                        · skip
                          exact OK.wret is708 fs708 (by first | trivial | omega | exact hI.flds _ | exact hI.dflds _ | exact hI.recs _ | exact hI.drecs _ | exact hI.droot _ | omega)
                        · skip
                          refine OK.ieq (fun h710 => ?_) (fun h710 => ?_)
                          · skip
                            refine OK.bndW (k_X3_beginPlan _ _ is708 ) fs708 (fun v711 s713 is713 fs713 h712 => ?_)
                            dsimp only
                            refine OK.ieq (fun h714 => ?_) (fun h714 => ?_)
                            · skip
                              exact OK.wret is713 fs713 (by first | trivial | omega | exact hI.flds _ | exact hI.dflds _ | exact hI.recs _ | exact hI.drecs _ | exact hI.droot _ | omega)
                            · skip
                              unfold f_X3_parse_157
                              try dsimp only
                              obtain ⟨a715k, a715, a715l, a715r⟩ := i_add x1 1
                              try (refine k0el (k := a715k) ?_ (fun e0 => ?_); (focus omega); subst e0)
                              obtain ⟨a716k, a716, a716l, a716r⟩ := i_add x2 1
                              try (refine k0el (k := a716k) ?_ (fun e0 => ?_); (focus omega); subst e0)
                              exact OK.trW (ih _ _ _ is713 (by omega)) fs713 (fun v hv => by first | trivial | omega | exact hI.flds _ | exact hI.dflds _ | exact hI.recs _ | exact hI.drecs _ | exact hI.droot _ | omega)
                          · skip
                            exact OK.wret is708 fs708 (by first | trivial | omega | exact hI.flds _ | exact hI.dflds _ | exact hI.recs _ | exact hI.drecs _ | exact hI.droot _ | omega)
                    · skip
                      unfold f_X3_parse_127
                      try dsimp only
                      refine OK.bndW (k_X3_resolve _ _ hI ) Fr.rf (fun v717 s719 is719 fs719 h718 => ?_)
                      dsimp only
                      refine OK.ieq (fun h720 => ?_) (fun h720 => ?_)
                      · skip
                        exact OK.wret is719 fs719 (by first | trivial | omega | exact hI.flds _ | exact hI.dflds _ | exact hI.recs _ | exact hI.drecs _ | exact hI.droot _ | omega)
                      · skip
                        refine OK.ieq (fun h721 => ?_) (fun h721 => ?_)
                        · skip
                          refine OK.bndW (k_X3_beginPlan _ _ is719 ) fs719 (fun v722 s724 is724 fs724 h723 => ?_)
                          dsimp only
                          refine OK.ieq (fun h725 => ?_) (fun h725 => ?_)
                          · skip
                            exact OK.wret is724 fs724 (by first | trivial | omega | exact hI.flds _ | exact hI.dflds _ | exact hI.recs _ | exact hI.drecs _ | exact hI.droot _ | omega)
                          · skip
                            unfold f_X3_parse_157
                            try dsimp only
                            obtain ⟨a726k, a726, a726l, a726r⟩ := i_add x1 1
                            try (refine k0el (k := a726k) ?_ (fun e0 => ?_); (focus omega); subst e0)
                            obtain ⟨a727k, a727, a727l, a727r⟩ := i_add x2 1
                            try (refine k0el (k := a727k) ?_ (fun e0 => ?_); (focus omega); subst e0)
                            exact OK.trW (ih _ _ _ is724 (by omega)) fs724 (fun v hv => by first | trivial | omega | exact hI.flds _ | exact hI.dflds _ | exact hI.recs _ | exact hI.drecs _ | exact hI.droot _ | omega)
                        · skip
                          exact OK.wret is719 fs719 (by first | trivial | omega | exact hI.flds _ | exact hI.dflds _ | exact hI.recs _ | exact hI.drecs _ | exact hI.droot _ | omega)
              · skip
                unfold f_X3_parse_78
                try dsimp only
                unfold f_X3_parse_79
                try dsimp only
                refine OK.ieq (fun h728 => ?_) (fun h728 => ?_)
                · skip
                  refine OK.ieq (fun h729 => ?_) (fun h729 => ?_)
                  · skip
                    unfold f_X3_parse_90
                    try dsimp only
                    refine OK.bndR (k_X6_isKeyword _ _ hI ) (fun v730 h731 => ?_)
                    dsimp only
                    refine OK.ieq (fun h732 => ?_) (fun h732 => ?_)
                    · skip
                      unfold f_X3_parse_105
                      try dsimp only
                      unfold f_X3_parse_106
                      try dsimp only
                      refine OK.ieq (fun h733 => ?_) (fun h733 => ?_)
                      · skip
                        refine OK.ieq (fun h734 => ?_) (fun h734 => ?_)
                        · skip
                          refine OK.bndW (k_X6_refuse _ _ hI ) Fr.rf (fun v735 s737 is737 fs737 h736 => ?_)
                          dsimp only
                          refine OK.grd (b01 (by omega)) ?_
                          exact OK.wret is737 fs737 (by first | trivial | omega | exact hI.flds _ | exact hI.dflds _ | exact hI.recs _ | exact hI.drecs _ | exact hI.droot _ | omega)
                        · skip
                          unfold f_X3_parse_127
                          try dsimp only
                          refine OK.bndW (k_X3_resolve _ _ hI ) Fr.rf (fun v738 s740 is740 fs740 h739 => ?_)
                          dsimp only
                          refine OK.ieq (fun h741 => ?_) (fun h741 => ?_)
                          · skip
                            exact OK.wret is740 fs740 (by first | trivial | omega | exact hI.flds _ | exact hI.dflds _ | exact hI.recs _ | exact hI.drecs _ | exact hI.droot _ | omega)
                          · skip
                            refine OK.ieq (fun h742 => ?_) (fun h742 => ?_)
                            · skip
                              refine OK.bndW (k_X3_beginPlan _ _ is740 ) fs740 (fun v743 s745 is745 fs745 h744 => ?_)
                              dsimp only
                              refine OK.ieq (fun h746 => ?_) (fun h746 => ?_)
                              · skip
                                exact OK.wret is745 fs745 (by first | trivial | omega | exact hI.flds _ | exact hI.dflds _ | exact hI.recs _ | exact hI.drecs _ | exact hI.droot _ | omega)
                              · skip
                                unfold f_X3_parse_157
                                try dsimp only
                                obtain ⟨a747k, a747, a747l, a747r⟩ := i_add x1 1
                                try (refine k0el (k := a747k) ?_ (fun e0 => ?_); (focus omega); subst e0)
                                obtain ⟨a748k, a748, a748l, a748r⟩ := i_add x2 1
                                try (refine k0el (k := a748k) ?_ (fun e0 => ?_); (focus omega); subst e0)
                                exact OK.trW (ih _ _ _ is745 (by omega)) fs745 (fun v hv => by first | trivial | omega | exact hI.flds _ | exact hI.dflds _ | exact hI.recs _ | exact hI.drecs _ | exact hI.droot _ | omega)
                            · skip
                              exact OK.wret is740 fs740 (by first | trivial | omega | exact hI.flds _ | exact hI.dflds _ | exact hI.recs _ | exact hI.drecs _ | exact hI.droot _ | omega)
                      · skip
                        unfold f_X3_parse_127
                        try dsimp only
                        refine OK.bndW (k_X3_resolve _ _ hI ) Fr.rf (fun v749 s751 is751 fs751 h750 => ?_)
                        dsimp only
                        refine OK.ieq (fun h752 => ?_) (fun h752 => ?_)
                        · skip
                          exact OK.wret is751 fs751 (by first | trivial | omega | exact hI.flds _ | exact hI.dflds _ | exact hI.recs _ | exact hI.drecs _ | exact hI.droot _ | omega)
                        · skip
                          refine OK.ieq (fun h753 => ?_) (fun h753 => ?_)
                          · skip
                            refine OK.bndW (k_X3_beginPlan _ _ is751 ) fs751 (fun v754 s756 is756 fs756 h755 => ?_)
                            dsimp only
                            refine OK.ieq (fun h757 => ?_) (fun h757 => ?_)
                            · skip
                              exact OK.wret is756 fs756 (by first | trivial | omega | exact hI.flds _ | exact hI.dflds _ | exact hI.recs _ | exact hI.drecs _ | exact hI.droot _ | omega)
                            · skip
                              unfold f_X3_parse_157
                              try dsimp only
                              obtain ⟨a758k, a758, a758l, a758r⟩ := i_add x1 1
                              try (refine k0el (k := a758k) ?_ (fun e0 => ?_); (focus omega); subst e0)
                              obtain ⟨a759k, a759, a759l, a759r⟩ := i_add x2 1
                              try (refine k0el (k := a759k) ?_ (fun e0 => ?_); (focus omega); subst e0)
                              exact OK.trW (ih _ _ _ is756 (by omega)) fs756 (fun v hv => by first | trivial | omega | exact hI.flds _ | exact hI.dflds _ | exact hI.recs _ | exact hI.drecs _ | exact hI.droot _ | omega)
                          · skip
                            exact OK.wret is751 fs751 (by first | trivial | omega | exact hI.flds _ | exact hI.dflds _ | exact hI.recs _ | exact hI.drecs _ | exact hI.droot _ | omega)
                    · skip
                      unfold f_X3_parse_106
                      try dsimp only
                      refine OK.ieq (fun h760 => ?_) (fun h760 => ?_)
                      · skip
                        refine OK.ieq (fun h761 => ?_) (fun h761 => ?_)
                        · skip
                          refine OK.bndW (k_X6_refuse _ _ hI ) Fr.rf (fun v762 s764 is764 fs764 h763 => ?_)
                          dsimp only
                          refine OK.grd (b01 (by omega)) ?_
                          exact OK.wret is764 fs764 (by first | trivial | omega | exact hI.flds _ | exact hI.dflds _ | exact hI.recs _ | exact hI.drecs _ | exact hI.droot _ | omega)
                        · skip
                          unfold f_X3_parse_127
                          try dsimp only
                          refine OK.bndW (k_X3_resolve _ _ hI ) Fr.rf (fun v765 s767 is767 fs767 h766 => ?_)
                          dsimp only
                          refine OK.ieq (fun h768 => ?_) (fun h768 => ?_)
                          · skip
                            exact OK.wret is767 fs767 (by first | trivial | omega | exact hI.flds _ | exact hI.dflds _ | exact hI.recs _ | exact hI.drecs _ | exact hI.droot _ | omega)
                          · skip
                            refine OK.ieq (fun h769 => ?_) (fun h769 => ?_)
                            · skip
                              refine OK.bndW (k_X3_beginPlan _ _ is767 ) fs767 (fun v770 s772 is772 fs772 h771 => ?_)
                              dsimp only
                              refine OK.ieq (fun h773 => ?_) (fun h773 => ?_)
                              · skip
                                exact OK.wret is772 fs772 (by first | trivial | omega | exact hI.flds _ | exact hI.dflds _ | exact hI.recs _ | exact hI.drecs _ | exact hI.droot _ | omega)
                              · skip
                                unfold f_X3_parse_157
                                try dsimp only
                                obtain ⟨a774k, a774, a774l, a774r⟩ := i_add x1 1
                                try (refine k0el (k := a774k) ?_ (fun e0 => ?_); (focus omega); subst e0)
                                obtain ⟨a775k, a775, a775l, a775r⟩ := i_add x2 1
                                try (refine k0el (k := a775k) ?_ (fun e0 => ?_); (focus omega); subst e0)
                                exact OK.trW (ih _ _ _ is772 (by omega)) fs772 (fun v hv => by first | trivial | omega | exact hI.flds _ | exact hI.dflds _ | exact hI.recs _ | exact hI.drecs _ | exact hI.droot _ | omega)
                            · skip
                              exact OK.wret is767 fs767 (by first | trivial | omega | exact hI.flds _ | exact hI.dflds _ | exact hI.recs _ | exact hI.drecs _ | exact hI.droot _ | omega)
                      · skip
                        unfold f_X3_parse_127
                        try dsimp only
                        refine OK.bndW (k_X3_resolve _ _ hI ) Fr.rf (fun v776 s778 is778 fs778 h777 => ?_)
                        dsimp only
                        refine OK.ieq (fun h779 => ?_) (fun h779 => ?_)
                        · skip
                          exact OK.wret is778 fs778 (by first | trivial | omega | exact hI.flds _ | exact hI.dflds _ | exact hI.recs _ | exact hI.drecs _ | exact hI.droot _ | omega)
                        · skip
                          refine OK.ieq (fun h780 => ?_) (fun h780 => ?_)
                          · skip
                            refine OK.bndW (k_X3_beginPlan _ _ is778 ) fs778 (fun v781 s783 is783 fs783 h782 => ?_)
                            dsimp only
                            refine OK.ieq (fun h784 => ?_) (fun h784 => ?_)
                            · skip
                              exact OK.wret is783 fs783 (by first | trivial | omega | exact hI.flds _ | exact hI.dflds _ | exact hI.recs _ | exact hI.drecs _ | exact hI.droot _ | omega)
                            · skip
                              unfold f_X3_parse_157
                              try dsimp only
                              obtain ⟨a785k, a785, a785l, a785r⟩ := i_add x1 1
                              try (refine k0el (k := a785k) ?_ (fun e0 => ?_); (focus omega); subst e0)
                              obtain ⟨a786k, a786, a786l, a786r⟩ := i_add x2 1
                              try (refine k0el (k := a786k) ?_ (fun e0 => ?_); (focus omega); subst e0)
                              exact OK.trW (ih _ _ _ is783 (by omega)) fs783 (fun v hv => by first | trivial | omega | exact hI.flds _ | exact hI.dflds _ | exact hI.recs _ | exact hI.drecs _ | exact hI.droot _ | omega)
                          · skip
                            exact OK.wret is778 fs778 (by first | trivial | omega | exact hI.flds _ | exact hI.dflds _ | exact hI.recs _ | exact hI.drecs _ | exact hI.droot _ | omega)
                  · skip
                    unfold f_X3_parse_105
                    try dsimp only
                    unfold f_X3_parse_106
                    try dsimp only
                    refine OK.ieq (fun h787 => ?_) (fun h787 => ?_)
                    · skip
                      refine OK.ieq (fun h788 => ?_) (fun h788 => ?_)
                      · skip
                        refine OK.bndW (k_X6_refuse _ _ hI ) Fr.rf (fun v789 s791 is791 fs791 h790 => ?_)
                        dsimp only
                        refine OK.grd (b01 (by omega)) ?_
                        exact OK.wret is791 fs791 (by first | trivial | omega | exact hI.flds _ | exact hI.dflds _ | exact hI.recs _ | exact hI.drecs _ | exact hI.droot _ | omega)
                      · skip
                        unfold f_X3_parse_127
                        try dsimp only
                        refine OK.bndW (k_X3_resolve _ _ hI ) Fr.rf (fun v792 s794 is794 fs794 h793 => ?_)
                        dsimp only
                        refine OK.ieq (fun h795 => ?_) (fun h795 => ?_)
                        · skip
                          exact OK.wret is794 fs794 (by first | trivial | omega | exact hI.flds _ | exact hI.dflds _ | exact hI.recs _ | exact hI.drecs _ | exact hI.droot _ | omega)
                        · skip
                          refine OK.ieq (fun h796 => ?_) (fun h796 => ?_)
                          · skip
                            refine OK.bndW (k_X3_beginPlan _ _ is794 ) fs794 (fun v797 s799 is799 fs799 h798 => ?_)
                            dsimp only
                            refine OK.ieq (fun h800 => ?_) (fun h800 => ?_)
                            · skip
                              exact OK.wret is799 fs799 (by first | trivial | omega | exact hI.flds _ | exact hI.dflds _ | exact hI.recs _ | exact hI.drecs _ | exact hI.droot _ | omega)
                            · skip
                              unfold f_X3_parse_157
                              try dsimp only
                              obtain ⟨a801k, a801, a801l, a801r⟩ := i_add x1 1
                              try (refine k0el (k := a801k) ?_ (fun e0 => ?_); (focus omega); subst e0)
                              obtain ⟨a802k, a802, a802l, a802r⟩ := i_add x2 1
                              try (refine k0el (k := a802k) ?_ (fun e0 => ?_); (focus omega); subst e0)
                              exact OK.trW (ih _ _ _ is799 (by omega)) fs799 (fun v hv => by first | trivial | omega | exact hI.flds _ | exact hI.dflds _ | exact hI.recs _ | exact hI.drecs _ | exact hI.droot _ | omega)
                          · skip
                            exact OK.wret is794 fs794 (by first | trivial | omega | exact hI.flds _ | exact hI.dflds _ | exact hI.recs _ | exact hI.drecs _ | exact hI.droot _ | omega)
                    · skip
                      unfold f_X3_parse_127
                      try dsimp only
                      refine OK.bndW (k_X3_resolve _ _ hI ) Fr.rf (fun v803 s805 is805 fs805 h804 => ?_)
                      dsimp only
                      refine OK.ieq (fun h806 => ?_) (fun h806 => ?_)
                      · skip
                        exact OK.wret is805 fs805 (by first | trivial | omega | exact hI.flds _ | exact hI.dflds _ | exact hI.recs _ | exact hI.drecs _ | exact hI.droot _ | omega)
                      · skip
                        refine OK.ieq (fun h807 => ?_) (fun h807 => ?_)
                        · skip
                          refine OK.bndW (k_X3_beginPlan _ _ is805 ) fs805 (fun v808 s810 is810 fs810 h809 => ?_)
                          dsimp only
                          refine OK.ieq (fun h811 => ?_) (fun h811 => ?_)
                          · skip
                            exact OK.wret is810 fs810 (by first | trivial | omega | exact hI.flds _ | exact hI.dflds _ | exact hI.recs _ | exact hI.drecs _ | exact hI.droot _ | omega)
                          · skip
                            unfold f_X3_parse_157
                            try dsimp only
                            obtain ⟨a812k, a812, a812l, a812r⟩ := i_add x1 1
                            try (refine k0el (k := a812k) ?_ (fun e0 => ?_); (focus omega); subst e0)
                            obtain ⟨a813k, a813, a813l, a813r⟩ := i_add x2 1
                            try (refine k0el (k := a813k) ?_ (fun e0 => ?_); (focus omega); subst e0)
                            exact OK.trW (ih _ _ _ is810 (by omega)) fs810 (fun v hv => by first | trivial | omega | exact hI.flds _ | exact hI.dflds _ | exact hI.recs _ | exact hI.drecs _ | exact hI.droot _ | omega)
                        · skip
                          exact OK.wret is805 fs805 (by first | trivial | omega | exact hI.flds _ | exact hI.dflds _ | exact hI.recs _ | exact hI.drecs _ | exact hI.droot _ | omega)
                · skip
                  unfold f_X3_parse_90
                  try dsimp only
                  refine OK.bndR (k_X6_isKeyword _ _ hI ) (fun v814 h815 => ?_)
                  dsimp only
                  refine OK.ieq (fun h816 => ?_) (fun h816 => ?_)
                  · skip
                    unfold f_X3_parse_105
                    try dsimp only
                    unfold f_X3_parse_106
                    try dsimp only
                    refine OK.ieq (fun h817 => ?_) (fun h817 => ?_)
                    · skip
                      refine OK.ieq (fun h818 => ?_) (fun h818 => ?_)
                      · skip
                        refine OK.bndW (k_X6_refuse _ _ hI ) Fr.rf (fun v819 s821 is821 fs821 h820 => ?_)
                        dsimp only
                        refine OK.grd (b01 (by omega)) ?_
                        exact OK.wret is821 fs821 (by first | trivial | omega | exact hI.flds _ | exact hI.dflds _ | exact hI.recs _ | exact hI.drecs _ | exact hI.droot _ | omega)
                      · skip
                        unfold f_X3_parse_127
                        try dsimp only
                        refine OK.bndW (k_X3_resolve _ _ hI ) Fr.rf (fun v822 s824 is824 fs824 h823 => ?_)
                        dsimp only
                        refine OK.ieq (fun h825 => ?_) (fun h825 => ?_)
                        · skip
                          exact OK.wret is824 fs824 (by first | trivial | omega | exact hI.flds _ | exact hI.dflds _ | exact hI.recs _ | exact hI.drecs _ | exact hI.droot _ | omega)
                        · skip
                          refine OK.ieq (fun h826 => ?_) (fun h826 => ?_)
                          · skip
                            refine OK.bndW (k_X3_beginPlan _ _ is824 ) fs824 (fun v827 s829 is829 fs829 h828 => ?_)
                            dsimp only
                            refine OK.ieq (fun h830 => ?_) (fun h830 => ?_)
                            · skip
                              exact OK.wret is829 fs829 (by first | trivial | omega | exact hI.flds _ | exact hI.dflds _ | exact hI.recs _ | exact hI.drecs _ | exact hI.droot _ | omega)
                            · skip
                              unfold f_X3_parse_157
                              try dsimp only
                              obtain ⟨a831k, a831, a831l, a831r⟩ := i_add x1 1
                              try (refine k0el (k := a831k) ?_ (fun e0 => ?_); (focus omega); subst e0)
                              obtain ⟨a832k, a832, a832l, a832r⟩ := i_add x2 1
                              try (refine k0el (k := a832k) ?_ (fun e0 => ?_); (focus omega); subst e0)
                              exact OK.trW (ih _ _ _ is829 (by omega)) fs829 (fun v hv => by first | trivial | omega | exact hI.flds _ | exact hI.dflds _ | exact hI.recs _ | exact hI.drecs _ | exact hI.droot _ | omega)
                          · skip
                            exact OK.wret is824 fs824 (by first | trivial | omega | exact hI.flds _ | exact hI.dflds _ | exact hI.recs _ | exact hI.drecs _ | exact hI.droot _ | omega)
                    · skip
                      unfold f_X3_parse_127
                      try dsimp only
                      refine OK.bndW (k_X3_resolve _ _ hI ) Fr.rf (fun v833 s835 is835 fs835 h834 => ?_)
                      dsimp only
                      refine OK.ieq (fun h836 => ?_) (fun h836 => ?_)
                      · skip
                        exact OK.wret is835 fs835 (by first | trivial | omega | exact hI.flds _ | exact hI.dflds _ | exact hI.recs _ | exact hI.drecs _ | exact hI.droot _ | omega)
                      · skip
                        refine OK.ieq (fun h837 => ?_) (fun h837 => ?_)
                        · skip
                          refine OK.bndW (k_X3_beginPlan _ _ is835 ) fs835 (fun v838 s840 is840 fs840 h839 => ?_)
                          dsimp only
                          refine OK.ieq (fun h841 => ?_) (fun h841 => ?_)
                          · skip
                            exact OK.wret is840 fs840 (by first | trivial | omega | exact hI.flds _ | exact hI.dflds _ | exact hI.recs _ | exact hI.drecs _ | exact hI.droot _ | omega)
                          · skip
                            unfold f_X3_parse_157
                            try dsimp only
                            obtain ⟨a842k, a842, a842l, a842r⟩ := i_add x1 1
                            try (refine k0el (k := a842k) ?_ (fun e0 => ?_); (focus omega); subst e0)
                            obtain ⟨a843k, a843, a843l, a843r⟩ := i_add x2 1
                            try (refine k0el (k := a843k) ?_ (fun e0 => ?_); (focus omega); subst e0)
                            exact OK.trW (ih _ _ _ is840 (by omega)) fs840 (fun v hv => by first | trivial | omega | exact hI.flds _ | exact hI.dflds _ | exact hI.recs _ | exact hI.drecs _ | exact hI.droot _ | omega)
                        · skip
                          exact OK.wret is835 fs835 (by first | trivial | omega | exact hI.flds _ | exact hI.dflds _ | exact hI.recs _ | exact hI.drecs _ | exact hI.droot _ | omega)
                  · skip
                    unfold f_X3_parse_106
                    try dsimp only
                    refine OK.ieq (fun h844 => ?_) (fun h844 => ?_)
                    · skip
                      refine OK.ieq (fun h845 => ?_) (fun h845 => ?_)
                      · skip
                        refine OK.bndW (k_X6_refuse _ _ hI ) Fr.rf (fun v846 s848 is848 fs848 h847 => ?_)
                        dsimp only
                        refine OK.grd (b01 (by omega)) ?_
                        exact OK.wret is848 fs848 (by first | trivial | omega | exact hI.flds _ | exact hI.dflds _ | exact hI.recs _ | exact hI.drecs _ | exact hI.droot _ | omega)
                      · skip
                        unfold f_X3_parse_127
                        try dsimp only
                        refine OK.bndW (k_X3_resolve _ _ hI ) Fr.rf (fun v849 s851 is851 fs851 h850 => ?_)
                        dsimp only
                        refine OK.ieq (fun h852 => ?_) (fun h852 => ?_)
                        · skip
                          exact OK.wret is851 fs851 (by first | trivial | omega | exact hI.flds _ | exact hI.dflds _ | exact hI.recs _ | exact hI.drecs _ | exact hI.droot _ | omega)
                        · skip
                          refine OK.ieq (fun h853 => ?_) (fun h853 => ?_)
                          · skip
                            refine OK.bndW (k_X3_beginPlan _ _ is851 ) fs851 (fun v854 s856 is856 fs856 h855 => ?_)
                            dsimp only
                            refine OK.ieq (fun h857 => ?_) (fun h857 => ?_)
                            · skip
                              exact OK.wret is856 fs856 (by first | trivial | omega | exact hI.flds _ | exact hI.dflds _ | exact hI.recs _ | exact hI.drecs _ | exact hI.droot _ | omega)
                            · skip
                              unfold f_X3_parse_157
                              try dsimp only
                              obtain ⟨a858k, a858, a858l, a858r⟩ := i_add x1 1
                              try (refine k0el (k := a858k) ?_ (fun e0 => ?_); (focus omega); subst e0)
                              obtain ⟨a859k, a859, a859l, a859r⟩ := i_add x2 1
                              try (refine k0el (k := a859k) ?_ (fun e0 => ?_); (focus omega); subst e0)
                              exact OK.trW (ih _ _ _ is856 (by omega)) fs856 (fun v hv => by first | trivial | omega | exact hI.flds _ | exact hI.dflds _ | exact hI.recs _ | exact hI.drecs _ | exact hI.droot _ | omega)
                          · skip
                            exact OK.wret is851 fs851 (by first | trivial | omega | exact hI.flds _ | exact hI.dflds _ | exact hI.recs _ | exact hI.drecs _ | exact hI.droot _ | omega)
                    · skip
                      unfold f_X3_parse_127
                      try dsimp only
                      refine OK.bndW (k_X3_resolve _ _ hI ) Fr.rf (fun v860 s862 is862 fs862 h861 => ?_)
                      dsimp only
                      refine OK.ieq (fun h863 => ?_) (fun h863 => ?_)
                      · skip
                        exact OK.wret is862 fs862 (by first | trivial | omega | exact hI.flds _ | exact hI.dflds _ | exact hI.recs _ | exact hI.drecs _ | exact hI.droot _ | omega)
                      · skip
                        refine OK.ieq (fun h864 => ?_) (fun h864 => ?_)
                        · skip
                          refine OK.bndW (k_X3_beginPlan _ _ is862 ) fs862 (fun v865 s867 is867 fs867 h866 => ?_)
                          dsimp only
                          refine OK.ieq (fun h868 => ?_) (fun h868 => ?_)
                          · skip
                            exact OK.wret is867 fs867 (by first | trivial | omega | exact hI.flds _ | exact hI.dflds _ | exact hI.recs _ | exact hI.drecs _ | exact hI.droot _ | omega)
                          · skip
                            unfold f_X3_parse_157
                            try dsimp only
                            obtain ⟨a869k, a869, a869l, a869r⟩ := i_add x1 1
                            try (refine k0el (k := a869k) ?_ (fun e0 => ?_); (focus omega); subst e0)
                            obtain ⟨a870k, a870, a870l, a870r⟩ := i_add x2 1
                            try (refine k0el (k := a870k) ?_ (fun e0 => ?_); (focus omega); subst e0)
                            exact OK.trW (ih _ _ _ is867 (by omega)) fs867 (fun v hv => by first | trivial | omega | exact hI.flds _ | exact hI.dflds _ | exact hI.recs _ | exact hI.drecs _ | exact hI.droot _ | omega)
                        · skip
                          exact OK.wret is862 fs862 (by first | trivial | omega | exact hI.flds _ | exact hI.dflds _ | exact hI.recs _ | exact hI.drecs _ | exact hI.droot _ | omega)
          · skip
            refine OK.bndW (k_X3_parseRecord _ _ hI ) Fr.rf (fun v871 s873 is873 fs873 h872 => ?_)
            dsimp only
            refine OK.ieq (fun h874 => ?_) (fun h874 => ?_)
            · skip
              exact OK.wret is873 fs873 (by first | trivial | omega | exact hI.flds _ | exact hI.dflds _ | exact hI.recs _ | exact hI.drecs _ | exact hI.droot _ | omega)
            · skip
              unfold f_X3_parse_157
              try dsimp only
              obtain ⟨a875k, a875, a875l, a875r⟩ := i_add x2 1
              try (refine k0el (k := a875k) ?_ (fun e0 => ?_); (focus omega); subst e0)
              exact OK.trW (ih _ _ _ is873 (by omega)) fs873 (fun v hv => by first | trivial | omega | exact hI.flds _ | exact hI.dflds _ | exact hI.recs _ | exact hI.drecs _ | exact hI.droot _ | omega)
      · skip
        unfold f_X3_parse_33
        try dsimp only
        refine OK.ieq (fun h876 => ?_) (fun h876 => ?_)
        · skip
          unfold f_X3_parse_60
          try dsimp only
          refine OK.ieq (fun h877 => ?_) (fun h877 => ?_)
          · skip
            unfold f_X3_parse_78
            try dsimp only
            unfold f_X3_parse_79
            try dsimp only
            refine OK.ieq (fun h878 => ?_) (fun h878 => ?_)
            · skip
              refine OK.ieq (fun h879 => ?_) (fun h879 => ?_)
              · skip
                unfold f_X3_parse_90
                try dsimp only
                refine OK.bndR (k_X6_isKeyword _ _ hI ) (fun v880 h881 => ?_)
                dsimp only
                refine OK.ieq (fun h882 => ?_) (fun h882 => ?_)
                · skip
                  unfold f_X3_parse_105
                  try dsimp only
                  unfold f_X3_parse_106
                  try dsimp only
                  refine OK.ieq (fun h883 => ?_) (fun h883 => ?_)
                  · skip
                    refine OK.ieq (fun h884 => ?_) (fun h884 => ?_)
                    · skip
                      refine OK.bndW (k_X6_refuse _ _ hI ) Fr.rf (fun v885 s887 is887 fs887 h886 => ?_)
                      dsimp only
                      refine OK.grd (b01 (by omega)) ?_
                      exact OK.wret is887 fs887 (by first | trivial | omega | exact hI.flds _ | exact hI.dflds _ | exact hI.recs _ | exact hI.drecs _ | exact hI.droot _ | omega)
                    · skip
                      unfold f_X3_parse_127
                      try dsimp only
                      refine OK.bndW (k_X3_resolve _ _ hI ) Fr.rf (fun v888 s890 is890 fs890 h889 => ?_)
                      dsimp only
                      refine OK.ieq (fun h891 => ?_) (fun h891 => ?_)
                      · skip
                        exact OK.wret is890 fs890 (by first | trivial | omega | exact hI.flds _ | exact hI.dflds _ | exact hI.recs _ | exact hI.drecs _ | exact hI.droot _ | omega)
                      · skip
                        refine OK.ieq (fun h892 => ?_) (fun h892 => ?_)
                        · skip
                          refine OK.bndW (k_X3_beginPlan _ _ is890 ) fs890 (fun v893 s895 is895 fs895 h894 => ?_)
                          dsimp only
                          refine OK.ieq (fun h896 => ?_) (fun h896 => ?_)
                          · skip
                            exact OK.wret is895 fs895 (by first | trivial | omega | exact hI.flds _ | exact hI.dflds _ | exact hI.recs _ | exact hI.drecs _ | exact hI.droot _ | omega)
                          · skip
                            unfold f_X3_parse_157
                            try dsimp only
                            obtain ⟨a897k, a897, a897l, a897r⟩ := i_add x1 1
                            try (refine k0el (k := a897k) ?_ (fun e0 => ?_); (focus omega); subst e0)
                            obtain ⟨a898k, a898, a898l, a898r⟩ := i_add x2 1
                            try (refine k0el (k := a898k) ?_ (fun e0 => ?_); (focus omega); subst e0)
                            exact OK.trW (ih _ _ _ is895 (by omega)) fs895 (fun v hv => by first | trivial | omega | exact hI.flds _ | exact hI.dflds _ | exact hI.recs _ | exact hI.drecs _ | exact hI.droot _ | omega)
                        · skip
                          exact OK.wret is890 fs890 (by first | trivial | omega | exact hI.flds _ | exact hI.dflds _ | exact hI.recs _ | exact hI.drecs _ | exact hI.droot _ | omega)
                  · skip
                    unfold f_X3_parse_127
                    try dsimp only
                    refine OK.bndW (k_X3_resolve _ _ hI ) Fr.rf (fun v899 s901 is901 fs901 h900 => ?_)
                    dsimp only
                    refine OK.ieq (fun h902 => ?_) (fun h902 => ?_)
                    · skip
                      exact OK.wret is901 fs901 (by first | trivial | omega | exact hI.flds _ | exact hI.dflds _ | exact hI.recs _ | exact hI.drecs _ | exact hI.droot _ | omega)
                    · skip
                      refine OK.ieq (fun h903 => ?_) (fun h903 => ?_)
                      · skip
                        refine OK.bndW (k_X3_beginPlan _ _ is901 ) fs901 (fun v904 s906 is906 fs906 h905 => ?_)
                        dsimp only
                        refine OK.ieq (fun h907 => ?_) (fun h907 => ?_)
                        · skip
                          exact OK.wret is906 fs906 (by first | trivial | omega | exact hI.flds _ | exact hI.dflds _ | exact hI.recs _ | exact hI.drecs _ | exact hI.droot _ | omega)
                        · skip
                          unfold f_X3_parse_157
                          try dsimp only
                          obtain ⟨a908k, a908, a908l, a908r⟩ := i_add x1 1
                          try (refine k0el (k := a908k) ?_ (fun e0 => ?_); (focus omega); subst e0)
                          obtain ⟨a909k, a909, a909l, a909r⟩ := i_add x2 1
                          try (refine k0el (k := a909k) ?_ (fun e0 => ?_); (focus omega); subst e0)
                          exact OK.trW (ih _ _ _ is906 (by omega)) fs906 (fun v hv => by first | trivial | omega | exact hI.flds _ | exact hI.dflds _ | exact hI.recs _ | exact hI.drecs _ | exact hI.droot _ | omega)
                      · skip
                        exact OK.wret is901 fs901 (by first | trivial | omega | exact hI.flds _ | exact hI.dflds _ | exact hI.recs _ | exact hI.drecs _ | exact hI.droot _ | omega)
                · skip
                  unfold f_X3_parse_106
                  try dsimp only
                  refine OK.ieq (fun h910 => ?_) (fun h910 => ?_)
                  · skip
                    refine OK.ieq (fun h911 => ?_) (fun h911 => ?_)
                    · skip
                      refine OK.bndW (k_X6_refuse _ _ hI ) Fr.rf (fun v912 s914 is914 fs914 h913 => ?_)
                      dsimp only
                      refine OK.grd (b01 (by omega)) ?_
                      exact OK.wret is914 fs914 (by first | trivial | omega | exact hI.flds _ | exact hI.dflds _ | exact hI.recs _ | exact hI.drecs _ | exact hI.droot _ | omega)
                    · skip
                      unfold f_X3_parse_127
                      try dsimp only
                      refine OK.bndW (k_X3_resolve _ _ hI ) Fr.rf (fun v915 s917 is917 fs917 h916 => ?_)
                      dsimp only
                      refine OK.ieq (fun h918 => ?_) (fun h918 => ?_)
                      · skip
                        exact OK.wret is917 fs917 (by first | trivial | omega | exact hI.flds _ | exact hI.dflds _ | exact hI.recs _ | exact hI.drecs _ | exact hI.droot _ | omega)
                      · skip
                        refine OK.ieq (fun h919 => ?_) (fun h919 => ?_)
                        · skip
                          refine OK.bndW (k_X3_beginPlan _ _ is917 ) fs917 (fun v920 s922 is922 fs922 h921 => ?_)
                          dsimp only
                          refine OK.ieq (fun h923 => ?_) (fun h923 => ?_)
                          · skip
                            exact OK.wret is922 fs922 (by first | trivial | omega | exact hI.flds _ | exact hI.dflds _ | exact hI.recs _ | exact hI.drecs _ | exact hI.droot _ | omega)
                          · skip
                            unfold f_X3_parse_157
                            try dsimp only
                            obtain ⟨a924k, a924, a924l, a924r⟩ := i_add x1 1
                            try (refine k0el (k := a924k) ?_ (fun e0 => ?_); (focus omega); subst e0)
                            obtain ⟨a925k, a925, a925l, a925r⟩ := i_add x2 1
                            try (refine k0el (k := a925k) ?_ (fun e0 => ?_); (focus omega); subst e0)
                            exact OK.trW (ih _ _ _ is922 (by omega)) fs922 (fun v hv => by first | trivial | omega | exact hI.flds _ | exact hI.dflds _ | exact hI.recs _ | exact hI.drecs _ | exact hI.droot _ | omega)
                        · skip
                          exact OK.wret is917 fs917 (by first | trivial | omega | exact hI.flds _ | exact hI.dflds _ | exact hI.recs _ | exact hI.drecs _ | exact hI.droot _ | omega)
                  · skip
                    unfold f_X3_parse_127
                    try dsimp only
                    refine OK.bndW (k_X3_resolve _ _ hI ) Fr.rf (fun v926 s928 is928 fs928 h927 => ?_)
                    dsimp only
                    refine OK.ieq (fun h929 => ?_) (fun h929 => ?_)
                    · skip
                      exact OK.wret is928 fs928 (by first | trivial | omega | exact hI.flds _ | exact hI.dflds _ | exact hI.recs _ | exact hI.drecs _ | exact hI.droot _ | omega)
                    · skip
                      refine OK.ieq (fun h930 => ?_) (fun h930 => ?_)
                      · skip
                        refine OK.bndW (k_X3_beginPlan _ _ is928 ) fs928 (fun v931 s933 is933 fs933 h932 => ?_)
                        dsimp only
                        refine OK.ieq (fun h934 => ?_) (fun h934 => ?_)
                        · skip
                          exact OK.wret is933 fs933 (by first | trivial | omega | exact hI.flds _ | exact hI.dflds _ | exact hI.recs _ | exact hI.drecs _ | exact hI.droot _ | omega)
                        · skip
                          unfold f_X3_parse_157
                          try dsimp only
                          obtain ⟨a935k, a935, a935l, a935r⟩ := i_add x1 1
                          try (refine k0el (k := a935k) ?_ (fun e0 => ?_); (focus omega); subst e0)
                          obtain ⟨a936k, a936, a936l, a936r⟩ := i_add x2 1
                          try (refine k0el (k := a936k) ?_ (fun e0 => ?_); (focus omega); subst e0)
                          exact OK.trW (ih _ _ _ is933 (by omega)) fs933 (fun v hv => by first | trivial | omega | exact hI.flds _ | exact hI.dflds _ | exact hI.recs _ | exact hI.drecs _ | exact hI.droot _ | omega)
                      · skip
                        exact OK.wret is928 fs928 (by first | trivial | omega | exact hI.flds _ | exact hI.dflds _ | exact hI.recs _ | exact hI.drecs _ | exact hI.droot _ | omega)
              · skip
                unfold f_X3_parse_105
                try dsimp only
                unfold f_X3_parse_106
                try dsimp only
                refine OK.ieq (fun h937 => ?_) (fun h937 => ?_)
                · skip
                  refine OK.ieq (fun h938 => ?_) (fun h938 => ?_)
                  · skip
                    refine OK.bndW (k_X6_refuse _ _ hI ) Fr.rf (fun v939 s941 is941 fs941 h940 => ?_)
                    dsimp only
                    refine OK.grd (b01 (by omega)) ?_
                    exact OK.wret is941 fs941 (by first | trivial | omega | exact hI.flds _ | exact hI.dflds _ | exact hI.recs _ | exact hI.drecs _ | exact hI.droot _ | omega)
                  · skip
                    unfold f_X3_parse_127
                    try dsimp only
                    refine OK.bndW (k_X3_resolve _ _ hI ) Fr.rf (fun v942 s944 is944 fs944 h943 => ?_)
                    dsimp only
                    refine OK.ieq (fun h945 => ?_) (fun h945 => ?_)
                    · skip
                      exact OK.wret is944 fs944 (by first | trivial | omega | exact hI.flds _ | exact hI.dflds _ | exact hI.recs _ | exact hI.drecs _ | exact hI.droot _ | omega)
                    · skip
                      refine OK.ieq (fun h946 => ?_) (fun h946 => ?_)
                      · skip
                        refine OK.bndW (k_X3_beginPlan _ _ is944 ) fs944 (fun v947 s949 is949 fs949 h948 => ?_)
                        dsimp only
                        refine OK.ieq (fun h950 => ?_) (fun h950 => ?_)
                        · skip
                          exact OK.wret is949 fs949 (by first | trivial | omega | exact hI.flds _ | exact hI.dflds _ | exact hI.recs _ | exact hI.drecs _ | exact hI.droot _ | omega)
                        · skip
                          unfold f_X3_parse_157
                          try dsimp only
                          obtain ⟨a951k, a951, a951l, a951r⟩ := i_add x1 1
                          try (refine k0el (k := a951k) ?_ (fun e0 => ?_); (focus omega); subst e0)
                          obtain ⟨a952k, a952, a952l, a952r⟩ := i_add x2 1
                          try (refine k0el (k := a952k) ?_ (fun e0 => ?_); (focus omega); subst e0)
                          exact OK.trW (ih _ _ _ is949 (by omega)) fs949 (fun v hv => by first | trivial | omega | exact hI.flds _ | exact hI.dflds _ | exact hI.recs _ | exact hI.drecs _ | exact hI.droot _ | omega)
                      · skip
                        exact OK.wret is944 fs944 (by first | trivial | omega | exact hI.flds _ | exact hI.dflds _ | exact hI.recs _ | exact hI.drecs _ | exact hI.droot _ | omega)
                · skip
                  unfold f_X3_parse_127
                  try dsimp only
                  refine OK.bndW (k_X3_resolve _ _ hI ) Fr.rf (fun v953 s955 is955 fs955 h954 => ?_)
                  dsimp only
                  refine OK.ieq (fun h956 => ?_) (fun h956 => ?_)
                  · skip
                    exact OK.wret is955 fs955 (by first | trivial | omega | exact hI.flds _ | exact hI.dflds _ | exact hI.recs _ | exact hI.drecs _ | exact hI.droot _ | omega)
                  · skip
                    refine OK.ieq (fun h957 => ?_) (fun h957 => ?_)
                    · skip
                      refine OK.bndW (k_X3_beginPlan _ _ is955 ) fs955 (fun v958 s960 is960 fs960 h959 => ?_)
                      dsimp only
                      refine OK.ieq (fun h961 => ?_) (fun h961 => ?_)
                      · skip
                        exact OK.wret is960 fs960 (by first | trivial | omega | exact hI.flds _ | exact hI.dflds _ | exact hI.recs _ | exact hI.drecs _ | exact hI.droot _ | omega)
                      · skip
                        unfold f_X3_parse_157
                        try dsimp only
                        obtain ⟨a962k, a962, a962l, a962r⟩ := i_add x1 1
                        try (refine k0el (k := a962k) ?_ (fun e0 => ?_); (focus omega); subst e0)
                        obtain ⟨a963k, a963, a963l, a963r⟩ := i_add x2 1
                        try (refine k0el (k := a963k) ?_ (fun e0 => ?_); (focus omega); subst e0)
                        exact OK.trW (ih _ _ _ is960 (by omega)) fs960 (fun v hv => by first | trivial | omega | exact hI.flds _ | exact hI.dflds _ | exact hI.recs _ | exact hI.drecs _ | exact hI.droot _ | omega)
                    · skip
                      exact OK.wret is955 fs955 (by first | trivial | omega | exact hI.flds _ | exact hI.dflds _ | exact hI.recs _ | exact hI.drecs _ | exact hI.droot _ | omega)
            · skip
              unfold f_X3_parse_90
              try dsimp only
              refine OK.bndR (k_X6_isKeyword _ _ hI ) (fun v964 h965 => ?_)
              dsimp only
              refine OK.ieq (fun h966 => ?_) (fun h966 => ?_)
              · skip
                unfold f_X3_parse_105
                try dsimp only
                unfold f_X3_parse_106
                try dsimp only
                refine OK.ieq (fun h967 => ?_) (fun h967 => ?_)
                · skip
                  refine OK.ieq (fun h968 => ?_) (fun h968 => ?_)
                  · skip
                    refine OK.bndW (k_X6_refuse _ _ hI ) Fr.rf (fun v969 s971 is971 fs971 h970 => ?_)
                    dsimp only
                    refine OK.grd (b01 (by omega)) ?_
                    exact OK.wret is971 fs971 (by first | trivial | omega | exact hI.flds _ | exact hI.dflds _ | exact hI.recs _ | exact hI.drecs _ | exact hI.droot _ | omega)
                  · skip
                    unfold f_X3_parse_127
                    try dsimp only
                    refine OK.bndW (k_X3_resolve _ _ hI ) Fr.rf (fun v972 s974 is974 fs974 h973 => ?_)
                    dsimp only
                    refine OK.ieq (fun h975 => ?_) (fun h975 => ?_)
                    · skip
                      exact OK.wret is974 fs974 (by first | trivial | omega | exact hI.flds _ | exact hI.dflds _ | exact hI.recs _ | exact hI.drecs _ | exact hI.droot _ | omega)
                    · skip
                      refine OK.ieq (fun h976 => ?_) (fun h976 => ?_)
                      · skip
                        refine OK.bndW (k_X3_beginPlan _ _ is974 ) fs974 (fun v977 s979 is979 fs979 h978 => ?_)
                        dsimp only
                        refine OK.ieq (fun h980 => ?_) (fun h980 => ?_)
                        · skip
                          exact OK.wret is979 fs979 (by first | trivial | omega | exact hI.flds _ | exact hI.dflds _ | exact hI.recs _ | exact hI.drecs _ | exact hI.droot _ | omega)
                        · skip
                          unfold f_X3_parse_157
                          try dsimp only
                          obtain ⟨a981k, a981, a981l, a981r⟩ := i_add x1 1
                          try (refine k0el (k := a981k) ?_ (fun e0 => ?_); (focus omega); subst e0)
                          obtain ⟨a982k, a982, a982l, a982r⟩ := i_add x2 1
                          try (refine k0el (k := a982k) ?_ (fun e0 => ?_); (focus omega); subst e0)
                          exact OK.trW (ih _ _ _ is979 (by omega)) fs979 (fun v hv => by first | trivial | omega | exact hI.flds _ | exact hI.dflds _ | exact hI.recs _ | exact hI.drecs _ | exact hI.droot _ | omega)
                      · skip
                        exact OK.wret is974 fs974 (by first | trivial | omega | exact hI.flds _ | exact hI.dflds _ | exact hI.recs _ | exact hI.drecs _ | exact hI.droot _ | omega)
                · skip
                  unfold f_X3_parse_127
                  try dsimp only
                  refine OK.bndW (k_X3_resolve _ _ hI ) Fr.rf (fun v983 s985 is985 fs985 h984 => ?_)
                  dsimp only
                  refine OK.ieq (fun h986 => ?_) (fun h986 => ?_)
                  · skip
                    exact OK.wret is985 fs985 (by first | trivial | omega | exact hI.flds _ | exact hI.dflds _ | exact hI.recs _ | exact hI.drecs _ | exact hI.droot _ | omega)
                  · skip
                    refine OK.ieq (fun h987 => ?_) (fun h987 => ?_)
                    · skip
                      refine OK.bndW (k_X3_beginPlan _ _ is985 ) fs985 (fun v988 s990 is990 fs990 h989 => ?_)
                      dsimp only
                      refine OK.ieq (fun h991 => ?_) (fun h991 => ?_)
                      · skip
                        exact OK.wret is990 fs990 (by first | trivial | omega | exact hI.flds _ | exact hI.dflds _ | exact hI.recs _ | exact hI.drecs _ | exact hI.droot _ | omega)
                      · skip
                        unfold f_X3_parse_157
                        try dsimp only
                        obtain ⟨a992k, a992, a992l, a992r⟩ := i_add x1 1
                        try (refine k0el (k := a992k) ?_ (fun e0 => ?_); (focus omega); subst e0)
                        obtain ⟨a993k, a993, a993l, a993r⟩ := i_add x2 1
                        try (refine k0el (k := a993k) ?_ (fun e0 => ?_); (focus omega); subst e0)
                        exact OK.trW (ih _ _ _ is990 (by omega)) fs990 (fun v hv => by first | trivial | omega | exact hI.flds _ | exact hI.dflds _ | exact hI.recs _ | exact hI.drecs _ | exact hI.droot _ | omega)
                    · skip
                      exact OK.wret is985 fs985 (by first | trivial | omega | exact hI.flds _ | exact hI.dflds _ | exact hI.recs _ | exact hI.drecs _ | exact hI.droot _ | omega)
              · skip
                unfold f_X3_parse_106
                try dsimp only
                refine OK.ieq (fun h994 => ?_) (fun h994 => ?_)
                · skip
                  refine OK.ieq (fun h995 => ?_) (fun h995 => ?_)
                  · skip
                    refine OK.bndW (k_X6_refuse _ _ hI ) Fr.rf (fun v996 s998 is998 fs998 h997 => ?_)
                    dsimp only
                    refine OK.grd (b01 (by omega)) ?_
                    exact OK.wret is998 fs998 (by first | trivial | omega | exact hI.flds _ | exact hI.dflds _ | exact hI.recs _ | exact hI.drecs _ | exact hI.droot _ | omega)
                  · skip
                    unfold f_X3_parse_127
                    try dsimp only
                    refine OK.bndW (k_X3_resolve _ _ hI ) Fr.rf (fun v999 s1001 is1001 fs1001 h1000 => ?_)
                    dsimp only
                    refine OK.ieq (fun h1002 => ?_) (fun h1002 => ?_)
                    · skip
                      exact OK.wret is1001 fs1001 (by first | trivial | omega | exact hI.flds _ | exact hI.dflds _ | exact hI.recs _ | exact hI.drecs _ | exact hI.droot _ | omega)
                    · skip
                      refine OK.ieq (fun h1003 => ?_) (fun h1003 => ?_)
                      · skip
                        refine OK.bndW (k_X3_beginPlan _ _ is1001 ) fs1001 (fun v1004 s1006 is1006 fs1006 h1005 => ?_)
                        dsimp only
                        refine OK.ieq (fun h1007 => ?_) (fun h1007 => ?_)
                        · skip
                          exact OK.wret is1006 fs1006 (by first | trivial | omega | exact hI.flds _ | exact hI.dflds _ | exact hI.recs _ | exact hI.drecs _ | exact hI.droot _ | omega)
                        · skip
                          unfold f_X3_parse_157
                          try dsimp only
                          obtain ⟨a1008k, a1008, a1008l, a1008r⟩ := i_add x1 1
                          try (refine k0el (k := a1008k) ?_ (fun e0 => ?_); (focus omega); subst e0)
                          obtain ⟨a1009k, a1009, a1009l, a1009r⟩ := i_add x2 1
                          try (refine k0el (k := a1009k) ?_ (fun e0 => ?_); (focus omega); subst e0)
                          exact OK.trW (ih _ _ _ is1006 (by omega)) fs1006 (fun v hv => by first | trivial | omega | exact hI.flds _ | exact hI.dflds _ | exact hI.recs _ | exact hI.drecs _ | exact hI.droot _ | omega)
                      · skip
                        exact OK.wret is1001 fs1001 (by first | trivial | omega | exact hI.flds _ | exact hI.dflds _ | exact hI.recs _ | exact hI.drecs _ | exact hI.droot _ | omega)
                · skip
                  unfold f_X3_parse_127
                  try dsimp only
                  refine OK.bndW (k_X3_resolve _ _ hI ) Fr.rf (fun v1010 s1012 is1012 fs1012 h1011 => ?_)
                  dsimp only
                  refine OK.ieq (fun h1013 => ?_) (fun h1013 => ?_)
                  · skip
                    exact OK.wret is1012 fs1012 (by first | trivial | omega | exact hI.flds _ | exact hI.dflds _ | exact hI.recs _ | exact hI.drecs _ | exact hI.droot _ | omega)
                  · skip
                    refine OK.ieq (fun h1014 => ?_) (fun h1014 => ?_)
                    · skip
                      refine OK.bndW (k_X3_beginPlan _ _ is1012 ) fs1012 (fun v1015 s1017 is1017 fs1017 h1016 => ?_)
                      dsimp only
                      refine OK.ieq (fun h1018 => ?_) (fun h1018 => ?_)
                      · skip
                        exact OK.wret is1017 fs1017 (by first | trivial | omega | exact hI.flds _ | exact hI.dflds _ | exact hI.recs _ | exact hI.drecs _ | exact hI.droot _ | omega)
                      · skip
                        unfold f_X3_parse_157
                        try dsimp only
                        obtain ⟨a1019k, a1019, a1019l, a1019r⟩ := i_add x1 1
                        try (refine k0el (k := a1019k) ?_ (fun e0 => ?_); (focus omega); subst e0)
                        obtain ⟨a1020k, a1020, a1020l, a1020r⟩ := i_add x2 1
                        try (refine k0el (k := a1020k) ?_ (fun e0 => ?_); (focus omega); subst e0)
                        exact OK.trW (ih _ _ _ is1017 (by omega)) fs1017 (fun v hv => by first | trivial | omega | exact hI.flds _ | exact hI.dflds _ | exact hI.recs _ | exact hI.drecs _ | exact hI.droot _ | omega)
                    · skip
                      exact OK.wret is1012 fs1012 (by first | trivial | omega | exact hI.flds _ | exact hI.dflds _ | exact hI.recs _ | exact hI.drecs _ | exact hI.droot _ | omega)
          · skip
            refine OK.ieq (fun h1021 => ?_) (fun h1021 => ?_)
            · skip
              unfold f_X3_parse_79
              try dsimp only
              refine OK.ieq (fun h1022 => ?_) (fun h1022 => ?_)
              · skip
                refine OK.ieq (fun h1023 => ?_) (fun h1023 => ?_)
                · skip
                  unfold f_X3_parse_90
                  try dsimp only
                  refine OK.bndR (k_X6_isKeyword _ _ hI ) (fun v1024 h1025 => ?_)
                  dsimp only
                  refine OK.ieq (fun h1026 => ?_) (fun h1026 => ?_)
                  · skip
                    unfold f_X3_parse_105
                    try dsimp only
                    unfold f_X3_parse_106
                    try dsimp only
                    refine OK.ieq (fun h1027 => ?_) (fun h1027 => ?_)
                    · skip
                      refine OK.ieq (fun h1028 => ?_) (fun h1028 => ?_)
                      · skip
                        refine OK.bndW (k_X6_refuse _ _ hI ) Fr.rf (fun v1029 s1031 is1031 fs1031 h1030 => ?_)
                        dsimp only
                        refine OK.grd (b01 (by omega)) ?_
                        exact OK.wret is1031 fs1031 (by first | trivial | omega | exact hI.flds _ | exact hI.dflds _ | exact hI.recs _ | exact hI.drecs _ | exact hI.droot _ | omega)
                      · skip
                        unfold f_X3_parse_127
                        try dsimp only
                        refine OK.bndW (k_X3_resolve _ _ hI ) Fr.rf (fun v1032 s1034 is1034 fs1034 h1033 => ?_)
                        dsimp only
                        refine OK.ieq (fun h1035 => ?_) (fun h1035 => ?_)
                        · skip
                          exact OK.wret is1034 fs1034 (by first | trivial | omega | exact hI.flds _ | exact hI.dflds _ | exact hI.recs _ | exact hI.drecs _ | exact hI.droot _ | omega)
                        · skip
                          refine OK.ieq (fun h1036 => ?_) (fun h1036 => ?_)
                          · skip
                            refine OK.bndW (k_X3_beginPlan _ _ is1034 ) fs1034 (fun v1037 s1039 is1039 fs1039 h1038 => ?_)
                            dsimp only
                            refine OK.ieq (fun h1040 => ?_) (fun h1040 => ?_)
                            · skip
                              exact OK.wret is1039 fs1039 (by first | trivial | omega | exact hI.flds _ | exact hI.dflds _ | exact hI.recs _ | exact hI.drecs _ | exact hI.droot _ | omega)
                            · skip
                              unfold f_X3_parse_157
                              try dsimp only
                              obtain ⟨a1041k, a1041, a1041l, a1041r⟩ := i_add x1 1
                              try (refine k0el (k := a1041k) ?_ (fun e0 => ?_); (focus omega); subst e0)
                              obtain ⟨a1042k, a1042, a1042l, a1042r⟩ := i_add x2 1
                              try (refine k0el (k := a1042k) ?_ (fun e0 => ?_); (focus omega); subst e0)
                              exact OK.trW (ih _ _ _ is1039 (by omega)) fs1039 (fun v hv => by first | trivial | omega | exact hI.flds _ | exact hI.dflds _ | exact hI.recs _ | exact hI.drecs _ | exact hI.droot _ | omega)
                          · skip
                            exact OK.wret is1034 fs1034 (by first | trivial | omega | exact hI.flds _ | exact hI.dflds _ | exact hI.recs _ | exact hI.drecs _ | exact hI.droot _ | omega)
                    · skip
                      unfold f_X3_parse_127
                      try dsimp only
                      refine OK.bndW (k_X3_resolve _ _ hI ) Fr.rf (fun v1043 s1045 is1045 fs1045 h1044 => ?_)
                      dsimp only
                      refine OK.ieq (fun h1046 => ?_) (fun h1046 => ?_)
                      · skip
                        exact OK.wret is1045 fs1045 (by first | trivial | omega | exact hI.flds _ | exact hI.dflds _ | exact hI.recs _ | exact hI.drecs _ | exact hI.droot _ | omega)
                      · skip
                        refine OK.ieq (fun h1047 => ?_) (fun h1047 => ?_)
                        · skip
                          refine OK.bndW (k_X3_beginPlan _ _ is1045 ) fs1045 (fun v1048 s1050 is1050 fs1050 h1049 => ?_)
                          dsimp only
                          refine OK.ieq (fun h1051 => ?_) (fun h1051 => ?_)
                          · skip
                            exact OK.wret is1050 fs1050 (by first | trivial | omega | exact hI.flds _ | exact hI.dflds _ | exact hI.recs _ | exact hI.drecs _ | exact hI.droot _ | omega)
                          · skip
                            unfold f_X3_parse_157
                            try dsimp only
                            obtain ⟨a1052k, a1052, a1052l, a1052r⟩ := i_add x1 1
                            try (refine k0el (k := a1052k) ?_ (fun e0 => ?_); (focus omega); subst e0)
                            obtain ⟨a1053k, a1053, a1053l, a1053r⟩ := i_add x2 1
                            try (refine k0el (k := a1053k) ?_ (fun e0 => ?_); (focus omega); subst e0)
                            exact OK.trW (ih _ _ _ is1050 (by omega)) fs1050 (fun v hv => by first | trivial | omega | exact hI.flds _ | exact hI.dflds _ | exact hI.recs _ | exact hI.drecs _ | exact hI.droot _ | omega)
                        · skip
                          exact OK.wret is1045 fs1045 (by first | trivial | omega | exact hI.flds _ | exact hI.dflds _ | exact hI.recs _ | exact hI.drecs _ | exact hI.droot _ | omega)
                  · skip
                    unfold f_X3_parse_106
                    try dsimp only
                    refine OK.ieq (fun h1054 => ?_) (fun h1054 => ?_)
                    · skip
                      refine OK.ieq (fun h1055 => ?_) (fun h1055 => ?_)
                      · skip
                        refine OK.bndW (k_X6_refuse _ _ hI ) Fr.rf (fun v1056 s1058 is1058 fs1058 h1057 => ?_)
                        dsimp only
                        refine OK.grd (b01 (by omega)) ?_
                        exact OK.wret is1058 fs1058 (by first | trivial | omega | exact hI.flds _ | exact hI.dflds _ | exact hI.recs _ | exact hI.drecs _ | exact hI.droot _ | omega)
                      · skip
                        unfold f_X3_parse_127
                        try dsimp only
                        refine OK.bndW (k_X3_resolve _ _ hI ) Fr.rf (fun v1059 s1061 is1061 fs1061 h1060 => ?_)
                        dsimp only
                        refine OK.ieq (fun h1062 => ?_) (fun h1062 => ?_)
                        · skip
                          exact OK.wret is1061 fs1061 (by first | trivial | omega | exact hI.flds _ | exact hI.dflds _ | exact hI.recs _ | exact hI.drecs _ | exact hI.droot _ | omega)
                        · skip
                          refine OK.ieq (fun h1063 => ?_) (fun h1063 => ?_)
                          · skip
                            refine OK.bndW (k_X3_beginPlan _ _ is1061 ) fs1061 (fun v1064 s1066 is1066 fs1066 h1065 => ?_)
                            dsimp only
                            refine OK.ieq (fun h1067 => ?_) (fun h1067 => ?_)
                            · skip
                              exact OK.wret is1066 fs1066 (by first | trivial | omega | exact hI.flds _ | exact hI.dflds _ | exact hI.recs _ | exact hI.drecs _ | exact hI.droot _ | omega)
                            · skip
                              unfold f_X3_parse_157
                              try dsimp only
                              obtain ⟨a1068k, a1068, a1068l, a1068r⟩ := i_add x1 1
                              try (refine k0el (k := a1068k) ?_ (fun e0 => ?_); (focus omega); subst e0)
                              obtain ⟨a1069k, a1069, a1069l, a1069r⟩ := i_add x2 1
                              try (refine k0el (k := a1069k) ?_ (fun e0 => ?_); (focus omega); subst e0)
                              exact OK.trW (ih _ _ _ is1066 (by omega)) fs1066 (fun v hv => by first | trivial | omega | exact hI.flds _ | exact hI.dflds _ | exact hI.recs _ | exact hI.drecs _ | exact hI.droot _ | omega)
                          · skip
                            exact OK.wret is1061 fs1061 (by first | trivial | omega | exact hI.flds _ | exact hI.dflds _ | exact hI.recs _ | exact hI.drecs _ | exact hI.droot _ | omega)
                    · skip
                      unfold f_X3_parse_127
                      try dsimp only
                      refine OK.bndW (k_X3_resolve _ _ hI ) Fr.rf (fun v1070 s1072 is1072 fs1072 h1071 => ?_)
                      dsimp only
                      refine OK.ieq (fun h1073 => ?_) (fun h1073 => ?_)
                      · skip
                        exact OK.wret is1072 fs1072 (by first | trivial | omega | exact hI.flds _ | exact hI.dflds _ | exact hI.recs _ | exact hI.drecs _ | exact hI.droot _ | omega)
                      · skip
                        refine OK.ieq (fun h1074 => ?_) (fun h1074 => ?_)
                        · skip
                          refine OK.bndW (k_X3_beginPlan _ _ is1072 ) fs1072 (fun v1075 s1077 is1077 fs1077 h1076 => ?_)
                          dsimp only
                          refine OK.ieq (fun h1078 => ?_) (fun h1078 => ?_)
                          · skip
                            exact OK.wret is1077 fs1077 (by first | trivial | omega | exact hI.flds _ | exact hI.dflds _ | exact hI.recs _ | exact hI.drecs _ | exact hI.droot _ | omega)
                          · skip
                            unfold f_X3_parse_157
                            try dsimp only
                            obtain ⟨a1079k, a1079, a1079l, a1079r⟩ := i_add x1 1
                            try (refine k0el (k := a1079k) ?_ (fun e0 => ?_); (focus omega); subst e0)
                            obtain ⟨a1080k, a1080, a1080l, a1080r⟩ := i_add x2 1
                            try (refine k0el (k := a1080k) ?_ (fun e0 => ?_); (focus omega); subst e0)
                            exact OK.trW (ih _ _ _ is1077 (by omega)) fs1077 (fun v hv => by first | trivial | omega | exact hI.flds _ | exact hI.dflds _ | exact hI.recs _ | exact hI.drecs _ | exact hI.droot _ | omega)
                        · skip
                          exact OK.wret is1072 fs1072 (by first | trivial | omega | exact hI.flds _ | exact hI.dflds _ | exact hI.recs _ | exact hI.drecs _ | exact hI.droot _ | omega)
                · skip
                  unfold f_X3_parse_105
                  try dsimp only
                  unfold f_X3_parse_106
                  try dsimp only
                  refine OK.ieq (fun h1081 => ?_) (fun h1081 => ?_)
                  · skip
                    refine OK.ieq (fun h1082 => ?_) (fun h1082 => ?_)
                    · skip
                      refine OK.bndW (k_X6_refuse _ _ hI ) Fr.rf (fun v1083 s1085 is1085 fs1085 h1084 => ?_)
                      dsimp only
                      refine OK.grd (b01 (by omega)) ?_
                      exact OK.wret is1085 fs1085 (by first | trivial | omega | exact hI.flds _ | exact hI.dflds _ | exact hI.recs _ | exact hI.drecs _ | exact hI.droot _ | omega)
                    · skip
                      unfold f_X3_parse_127
                      try dsimp only
                      refine OK.bndW (k_X3_resolve _ _ hI ) Fr.rf (fun v1086 s1088 is1088 fs1088 h1087 => ?_)
                      dsimp only
                      refine OK.ieq (fun h1089 => ?_) (fun h1089 => ?_)
                      · skip
                        exact OK.wret is1088 fs1088 (by first | trivial | omega | exact hI.flds _ | exact hI.dflds _ | exact hI.recs _ | exact hI.drecs _ | exact hI.droot _ | omega)
                      · skip
                        refine OK.ieq (fun h1090 => ?_) (fun h1090 => ?_)
                        · skip
                          refine OK.bndW (k_X3_beginPlan _ _ is1088 ) fs1088 (fun v1091 s1093 is1093 fs1093 h1092 => ?_)
                          dsimp only
                          refine OK.ieq (fun h1094 => ?_) (fun h1094 => ?_)
                          · skip
                            exact OK.wret is1093 fs1093 (by first | trivial | omega | exact hI.flds _ | exact hI.dflds _ | exact hI.recs _ | exact hI.drecs _ | exact hI.droot _ | omega)
                          · skip
                            unfold f_X3_parse_157
                            try dsimp only
                            obtain ⟨a1095k, a1095, a1095l, a1095r⟩ := i_add x1 1
                            try (refine k0el (k := a1095k) ?_ (fun e0 => ?_); (focus omega); subst e0)
                            obtain ⟨a1096k, a1096, a1096l, a1096r⟩ := i_add x2 1
                            try (refine k0el (k := a1096k) ?_ (fun e0 => ?_); (focus omega); subst e0)
                            exact OK.trW (ih _ _ _ is1093 (by omega)) fs1093 (fun v hv => by first | trivial | omega | exact hI.flds _ | exact hI.dflds _ | exact hI.recs _ | exact hI.drecs _ | exact hI.droot _ | omega)
                        · skip
                          exact OK.wret is1088 fs1088 (by first | trivial | omega | exact hI.flds _ | exact hI.dflds _ | exact hI.recs _ | exact hI.drecs _ | exact hI.droot _ | omega)
                  · skip
                    unfold f_X3_parse_127
                    try dsimp only
                    refine OK.bndW (k_X3_resolve _ _ hI ) Fr.rf (fun v1097 s1099 is1099 fs1099 h1098 => ?_)
                    dsimp only
                    refine OK.ieq (fun h1100 => ?_) (fun h1100 => ?_)
                    · skip
                      exact OK.wret is1099 fs1099 (by first | trivial | omega | exact hI.flds _ | exact hI.dflds _ | exact hI.recs _ | exact hI.drecs _ | exact hI.droot _ | omega)
                    · skip
                      refine OK.ieq (fun h1101 => ?_) (fun h1101 => ?_)
                      · skip
                        refine OK.bndW (k_X3_beginPlan _ _ is1099 ) fs1099 (fun v1102 s1104 is1104 fs1104 h1103 => ?_)
                        dsimp only
                        refine OK.ieq (fun h1105 => ?_) (fun h1105 => ?_)
                        · skip
                          exact OK.wret is1104 fs1104 (by first | trivial | omega | exact hI.flds _ | exact hI.dflds _ | exact hI.recs _ | exact hI.drecs _ | exact hI.droot _ | omega)
                        · skip
                          unfold f_X3_parse_157
                          try dsimp only
                          obtain ⟨a1106k, a1106, a1106l, a1106r⟩ := i_add x1 1
                          try (refine k0el (k := a1106k) ?_ (fun e0 => ?_); (focus omega); subst e0)
                          obtain ⟨a1107k, a1107, a1107l, a1107r⟩ := i_add x2 1
                          try (refine k0el (k := a1107k) ?_ (fun e0 => ?_); (focus omega); subst e0)
                          exact OK.trW (ih _ _ _ is1104 (by omega)) fs1104 (fun v hv => by first | trivial | omega | exact hI.flds _ | exact hI.dflds _ | exact hI.recs _ | exact hI.drecs _ | exact hI.droot _ | omega)
                      · skip
                        exact OK.wret is1099 fs1099 (by first | trivial | omega | exact hI.flds _ | exact hI.dflds _ | exact hI.recs _ | exact hI.drecs _ | exact hI.droot _ | omega)
              · skip
                unfold f_X3_parse_90
                try dsimp only
                refine OK.bndR (k_X6_isKeyword _ _ hI ) (fun v1108 h1109 => ?_)
                dsimp only
                refine OK.ieq (fun h1110 => ?_) (fun h1110 => ?_)
                · skip
                  unfold f_X3_parse_105
                  try dsimp only
                  unfold f_X3_parse_106
                  try dsimp only
                  refine OK.ieq (fun h1111 => ?_) (fun h1111 => ?_)
                  · skip
                    refine OK.ieq (fun h1112 => ?_) (fun h1112 => ?_)
                    · skip
                      refine OK.bndW (k_X6_refuse _ _ hI ) Fr.rf (fun v1113 s1115 is1115 fs1115 h1114 => ?_)
                      dsimp only
                      refine OK.grd (b01 (by omega)) ?_
                      exact OK.wret is1115 fs1115 (by first | trivial | omega | exact hI.flds _ | exact hI.dflds _ | exact hI.recs _ | exact hI.drecs _ | exact hI.droot _ | omega)
                    · skip
                      unfold f_X3_parse_127
                      try dsimp only
                      refine OK.bndW (k_X3_resolve _ _ hI ) Fr.rf (fun v1116 s1118 is1118 fs1118 h1117 => ?_)
                      dsimp only
                      refine OK.ieq (fun h1119 => ?_) (fun h1119 => ?_)
                      · skip
                        exact OK.wret is1118 fs1118 (by first | trivial | omega | exact hI.flds _ | exact hI.dflds _ | exact hI.recs _ | exact hI.drecs _ | exact hI.droot _ | omega)
                      · skip
                        refine OK.ieq (fun h1120 => ?_) (fun h1120 => ?_)
                        · skip
                          refine OK.bndW (k_X3_beginPlan _ _ is1118 ) fs1118 (fun v1121 s1123 is1123 fs1123 h1122 => ?_)
                          dsimp only
                          refine OK.ieq (fun h1124 => ?_) (fun h1124 => ?_)
                          · skip
                            exact OK.wret is1123 fs1123 (by first | trivial | omega | exact hI.flds _ | exact hI.dflds _ | exact hI.recs _ | exact hI.drecs _ | exact hI.droot _ | omega)
                          · skip
                            unfold f_X3_parse_157
                            try dsimp only
                            obtain ⟨a1125k, a1125, a1125l, a1125r⟩ := i_add x1 1
                            try (refine k0el (k := a1125k) ?_ (fun e0 => ?_); (focus omega); subst e0)
                            obtain ⟨a1126k, a1126, a1126l, a1126r⟩ := i_add x2 1
                            try (refine k0el (k := a1126k) ?_ (fun e0 => ?_); (focus omega); subst e0)
                            exact OK.trW (ih _ _ _ is1123 (by omega)) fs1123 (fun v hv => by first | trivial | omega | exact hI.flds _ | exact hI.dflds _ | exact hI.recs _ | exact hI.drecs _ | exact hI.droot _ | omega)
                        · skip
                          exact OK.wret is1118 fs1118 (by first | trivial | omega | exact hI.flds _ | exact hI.dflds _ | exact hI.recs _ | exact hI.drecs _ | exact hI.droot _ | omega)
                  · skip
                    unfold f_X3_parse_127
                    try dsimp only
                    refine OK.bndW (k_X3_resolve _ _ hI ) Fr.rf (fun v1127 s1129 is1129 fs1129 h1128 => ?_)
                    dsimp only
                    refine OK.ieq (fun h1130 => ?_) (fun h1130 => ?_)
                    · skip
                      exact OK.wret is1129 fs1129 (by first | trivial | omega | exact hI.flds _ | exact hI.dflds _ | exact hI.recs _ | exact hI.drecs _ | exact hI.droot _ | omega)
                    · skip
                      refine OK.ieq (fun h1131 => ?_) (fun h1131 => ?_)
                      · skip
                        refine OK.bndW (k_X3_beginPlan _ _ is1129 ) fs1129 (fun v1132 s1134 is1134 fs1134 h1133 => ?_)
                        dsimp only
                        refine OK.ieq (fun h1135 => ?_) (fun h1135 => ?_)
                        · skip
                          exact OK.wret is1134 fs1134 (by first | trivial | omega | exact hI.flds _ | exact hI.dflds _ | exact hI.recs _ | exact hI.drecs _ | exact hI.droot _ | omega)
                        · skip
                          unfold f_X3_parse_157
                          try dsimp only
                          obtain ⟨a1136k, a1136, a1136l, a1136r⟩ := i_add x1 1
                          try (refine k0el (k := a1136k) ?_ (fun e0 => ?_); (focus omega); subst e0)
                          obtain ⟨a1137k, a1137, a1137l, a1137r⟩ := i_add x2 1
                          try (refine k0el (k := a1137k) ?_ (fun e0 => ?_); (focus omega); subst e0)
                          exact OK.trW (ih _ _ _ is1134 (by omega)) fs1134 (fun v hv => by first | trivial | omega | exact hI.flds _ | exact hI.dflds _ | exact hI.recs _ | exact hI.drecs _ | exact hI.droot _ | omega)
                      · skip
                        exact OK.wret is1129 fs1129 (by first | trivial | omega | exact hI.flds _ | exact hI.dflds _ | exact hI.recs _ | exact hI.drecs _ | exact hI.droot _ | omega)
                · skip
                  unfold f_X3_parse_106
                  try dsimp only
                  refine OK.ieq (fun h1138 => ?_) (fun h1138 => ?_)
                  · skip
                    refine OK.ieq (fun h1139 => ?_) (fun h1139 => ?_)
                    · skip
                      refine OK.bndW (k_X6_refuse _ _ hI ) Fr.rf (fun v1140 s1142 is1142 fs1142 h1141 => ?_)
                      dsimp only
                      refine OK.grd (b01 (by omega)) ?_
                      exact OK.wret is1142 fs1142 (by first | trivial | omega | exact hI.flds _ | exact hI.dflds _ | exact hI.recs _ | exact hI.drecs _ | exact hI.droot _ | omega)
                    · skip
                      unfold f_X3_parse_127
                      try dsimp only
                      refine OK.bndW (k_X3_resolve _ _ hI ) Fr.rf (fun v1143 s1145 is1145 fs1145 h1144 => ?_)
                      dsimp only
                      refine OK.ieq (fun h1146 => ?_) (fun h1146 => ?_)
                      · skip
                        exact OK.wret is1145 fs1145 (by first | trivial | omega | exact hI.flds _ | exact hI.dflds _ | exact hI.recs _ | exact hI.drecs _ | exact hI.droot _ | omega)
                      · skip
                        refine OK.ieq (fun h1147 => ?_) (fun h1147 => ?_)
                        · skip
                          refine OK.bndW (k_X3_beginPlan _ _ is1145 ) fs1145 (fun v1148 s1150 is1150 fs1150 h1149 => ?_)
                          dsimp only
                          refine OK.ieq (fun h1151 => ?_) (fun h1151 => ?_)
                          · skip
                            exact OK.wret is1150 fs1150 (by first | trivial | omega | exact hI.flds _ | exact hI.dflds _ | exact hI.recs _ | exact hI.drecs _ | exact hI.droot _ | omega)
                          · skip
                            unfold f_X3_parse_157
                            try dsimp only
                            obtain ⟨a1152k, a1152, a1152l, a1152r⟩ := i_add x1 1
                            try (refine k0el (k := a1152k) ?_ (fun e0 => ?_); (focus omega); subst e0)
                            obtain ⟨a1153k, a1153, a1153l, a1153r⟩ := i_add x2 1
                            try (refine k0el (k := a1153k) ?_ (fun e0 => ?_); (focus omega); subst e0)
                            exact OK.trW (ih _ _ _ is1150 (by omega)) fs1150 (fun v hv => by first | trivial | omega | exact hI.flds _ | exact hI.dflds _ | exact hI.recs _ | exact hI.drecs _ | exact hI.droot _ | omega)
                        · skip
                          exact OK.wret is1145 fs1145 (by first | trivial | omega | exact hI.flds _ | exact hI.dflds _ | exact hI.recs _ | exact hI.drecs _ | exact hI.droot _ | omega)
                  · skip
                    unfold f_X3_parse_127
                    try dsimp only
                    refine OK.bndW (k_X3_resolve _ _ hI ) Fr.rf (fun v1154 s1156 is1156 fs1156 h1155 => ?_)
                    dsimp only
                    refine OK.ieq (fun h1157 => ?_) (fun h1157 => ?_)
                    · skip
                      exact OK.wret is1156 fs1156 (by first | trivial | omega | exact hI.flds _ | exact hI.dflds _ | exact hI.recs _ | exact hI.drecs _ | exact hI.droot _ | omega)
                    · skip
                      refine OK.ieq (fun h1158 => ?_) (fun h1158 => ?_)
                      · skip
                        refine OK.bndW (k_X3_beginPlan _ _ is1156 ) fs1156 (fun v1159 s1161 is1161 fs1161 h1160 => ?_)
                        dsimp only
                        refine OK.ieq (fun h1162 => ?_) (fun h1162 => ?_)
                        · skip
                          exact OK.wret is1161 fs1161 (by first | trivial | omega | exact hI.flds _ | exact hI.dflds _ | exact hI.recs _ | exact hI.drecs _ | exact hI.droot _ | omega)
                        · skip
                          unfold f_X3_parse_157
                          try dsimp only
                          obtain ⟨a1163k, a1163, a1163l, a1163r⟩ := i_add x1 1
                          try (refine k0el (k := a1163k) ?_ (fun e0 => ?_); (focus omega); subst e0)
                          obtain ⟨a1164k, a1164, a1164l, a1164r⟩ := i_add x2 1
                          try (refine k0el (k := a1164k) ?_ (fun e0 => ?_); (focus omega); subst e0)
                          exact OK.trW (ih _ _ _ is1161 (by omega)) fs1161 (fun v hv => by first | trivial | omega | exact hI.flds _ | exact hI.dflds _ | exact hI.recs _ | exact hI.drecs _ | exact hI.droot _ | omega)
                      · skip
                        exact OK.wret is1156 fs1156 (by first | trivial | omega | exact hI.flds _ | exact hI.dflds _ | exact hI.recs _ | exact hI.drecs _ | exact hI.droot _ | omega)
            · skip
              unfold f_X3_parse_78
              try dsimp only
              unfold f_X3_parse_79
              try dsimp only
              refine OK.ieq (fun h1165 => ?_) (fun h1165 => ?_)
              · skip
                refine OK.ieq (fun h1166 => ?_) (fun h1166 => ?_)
                · skip
                  unfold f_X3_parse_90
                  try dsimp only
                  refine OK.bndR (k_X6_isKeyword _ _ hI ) (fun v1167 h1168 => ?_)
                  dsimp only
                  refine OK.ieq (fun h1169 => ?_) (fun h1169 => ?_)
                  · skip
                    unfold f_X3_parse_105
                    try dsimp only
                    unfold f_X3_parse_106
                    try dsimp only
                    refine OK.ieq (fun h1170 => ?_) (fun h1170 => ?_)
                    · skip
                      refine OK.ieq (fun h1171 => ?_) (fun h1171 => ?_)
                      · skip
                        refine OK.bndW (k_X6_refuse _ _ hI ) Fr.rf (fun v1172 s1174 is1174 fs1174 h1173 => ?_)
                        dsimp only
                        refine OK.grd (b01 (by omega)) ?_
                        exact OK.wret is1174 fs1174 (by first | trivial | omega | exact hI.flds _ | exact hI.dflds _ | exact hI.recs _ | exact hI.drecs _ | exact hI.droot _ | omega)
                      · skip
                        unfold f_X3_parse_127
                        try dsimp only
                        refine OK.bndW (k_X3_resolve _ _ hI ) Fr.rf (fun v1175 s1177 is1177 fs1177 h1176 => ?_)
                        dsimp only
                        refine OK.ieq (fun h1178 => ?_) (fun h1178 => ?_)
                        · skip
                          exact OK.wret is1177 fs1177 (by first | trivial | omega | exact hI.flds _ | exact hI.dflds _ | exact hI.recs _ | exact hI.drecs _ | exact hI.droot _ | omega)
                        · skip
                          refine OK.ieq (fun h1179 => ?_) (fun h1179 => ?_)
                          · skip
                            refine OK.bndW (k_X3_beginPlan _ _ is1177 ) fs1177 (fun v1180 s1182 is1182 fs1182 h1181 => ?_)
                            dsimp only
                            refine OK.ieq (fun h1183 => ?_) (fun h1183 => ?_)
                            · skip
                              exact OK.wret is1182 fs1182 (by first | trivial | omega | exact hI.flds _ | exact hI.dflds _ | exact hI.recs _ | exact hI.drecs _ | exact hI.droot _ | omega)
                            · skip
                              unfold f_X3_parse_157
                              try dsimp only
                              obtain ⟨a1184k, a1184, a1184l, a1184r⟩ := i_add x1 1
                              try (refine k0el (k := a1184k) ?_ (fun e0 => ?_); (focus omega); subst e0)
                              obtain ⟨a1185k, a1185, a1185l, a1185r⟩ := i_add x2 1
                              try (refine k0el (k := a1185k) ?_ (fun e0 => ?_); (focus omega); subst e0)
                              exact OK.trW (ih _ _ _ is1182 (by omega)) fs1182 (fun v hv => by first | trivial | omega | exact hI.flds _ | exact hI.dflds _ | exact hI.recs _ | exact hI.drecs _ | exact hI.droot _ | omega)
                          · skip
                            exact OK.wret is1177 fs1177 (by first | trivial | omega | exact hI.flds _ | exact hI.dflds _ | exact hI.recs _ | exact hI.drecs _ | exact hI.droot _ | omega)
                    · skip
                      unfold f_X3_parse_127
                      try dsimp only
                      refine OK.bndW (k_X3_resolve _ _ hI ) Fr.rf (fun v1186 s1188 is1188 fs1188 h1187 => ?_)
                      dsimp only
                      refine OK.ieq (fun h1189 => ?_) (fun h1189 => ?_)
                      · skip
                        exact OK.wret is1188 fs1188 (by first | trivial | omega | exact hI.flds _ | exact hI.dflds _ | exact hI.recs _ | exact hI.drecs _ | exact hI.droot _ | omega)
                      · skip
                        refine OK.ieq (fun h1190 => ?_) (fun h1190 => ?_)
                        · skip
                          refine OK.bndW (k_X3_beginPlan _ _ is1188 ) fs1188 (fun v1191 s1193 is1193 fs1193 h1192 => ?_)
                          dsimp only
                          refine OK.ieq (fun h1194 => ?_) (fun h1194 => ?_)
                          · skip
                            exact OK.wret is1193 fs1193 (by first | trivial | omega | exact hI.flds _ | exact hI.dflds _ | exact hI.recs _ | exact hI.drecs _ | exact hI.droot _ | omega)
                          · skip
                            unfold f_X3_parse_157
                            try dsimp only
                            obtain ⟨a1195k, a1195, a1195l, a1195r⟩ := i_add x1 1
                            try (refine k0el (k := a1195k) ?_ (fun e0 => ?_); (focus omega); subst e0)
                            obtain ⟨a1196k, a1196, a1196l, a1196r⟩ := i_add x2 1
                            try (refine k0el (k := a1196k) ?_ (fun e0 => ?_); (focus omega); subst e0)
                            exact OK.trW (ih _ _ _ is1193 (by omega)) fs1193 (fun v hv => by first | trivial | omega | exact hI.flds _ | exact hI.dflds _ | exact hI.recs _ | exact hI.drecs _ | exact hI.droot _ | omega)
                        · skip
                          exact OK.wret is1188 fs1188 (by first | trivial | omega | exact hI.flds _ | exact hI.dflds _ | exact hI.recs _ | exact hI.drecs _ | exact hI.droot _ | omega)
                  · skip
                    unfold f_X3_parse_106
                    try dsimp only
                    refine OK.ieq (fun h1197 => ?_) (fun h1197 => ?_)
                    · skip
                      refine OK.ieq (fun h1198 => ?_) (fun h1198 => ?_)
                      · skip
                        refine OK.bndW (k_X6_refuse _ _ hI ) Fr.rf (fun v1199 s1201 is1201 fs1201 h1200 => ?_)
                        dsimp only
                        refine OK.grd (b01 (by omega)) ?_
                        exact OK.wret is1201 fs1201 (by first | trivial | omega | exact hI.flds _ | exact hI.dflds _ | exact hI.recs _ | exact hI.drecs _ | exact hI.droot _ | omega)
                      · skip
                        unfold f_X3_parse_127
                        try dsimp only
                        refine OK.bndW (k_X3_resolve _ _ hI ) Fr.rf (fun v1202 s1204 is1204 fs1204 h1203 => ?_)
                        dsimp only
                        refine OK.ieq (fun h1205 => ?_) (fun h1205 => ?_)
                        · skip
                          exact OK.wret is1204 fs1204 (by first | trivial | omega | exact hI.flds _ | exact hI.dflds _ | exact hI.recs _ | exact hI.drecs _ | exact hI.droot _ | omega)
                        · skip
                          refine OK.ieq (fun h1206 => ?_) (fun h1206 => ?_)
                          · skip
                            refine OK.bndW (k_X3_beginPlan _ _ is1204 ) fs1204 (fun v1207 s1209 is1209 fs1209 h1208 => ?_)
                            dsimp only
                            refine OK.ieq (fun h1210 => ?_) (fun h1210 => ?_)
                            · skip
                              exact OK.wret is1209 fs1209 (by first | trivial | omega | exact hI.flds _ | exact hI.dflds _ | exact hI.recs _ | exact hI.drecs _ | exact hI.droot _ | omega)
                            · skip
                              unfold f_X3_parse_157
                              try dsimp only
                              obtain ⟨a1211k, a1211, a1211l, a1211r⟩ := i_add x1 1
                              try (refine k0el (k := a1211k) ?_ (fun e0 => ?_); (focus omega); subst e0)
                              obtain ⟨a1212k, a1212, a1212l, a1212r⟩ := i_add x2 1
                              try (refine k0el (k := a1212k) ?_ (fun e0 => ?_); (focus omega); subst e0)
                              exact OK.trW (ih _ _ _ is1209 (by omega)) fs1209 (fun v hv => by first | trivial | omega | exact hI.flds _ | exact hI.dflds _ | exact hI.recs _ | exact hI.drecs _ | exact hI.droot _ | omega)
                          · skip
                            exact OK.wret is1204 fs1204 (by first | trivial | omega | exact hI.flds _ | exact hI.dflds _ | exact hI.recs _ | exact hI.drecs _ | exact hI.droot _ | omega)
                    · skip
                      unfold f_X3_parse_127
                      try dsimp only
                      refine OK.bndW (k_X3_resolve _ _ hI ) Fr.rf (fun v1213 s1215 is1215 fs1215 h1214 => ?_)
                      dsimp only
                      refine OK.ieq (fun h1216 => ?_) (fun h1216 => ?_)
                      · skip
                        exact OK.wret is1215 fs1215 (by first | trivial | omega | exact hI.flds _ | exact hI.dflds _ | exact hI.recs _ | exact hI.drecs _ | exact hI.droot _ | omega)
                      · skip
                        refine OK.ieq (fun h1217 => ?_) (fun h1217 => ?_)
                        · skip
                          refine OK.bndW (k_X3_beginPlan _ _ is1215 ) fs1215 (fun v1218 s1220 is1220 fs1220 h1219 => ?_)
                          dsimp only
                          refine OK.ieq (fun h1221 => ?_) (fun h1221 => ?_)
                          · skip
                            exact OK.wret is1220 fs1220 (by first | trivial | omega | exact hI.flds _ | exact hI.dflds _ | exact hI.recs _ | exact hI.drecs _ | exact hI.droot _ | omega)
                          · skip
                            unfold f_X3_parse_157
                            try dsimp only
                            obtain ⟨a1222k, a1222, a1222l, a1222r⟩ := i_add x1 1
                            try (refine k0el (k := a1222k) ?_ (fun e0 => ?_); (focus omega); subst e0)
                            obtain ⟨a1223k, a1223, a1223l, a1223r⟩ := i_add x2 1
                            try (refine k0el (k := a1223k) ?_ (fun e0 => ?_); (focus omega); subst e0)
                            exact OK.trW (ih _ _ _ is1220 (by omega)) fs1220 (fun v hv => by first | trivial | omega | exact hI.flds _ | exact hI.dflds _ | exact hI.recs _ | exact hI.drecs _ | exact hI.droot _ | omega)
                        · skip
                          exact OK.wret is1215 fs1215 (by first | trivial | omega | exact hI.flds _ | exact hI.dflds _ | exact hI.recs _ | exact hI.drecs _ | exact hI.droot _ | omega)
                · skip
                  unfold f_X3_parse_105
                  try dsimp only
                  unfold f_X3_parse_106
                  try dsimp only
                  refine OK.ieq (fun h1224 => ?_) (fun h1224 => ?_)
                  · skip
                    refine OK.ieq (fun h1225 => ?_) (fun h1225 => ?_)
                    · skip
                      refine OK.bndW (k_X6_refuse _ _ hI ) Fr.rf (fun v1226 s1228 is1228 fs1228 h1227 => ?_)
                      dsimp only
                      refine OK.grd (b01 (by omega)) ?_
                      exact OK.wret is1228 fs1228 (by first | trivial | omega | exact hI.flds _ | exact hI.dflds _ | exact hI.recs _ | exact hI.drecs _ | exact hI.droot _ | omega)
                    · skip
                      unfold f_X3_parse_127
                      try dsimp only
                      refine OK.bndW (k_X3_resolve _ _ hI ) Fr.rf (fun v1229 s1231 is1231 fs1231 h1230 => ?_)
                      dsimp only
                      refine OK.ieq (fun h1232 => ?_) (fun h1232 => ?_)
                      · skip
                        exact OK.wret is1231 fs1231 (by first | trivial | omega | exact hI.flds _ | exact hI.dflds _ | exact hI.recs _ | exact hI.drecs _ | exact hI.droot _ | omega)
                      · skip
                        refine OK.ieq (fun h1233 => ?_) (fun h1233 => ?_)
                        · skip
                          refine OK.bndW (k_X3_beginPlan _ _ is1231 ) fs1231 (fun v1234 s1236 is1236 fs1236 h1235 => ?_)
                          dsimp only
                          refine OK.ieq (fun h1237 => ?_) (fun h1237 => ?_)
                          · skip
                            exact OK.wret is1236 fs1236 (by first | trivial | omega | exact hI.flds _ | exact hI.dflds _ | exact hI.recs _ | exact hI.drecs _ | exact hI.droot _ | omega)
                          · skip
                            unfold f_X3_parse_157
                            try dsimp only
                            obtain ⟨a1238k, a1238, a1238l, a1238r⟩ := i_add x1 1
                            try (refine k0el (k := a1238k) ?_ (fun e0 => ?_); (focus omega); subst e0)
                            obtain ⟨a1239k, a1239, a1239l, a1239r⟩ := i_add x2 1
                            try (refine k0el (k := a1239k) ?_ (fun e0 => ?_); (focus omega); subst e0)
                            exact OK.trW (ih _ _ _ is1236 (by omega)) fs1236 (fun v hv => by first | trivial | omega | exact hI.flds _ | exact hI.dflds _ | exact hI.recs _ | exact hI.drecs _ | exact hI.droot _ | omega)
                        · skip
                          exact OK.wret is1231 fs1231 (by first | trivial | omega | exact hI.flds _ | exact hI.dflds _ | exact hI.recs _ | exact hI.drecs _ | exact hI.droot _ | omega)
                  · skip
                    unfold f_X3_parse_127
                    try dsimp only
                    refine OK.bndW (k_X3_resolve _ _ hI ) Fr.rf (fun v1240 s1242 is1242 fs1242 h1241 => ?_)
                    dsimp only
                    refine OK.ieq (fun h1243 => ?_) (fun h1243 => ?_)
                    · skip
                      exact OK.wret is1242 fs1242 (by first | trivial | omega | exact hI.flds _ | exact hI.dflds _ | exact hI.recs _ | exact hI.drecs _ | exact hI.droot _ | omega)
                    · skip
                      refine OK.ieq (fun h1244 => ?_) (fun h1244 => ?_)
                      · skip
                        refine OK.bndW (k_X3_beginPlan _ _ is1242 ) fs1242 (fun v1245 s1247 is1247 fs1247 h1246 => ?_)
                        dsimp only
                        refine OK.ieq (fun h1248 => ?_) (fun h1248 => ?_)
                        · skip
                          exact OK.wret is1247 fs1247 (by first | trivial | omega | exact hI.flds _ | exact hI.dflds _ | exact hI.recs _ | exact hI.drecs _ | exact hI.droot _ | omega)
                        · skip
                          unfold f_X3_parse_157
                          try dsimp only
                          obtain ⟨a1249k, a1249, a1249l, a1249r⟩ := i_add x1 1
                          try (refine k0el (k := a1249k) ?_ (fun e0 => ?_); (focus omega); subst e0)
                          obtain ⟨a1250k, a1250, a1250l, a1250r⟩ := i_add x2 1
                          try (refine k0el (k := a1250k) ?_ (fun e0 => ?_); (focus omega); subst e0)
                          exact OK.trW (ih _ _ _ is1247 (by omega)) fs1247 (fun v hv => by first | trivial | omega | exact hI.flds _ | exact hI.dflds _ | exact hI.recs _ | exact hI.drecs _ | exact hI.droot _ | omega)
                      · skip
                        exact OK.wret is1242 fs1242 (by first | trivial | omega | exact hI.flds _ | exact hI.dflds _ | exact hI.recs _ | exact hI.drecs _ | exact hI.droot _ | omega)
              · skip
                unfold f_X3_parse_90
                try dsimp only
                refine OK.bndR (k_X6_isKeyword _ _ hI ) (fun v1251 h1252 => ?_)
                dsimp only
                refine OK.ieq (fun h1253 => ?_) (fun h1253 => ?_)
                · skip
                  unfold f_X3_parse_105
                  try dsimp only
                  unfold f_X3_parse_106
                  try dsimp only
                  refine OK.ieq (fun h1254 => ?_) (fun h1254 => ?_)
                  · skip
                    refine OK.ieq (fun h1255 => ?_) (fun h1255 => ?_)
                    · skip
                      refine OK.bndW (k_X6_refuse _ _ hI ) Fr.rf (fun v1256 s1258 is1258 fs1258 h1257 => ?_)
                      dsimp only
                      refine OK.grd (b01 (by omega)) ?_
                      exact OK.wret is1258 fs1258 (by first | trivial | omega | exact hI.flds _ | exact hI.dflds _ | exact hI.recs _ | exact hI.drecs _ | exact hI.droot _ | omega)
                    · skip
                      unfold f_X3_parse_127
                      try dsimp only
                      refine OK.bndW (k_X3_resolve _ _ hI ) Fr.rf (fun v1259 s1261 is1261 fs1261 h1260 => ?_)
                      dsimp only
                      refine OK.ieq (fun h1262 => ?_) (fun h1262 => ?_)
                      · skip
                        exact OK.wret is1261 fs1261 (by first | trivial | omega | exact hI.flds _ | exact hI.dflds _ | exact hI.recs _ | exact hI.drecs _ | exact hI.droot _ | omega)
                      · skip
                        refine OK.ieq (fun h1263 => ?_) (fun h1263 => ?_)
                        · skip
                          refine OK.bndW (k_X3_beginPlan _ _ is1261 ) fs1261 (fun v1264 s1266 is1266 fs1266 h1265 => ?_)
                          dsimp only
                          refine OK.ieq (fun h1267 => ?_) (fun h1267 => ?_)
                          · skip
                            exact OK.wret is1266 fs1266 (by first | trivial | omega | exact hI.flds _ | exact hI.dflds _ | exact hI.recs _ | exact hI.drecs _ | exact hI.droot _ | omega)
                          · skip
                            unfold f_X3_parse_157
                            try dsimp only
                            obtain ⟨a1268k, a1268, a1268l, a1268r⟩ := i_add x1 1
                            try (refine k0el (k := a1268k) ?_ (fun e0 => ?_); (focus omega); subst e0)
                            obtain ⟨a1269k, a1269, a1269l, a1269r⟩ := i_add x2 1
                            try (refine k0el (k := a1269k) ?_ (fun e0 => ?_); (focus omega); subst e0)
                            exact OK.trW (ih _ _ _ is1266 (by omega)) fs1266 (fun v hv => by first | trivial | omega | exact hI.flds _ | exact hI.dflds _ | exact hI.recs _ | exact hI.drecs _ | exact hI.droot _ | omega)
                        · skip
                          exact OK.wret is1261 fs1261 (by first | trivial | omega | exact hI.flds _ | exact hI.dflds _ | exact hI.recs _ | exact hI.drecs _ | exact hI.droot _ | omega)
                  · skip
                    unfold f_X3_parse_127
                    try dsimp only
                    refine OK.bndW (k_X3_resolve _ _ hI ) Fr.rf (fun v1270 s1272 is1272 fs1272 h1271 => ?_)
                    dsimp only
                    refine OK.ieq (fun h1273 => ?_) (fun h1273 => ?_)
                    · skip
                      exact OK.wret is1272 fs1272 (by first | trivial | omega | exact hI.flds _ | exact hI.dflds _ | exact hI.recs _ | exact hI.drecs _ | exact hI.droot _ | omega)
                    · skip
                      refine OK.ieq (fun h1274 => ?_) (fun h1274 => ?_)
                      · skip
                        refine OK.bndW (k_X3_beginPlan _ _ is1272 ) fs1272 (fun v1275 s1277 is1277 fs1277 h1276 => ?_)
                        dsimp only
                        refine OK.ieq (fun h1278 => ?_) (fun h1278 => ?_)
                        · skip
                          exact OK.wret is1277 fs1277 (by first | trivial | omega | exact hI.flds _ | exact hI.dflds _ | exact hI.recs _ | exact hI.drecs _ | exact hI.droot _ | omega)
                        · skip
                          unfold f_X3_parse_157
                          try dsimp only
                          obtain ⟨a1279k, a1279, a1279l, a1279r⟩ := i_add x1 1
                          try (refine k0el (k := a1279k) ?_ (fun e0 => ?_); (focus omega); subst e0)
                          obtain ⟨a1280k, a1280, a1280l, a1280r⟩ := i_add x2 1
                          try (refine k0el (k := a1280k) ?_ (fun e0 => ?_); (focus omega); subst e0)
                          exact OK.trW (ih _ _ _ is1277 (by omega)) fs1277 (fun v hv => by first | trivial | omega | exact hI.flds _ | exact hI.dflds _ | exact hI.recs _ | exact hI.drecs _ | exact hI.droot _ | omega)
                      · skip
                        exact OK.wret is1272 fs1272 (by first | trivial | omega | exact hI.flds _ | exact hI.dflds _ | exact hI.recs _ | exact hI.drecs _ | exact hI.droot _ | omega)
                · skip
                  unfold f_X3_parse_106
                  try dsimp only
                  refine OK.ieq (fun h1281 => ?_) (fun h1281 => ?_)
                  · skip
                    refine OK.ieq (fun h1282 => ?_) (fun h1282 => ?_)
                    · skip
                      refine OK.bndW (k_X6_refuse _ _ hI ) Fr.rf (fun v1283 s1285 is1285 fs1285 h1284 => ?_)
                      dsimp only
                      refine OK.grd (b01 (by omega)) ?_
                      exact OK.wret is1285 fs1285 (by first | trivial | omega | exact hI.flds _ | exact hI.dflds _ | exact hI.recs _ | exact hI.drecs _ | exact hI.droot _ | omega)
                    · skip
                      unfold f_X3_parse_127
                      try dsimp only
                      refine OK.bndW (k_X3_resolve _ _ hI ) Fr.rf (fun v1286 s1288 is1288 fs1288 h1287 => ?_)
                      dsimp only
                      refine OK.ieq (fun h1289 => ?_) (fun h1289 => ?_)
                      · skip
                        exact OK.wret is1288 fs1288 (by first | trivial | omega | exact hI.flds _ | exact hI.dflds _ | exact hI.recs _ | exact hI.drecs _ | exact hI.droot _ | omega)
                      · skip
                        refine OK.ieq (fun h1290 => ?_) (fun h1290 => ?_)
                        · skip
                          refine OK.bndW (k_X3_beginPlan _ _ is1288 ) fs1288 (fun v1291 s1293 is1293 fs1293 h1292 => ?_)
                          dsimp only
                          refine OK.ieq (fun h1294 => ?_) (fun h1294 => ?_)
                          · skip
                            exact OK.wret is1293 fs1293 (by first | trivial | omega | exact hI.flds _ | exact hI.dflds _ | exact hI.recs _ | exact hI.drecs _ | exact hI.droot _ | omega)
                          · skip
                            unfold f_X3_parse_157
                            try dsimp only
                            obtain ⟨a1295k, a1295, a1295l, a1295r⟩ := i_add x1 1
                            try (refine k0el (k := a1295k) ?_ (fun e0 => ?_); (focus omega); subst e0)
                            obtain ⟨a1296k, a1296, a1296l, a1296r⟩ := i_add x2 1
                            try (refine k0el (k := a1296k) ?_ (fun e0 => ?_); (focus omega); subst e0)
                            exact OK.trW (ih _ _ _ is1293 (by omega)) fs1293 (fun v hv => by first | trivial | omega | exact hI.flds _ | exact hI.dflds _ | exact hI.recs _ | exact hI.drecs _ | exact hI.droot _ | omega)
                        · skip
                          exact OK.wret is1288 fs1288 (by first | trivial | omega | exact hI.flds _ | exact hI.dflds _ | exact hI.recs _ | exact hI.drecs _ | exact hI.droot _ | omega)
                  · skip
                    unfold f_X3_parse_127
                    try dsimp only
                    refine OK.bndW (k_X3_resolve _ _ hI ) Fr.rf (fun v1297 s1299 is1299 fs1299 h1298 => ?_)
                    dsimp only
                    refine OK.ieq (fun h1300 => ?_) (fun h1300 => ?_)
                    · skip
                      exact OK.wret is1299 fs1299 (by first | trivial | omega | exact hI.flds _ | exact hI.dflds _ | exact hI.recs _ | exact hI.drecs _ | exact hI.droot _ | omega)
                    · skip
                      refine OK.ieq (fun h1301 => ?_) (fun h1301 => ?_)
                      · skip
                        refine OK.bndW (k_X3_beginPlan _ _ is1299 ) fs1299 (fun v1302 s1304 is1304 fs1304 h1303 => ?_)
                        dsimp only
                        refine OK.ieq (fun h1305 => ?_) (fun h1305 => ?_)
                        · skip
                          exact OK.wret is1304 fs1304 (by first | trivial | omega | exact hI.flds _ | exact hI.dflds _ | exact hI.recs _ | exact hI.drecs _ | exact hI.droot _ | omega)
                        · skip
                          unfold f_X3_parse_157
                          try dsimp only
                          obtain ⟨a1306k, a1306, a1306l, a1306r⟩ := i_add x1 1
                          try (refine k0el (k := a1306k) ?_ (fun e0 => ?_); (focus omega); subst e0)
                          obtain ⟨a1307k, a1307, a1307l, a1307r⟩ := i_add x2 1
                          try (refine k0el (k := a1307k) ?_ (fun e0 => ?_); (focus omega); subst e0)
                          exact OK.trW (ih _ _ _ is1304 (by omega)) fs1304 (fun v hv => by first | trivial | omega | exact hI.flds _ | exact hI.dflds _ | exact hI.recs _ | exact hI.drecs _ | exact hI.droot _ | omega)
                      · skip
                        exact OK.wret is1299 fs1299 (by first | trivial | omega | exact hI.flds _ | exact hI.dflds _ | exact hI.recs _ | exact hI.drecs _ | exact hI.droot _ | omega)
        · skip
          refine OK.bndR (k_X6_isKeyword _ _ hI ) (fun v1308 h1309 => ?_)
          dsimp only
          refine OK.ieq (fun h1310 => ?_) (fun h1310 => ?_)
          · skip
            unfold f_X3_parse_60
            try dsimp only
            refine OK.ieq (fun h1311 => ?_) (fun h1311 => ?_)
            · skip
              unfold f_X3_parse_78
              try dsimp only
              unfold f_X3_parse_79
              try dsimp only
              refine OK.ieq (fun h1312 => ?_) (fun h1312 => ?_)
              · skip
                refine OK.ieq (fun h1313 => ?_) (fun h1313 => ?_)
                · skip
                  unfold f_X3_parse_90
                  try dsimp only
                  refine OK.bndR (k_X6_isKeyword _ _ hI ) (fun v1314 h1315 => ?_)
                  dsimp only
                  refine OK.ieq (fun h1316 => ?_) (fun h1316 => ?_)
                  · skip
                    unfold f_X3_parse_105
                    try dsimp only
                    unfold f_X3_parse_106
                    try dsimp only
                    refine OK.ieq (fun h1317 => ?_) (fun h1317 => ?_)
                    · skip
                      refine OK.ieq (fun h1318 => ?_) (fun h1318 => ?_)
                      · skip
                        refine OK.bndW (k_X6_refuse _ _ hI ) Fr.rf (fun v1319 s1321 is1321 fs1321 h1320 => ?_)
                        dsimp only
                        refine OK.grd (b01 (by omega)) ?_
                        exact OK.wret is1321 fs1321 (by first | trivial | omega | exact hI.flds _ | exact hI.dflds _ | exact hI.recs _ | exact hI.drecs _ | exact hI.droot _ | omega)
                      · skip
                        unfold f_X3_parse_127
                        try dsimp only
                        refine OK.bndW (k_X3_resolve _ _ hI ) Fr.rf (fun v1322 s1324 is1324 fs1324 h1323 => ?_)
                        dsimp only
                        refine OK.ieq (fun h1325 => ?_) (fun h1325 => ?_)
                        · skip
                          exact OK.wret is1324 fs1324 (by first | trivial | omega | exact hI.flds _ | exact hI.dflds _ | exact hI.recs _ | exact hI.drecs _ | exact hI.droot _ | omega)
                        · skip
                          refine OK.ieq (fun h1326 => ?_) (fun h1326 => ?_)
                          · skip
                            refine OK.bndW (k_X3_beginPlan _ _ is1324 ) fs1324 (fun v1327 s1329 is1329 fs1329 h1328 => ?_)
                            dsimp only
                            refine OK.ieq (fun h1330 => ?_) (fun h1330 => ?_)
                            · skip
                              exact OK.wret is1329 fs1329 (by first | trivial | omega | exact hI.flds _ | exact hI.dflds _ | exact hI.recs _ | exact hI.drecs _ | exact hI.droot _ | omega)
                            · skip
                              unfold f_X3_parse_157
                              try dsimp only
                              obtain ⟨a1331k, a1331, a1331l, a1331r⟩ := i_add x1 1
                              try (refine k0el (k := a1331k) ?_ (fun e0 => ?_); (focus omega); subst e0)
                              obtain ⟨a1332k, a1332, a1332l, a1332r⟩ := i_add x2 1
                              try (refine k0el (k := a1332k) ?_ (fun e0 => ?_); (focus omega); subst e0)
                              exact OK.trW (ih _ _ _ is1329 (by omega)) fs1329 (fun v hv => by first | trivial | omega | exact hI.flds _ | exact hI.dflds _ | exact hI.recs _ | exact hI.drecs _ | exact hI.droot _ | omega)
                          · skip
                            exact OK.wret is1324 fs1324 (by first | trivial | omega | exact hI.flds _ | exact hI.dflds _ | exact hI.recs _ | exact hI.drecs _ | exact hI.droot _ | omega)
                    · skip
                      unfold f_X3_parse_127
                      try dsimp only
                      refine OK.bndW (k_X3_resolve _ _ hI ) Fr.rf (fun v1333 s1335 is1335 fs1335 h1334 => ?_)
                      dsimp only
                      refine OK.ieq (fun h1336 => ?_) (fun h1336 => ?_)
                      · skip
                        exact OK.wret is1335 fs1335 (by first | trivial | omega | exact hI.flds _ | exact hI.dflds _ | exact hI.recs _ | exact hI.drecs _ | exact hI.droot _ | omega)
                      · skip
                        refine OK.ieq (fun h1337 => ?_) (fun h1337 => ?_)
                        · skip
                          refine OK.bndW (k_X3_beginPlan _ _ is1335 ) fs1335 (fun v1338 s1340 is1340 fs1340 h1339 => ?_)
                          dsimp only
                          refine OK.ieq (fun h1341 => ?_) (fun h1341 => ?_)
                          · skip
                            exact OK.wret is1340 fs1340 (by first | trivial | omega | exact hI.flds _ | exact hI.dflds _ | exact hI.recs _ | exact hI.drecs _ | exact hI.droot _ | omega)
                          · skip
                            unfold f_X3_parse_157
                            try dsimp only
                            obtain ⟨a1342k, a1342, a1342l, a1342r⟩ := i_add x1 1
                            try (refine k0el (k := a1342k) ?_ (fun e0 => ?_); (focus omega); subst e0)
                            obtain ⟨a1343k, a1343, a1343l, a1343r⟩ := i_add x2 1
                            try (refine k0el (k := a1343k) ?_ (fun e0 => ?_); (focus omega); subst e0)
                            exact OK.trW (ih _ _ _ is1340 (by omega)) fs1340 (fun v hv => by first | trivial | omega | exact hI.flds _ | exact hI.dflds _ | exact hI.recs _ | exact hI.drecs _ | exact hI.droot _ | omega)
                        · skip
                          exact OK.wret is1335 fs1335 (by first | trivial | omega | exact hI.flds _ | exact hI.dflds _ | exact hI.recs _ | exact hI.drecs _ | exact hI.droot _ | omega)
                  · skip
                    unfold f_X3_parse_106
                    try dsimp only
                    refine OK.ieq (fun h1344 => ?_) (fun h1344 => ?_)
                    · skip
                      refine OK.ieq (fun h1345 => ?_) (fun h1345 => ?_)
                      · skip
                        refine OK.bndW (k_X6_refuse _ _ hI ) Fr.rf (fun v1346 s1348 is1348 fs1348 h1347 => ?_)
                        dsimp only
                        refine OK.grd (b01 (by omega)) ?_
                        exact OK.wret is1348 fs1348 (by first | trivial | omega | exact hI.flds _ | exact hI.dflds _ | exact hI.recs _ | exact hI.drecs _ | exact hI.droot _ | omega)
                      · skip
                        unfold f_X3_parse_127
                        try dsimp only
                        refine OK.bndW (k_X3_resolve _ _ hI ) Fr.rf (fun v1349 s1351 is1351 fs1351 h1350 => ?_)
                        dsimp only
                        refine OK.ieq (fun h1352 => ?_) (fun h1352 => ?_)
                        · skip
                          exact OK.wret is1351 fs1351 (by first | trivial | omega | exact hI.flds _ | exact hI.dflds _ | exact hI.recs _ | exact hI.drecs _ | exact hI.droot _ | omega)
                        · skip
                          refine OK.ieq (fun h1353 => ?_) (fun h1353 => ?_)
                          · skip
                            refine OK.bndW (k_X3_beginPlan _ _ is1351 ) fs1351 (fun v1354 s1356 is1356 fs1356 h1355 => ?_)
                            dsimp only
                            refine OK.ieq (fun h1357 => ?_) (fun h1357 => ?_)
                            · skip
                              exact OK.wret is1356 fs1356 (by first | trivial | omega | exact hI.flds _ | exact hI.dflds _ | exact hI.recs _ | exact hI.drecs _ | exact hI.droot _ | omega)
                            · skip
                              unfold f_X3_parse_157
                              try dsimp only
                              obtain ⟨a1358k, a1358, a1358l, a1358r⟩ := i_add x1 1
                              try (refine k0el (k := a1358k) ?_ (fun e0 => ?_); (focus omega); subst e0)
                              obtain ⟨a1359k, a1359, a1359l, a1359r⟩ := i_add x2 1
                              try (refine k0el (k := a1359k) ?_ (fun e0 => ?_); (focus omega); subst e0)
                              exact OK.trW (ih _ _ _ is1356 (by omega)) fs1356 (fun v hv => by first | trivial | omega | exact hI.flds _ | exact hI.dflds _ | exact hI.recs _ | exact hI.drecs _ | exact hI.droot _ | omega)
                          · skip
                            exact OK.wret is1351 fs1351 (by first | trivial | omega | exact hI.flds _ | exact hI.dflds _ | exact hI.recs _ | exact hI.drecs _ | exact hI.droot _ | omega)
                    · skip
                      unfold f_X3_parse_127
                      try dsimp only
                      refine OK.bndW (k_X3_resolve _ _ hI ) Fr.rf (fun v1360 s1362 is1362 fs1362 h1361 => ?_)
                      dsimp only
                      refine OK.ieq (fun h1363 => ?_) (fun h1363 => ?_)
                      · skip
                        exact OK.wret is1362 fs1362 (by first | trivial | omega | exact hI.flds _ | exact hI.dflds _ | exact hI.recs _ | exact hI.drecs _ | exact hI.droot _ | omega)
                      · skip
                        refine OK.ieq (fun h1364 => ?_) (fun h1364 => ?_)
                        · skip
                          refine OK.bndW (k_X3_beginPlan _ _ is1362 ) fs1362 (fun v1365 s1367 is1367 fs1367 h1366 => ?_)
                          dsimp only
                          refine OK.ieq (fun h1368 => ?_) (fun h1368 => ?_)
                          · skip
                            exact OK.wret is1367 fs1367 (by first | trivial | omega | exact hI.flds _ | exact hI.dflds _ | exact hI.recs _ | exact hI.drecs _ | exact hI.droot _ | omega)
                          · skip
                            unfold f_X3_parse_157
                            try dsimp only
                            obtain ⟨a1369k, a1369, a1369l, a1369r⟩ := i_add x1 1
                            try (refine k0el (k := a1369k) ?_ (fun e0 => ?_); (focus omega); subst e0)
                            obtain ⟨a1370k, a1370, a1370l, a1370r⟩ := i_add x2 1
                            try (refine k0el (k := a1370k) ?_ (fun e0 => ?_); (focus omega); subst e0)
                            exact OK.trW (ih _ _ _ is1367 (by omega)) fs1367 (fun v hv => by first | trivial | omega | exact hI.flds _ | exact hI.dflds _ | exact hI.recs _ | exact hI.drecs _ | exact hI.droot _ | omega)
                        · skip
                          exact OK.wret is1362 fs1362 (by first | trivial | omega | exact hI.flds _ | exact hI.dflds _ | exact hI.recs _ | exact hI.drecs _ | exact hI.droot _ | omega)
                · skip
                  unfold f_X3_parse_105
                  try dsimp only
                  unfold f_X3_parse_106
                  try dsimp only
                  refine OK.ieq (fun h1371 => ?_) (fun h1371 => ?_)
                  · skip
                    refine OK.ieq (fun h1372 => ?_) (fun h1372 => ?_)
                    · skip
                      refine OK.bndW (k_X6_refuse _ _ hI ) Fr.rf (fun v1373 s1375 is1375 fs1375 h1374 => ?_)
                      dsimp only
                      refine OK.grd (b01 (by omega)) ?_
                      exact OK.wret is1375 fs1375 (by first | trivial | omega | exact hI.flds _ | exact hI.dflds _ | exact hI.recs _ | exact hI.drecs _ | exact hI.droot _ | omega)
                    · skip
                      unfold f_X3_parse_127
                      try dsimp only
                      refine OK.bndW (k_X3_resolve _ _ hI ) Fr.rf (fun v1376 s1378 is1378 fs1378 h1377 => ?_)
                      dsimp only
                      refine OK.ieq (fun h1379 => ?_) (fun h1379 => ?_)
                      · skip
                        exact OK.wret is1378 fs1378 (by first | trivial | omega | exact hI.flds _ | exact hI.dflds _ | exact hI.recs _ | exact hI.drecs _ | exact hI.droot _ | omega)
                      · skip
                        refine OK.ieq (fun h1380 => ?_) (fun h1380 => ?_)
                        · skip
                          refine OK.bndW (k_X3_beginPlan _ _ is1378 ) fs1378 (fun v1381 s1383 is1383 fs1383 h1382 => ?_)
                          dsimp only
                          refine OK.ieq (fun h1384 => ?_) (fun h1384 => ?_)
                          · skip
                            exact OK.wret is1383 fs1383 (by first | trivial | omega | exact hI.flds _ | exact hI.dflds _ | exact hI.recs _ | exact hI.drecs _ | exact hI.droot _ | omega)
                          · skip
                            unfold f_X3_parse_157
                            try dsimp only
                            obtain ⟨a1385k, a1385, a1385l, a1385r⟩ := i_add x1 1
                            try (refine k0el (k := a1385k) ?_ (fun e0 => ?_); (focus omega); subst e0)
                            obtain ⟨a1386k, a1386, a1386l, a1386r⟩ := i_add x2 1
                            try (refine k0el (k := a1386k) ?_ (fun e0 => ?_); (focus omega); subst e0)
                            exact OK.trW (ih _ _ _ is1383 (by omega)) fs1383 (fun v hv => by first | trivial | omega | exact hI.flds _ | exact hI.dflds _ | exact hI.recs _ | exact hI.drecs _ | exact hI.droot _ | omega)
                        · skip
                          exact OK.wret is1378 fs1378 (by first | trivial | omega | exact hI.flds _ | exact hI.dflds _ | exact hI.recs _ | exact hI.drecs _ | exact hI.droot _ | omega)
                  · skip
                    unfold f_X3_parse_127
                    try dsimp only
                    refine OK.bndW (k_X3_resolve _ _ hI ) Fr.rf (fun v1387 s1389 is1389 fs1389 h1388 => ?_)
                    dsimp only
                    refine OK.ieq (fun h1390 => ?_) (fun h1390 => ?_)
                    · skip
                      exact OK.wret is1389 fs1389 (by first | trivial | omega | exact hI.flds _ | exact hI.dflds _ | exact hI.recs _ | exact hI.drecs _ | exact hI.droot _ | omega)
                    · skip
                      refine OK.ieq (fun h1391 => ?_) (fun h1391 => ?_)
                      · skip
                        refine OK.bndW (k_X3_beginPlan _ _ is1389 ) fs1389 (fun v1392 s1394 is1394 fs1394 h1393 => ?_)
                        dsimp only
                        refine OK.ieq (fun h1395 => ?_) (fun h1395 => ?_)
                        · skip
                          exact OK.wret is1394 fs1394 (by first | trivial | omega | exact hI.flds _ | exact hI.dflds _ | exact hI.recs _ | exact hI.drecs _ | exact hI.droot _ | omega)
                        · skip
                          unfold f_X3_parse_157
                          try dsimp only
                          obtain ⟨a1396k, a1396, a1396l, a1396r⟩ := i_add x1 1
                          try (refine k0el (k := a1396k) ?_ (fun e0 => ?_); (focus omega); subst e0)
                          obtain ⟨a1397k, a1397, a1397l, a1397r⟩ := i_add x2 1
                          try (refine k0el (k := a1397k) ?_ (fun e0 => ?_); (focus omega); subst e0)
                          exact OK.trW (ih _ _ _ is1394 (by omega)) fs1394 (fun v hv => by first | trivial | omega | exact hI.flds _ | exact hI.dflds _ | exact hI.recs _ | exact hI.drecs _ | exact hI.droot _ | omega)
                      · skip
                        exact OK.wret is1389 fs1389 (by first | trivial | omega | exact hI.flds _ | exact hI.dflds _ | exact hI.recs _ | exact hI.drecs _ | exact hI.droot _ | omega)
              · skip
                unfold f_X3_parse_90
                try dsimp only
                refine OK.bndR (k_X6_isKeyword _ _ hI ) (fun v1398 h1399 => ?_)
                dsimp only
                refine OK.ieq (fun h1400 => ?_) (fun h1400 => ?_)
                · skip
                  unfold f_X3_parse_105
                  try dsimp only
                  unfold f_X3_parse_106
                  try dsimp only
                  refine OK.ieq (fun h1401 => ?_) (fun h1401 => ?_)
                  · skip
                    refine OK.ieq (fun h1402 => ?_) (fun h1402 => ?_)
                    · skip
                      refine OK.bndW (k_X6_refuse _ _ hI ) Fr.rf (fun v1403 s1405 is1405 fs1405 h1404 => ?_)
                      dsimp only
                      refine OK.grd (b01 (by omega)) ?_
                      exact OK.wret is1405 fs1405 (by first | trivial | omega | exact hI.flds _ | exact hI.dflds _ | exact hI.recs _ | exact hI.drecs _ | exact hI.droot _ | omega)
                    · skip
                      unfold f_X3_parse_127
                      try dsimp only
                      refine OK.bndW (k_X3_resolve _ _ hI ) Fr.rf (fun v1406 s1408 is1408 fs1408 h1407 => ?_)
                      dsimp only
                      refine OK.ieq (fun h1409 => ?_) (fun h1409 => ?_)
                      · skip
                        exact OK.wret is1408 fs1408 (by first | trivial | omega | exact hI.flds _ | exact hI.dflds _ | exact hI.recs _ | exact hI.drecs _ | exact hI.droot _ | omega)
                      · skip
                        refine OK.ieq (fun h1410 => ?_) (fun h1410 => ?_)
                        · skip
                          refine OK.bndW (k_X3_beginPlan _ _ is1408 ) fs1408 (fun v1411 s1413 is1413 fs1413 h1412 => ?_)
                          dsimp only
                          refine OK.ieq (fun h1414 => ?_) (fun h1414 => ?_)
                          · skip
                            exact OK.wret is1413 fs1413 (by first | trivial | omega | exact hI.flds _ | exact hI.dflds _ | exact hI.recs _ | exact hI.drecs _ | exact hI.droot _ | omega)
                          · skip
                            unfold f_X3_parse_157
                            try dsimp only
                            obtain ⟨a1415k, a1415, a1415l, a1415r⟩ := i_add x1 1
                            try (refine k0el (k := a1415k) ?_ (fun e0 => ?_); (focus omega); subst e0)
                            obtain ⟨a1416k, a1416, a1416l, a1416r⟩ := i_add x2 1
                            try (refine k0el (k := a1416k) ?_ (fun e0 => ?_); (focus omega); subst e0)
                            exact OK.trW (ih _ _ _ is1413 (by omega)) fs1413 (fun v hv => by first | trivial | omega | exact hI.flds _ | exact hI.dflds _ | exact hI.recs _ | exact hI.drecs _ | exact hI.droot _ | omega)
                        · skip
                          exact OK.wret is1408 fs1408 (by first | trivial | omega | exact hI.flds _ | exact hI.dflds _ | exact hI.recs _ | exact hI.drecs _ | exact hI.droot _ | omega)
                  · skip
                    unfold f_X3_parse_127
                    try dsimp only
                    refine OK.bndW (k_X3_resolve _ _ hI ) Fr.rf (fun v1417 s1419 is1419 fs1419 h1418 => ?_)
                    dsimp only
                    refine OK.ieq (fun h1420 => ?_) (fun h1420 => ?_)
                    · skip
                      exact OK.wret is1419 fs1419 (by first | trivial | omega | exact hI.flds _ | exact hI.dflds _ | exact hI.recs _ | exact hI.drecs _ | exact hI.droot _ | omega)
                    · skip
                      refine OK.ieq (fun h1421 => ?_) (fun h1421 => ?_)
                      · skip
                        refine OK.bndW (k_X3_beginPlan _ _ is1419 ) fs1419 (fun v1422 s1424 is1424 fs1424 h1423 => ?_)
                        dsimp only
                        refine OK.ieq (fun h1425 => ?_) (fun h1425 => ?_)
                        · skip
                          exact OK.wret is1424 fs1424 (by first | trivial | omega | exact hI.flds _ | exact hI.dflds _ | exact hI.recs _ | exact hI.drecs _ | exact hI.droot _ | omega)
                        · skip
                          unfold f_X3_parse_157
                          try dsimp only
                          obtain ⟨a1426k, a1426, a1426l, a1426r⟩ := i_add x1 1
                          try (refine k0el (k := a1426k) ?_ (fun e0 => ?_); (focus omega); subst e0)
                          obtain ⟨a1427k, a1427, a1427l, a1427r⟩ := i_add x2 1
                          try (refine k0el (k := a1427k) ?_ (fun e0 => ?_); (focus omega); subst e0)
                          exact OK.trW (ih _ _ _ is1424 (by omega)) fs1424 (fun v hv => by first | trivial | omega | exact hI.flds _ | exact hI.dflds _ | exact hI.recs _ | exact hI.drecs _ | exact hI.droot _ | omega)
                      · skip
                        exact OK.wret is1419 fs1419 (by first | trivial | omega | exact hI.flds _ | exact hI.dflds _ | exact hI.recs _ | exact hI.drecs _ | exact hI.droot _ | omega)
                · skip
                  unfold f_X3_parse_106
                  try dsimp only
                  refine OK.ieq (fun h1428 => ?_) (fun h1428 => ?_)
                  · skip
                    refine OK.ieq (fun h1429 => ?_) (fun h1429 => ?_)
                    · skip
                      refine OK.bndW (k_X6_refuse _ _ hI ) Fr.rf (fun v1430 s1432 is1432 fs1432 h1431 => ?_)
                      dsimp only
                      refine OK.grd (b01 (by omega)) ?_
                      exact OK.wret is1432 fs1432 (by first | trivial | omega | exact hI.flds _ | exact hI.dflds _ | exact hI.recs _ | exact hI.drecs _ | exact hI.droot _ | omega)
                    · skip
                      unfold f_X3_parse_127
                      try dsimp only
                      refine OK.bndW (k_X3_resolve _ _ hI ) Fr.rf (fun v1433 s1435 is1435 fs1435 h1434 => ?_)
                      dsimp only
                      refine OK.ieq (fun h1436 => ?_) (fun h1436 => ?_)
                      · skip
                        exact OK.wret is1435 fs1435 (by first | trivial | omega | exact hI.flds _ | exact hI.dflds _ | exact hI.recs _ | exact hI.drecs _ | exact hI.droot _ | omega)
                      · skip
                        refine OK.ieq (fun h1437 => ?_) (fun h1437 => ?_)
                        · skip
                          refine OK.bndW (k_X3_beginPlan _ _ is1435 ) fs1435 (fun v1438 s1440 is1440 fs1440 h1439 => ?_)
                          dsimp only
                          refine OK.ieq (fun h1441 => ?_) (fun h1441 => ?_)
                          · skip
                            exact OK.wret is1440 fs1440 (by first | trivial | omega | exact hI.flds _ | exact hI.dflds _ | exact hI.recs _ | exact hI.drecs _ | exact hI.droot _ | omega)
                          · skip
                            unfold f_X3_parse_157
                            try dsimp only
                            obtain ⟨a1442k, a1442, a1442l, a1442r⟩ := i_add x1 1
                            try (refine k0el (k := a1442k) ?_ (fun e0 => ?_); (focus omega); subst e0)
                            obtain ⟨a1443k, a1443, a1443l, a1443r⟩ := i_add x2 1
                            try (refine k0el (k := a1443k) ?_ (fun e0 => ?_); (focus omega); subst e0)
                            exact OK.trW (ih _ _ _ is1440 (by omega)) fs1440 (fun v hv => by first | trivial | omega | exact hI.flds _ | exact hI.dflds _ | exact hI.recs _ | exact hI.drecs _ | exact hI.droot _ | omega)
                        · skip
                          exact OK.wret is1435 fs1435 (by first | trivial | omega | exact hI.flds _ | exact hI.dflds _ | exact hI.recs _ | exact hI.drecs _ | exact hI.droot _ | omega)
                  · skip
                    unfold f_X3_parse_127
                    try dsimp only
                    refine OK.bndW (k_X3_resolve _ _ hI ) Fr.rf (fun v1444 s1446 is1446 fs1446 h1445 => ?_)
                    dsimp only
                    refine OK.ieq (fun h1447 => ?_) (fun h1447 => ?_)
                    · skip
                      exact OK.wret is1446 fs1446 (by first | trivial | omega | exact hI.flds _ | exact hI.dflds _ | exact hI.recs _ | exact hI.drecs _ | exact hI.droot _ | omega)
                    · skip
                      refine OK.ieq (fun h1448 => ?_) (fun h1448 => ?_)
                      · skip
                        refine OK.bndW (k_X3_beginPlan _ _ is1446 ) fs1446 (fun v1449 s1451 is1451 fs1451 h1450 => ?_)
                        dsimp only
                        refine OK.ieq (fun h1452 => ?_) (fun h1452 => ?_)
                        · skip
                          exact OK.wret is1451 fs1451 (by first | trivial | omega | exact hI.flds _ | exact hI.dflds _ | exact hI.recs _ | exact hI.drecs _ | exact hI.droot _ | omega)
                        · skip
                          unfold f_X3_parse_157
                          try dsimp only
                          obtain ⟨a1453k, a1453, a1453l, a1453r⟩ := i_add x1 1
                          try (refine k0el (k := a1453k) ?_ (fun e0 => ?_); (focus omega); subst e0)
                          obtain ⟨a1454k, a1454, a1454l, a1454r⟩ := i_add x2 1
                          try (refine k0el (k := a1454k) ?_ (fun e0 => ?_); (focus omega); subst e0)
                          exact OK.trW (ih _ _ _ is1451 (by omega)) fs1451 (fun v hv => by first | trivial | omega | exact hI.flds _ | exact hI.dflds _ | exact hI.recs _ | exact hI.drecs _ | exact hI.droot _ | omega)
                      · skip
                        exact OK.wret is1446 fs1446 (by first | trivial | omega | exact hI.flds _ | exact hI.dflds _ | exact hI.recs _ | exact hI.drecs _ | exact hI.droot _ | omega)
            · skip
              refine OK.ieq (fun h1455 => ?_) (fun h1455 => ?_)
              · skip
                unfold f_X3_parse_79
                try dsimp only
                refine OK.ieq (fun h1456 => ?_) (fun h1456 => ?_)
                · skip
                  refine OK.ieq (fun h1457 => ?_) (fun h1457 => ?_)
                  · skip
                    unfold f_X3_parse_90
                    try dsimp only
                    refine OK.bndR (k_X6_isKeyword _ _ hI ) (fun v1458 h1459 => ?_)
                    dsimp only
                    refine OK.ieq (fun h1460 => ?_) (fun h1460 => ?_)
                    · skip
                      unfold f_X3_parse_105
                      try dsimp only
                      unfold f_X3_parse_106
                      try dsimp only
                      refine OK.ieq (fun h1461 => ?_) (fun h1461 => ?_)
                      · skip
                        refine OK.ieq (fun h1462 => ?_) (fun h1462 => ?_)
                        · skip
                          refine OK.bndW (k_X6_refuse _ _ hI ) Fr.rf (fun v1463 s1465 is1465 fs1465 h1464 => ?_)
                          dsimp only
                          refine OK.grd (b01 (by omega)) ?_
                          exact OK.wret is1465 fs1465 (by first | trivial | omega | exact hI.flds _ | exact hI.dflds _ | exact hI.recs _ | exact hI.drecs _ | exact hI.droot _ | omega)
                        · skip
                          unfold f_X3_parse_127
                          try dsimp only
                          refine OK.bndW (k_X3_resolve _ _ hI ) Fr.rf (fun v1466 s1468 is1468 fs1468 h1467 => ?_)
                          dsimp only
                          refine OK.ieq (fun h1469 => ?_) (fun h1469 => ?_)
                          · skip
                            exact OK.wret is1468 fs1468 (by first | trivial | omega | exact hI.flds _ | exact hI.dflds _ | exact hI.recs _ | exact hI.drecs _ | exact hI.droot _ | omega)
                          · skip
                            refine OK.ieq (fun h1470 => ?_) (fun h1470 => ?_)
                            · skip
                              refine OK.bndW (k_X3_beginPlan _ _ is1468 ) fs1468 (fun v1471 s1473 is1473 fs1473 h1472 => ?_)
                              dsimp only
                              refine OK.ieq (fun h1474 => ?_) (fun h1474 => ?_)
                              · skip
                                exact OK.wret is1473 fs1473 (by first | trivial | omega | exact hI.flds _ | exact hI.dflds _ | exact hI.recs _ | exact hI.drecs _ | exact hI.droot _ | omega)
                              · skip
                                unfold f_X3_parse_157
                                try dsimp only
                                obtain ⟨a1475k, a1475, a1475l, a1475r⟩ := i_add x1 1
                                try (refine k0el (k := a1475k) ?_ (fun e0 => ?_); (focus omega); subst e0)
                                obtain ⟨a1476k, a1476, a1476l, a1476r⟩ := i_add x2 1
                                try (refine k0el (k := a1476k) ?_ (fun e0 => ?_); (focus omega); subst e0)
                                exact OK.trW (ih _ _ _ is1473 (by omega)) fs1473 (fun v hv => by first | trivial | omega | exact hI.flds _ | exact hI.dflds _ | exact hI.recs _ | exact hI.drecs _ | exact hI.droot _ | omega)
                            · skip
                              exact OK.wret is1468 fs1468 (by first | trivial | omega | exact hI.flds _ | exact hI.dflds _ | exact hI.recs _ | exact hI.drecs _ | exact hI.droot _ | omega)
                      · skip
                        unfold f_X3_parse_127
                        try dsimp only
                        refine OK.bndW (k_X3_resolve _ _ hI ) Fr.rf (fun v1477 s1479 is1479 fs1479 h1478 => ?_)
                        dsimp only
                        refine OK.ieq (fun h1480 => ?_) (fun h1480 => ?_)
                        · skip
                          exact OK.wret is1479 fs1479 (by first | trivial | omega | exact hI.flds _ | exact hI.dflds _ | exact hI.recs _ | exact hI.drecs _ | exact hI.droot _ | omega)
                        · skip
                          refine OK.ieq (fun h1481 => ?_) (fun h1481 => ?_)
                          · skip
                            refine OK.bndW (k_X3_beginPlan _ _ is1479 ) fs1479 (fun v1482 s1484 is1484 fs1484 h1483 => ?_)
                            dsimp only
                            refine OK.ieq (fun h1485 => ?_) (fun h1485 => ?_)
                            · skip
                              exact OK.wret is1484 fs1484 (by first | trivial | omega | exact hI.flds _ | exact hI.dflds _ | exact hI.recs _ | exact hI.drecs _ | exact hI.droot _ | omega)
                            · skip
                              unfold f_X3_parse_157
                              try dsimp only
                              obtain ⟨a1486k, a1486, a1486l, a1486r⟩ := i_add x1 1
                              try (refine k0el (k := a1486k) ?_ (fun e0 => ?_); (focus omega); subst e0)
                              obtain ⟨a1487k, a1487, a1487l, a1487r⟩ := i_add x2 1
                              try (refine k0el (k := a1487k) ?_ (fun e0 => ?_); (focus omega); subst e0)
                              exact OK.trW (ih _ _ _ is1484 (by omega)) fs1484 (fun v hv => by first | trivial | omega | exact hI.flds _ | exact hI.dflds _ | exact hI.recs _ | exact hI.drecs _ | exact hI.droot _ | omega)
                          · skip
                            exact OK.wret is1479 fs1479 (by first | trivial | omega | exact hI.flds _ | exact hI.dflds _ | exact hI.recs _ | exact hI.drecs _ | exact hI.droot _ | omega)
                    · skip
                      unfold f_X3_parse_106
                      try dsimp only
                      refine OK.ieq (fun h1488 => ?_) (fun h1488 => ?_)
                      · skip
                        refine OK.ieq (fun h1489 => ?_) (fun h1489 => ?_)
                        · skip
                          refine OK.bndW (k_X6_refuse _ _ hI ) Fr.rf (fun v1490 s1492 is1492 fs1492 h1491 => ?_)
                          dsimp only
                          refine OK.grd (b01 (by omega)) ?_
                          exact OK.wret is1492 fs1492 (by first | trivial | omega | exact hI.flds _ | exact hI.dflds _ | exact hI.recs _ | exact hI.drecs _ | exact hI.droot _ | omega)
                        · skip
                          unfold f_X3_parse_127
                          try dsimp only
                          refine OK.bndW (k_X3_resolve _ _ hI ) Fr.rf (fun v1493 s1495 is1495 fs1495 h1494 => ?_)
                          dsimp only
                          refine OK.ieq (fun h1496 => ?_) (fun h1496 => ?_)
                          · skip
                            exact OK.wret is1495 fs1495 (by first | trivial | omega | exact hI.flds _ | exact hI.dflds _ | exact hI.recs _ | exact hI.drecs _ | exact hI.droot _ | omega)
                          · skip
                            refine OK.ieq (fun h1497 => ?_) (fun h1497 => ?_)
                            · skip
                              refine OK.bndW (k_X3_beginPlan _ _ is1495 ) fs1495 (fun v1498 s1500 is1500 fs1500 h1499 => ?_)
                              dsimp only
                              refine OK.ieq (fun h1501 => ?_) (fun h1501 => ?_)
                              · skip
                                exact OK.wret is1500 fs1500 (by first | trivial | omega | exact hI.flds _ | exact hI.dflds _ | exact hI.recs _ | exact hI.drecs _ | exact hI.droot _ | omega)
                              · skip
                                unfold f_X3_parse_157
                                try dsimp only
                                obtain ⟨a1502k, a1502, a1502l, a1502r⟩ := i_add x1 1
                                try (refine k0el (k := a1502k) ?_ (fun e0 => ?_); (focus omega); subst e0)
                                obtain ⟨a1503k, a1503, a1503l, a1503r⟩ := i_add x2 1
                                try (refine k0el (k := a1503k) ?_ (fun e0 => ?_); (focus omega); subst e0)
                                exact OK.trW (ih _ _ _ is1500 (by omega)) fs1500 (fun v hv => by first | trivial | omega | exact hI.flds _ | exact hI.dflds _ | exact hI.recs _ | exact hI.drecs _ | exact hI.droot _ | omega)
                            · skip
                              exact OK.wret is1495 fs1495 (by first | trivial | omega | exact hI.flds _ | exact hI.dflds _ | exact hI.recs _ | exact hI.drecs _ | exact hI.droot _ | omega)
                      · skip
                        unfold f_X3_parse_127
                        try dsimp only
                        refine OK.bndW (k_X3_resolve _ _ hI ) Fr.rf (fun v1504 s1506 is1506 fs1506 h1505 => ?_)
                        dsimp only
                        refine OK.ieq (fun h1507 => ?_) (fun h1507 => ?_)
                        · skip
                          exact OK.wret is1506 fs1506 (by first | trivial | omega | exact hI.flds _ | exact hI.dflds _ | exact hI.recs _ | exact hI.drecs _ | exact hI.droot _ | omega)
                        · skip
                          refine OK.ieq (fun h1508 => ?_) (fun h1508 => ?_)
                          · skip
                            refine OK.bndW (k_X3_beginPlan _ _ is1506 ) fs1506 (fun v1509 s1511 is1511 fs1511 h1510 => ?_)
                            dsimp only
                            refine OK.ieq (fun h1512 => ?_) (fun h1512 => ?_)
                            · skip
                              exact OK.wret is1511 fs1511 (by first | trivial | omega | exact hI.flds _ | exact hI.dflds _ | exact hI.recs _ | exact hI.drecs _ | exact hI.droot _ | omega)
                            · skip
                              unfold f_X3_parse_157
                              try dsimp only
                              obtain ⟨a1513k, a1513, a1513l, a1513r⟩ := i_add x1 1
                              try (refine k0el (k := a1513k) ?_ (fun e0 => ?_); (focus omega); subst e0)
                              obtain ⟨a1514k, a1514, a1514l, a1514r⟩ := i_add x2 1
                              try (refine k0el (k := a1514k) ?_ (fun e0 => ?_); (focus omega); subst e0)
                              exact OK.trW (ih _ _ _ is1511 (by omega)) fs1511 (fun v hv => by first | trivial | omega | exact hI.flds _ | exact hI.dflds _ | exact hI.recs _ | exact hI.drecs _ | exact hI.droot _ | omega)
                          · skip
                            exact OK.wret is1506 fs1506 (by first | trivial | omega | exact hI.flds _ | exact hI.dflds _ | exact hI.recs _ | exact hI.drecs _ | exact hI.droot _ | omega)
                  · skip
                    unfold f_X3_parse_105
                    try dsimp only
                    unfold f_X3_parse_106
                    try dsimp only
                    refine OK.ieq (fun h1515 => ?_) (fun h1515 => ?_)
                    · skip
                      refine OK.ieq (fun h1516 => ?_) (fun h1516 => ?_)
                      · skip
                        refine OK.bndW (k_X6_refuse _ _ hI ) Fr.rf (fun v1517 s1519 is1519 fs1519 h1518 => ?_)
                        dsimp only
                        refine OK.grd (b01 (by omega)) ?_
                        exact OK.wret is1519 fs1519 (by first | trivial | omega | exact hI.flds _ | exact hI.dflds _ | exact hI.recs _ | exact hI.drecs _ | exact hI.droot _ | omega)
                      · skip
                        unfold f_X3_parse_127
                        try dsimp only
                        refine OK.bndW (k_X3_resolve _ _ hI ) Fr.rf (fun v1520 s1522 is1522 fs1522 h1521 => ?_)
                        dsimp only
                        refine OK.ieq (fun h1523 => ?_) (fun h1523 => ?_)
                        · skip
                          exact OK.wret is1522 fs1522 (by first | trivial | omega | exact hI.flds _ | exact hI.dflds _ | exact hI.recs _ | exact hI.drecs _ | exact hI.droot _ | omega)
                        · skip
                          refine OK.ieq (fun h1524 => ?_) (fun h1524 => ?_)
                          · skip
                            refine OK.bndW (k_X3_beginPlan _ _ is1522 ) fs1522 (fun v1525 s1527 is1527 fs1527 h1526 => ?_)
                            dsimp only
                            refine OK.ieq (fun h1528 => ?_) (fun h1528 => ?_)
                            · skip
                              exact OK.wret is1527 fs1527 (by first | trivial | omega | exact hI.flds _ | exact hI.dflds _ | exact hI.recs _ | exact hI.drecs _ | exact hI.droot _ | omega)
                            · skip
                              unfold f_X3_parse_157
                              try dsimp only
                              obtain ⟨a1529k, a1529, a1529l, a1529r⟩ := i_add x1 1
                              try (refine k0el (k := a1529k) ?_ (fun e0 => ?_); (focus omega); subst e0)
                              obtain ⟨a1530k, a1530, a1530l, a1530r⟩ := i_add x2 1
                              try (refine k0el (k := a1530k) ?_ (fun e0 => ?_); (focus omega); subst e0)
                              exact OK.trW (ih _ _ _ is1527 (by omega)) fs1527 (fun v hv => by first | trivial | omega | exact hI.flds _ | exact hI.dflds _ | exact hI.recs _ | exact hI.drecs _ | exact hI.droot _ | omega)
                          · skip
                            exact OK.wret is1522 fs1522 (by first | trivial | omega | exact hI.flds _ | exact hI.dflds _ | exact hI.recs _ | exact hI.drecs _ | exact hI.droot _ | omega)
                    · skip
                      unfold f_X3_parse_127
                      try dsimp only
                      refine OK.bndW (k_X3_resolve _ _ hI ) Fr.rf (fun v1531 s1533 is1533 fs1533 h1532 => ?_)
                      dsimp only
                      refine OK.ieq (fun h1534 => ?_) (fun h1534 => ?_)
                      · skip
                        exact OK.wret is1533 fs1533 (by first | trivial | omega | exact hI.flds _ | exact hI.dflds _ | exact hI.recs _ | exact hI.drecs _ | exact hI.droot _ | omega)
                      · skip
                        refine OK.ieq (fun h1535 => ?_) (fun h1535 => ?_)
                        · skip
                          refine OK.bndW (k_X3_beginPlan _ _ is1533 ) fs1533 (fun v1536 s1538 is1538 fs1538 h1537 => ?_)
                          dsimp only
                          refine OK.ieq (fun h1539 => ?_) (fun h1539 => ?_)
                          · skip
                            exact OK.wret is1538 fs1538 (by first | trivial | omega | exact hI.flds _ | exact hI.dflds _ | exact hI.recs _ | exact hI.drecs _ | exact hI.droot _ | omega)
                          · skip
                            unfold f_X3_parse_157
                            try dsimp only
                            obtain ⟨a1540k, a1540, a1540l, a1540r⟩ := i_add x1 1
                            try (refine k0el (k := a1540k) ?_ (fun e0 => ?_); (focus omega); subst e0)
                            obtain ⟨a1541k, a1541, a1541l, a1541r⟩ := i_add x2 1
                            try (refine k0el (k := a1541k) ?_ (fun e0 => ?_); (focus omega); subst e0)
                            exact OK.trW (ih _ _ _ is1538 (by omega)) fs1538 (fun v hv => by first | trivial | omega | exact hI.flds _ | exact hI.dflds _ | exact hI.recs _ | exact hI.drecs _ | exact hI.droot _ | omega)
                        · skip
                          exact OK.wret is1533 fs1533 (by first | trivial | omega | exact hI.flds _ | exact hI.dflds _ | exact hI.recs _ | exact hI.drecs _ | exact hI.droot _ | omega)
                · skip
                  unfold f_X3_parse_90
                  try dsimp only
                  refine OK.bndR (k_X6_isKeyword _ _ hI ) (fun v1542 h1543 => ?_)
                  dsimp only
                  refine OK.ieq (fun h1544 => ?_) (fun h1544 => ?_)
                  · skip
                    unfold f_X3_parse_105
                    try dsimp only
                    unfold f_X3_parse_106
                    try dsimp only
                    refine OK.ieq (fun h1545 => ?_) (fun h1545 => ?_)
                    · skip
                      refine OK.ieq (fun h1546 => ?_) (fun h1546 => ?_)
                      · skip
                        refine OK.bndW (k_X6_refuse _ _ hI ) Fr.rf (fun v1547 s1549 is1549 fs1549 h1548 => ?_)
                        dsimp only
                        refine OK.grd (b01 (by omega)) ?_
                        exact OK.wret is1549 fs1549 (by first | trivial | omega | exact hI.flds _ | exact hI.dflds _ | exact hI.recs _ | exact hI.drecs _ | exact hI.droot _ | omega)
                      · skip
                        unfold f_X3_parse_127
                        try dsimp only
                        refine OK.bndW (k_X3_resolve _ _ hI ) Fr.rf (fun v1550 s1552 is1552 fs1552 h1551 => ?_)
                        dsimp only
                        refine OK.ieq (fun h1553 => ?_) (fun h1553 => ?_)
                        · skip
                          exact OK.wret is1552 fs1552 (by first | trivial | omega | exact hI.flds _ | exact hI.dflds _ | exact hI.recs _ | exact hI.drecs _ | exact hI.droot _ | omega)
                        · skip
                          refine OK.ieq (fun h1554 => ?_) (fun h1554 => ?_)
                          · skip
                            refine OK.bndW (k_X3_beginPlan _ _ is1552 ) fs1552 (fun v1555 s1557 is1557 fs1557 h1556 => ?_)
                            dsimp only
                            refine OK.ieq (fun h1558 => ?_) (fun h1558 => ?_)
                            · skip
                              exact OK.wret is1557 fs1557 (by first | trivial | omega | exact hI.flds _ | exact hI.dflds _ | exact hI.recs _ | exact hI.drecs _ | exact hI.droot _ | omega)
                            · skip
                              unfold f_X3_parse_157
                              try dsimp only
                              obtain ⟨a1559k, a1559, a1559l, a1559r⟩ := i_add x1 1
                              try (refine k0el (k := a1559k) ?_ (fun e0 => ?_); (focus omega); subst e0)
                              obtain ⟨a1560k, a1560, a1560l, a1560r⟩ := i_add x2 1
                              try (refine k0el (k := a1560k) ?_ (fun e0 => ?_); (focus omega); subst e0)
                              exact OK.trW (ih _ _ _ is1557 (by omega)) fs1557 (fun v hv => by first | trivial | omega | exact hI.flds _ | exact hI.dflds _ | exact hI.recs _ | exact hI.drecs _ | exact hI.droot _ | omega)
                          · skip
                            exact OK.wret is1552 fs1552 (by first | trivial | omega | exact hI.flds _ | exact hI.dflds _ | exact hI.recs _ | exact hI.drecs _ | exact hI.droot _ | omega)
                    · skip
                      unfold f_X3_parse_127
                      try dsimp only
                      refine OK.bndW (k_X3_resolve _ _ hI ) Fr.rf (fun v1561 s1563 is1563 fs1563 h1562 => ?_)
                      dsimp only
                      refine OK.ieq (fun h1564 => ?_) (fun h1564 => ?_)
                      · skip
                        exact OK.wret is1563 fs1563 (by first | trivial | omega | exact hI.flds _ | exact hI.dflds _ | exact hI.recs _ | exact hI.drecs _ | exact hI.droot _ | omega)
                      · skip
                        refine OK.ieq (fun h1565 => ?_) (fun h1565 => ?_)
                        · skip
                          refine OK.bndW (k_X3_beginPlan _ _ is1563 ) fs1563 (fun v1566 s1568 is1568 fs1568 h1567 => ?_)
                          dsimp only
                          refine OK.ieq (fun h1569 => ?_) (fun h1569 => ?_)
                          · skip
                            exact OK.wret is1568 fs1568 (by first | trivial | omega | exact hI.flds _ | exact hI.dflds _ | exact hI.recs _ | exact hI.drecs _ | exact hI.droot _ | omega)
                          · skip
                            unfold f_X3_parse_157
                            try dsimp only
                            obtain ⟨a1570k, a1570, a1570l, a1570r⟩ := i_add x1 1
                            try (refine k0el (k := a1570k) ?_ (fun e0 => ?_); (focus omega); subst e0)
                            obtain ⟨a1571k, a1571, a1571l, a1571r⟩ := i_add x2 1
                            try (refine k0el (k := a1571k) ?_ (fun e0 => ?_); (focus omega); subst e0)
                            exact OK.trW (ih _ _ _ is1568 (by omega)) fs1568 (fun v hv => by first | trivial | omega | exact hI.flds _ | exact hI.dflds _ | exact hI.recs _ | exact hI.drecs _ | exact hI.droot _ | omega)
                        · skip
                          exact OK.wret is1563 fs1563 (by first | trivial | omega | exact hI.flds _ | exact hI.dflds _ | exact hI.recs _ | exact hI.drecs _ | exact hI.droot _ | omega)
                  · skip
                    unfold f_X3_parse_106
                    try dsimp only
                    refine OK.ieq (fun h1572 => ?_) (fun h1572 => ?_)
                    · skip
                      refine OK.ieq (fun h1573 => ?_) (fun h1573 => ?_)
                      · skip
                        refine OK.bndW (k_X6_refuse _ _ hI ) Fr.rf (fun v1574 s1576 is1576 fs1576 h1575 => ?_)
                        dsimp only
                        refine OK.grd (b01 (by omega)) ?_
                        exact OK.wret is1576 fs1576 (by first | trivial | omega | exact hI.flds _ | exact hI.dflds _ | exact hI.recs _ | exact hI.drecs _ | exact hI.droot _ | omega)
                      · skip
                        unfold f_X3_parse_127
                        try dsimp only
                        refine OK.bndW (k_X3_resolve _ _ hI ) Fr.rf (fun v1577 s1579 is1579 fs1579 h1578 => ?_)
                        dsimp only
                        refine OK.ieq (fun h1580 => ?_) (fun h1580 => ?_)
                        · skip
                          exact OK.wret is1579 fs1579 (by first | trivial | omega | exact hI.flds _ | exact hI.dflds _ | exact hI.recs _ | exact hI.drecs _ | exact hI.droot _ | omega)
                        · skip
                          refine OK.ieq (fun h1581 => ?_) (fun h1581 => ?_)
                          · skip
                            refine OK.bndW (k_X3_beginPlan _ _ is1579 ) fs1579 (fun v1582 s1584 is1584 fs1584 h1583 => ?_)
                            dsimp only
                            refine OK.ieq (fun h1585 => ?_) (fun h1585 => ?_)
                            · skip
                              exact OK.wret is1584 fs1584 (by first | trivial | omega | exact hI.flds _ | exact hI.dflds _ | exact hI.recs _ | exact hI.drecs _ | exact hI.droot _ | omega)
                            · skip
                              unfold f_X3_parse_157
                              try dsimp only
                              obtain ⟨a1586k, a1586, a1586l, a1586r⟩ := i_add x1 1
                              try (refine k0el (k := a1586k) ?_ (fun e0 => ?_); (focus omega); subst e0)
                              obtain ⟨a1587k, a1587, a1587l, a1587r⟩ := i_add x2 1
                              try (refine k0el (k := a1587k) ?_ (fun e0 => ?_); (focus omega); subst e0)
                              exact OK.trW (ih _ _ _ is1584 (by omega)) fs1584 (fun v hv => by first | trivial | omega | exact hI.flds _ | exact hI.dflds _ | exact hI.recs _ | exact hI.drecs _ | exact hI.droot _ | omega)
                          · skip
                            exact OK.wret is1579 fs1579 (by first | trivial | omega | exact hI.flds _ | exact hI.dflds _ | exact hI.recs _ | exact hI.drecs _ | exact hI.droot _ | omega)
                    · skip
                      unfold f_X3_parse_127
                      try dsimp only
                      refine OK.bndW (k_X3_resolve _ _ hI ) Fr.rf (fun v1588 s1590 is1590 fs1590 h1589 => ?_)
                      dsimp only
                      refine OK.ieq (fun h1591 => ?_) (fun h1591 => ?_)
                      · skip
                        exact OK.wret is1590 fs1590 (by first | trivial | omega | exact hI.flds _ | exact hI.dflds _ | exact hI.recs _ | exact hI.drecs _ | exact hI.droot _ | omega)
                      · skip
                        refine OK.ieq (fun h1592 => ?_) (fun h1592 => ?_)
                        · skip
                          refine OK.bndW (k_X3_beginPlan _ _ is1590 ) fs1590 (fun v1593 s1595 is1595 fs1595 h1594 => ?_)
                          dsimp only
                          refine OK.ieq (fun h1596 => ?_) (fun h1596 => ?_)
                          · skip
                            exact OK.wret is1595 fs1595 (by first | trivial | omega | exact hI.flds _ | exact hI.dflds _ | exact hI.recs _ | exact hI.drecs _ | exact hI.droot _ | omega)
                          · skip
                            unfold f_X3_parse_157
                            try dsimp only
                            obtain ⟨a1597k, a1597, a1597l, a1597r⟩ := i_add x1 1
                            try (refine k0el (k := a1597k) ?_ (fun e0 => ?_); (focus omega); subst e0)
                            obtain ⟨a1598k, a1598, a1598l, a1598r⟩ := i_add x2 1
                            try (refine k0el (k := a1598k) ?_ (fun e0 => ?_); (focus omega); subst e0)
                            exact OK.trW (ih _ _ _ is1595 (by omega)) fs1595 (fun v hv => by first | trivial | omega | exact hI.flds _ | exact hI.dflds _ | exact hI.recs _ | exact hI.drecs _ | exact hI.droot _ | omega)
                        · skip
                          exact OK.wret is1590 fs1590 (by first | trivial | omega | exact hI.flds _ | exact hI.dflds _ | exact hI.recs _ | exact hI.drecs _ | exact hI.droot _ | omega)
              · skip
                unfold f_X3_parse_78
                try dsimp only
                unfold f_X3_parse_79
                try dsimp only
                refine OK.ieq (fun h1599 => ?_) (fun h1599 => ?_)
                · skip
                  refine OK.ieq (fun h1600 => ?_) (fun h1600 => ?_)
                  · skip
                    unfold f_X3_parse_90
                    try dsimp only
                    refine OK.bndR (k_X6_isKeyword _ _ hI ) (fun v1601 h1602 => ?_)
                    dsimp only
                    refine OK.ieq (fun h1603 => ?_) (fun h1603 => ?_)
                    · skip
                      unfold f_X3_parse_105
                      try dsimp only
                      unfold f_X3_parse_106
                      try dsimp only
                      refine OK.ieq (fun h1604 => ?_) (fun h1604 => ?_)
                      · skip
                        refine OK.ieq (fun h1605 => ?_) (fun h1605 => ?_)
                        · skip
                          refine OK.bndW (k_X6_refuse _ _ hI ) Fr.rf (fun v1606 s1608 is1608 fs1608 h1607 => ?_)
                          dsimp only
                          refine OK.grd (b01 (by omega)) ?_
                          exact OK.wret is1608 fs1608 (by first | trivial | omega | exact hI.flds _ | exact hI.dflds _ | exact hI.recs _ | exact hI.drecs _ | exact hI.droot _ | omega)
                        · skip
                          unfold f_X3_parse_127
                          try dsimp only
                          refine OK.bndW (k_X3_resolve _ _ hI ) Fr.rf (fun v1609 s1611 is1611 fs1611 h1610 => ?_)
                          dsimp only
                          refine OK.ieq (fun h1612 => ?_) (fun h1612 => ?_)
                          · skip
                            exact OK.wret is1611 fs1611 (by first | trivial | omega | exact hI.flds _ | exact hI.dflds _ | exact hI.recs _ | exact hI.drecs _ | exact hI.droot _ | omega)
                          · skip
                            refine OK.ieq (fun h1613 => ?_) (fun h1613 => ?_)
                            · skip
                              refine OK.bndW (k_X3_beginPlan _ _ is1611 ) fs1611 (fun v1614 s1616 is1616 fs1616 h1615 => ?_)
                              dsimp only
                              refine OK.ieq (fun h1617 => ?_) (fun h1617 => ?_)
                              · skip
                                exact OK.wret is1616 fs1616 (by first | trivial | omega | exact hI.flds _ | exact hI.dflds _ | exact hI.recs _ | exact hI.drecs _ | exact hI.droot _ | omega)
                              · skip
                                unfold f_X3_parse_157
                                try dsimp only
                                obtain ⟨a1618k, a1618, a1618l, a1618r⟩ := i_add x1 1
                                try (refine k0el (k := a1618k) ?_ (fun e0 => ?_); (focus omega); subst e0)
                                obtain ⟨a1619k, a1619, a1619l, a1619r⟩ := i_add x2 1
                                try (refine k0el (k := a1619k) ?_ (fun e0 => ?_); (focus omega); subst e0)
                                exact OK.trW (ih _ _ _ is1616 (by omega)) fs1616 (fun v hv => by first | trivial | omega | exact hI.flds _ | exact hI.dflds _ | exact hI.recs _ | exact hI.drecs _ | exact hI.droot _ | omega)
                            · skip
                              exact OK.wret is1611 fs1611 (by first | trivial | omega | exact hI.flds _ | exact hI.dflds _ | exact hI.recs _ | exact hI.drecs _ | exact hI.droot _ | omega)
                      · skip
                        unfold f_X3_parse_127
                        try dsimp only
                        refine OK.bndW (k_X3_resolve _ _ hI ) Fr.rf (fun v1620 s1622 is1622 fs1622 h1621 => ?_)
                        dsimp only
                        refine OK.ieq (fun h1623 => ?_) (fun h1623 => ?_)
                        · skip
                          exact OK.wret is1622 fs1622 (by first | trivial | omega | exact hI.flds _ | exact hI.dflds _ | exact hI.recs _ | exact hI.drecs _ | exact hI.droot _ | omega)
                        · skip
                          refine OK.ieq (fun h1624 => ?_) (fun h1624 => ?_)
                          · skip
                            refine OK.bndW (k_X3_beginPlan _ _ is1622 ) fs1622 (fun v1625 s1627 is1627 fs1627 h1626 => ?_)
                            dsimp only
                            refine OK.ieq (fun h1628 => ?_) (fun h1628 => ?_)
                            · skip
                              exact OK.wret is1627 fs1627 (by first | trivial | omega | exact hI.flds _ | exact hI.dflds _ | exact hI.recs _ | exact hI.drecs _ | exact hI.droot _ | omega)
                            · skip
                              unfold f_X3_parse_157
                              try dsimp only
                              obtain ⟨a1629k, a1629, a1629l, a1629r⟩ := i_add x1 1
                              try (refine k0el (k := a1629k) ?_ (fun e0 => ?_); (focus omega); subst e0)
                              obtain ⟨a1630k, a1630, a1630l, a1630r⟩ := i_add x2 1
                              try (refine k0el (k := a1630k) ?_ (fun e0 => ?_); (focus omega); subst e0)
                              exact OK.trW (ih _ _ _ is1627 (by omega)) fs1627 (fun v hv => by first | trivial | omega | exact hI.flds _ | exact hI.dflds _ | exact hI.recs _ | exact hI.drecs _ | exact hI.droot _ | omega)
                          · skip
                            exact OK.wret is1622 fs1622 (by first | trivial | omega | exact hI.flds _ | exact hI.dflds _ | exact hI.recs _ | exact hI.drecs _ | exact hI.droot _ | omega)
                    · skip
                      unfold f_X3_parse_106
                      try dsimp only
                      refine OK.ieq (fun h1631 => ?_) (fun h1631 => ?_)
                      · skip
                        refine OK.ieq (fun h1632 => ?_) (fun h1632 => ?_)
                        · skip
                          refine OK.bndW (k_X6_refuse _ _ hI ) Fr.rf (fun v1633 s1635 is1635 fs1635 h1634 => ?_)
                          dsimp only
                          refine OK.grd (b01 (by omega)) ?_
                          exact OK.wret is1635 fs1635 (by first | trivial | omega | exact hI.flds _ | exact hI.dflds _ | exact hI.recs _ | exact hI.drecs _ | exact hI.droot _ | omega)
                        · skip
                          unfold f_X3_parse_127
                          try dsimp only
                          refine OK.bndW (k_X3_resolve _ _ hI ) Fr.rf (fun v1636 s1638 is1638 fs1638 h1637 => ?_)
                          dsimp only
                          refine OK.ieq (fun h1639 => ?_) (fun h1639 => ?_)
                          · skip
                            exact OK.wret is1638 fs1638 (by first | trivial | omega | exact hI.flds _ | exact hI.dflds _ | exact hI.recs _ | exact hI.drecs _ | exact hI.droot _ | omega)
                          · skip
                            refine OK.ieq (fun h1640 => ?_) (fun h1640 => ?_)
                            · skip
                              refine OK.bndW (k_X3_beginPlan _ _ is1638 ) fs1638 (fun v1641 s1643 is1643 fs1643 h1642 => ?_)
                              dsimp only
                              refine OK.ieq (fun h1644 => ?_) (fun h1644 => ?_)
                              · skip
                                exact OK.wret is1643 fs1643 (by first | trivial | omega | exact hI.flds _ | exact hI.dflds _ | exact hI.recs _ | exact hI.drecs _ | exact hI.droot _ | omega)
                              · skip
                                unfold f_X3_parse_157
                                try dsimp only
                                obtain ⟨a1645k, a1645, a1645l, a1645r⟩ := i_add x1 1
                                try (refine k0el (k := a1645k) ?_ (fun e0 => ?_); (focus omega); subst e0)
                                obtain ⟨a1646k, a1646, a1646l, a1646r⟩ := i_add x2 1
                                try (refine k0el (k := a1646k) ?_ (fun e0 => ?_); (focus omega); subst e0)
                                exact OK.trW (ih _ _ _ is1643 (by omega)) fs1643 (fun v hv => by first | trivial | omega | exact hI.flds _ | exact hI.dflds _ | exact hI.recs _ | exact hI.drecs _ | exact hI.droot _ | omega)
                            · skip
                              exact OK.wret is1638 fs1638 (by first | trivial | omega | exact hI.flds _ | exact hI.dflds _ | exact hI.recs _ | exact hI.drecs _ | exact hI.droot _ | omega)
                      · skip
                        unfold f_X3_parse_127
                        try dsimp only
                        refine OK.bndW (k_X3_resolve _ _ hI ) Fr.rf (fun v1647 s1649 is1649 fs1649 h1648 => ?_)
                        dsimp only
                        refine OK.ieq (fun h1650 => ?_) (fun h1650 => ?_)
                        · skip
                          exact OK.wret is1649 fs1649 (by first | trivial | omega | exact hI.flds _ | exact hI.dflds _ | exact hI.recs _ | exact hI.drecs _ | exact hI.droot _ | omega)
                        · skip
                          refine OK.ieq (fun h1651 => ?_) (fun h1651 => ?_)
                          · skip
                            refine OK.bndW (k_X3_beginPlan _ _ is1649 ) fs1649 (fun v1652 s1654 is1654 fs1654 h1653 => ?_)
                            dsimp only
                            refine OK.ieq (fun h1655 => ?_) (fun h1655 => ?_)
                            · skip
                              exact OK.wret is1654 fs1654 (by first | trivial | omega | exact hI.flds _ | exact hI.dflds _ | exact hI.recs _ | exact hI.drecs _ | exact hI.droot _ | omega)
                            · skip
                              unfold f_X3_parse_157
                              try dsimp only
                              obtain ⟨a1656k, a1656, a1656l, a1656r⟩ := i_add x1 1
                              try (refine k0el (k := a1656k) ?_ (fun e0 => ?_); (focus omega); subst e0)
                              obtain ⟨a1657k, a1657, a1657l, a1657r⟩ := i_add x2 1
                              try (refine k0el (k := a1657k) ?_ (fun e0 => ?_); (focus omega); subst e0)
                              exact OK.trW (ih _ _ _ is1654 (by omega)) fs1654 (fun v hv => by first | trivial | omega | exact hI.flds _ | exact hI.dflds _ | exact hI.recs _ | exact hI.drecs _ | exact hI.droot _ | omega)
                          · skip
                            exact OK.wret is1649 fs1649 (by first | trivial | omega | exact hI.flds _ | exact hI.dflds _ | exact hI.recs _ | exact hI.drecs _ | exact hI.droot _ | omega)
                  · skip
                    unfold f_X3_parse_105
                    try dsimp only
                    unfold f_X3_parse_106
                    try dsimp only
                    refine OK.ieq (fun h1658 => ?_) (fun h1658 => ?_)
                    · skip
                      refine OK.ieq (fun h1659 => ?_) (fun h1659 => ?_)
                      · skip
                        refine OK.bndW (k_X6_refuse _ _ hI ) Fr.rf (fun v1660 s1662 is1662 fs1662 h1661 => ?_)
                        dsimp only
                        refine OK.grd (b01 (by omega)) ?_
                        exact OK.wret is1662 fs1662 (by first | trivial | omega | exact hI.flds _ | exact hI.dflds _ | exact hI.recs _ | exact hI.drecs _ | exact hI.droot _ | omega)
                      · skip
                        unfold f_X3_parse_127
                        try dsimp only
                        refine OK.bndW (k_X3_resolve _ _ hI ) Fr.rf (fun v1663 s1665 is1665 fs1665 h1664 => ?_)
                        dsimp only
                        refine OK.ieq (fun h1666 => ?_) (fun h1666 => ?_)
                        · skip
                          exact OK.wret is1665 fs1665 (by first | trivial | omega | exact hI.flds _ | exact hI.dflds _ | exact hI.recs _ | exact hI.drecs _ | exact hI.droot _ | omega)
                        · skip
                          refine OK.ieq (fun h1667 => ?_) (fun h1667 => ?_)
                          · skip
                            refine OK.bndW (k_X3_beginPlan _ _ is1665 ) fs1665 (fun v1668 s1670 is1670 fs1670 h1669 => ?_)
                            dsimp only
                            refine OK.ieq (fun h1671 => ?_) (fun h1671 => ?_)
                            · skip
                              exact OK.wret is1670 fs1670 (by first | trivial | omega | exact hI.flds _ | exact hI.dflds _ | exact hI.recs _ | exact hI.drecs _ | exact hI.droot _ | omega)
                            · skip
                              unfold f_X3_parse_157
                              try dsimp only
                              obtain ⟨a1672k, a1672, a1672l, a1672r⟩ := i_add x1 1
                              try (refine k0el (k := a1672k) ?_ (fun e0 => ?_); (focus omega); subst e0)
                              obtain ⟨a1673k, a1673, a1673l, a1673r⟩ := i_add x2 1
                              try (refine k0el (k := a1673k) ?_ (fun e0 => ?_); (focus omega); subst e0)
                              exact OK.trW (ih _ _ _ is1670 (by omega)) fs1670 (fun v hv => by first | trivial | omega | exact hI.flds _ | exact hI.dflds _ | exact hI.recs _ | exact hI.drecs _ | exact hI.droot _ | omega)
                          · skip
                            exact OK.wret is1665 fs1665 (by first | trivial | omega | exact hI.flds _ | exact hI.dflds _ | exact hI.recs _ | exact hI.drecs _ | exact hI.droot _ | omega)
                    · skip
                      unfold f_X3_parse_127
                      try dsimp only
                      refine OK.bndW (k_X3_resolve _ _ hI ) Fr.rf (fun v1674 s1676 is1676 fs1676 h1675 => ?_)
                      dsimp only
                      refine OK.ieq (fun h1677 => ?_) (fun h1677 => ?_)
                      · skip
                        exact OK.wret is1676 fs1676 (by first | trivial | omega | exact hI.flds _ | exact hI.dflds _ | exact hI.recs _ | exact hI.drecs _ | exact hI.droot _ | omega)
                      · skip
                        refine OK.ieq (fun h1678 => ?_) (fun h1678 => ?_)
                        · skip
                          refine OK.bndW (k_X3_beginPlan _ _ is1676 ) fs1676 (fun v1679 s1681 is1681 fs1681 h1680 => ?_)
                          dsimp only
                          refine OK.ieq (fun h1682 => ?_) (fun h1682 => ?_)
                          · skip
                            exact OK.wret is1681 fs1681 (by first | trivial | omega | exact hI.flds _ | exact hI.dflds _ | exact hI.recs _ | exact hI.drecs _ | exact hI.droot _ | omega)
                          · skip
                            unfold f_X3_parse_157
                            try dsimp only
                            obtain ⟨a1683k, a1683, a1683l, a1683r⟩ := i_add x1 1
                            try (refine k0el (k := a1683k) ?_ (fun e0 => ?_); (focus omega); subst e0)
                            obtain ⟨a1684k, a1684, a1684l, a1684r⟩ := i_add x2 1
                            try (refine k0el (k := a1684k) ?_ (fun e0 => ?_); (focus omega); subst e0)
                            exact OK.trW (ih _ _ _ is1681 (by omega)) fs1681 (fun v hv => by first | trivial | omega | exact hI.flds _ | exact hI.dflds _ | exact hI.recs _ | exact hI.drecs _ | exact hI.droot _ | omega)
                        · skip
                          exact OK.wret is1676 fs1676 (by first | trivial | omega | exact hI.flds _ | exact hI.dflds _ | exact hI.recs _ | exact hI.drecs _ | exact hI.droot _ | omega)
                · skip
                  unfold f_X3_parse_90
                  try dsimp only
                  refine OK.bndR (k_X6_isKeyword _ _ hI ) (fun v1685 h1686 => ?_)
                  dsimp only
                  refine OK.ieq (fun h1687 => ?_) (fun h1687 => ?_)
                  · skip
                    unfold f_X3_parse_105
                    try dsimp only
                    unfold f_X3_parse_106
                    try dsimp only
                    refine OK.ieq (fun h1688 => ?_) (fun h1688 => ?_)
                    · skip
                      refine OK.ieq (fun h1689 => ?_) (fun h1689 => ?_)
                      · skip
                        refine OK.bndW (k_X6_refuse _ _ hI ) Fr.rf (fun v1690 s1692 is1692 fs1692 h1691 => ?_)
                        dsimp only
                        refine OK.grd (b01 (by omega)) ?_
                        exact OK.wret is1692 fs1692 (by first | trivial | omega | exact hI.flds _ | exact hI.dflds _ | exact hI.recs _ | exact hI.drecs _ | exact hI.droot _ | omega)
                      · skip
                        unfold f_X3_parse_127
                        try dsimp only
                        refine OK.bndW (k_X3_resolve _ _ hI ) Fr.rf (fun v1693 s1695 is1695 fs1695 h1694 => ?_)
                        dsimp only
                        refine OK.ieq (fun h1696 => ?_) (fun h1696 => ?_)
                        · skip
                          exact OK.wret is1695 fs1695 (by first | trivial | omega | exact hI.flds _ | exact hI.dflds _ | exact hI.recs _ | exact hI.drecs _ | exact hI.droot _ | omega)
                        · skip
                          refine OK.ieq (fun h1697 => ?_) (fun h1697 => ?_)
                          · skip
                            refine OK.bndW (k_X3_beginPlan _ _ is1695 ) fs1695 (fun v1698 s1700 is1700 fs1700 h1699 => ?_)
                            dsimp only
                            refine OK.ieq (fun h1701 => ?_) (fun h1701 => ?_)
                            · skip
                              exact OK.wret is1700 fs1700 (by first | trivial | omega | exact hI.flds _ | exact hI.dflds _ | exact hI.recs _ | exact hI.drecs _ | exact hI.droot _ | omega)
                            · skip
                              unfold f_X3_parse_157
                              try dsimp only
                              obtain ⟨a1702k, a1702, a1702l, a1702r⟩ := i_add x1 1
                              try (refine k0el (k := a1702k) ?_ (fun e0 => ?_); (focus omega); subst e0)
                              obtain ⟨a1703k, a1703, a1703l, a1703r⟩ := i_add x2 1
                              try (refine k0el (k := a1703k) ?_ (fun e0 => ?_); (focus omega); subst e0)
                              exact OK.trW (ih _ _ _ is1700 (by omega)) fs1700 (fun v hv => by first | trivial | omega | exact hI.flds _ | exact hI.dflds _ | exact hI.recs _ | exact hI.drecs _ | exact hI.droot _ | omega)
                          · skip
                            exact OK.wret is1695 fs1695 (by first | trivial | omega | exact hI.flds _ | exact hI.dflds _ | exact hI.recs _ | exact hI.drecs _ | exact hI.droot _ | omega)
                    · skip
                      unfold f_X3_parse_127
                      try dsimp only
                      refine OK.bndW (k_X3_resolve _ _ hI ) Fr.rf (fun v1704 s1706 is1706 fs1706 h1705 => ?_)
                      dsimp only
                      refine OK.ieq (fun h1707 => ?_) (fun h1707 => ?_)
                      · skip
                        exact OK.wret is1706 fs1706 (by first | trivial | omega | exact hI.flds _ | exact hI.dflds _ | exact hI.recs _ | exact hI.drecs _ | exact hI.droot _ | omega)
                      · skip
                        refine OK.ieq (fun h1708 => ?_) (fun h1708 => ?_)
                        · skip
                          refine OK.bndW (k_X3_beginPlan _ _ is1706 ) fs1706 (fun v1709 s1711 is1711 fs1711 h1710 => ?_)
                          dsimp only
                          refine OK.ieq (fun h1712 => ?_) (fun h1712 => ?_)
                          · skip
                            exact OK.wret is1711 fs1711 (by first | trivial | omega | exact hI.flds _ | exact hI.dflds _ | exact hI.recs _ | exact hI.drecs _ | exact hI.droot _ | omega)
                          · skip
                            unfold f_X3_parse_157
                            try dsimp only
                            obtain ⟨a1713k, a1713, a1713l, a1713r⟩ := i_add x1 1
                            try (refine k0el (k := a1713k) ?_ (fun e0 => ?_); (focus omega); subst e0)
                            obtain ⟨a1714k, a1714, a1714l, a1714r⟩ := i_add x2 1
                            try (refine k0el (k := a1714k) ?_ (fun e0 => ?_); (focus omega); subst e0)
                            exact OK.trW (ih _ _ _ is1711 (by omega)) fs1711 (fun v hv => by first | trivial | omega | exact hI.flds _ | exact hI.dflds _ | exact hI.recs _ | exact hI.drecs _ | exact hI.droot _ | omega)
                        · skip
                          exact OK.wret is1706 fs1706 (by first | trivial | omega | exact hI.flds _ | exact hI.dflds _ | exact hI.recs _ | exact hI.drecs _ | exact hI.droot _ | omega)
                  · skip
                    unfold f_X3_parse_106
                    try dsimp only
                    refine OK.ieq (fun h1715 => ?_) (fun h1715 => ?_)
                    · skip
                      refine OK.ieq (fun h1716 => ?_) (fun h1716 => ?_)
                      · skip
                        refine OK.bndW (k_X6_refuse _ _ hI ) Fr.rf (fun v1717 s1719 is1719 fs1719 h1718 => ?_)
                        dsimp only
                        refine OK.grd (b01 (by omega)) ?_
                        exact OK.wret is1719 fs1719 (by first | trivial | omega | exact hI.flds _ | exact hI.dflds _ | exact hI.recs _ | exact hI.drecs _ | exact hI.droot _ | omega)
                      · skip
                        unfold f_X3_parse_127
                        try dsimp only
                        refine OK.bndW (k_X3_resolve _ _ hI ) Fr.rf (fun v1720 s1722 is1722 fs1722 h1721 => ?_)
                        dsimp only
                        refine OK.ieq (fun h1723 => ?_) (fun h1723 => ?_)
                        · skip
                          exact OK.wret is1722 fs1722 (by first | trivial | omega | exact hI.flds _ | exact hI.dflds _ | exact hI.recs _ | exact hI.drecs _ | exact hI.droot _ | omega)
                        · skip
                          refine OK.ieq (fun h1724 => ?_) (fun h1724 => ?_)
                          · skip
                            refine OK.bndW (k_X3_beginPlan _ _ is1722 ) fs1722 (fun v1725 s1727 is1727 fs1727 h1726 => ?_)
                            dsimp only
                            refine OK.ieq (fun h1728 => ?_) (fun h1728 => ?_)
                            · skip
                              exact OK.wret is1727 fs1727 (by first | trivial | omega | exact hI.flds _ | exact hI.dflds _ | exact hI.recs _ | exact hI.drecs _ | exact hI.droot _ | omega)
                            · skip
                              unfold f_X3_parse_157
                              try dsimp only
                              obtain ⟨a1729k, a1729, a1729l, a1729r⟩ := i_add x1 1
                              try (refine k0el (k := a1729k) ?_ (fun e0 => ?_); (focus omega); subst e0)
                              obtain ⟨a1730k, a1730, a1730l, a1730r⟩ := i_add x2 1
                              try (refine k0el (k := a1730k) ?_ (fun e0 => ?_); (focus omega); subst e0)
                              exact OK.trW (ih _ _ _ is1727 (by omega)) fs1727 (fun v hv => by first | trivial | omega | exact hI.flds _ | exact hI.dflds _ | exact hI.recs _ | exact hI.drecs _ | exact hI.droot _ | omega)
                          · skip
                            exact OK.wret is1722 fs1722 (by first | trivial | omega | exact hI.flds _ | exact hI.dflds _ | exact hI.recs _ | exact hI.drecs _ | exact hI.droot _ | omega)
                    · skip
                      unfold f_X3_parse_127
                      try dsimp only
                      refine OK.bndW (k_X3_resolve _ _ hI ) Fr.rf (fun v1731 s1733 is1733 fs1733 h1732 => ?_)
                      dsimp only
                      refine OK.ieq (fun h1734 => ?_) (fun h1734 => ?_)
                      · skip
                        exact OK.wret is1733 fs1733 (by first | trivial | omega | exact hI.flds _ | exact hI.dflds _ | exact hI.recs _ | exact hI.drecs _ | exact hI.droot _ | omega)
                      · skip
                        refine OK.ieq (fun h1735 => ?_) (fun h1735 => ?_)
                        · skip
                          refine OK.bndW (k_X3_beginPlan _ _ is1733 ) fs1733 (fun v1736 s1738 is1738 fs1738 h1737 => ?_)
                          dsimp only
                          refine OK.ieq (fun h1739 => ?_) (fun h1739 => ?_)
                          · skip
                            exact OK.wret is1738 fs1738 (by first | trivial | omega | exact hI.flds _ | exact hI.dflds _ | exact hI.recs _ | exact hI.drecs _ | exact hI.droot _ | omega)
                          · skip
                            unfold f_X3_parse_157
                            try dsimp only
                            obtain ⟨a1740k, a1740, a1740l, a1740r⟩ := i_add x1 1
                            try (refine k0el (k := a1740k) ?_ (fun e0 => ?_); (focus omega); subst e0)
                            obtain ⟨a1741k, a1741, a1741l, a1741r⟩ := i_add x2 1
                            try (refine k0el (k := a1741k) ?_ (fun e0 => ?_); (focus omega); subst e0)
                            exact OK.trW (ih _ _ _ is1738 (by omega)) fs1738 (fun v hv => by first | trivial | omega | exact hI.flds _ | exact hI.dflds _ | exact hI.recs _ | exact hI.drecs _ | exact hI.droot _ | omega)
                        · skip
                          exact OK.wret is1733 fs1733 (by first | trivial | omega | exact hI.flds _ | exact hI.dflds _ | exact hI.recs _ | exact hI.drecs _ | exact hI.droot _ | omega)
          · skip
            refine OK.bndW (k_X3_parseRecord _ _ hI ) Fr.rf (fun v1742 s1744 is1744 fs1744 h1743 => ?_)
            dsimp only
            refine OK.ieq (fun h1745 => ?_) (fun h1745 => ?_)
            · skip
              exact OK.wret is1744 fs1744 (by first | trivial | omega | exact hI.flds _ | exact hI.dflds _ | exact hI.recs _ | exact hI.drecs _ | exact hI.droot _ | omega)
            · skip
              unfold f_X3_parse_157
              try dsimp only
              obtain ⟨a1746k, a1746, a1746l, a1746r⟩ := i_add x2 1
              try (refine k0el (k := a1746k) ?_ (fun e0 => ?_); (focus omega); subst e0)
              exact OK.trW (ih _ _ _ is1744 (by omega)) fs1744 (fun v hv => by first | trivial | omega | exact hI.flds _ | exact hI.dflds _ | exact hI.recs _ | exact hI.drecs _ | exact hI.droot _ | omega)
