theorem k_X10_failure (p0 : Int32) (σ : ST) (hI : IA σ)  : OK (f_X10_failure  p0 σ) (RO σ fun v => True) := by
  unfold f_X10_failure
  have lt_m1 := li_m1
  have lt_0 := li_0
  have lt_1 := li_1
  have lt_2 := li_2
  have lFU : ((FU : Nat) : Int) = 100000 := rfl
  refine OK.ieq (fun h1 => ?_) (fun h1 => ?_)
  · skip
    exact OK.roret (by first | trivial | omega | exact hI.flds _ | exact hI.dflds _ | exact hI.recs _ | exact hI.drecs _ | exact hI.droot _ | omega)
  · skip
    refine OK.ieq (fun h2 => ?_) (fun h2 => ?_)
    · skip
      exact OK.roret (by first | trivial | omega | exact hI.flds _ | exact hI.dflds _ | exact hI.recs _ | exact hI.drecs _ | exact hI.droot _ | omega)
    · skip
      refine OK.ieq (fun h3 => ?_) (fun h3 => ?_)
      · skip
        exact OK.roret (by first | trivial | omega | exact hI.flds _ | exact hI.dflds _ | exact hI.recs _ | exact hI.drecs _ | exact hI.droot _ | omega)
      · skip
        refine OK.ieq (fun h4 => ?_) (fun h4 => ?_)
        · skip
          exact OK.roret (by first | trivial | omega | exact hI.flds _ | exact hI.dflds _ | exact hI.recs _ | exact hI.drecs _ | exact hI.droot _ | omega)
        · skip
          exact OK.roret (by first | trivial | omega | exact hI.flds _ | exact hI.dflds _ | exact hI.recs _ | exact hI.drecs _ | exact hI.droot _ | omega)

theorem k_X4_stepAt_89_50 (p0 : Int32) (σ : ST) (hI : IA σ) (hT : σ.2.2.2 89 = 50)  : OK (f_X4_stepAt 89 50 p0 σ) (RO σ fun v => True) := by
  unfold f_X4_stepAt
  have lt_m1 := li_m1
  have lt_0 := li_0
  have lt_1 := li_1
  have lt_64 := li_64
  have lFU : ((FU : Nat) : Int) = 100000 := rfl
  refine OK.ilt (fun h1 => ?_) (fun h1 => ?_)
  · skip
    exact OK.roret (by first | trivial | omega | exact hI.flds _ | exact hI.dflds _ | exact hI.recs _ | exact hI.drecs _ | exact hI.droot _ | omega)
  · skip
    refine OK.ile (fun h2 => ?_) (fun h2 => ?_)
    · skip
      exact OK.roret (by first | trivial | omega | exact hI.flds _ | exact hI.dflds _ | exact hI.recs _ | exact hI.drecs _ | exact hI.droot _ | omega)
    · skip
      refine OK.ile (fun h3 => ?_) (fun h3 => ?_)
      · skip
        exact OK.roret (by first | trivial | omega | exact hI.flds _ | exact hI.dflds _ | exact hI.recs _ | exact hI.drecs _ | exact hI.droot _ | omega)
      · skip
        refine OK.grd ⟨by omega, by omega⟩ ?_
        exact OK.roret (by first | trivial | omega | exact hI.flds _ | exact hI.dflds _ | exact hI.recs _ | exact hI.drecs _ | exact hI.droot _ | omega)

theorem k_X10_failureStep (p0 : Int32) (σ : ST) (hI : IA σ)  : OK (f_X10_failureStep  p0 σ) (RO σ fun v => True) := by
  unfold f_X10_failureStep
  have lt_m1 := li_m1
  have lt_0 := li_0
  have lt_1 := li_1
  have lFU : ((FU : Nat) : Int) = 100000 := rfl
  refine OK.ieq (fun h1 => ?_) (fun h1 => ?_)
  · skip
    exact OK.roret (by first | trivial | omega | exact hI.flds _ | exact hI.dflds _ | exact hI.recs _ | exact hI.drecs _ | exact hI.droot _ | omega)
  · skip
    refine OK.bndR (k_X4_stepAt_89_50 _ _ hI (by first | exact hT | exact hI.r89 | (rw [Fr.rf.2.2.2]; exact hT))) (fun v2 h3 => ?_)
    dsimp only
    exact OK.roret (by first | trivial | omega | exact hI.flds _ | exact hI.dflds _ | exact hI.recs _ | exact hI.drecs _ | exact hI.droot _ | omega)

theorem k_X5_recordWithin_31_4 (x2 : Int32) (σ : ST) (hI : IA σ)  : OK (f_X5_recordWithin_31 4 x2 σ) (RO σ fun v => True) := by
  unfold f_X5_recordWithin_31
  have lt_m1 := li_m1
  have lt_0 := li_0
  have lt_1 := li_1
  have lt_6 := li_6
  have lt_7 := li_7
  have lFU : ((FU : Nat) : Int) = 100000 := rfl
  refine OK.bndR (k_X5_sortOf_4 _ _ hI ) (fun v1 h2 => ?_)
  dsimp only
  refine OK.ieq (fun h3 => ?_) (fun h3 => ?_)
  · skip
    refine OK.bndR (k_X5_innerOf_4 _ _ hI ) (fun v4 h5 => ?_)
    dsimp only
    refine OK.bndR (k_J9_floorMod_7cf53 _ _ _ hI (by decide)) (fun v6 h7 => ?_)
    dsimp only
    exact OK.roret (by first | trivial | omega | exact hI.flds _ | exact hI.dflds _ | exact hI.recs _ | exact hI.drecs _ | exact hI.droot _ | omega)
  · skip
    exact OK.roret (by first | trivial | omega | exact hI.flds _ | exact hI.dflds _ | exact hI.recs _ | exact hI.drecs _ | exact hI.droot _ | omega)

theorem k_X5_recordWithin_4_4 : ∀ (n : Nat) (x2 : Int32) (x3 : Int32) (σ : ST), IA σ → (0 ≤ x3.toInt ∧ x3.toInt ≤ 4 ∧ (4 : Int) - x3.toInt < n) → OK (f_X5_recordWithin_4 4 n x2 x3 σ) (RO σ fun v => True) := by
  intro n
  induction n with
  | zero =>
    intro x2 x3 σ hI hv
    omega
  | succ n ih =>
    intro x2 x3 σ hI hv
    rw [f_X5_recordWithin_4]
    have lt_0 := li_0
    have lt_1 := li_1
    have lt_3 := li_3
    have lt_6 := li_6
    have lFU : ((FU : Nat) : Int) = 100000 := rfl
    refine OK.ilt (fun h1 => ?_) (fun h1 => ?_)
    · skip
      exact OK.roq (k_X5_recordWithin_31_4 _ _ hI ) (fun v hv => by first | trivial | omega | exact hI.flds _ | exact hI.dflds _ | exact hI.recs _ | exact hI.drecs _ | exact hI.droot _ | omega)
    · skip
      refine OK.bndR (k_X5_sortOf_4 _ _ hI ) (fun v2 h3 => ?_)
      dsimp only
      refine OK.ieq (fun h4 => ?_) (fun h4 => ?_)
      · skip
        refine OK.bndR (k_X5_innerOf_4 _ _ hI ) (fun v5 h6 => ?_)
        dsimp only
        obtain ⟨a7k, a7, a7l, a7r⟩ := i_add x3 1
        try (refine k0el (k := a7k) ?_ (fun e0 => ?_); (focus omega); subst e0)
        exact OK.roq (ih _ _ _ hI (by omega)) (fun v hv => by first | trivial | omega | exact hI.flds _ | exact hI.dflds _ | exact hI.recs _ | exact hI.drecs _ | exact hI.droot _ | omega)
      · skip
        exact OK.roq (k_X5_recordWithin_31_4 _ _ hI ) (fun v hv => by first | trivial | omega | exact hI.flds _ | exact hI.dflds _ | exact hI.recs _ | exact hI.drecs _ | exact hI.droot _ | omega)

theorem k_X5_recordWithin_4 (p0 : Int32) (σ : ST) (hI : IA σ)  : OK (f_X5_recordWithin 4 p0 σ) (RO σ fun v => True) := by
  unfold f_X5_recordWithin
  have lt_0 := li_0
  have lt_1 := li_1
  have lFU : ((FU : Nat) : Int) = 100000 := rfl
  exact OK.roq (k_X5_recordWithin_4_4 FU _ _ _ hI (by omega)) (fun v hv => by first | trivial | omega | exact hI.flds _ | exact hI.dflds _ | exact hI.recs _ | exact hI.drecs _ | exact hI.droot _ | omega)

theorem k_X10_field (p0 : Int32) (p1 : Int32) (p2 : Int32) (p3 : Int32) (σ : ST) (hI : IA σ)  : OK (f_X10_field  p0 p1 p2 p3 σ) (RO σ fun v => True) := by
  unfold f_X10_field
  have lt_m1 := li_m1
  have lt_0 := li_0
  have lt_1 := li_1
  have lt_2 := li_2
  have lt_3 := li_3
  have lt_4 := li_4
  have lt_5 := li_5
  have lt_6 := li_6
  have lFU : ((FU : Nat) : Int) = 100000 := rfl
  refine OK.bndR (k_X10_isPlan _ _ hI ) (fun v1 h2 => ?_)
  dsimp only
  refine OK.ieq (fun h3 => ?_) (fun h3 => ?_)
  · skip
    exact OK.roret (by first | trivial | omega | exact hI.flds _ | exact hI.dflds _ | exact hI.recs _ | exact hI.drecs _ | exact hI.droot _ | omega)
  · skip
    refine OK.ilt (fun h4 => ?_) (fun h4 => ?_)
    · skip
      exact OK.roret (by first | trivial | omega | exact hI.flds _ | exact hI.dflds _ | exact hI.recs _ | exact hI.drecs _ | exact hI.droot _ | omega)
    · skip
      refine OK.bndR (k_X5_recordsOf_4 _ _ hI ) (fun v5 h6 => ?_)
      dsimp only
      refine OK.ilt (fun h7 => ?_) (fun h7 => ?_)
      · skip
        refine OK.ilt (fun h8 => ?_) (fun h8 => ?_)
        · skip
          exact OK.roret (by first | trivial | omega | exact hI.flds _ | exact hI.dflds _ | exact hI.recs _ | exact hI.drecs _ | exact hI.droot _ | omega)
        · skip
          refine OK.bndR (k_X5_fieldsOf_4 _ _ hI ) (fun v9 h10 => ?_)
          dsimp only
          refine OK.ilt (fun h11 => ?_) (fun h11 => ?_)
          · skip
            refine OK.bndR (k_X5_typeOf_4 _ _ _ hI ) (fun v12 h13 => ?_)
            dsimp only
            refine OK.ieq (fun h14 => ?_) (fun h14 => ?_)
            · skip
              refine OK.bndR (k_X5_sortOf_4 _ _ hI ) (fun v15 h16 => ?_)
              dsimp only
              exact OK.roret (by first | trivial | omega | exact hI.flds _ | exact hI.dflds _ | exact hI.recs _ | exact hI.drecs _ | exact hI.droot _ | omega)
            · skip
              refine OK.ieq (fun h17 => ?_) (fun h17 => ?_)
              · skip
                refine OK.bndR (k_X5_hasElse_4 _ _ _ hI ) (fun v18 h19 => ?_)
                dsimp only
                refine OK.ieq (fun h20 => ?_) (fun h20 => ?_)
                · skip
                  exact OK.roret (by first | trivial | omega | exact hI.flds _ | exact hI.dflds _ | exact hI.recs _ | exact hI.drecs _ | exact hI.droot _ | omega)
                · skip
                  exact OK.roret (by first | trivial | omega | exact hI.flds _ | exact hI.dflds _ | exact hI.recs _ | exact hI.drecs _ | exact hI.droot _ | omega)
              · skip
                refine OK.ieq (fun h21 => ?_) (fun h21 => ?_)
                · skip
                  refine OK.bndR (k_X5_formerName_4 _ _ _ hI ) (fun v22 h23 => ?_)
                  dsimp only
                  refine OK.ieq (fun h24 => ?_) (fun h24 => ?_)
                  · skip
                    exact OK.roret (by first | trivial | omega | exact hI.flds _ | exact hI.dflds _ | exact hI.recs _ | exact hI.drecs _ | exact hI.droot _ | omega)
                  · skip
                    exact OK.roret (by first | trivial | omega | exact hI.flds _ | exact hI.dflds _ | exact hI.recs _ | exact hI.drecs _ | exact hI.droot _ | omega)
                · skip
                  refine OK.ieq (fun h25 => ?_) (fun h25 => ?_)
                  · skip
                    refine OK.bndR (k_X5_fieldName_4 _ _ _ hI ) (fun v26 h27 => ?_)
                    dsimp only
                    refine OK.bndR (k_X10_lettersIn _ _ hI ) (fun v28 h29 => ?_)
                    dsimp only
                    exact OK.roret (by first | trivial | omega | exact hI.flds _ | exact hI.dflds _ | exact hI.recs _ | exact hI.drecs _ | exact hI.droot _ | omega)
                  · skip
                    refine OK.ieq (fun h30 => ?_) (fun h30 => ?_)
                    · skip
                      refine OK.bndR (k_X5_branchesOf_4 _ _ hI ) (fun v31 h32 => ?_)
                      dsimp only
                      exact OK.roret (by first | trivial | omega | exact hI.flds _ | exact hI.dflds _ | exact hI.recs _ | exact hI.drecs _ | exact hI.droot _ | omega)
                    · skip
                      refine OK.ieq (fun h33 => ?_) (fun h33 => ?_)
                      · skip
                        refine OK.bndR (k_X5_recordWithin_4 _ _ hI ) (fun v34 h35 => ?_)
                        dsimp only
                        exact OK.roret (by first | trivial | omega | exact hI.flds _ | exact hI.dflds _ | exact hI.recs _ | exact hI.drecs _ | exact hI.droot _ | omega)
                      · skip
                        exact OK.roret (by first | trivial | omega | exact hI.flds _ | exact hI.dflds _ | exact hI.recs _ | exact hI.drecs _ | exact hI.droot _ | omega)
          · skip
            exact OK.roret (by first | trivial | omega | exact hI.flds _ | exact hI.dflds _ | exact hI.recs _ | exact hI.drecs _ | exact hI.droot _ | omega)
      · skip
        exact OK.roret (by first | trivial | omega | exact hI.flds _ | exact hI.dflds _ | exact hI.recs _ | exact hI.drecs _ | exact hI.droot _ | omega)

theorem k_X10_kept (p0 : Int32) (σ : ST) (hI : IA σ)  : OK (f_X10_kept  p0 σ) (RO σ fun v => True) := by
  unfold f_X10_kept
  have lt_m1 := li_m1
  have lt_0 := li_0
  have lt_1 := li_1
  have lFU : ((FU : Nat) : Int) = 100000 := rfl
  refine OK.ieq (fun h1 => ?_) (fun h1 => ?_)
  · skip
    exact OK.roret (by first | trivial | omega | exact hI.flds _ | exact hI.dflds _ | exact hI.recs _ | exact hI.drecs _ | exact hI.droot _ | omega)
  · skip
    refine OK.bndR (k_X9_pairAt _ _ hI ) (fun v2 h3 => ?_)
    dsimp only
    exact OK.roret (by first | trivial | omega | exact hI.flds _ | exact hI.dflds _ | exact hI.recs _ | exact hI.drecs _ | exact hI.droot _ | omega)

theorem k_X10_letter_30 (σ : ST) (hI : IA σ)  : OK (f_X10_letter_30  σ) (RO σ fun v => True) := by
  unfold f_X10_letter_30
  have lt_0 := li_0
  have lt_1 := li_1
  have lFU : ((FU : Nat) : Int) = 100000 := rfl
  exact OK.roret (by first | trivial | omega | exact hI.flds _ | exact hI.dflds _ | exact hI.recs _ | exact hI.drecs _ | exact hI.droot _ | omega)

theorem k_X10_letter (p0 : Int32) (p1 : Int32) (σ : ST) (hI : IA σ)  : OK (f_X10_letter  p0 p1 σ) (RO σ fun v => True) := by
  unfold f_X10_letter
  have lt_m1 := li_m1
  have lt_0 := li_0
  have lt_1 := li_1
  have lt_5 := li_5
  have lFU : ((FU : Nat) : Int) = 100000 := rfl
  refine OK.bndR (k_X7_rowAt_50 _ _ hI ) (fun v1 h2 => ?_)
  dsimp only
  refine OK.ieq (fun h3 => ?_) (fun h3 => ?_)
  · skip
    exact OK.roq (k_X10_letter_30 _ hI ) (fun v hv => by first | trivial | omega | exact hI.flds _ | exact hI.dflds _ | exact hI.recs _ | exact hI.drecs _ | exact hI.droot _ | omega)
  · skip
    refine OK.bndR (k_X7_sortAt_50 _ _ hI ) (fun v4 h5 => ?_)
    dsimp only
    refine OK.ieq (fun h6 => ?_) (fun h6 => ?_)
    · skip
      refine OK.ile (fun h7 => ?_) (fun h7 => ?_)
      · skip
        refine OK.bndR (k_X7_sizeOf_50 _ _ hI ) (fun v8 h9 => ?_)
        dsimp only
        refine OK.ile (fun h10 => ?_) (fun h10 => ?_)
        · skip
          exact OK.roret (by first | trivial | omega | exact hI.flds _ | exact hI.dflds _ | exact hI.recs _ | exact hI.drecs _ | exact hI.droot _ | omega)
        · skip
          refine OK.bndR (k_X7_worthOf_50 _ _ hI ) (fun v11 h12 => ?_)
          dsimp only
          refine OK.bndR (k_X10_letterOf _ _ _ hI ) (fun v13 h14 => ?_)
          dsimp only
          exact OK.roret (by first | trivial | omega | exact hI.flds _ | exact hI.dflds _ | exact hI.recs _ | exact hI.drecs _ | exact hI.droot _ | omega)
      · skip
        exact OK.roq (k_X10_letter_30 _ hI ) (fun v hv => by first | trivial | omega | exact hI.flds _ | exact hI.dflds _ | exact hI.recs _ | exact hI.drecs _ | exact hI.droot _ | omega)
    · skip
      exact OK.roq (k_X10_letter_30 _ hI ) (fun v hv => by first | trivial | omega | exact hI.flds _ | exact hI.dflds _ | exact hI.recs _ | exact hI.drecs _ | exact hI.droot _ | omega)

theorem k_X10_matches (p0 : Int32) (p1 : Int32) (σ : ST) (hI : IA σ)  : OK (f_X10_matches  p0 p1 σ) (RW σ fun v => True) := by
  unfold f_X10_matches
  have lt_m1 := li_m1
  have lt_0 := li_0
  have lt_1 := li_1
  have lFU : ((FU : Nat) : Int) = 100000 := rfl
  refine OK.bndR (k_X10_isPlan _ _ hI ) (fun v1 h2 => ?_)
  dsimp only
  refine OK.ieq (fun h3 => ?_) (fun h3 => ?_)
  · skip
    exact OK.wret hI Fr.rf (by first | trivial | omega | exact hI.flds _ | exact hI.dflds _ | exact hI.recs _ | exact hI.drecs _ | exact hI.droot _ | omega)
  · skip
    refine OK.bndR (k_X10_isPlan _ _ hI ) (fun v4 h5 => ?_)
    dsimp only
    refine OK.ieq (fun h6 => ?_) (fun h6 => ?_)
    · skip
      exact OK.wret hI Fr.rf (by first | trivial | omega | exact hI.flds _ | exact hI.dflds _ | exact hI.recs _ | exact hI.drecs _ | exact hI.droot _ | omega)
    · skip
      refine OK.bndW (k_X0_verdict _ _ _ hI ) Fr.rf (fun v7 s9 is9 fs9 h8 => ?_)
      dsimp only
      exact OK.wret is9 fs9 (by first | trivial | omega | exact hI.flds _ | exact hI.dflds _ | exact hI.recs _ | exact hI.drecs _ | exact hI.droot _ | omega)

theorem k_X10_message (p0 : Int32) (p1 : Int32) (σ : ST) (hI : IA σ)  : OK (f_X10_message  p0 p1 σ) (RO σ fun v => True) := by
  unfold f_X10_message
  have lt_m1 := li_m1
  have lt_0 := li_0
  have lt_1 := li_1
  have lFU : ((FU : Nat) : Int) = 100000 := rfl
  refine OK.bndR (k_X1_isWritten _ _ hI ) (fun v1 h2 => ?_)
  dsimp only
  refine OK.ieq (fun h3 => ?_) (fun h3 => ?_)
  · skip
    exact OK.roret (by first | trivial | omega | exact hI.flds _ | exact hI.dflds _ | exact hI.recs _ | exact hI.drecs _ | exact hI.droot _ | omega)
  · skip
    refine OK.ieq (fun h4 => ?_) (fun h4 => ?_)
    · skip
      refine OK.bndR (k_X1_sizeOf _ _ hI ) (fun v5 h6 => ?_)
      dsimp only
      exact OK.roret (by first | trivial | omega | exact hI.flds _ | exact hI.dflds _ | exact hI.recs _ | exact hI.drecs _ | exact hI.droot _ | omega)
    · skip
      refine OK.ieq (fun h7 => ?_) (fun h7 => ?_)
      · skip
        refine OK.bndR (k_X1_planOf _ _ hI ) (fun v8 h9 => ?_)
        dsimp only
        exact OK.roret (by first | trivial | omega | exact hI.flds _ | exact hI.dflds _ | exact hI.recs _ | exact hI.drecs _ | exact hI.droot _ | omega)
      · skip
        exact OK.roret (by first | trivial | omega | exact hI.flds _ | exact hI.dflds _ | exact hI.recs _ | exact hI.drecs _ | exact hI.droot _ | omega)

theorem k_X10_miss (p0 : Int32) (p1 : Int32) (p2 : Int32) (p3 : Int32) (σ : ST) (hI : IA σ)  : OK (f_X10_miss  p0 p1 p2 p3 σ) (RW σ fun v => True) := by
  unfold f_X10_miss
  have lt_m1 := li_m1
  have lt_0 := li_0
  have lt_1 := li_1
  have lFU : ((FU : Nat) : Int) = 100000 := rfl
  refine OK.bndR (k_X10_isPlan _ _ hI ) (fun v1 h2 => ?_)
  dsimp only
  refine OK.ieq (fun h3 => ?_) (fun h3 => ?_)
  · skip
    exact OK.wret hI Fr.rf (by first | trivial | omega | exact hI.flds _ | exact hI.dflds _ | exact hI.recs _ | exact hI.drecs _ | exact hI.droot _ | omega)
  · skip
    refine OK.bndR (k_X10_isPlan _ _ hI ) (fun v4 h5 => ?_)
    dsimp only
    refine OK.ieq (fun h6 => ?_) (fun h6 => ?_)
    · skip
      exact OK.wret hI Fr.rf (by first | trivial | omega | exact hI.flds _ | exact hI.dflds _ | exact hI.recs _ | exact hI.drecs _ | exact hI.droot _ | omega)
    · skip
      refine OK.bndS (k_X0_findMisses _ _ _ hI ) Fr.rf (fun s7 is7 fs7 => ?_)
      try dsimp only
      refine OK.ieq (fun h8 => ?_) (fun h8 => ?_)
      · skip
        exact OK.wret is7 fs7 (by first | trivial | omega | exact hI.flds _ | exact hI.dflds _ | exact hI.recs _ | exact hI.drecs _ | exact hI.droot _ | omega)
      · skip
        refine OK.ieq (fun h9 => ?_) (fun h9 => ?_)
        · skip
          refine OK.bndR (k_X0_missKind _ _ is7 ) (fun v10 h11 => ?_)
          dsimp only
          exact OK.wret is7 fs7 (by first | trivial | omega | exact hI.flds _ | exact hI.dflds _ | exact hI.recs _ | exact hI.drecs _ | exact hI.droot _ | omega)
        · skip
          refine OK.ieq (fun h12 => ?_) (fun h12 => ?_)
          · skip
            refine OK.bndR (k_X0_missSteps _ _ is7 ) (fun v13 h14 => ?_)
            dsimp only
            exact OK.wret is7 fs7 (by first | trivial | omega | exact hI.flds _ | exact hI.dflds _ | exact hI.recs _ | exact hI.drecs _ | exact hI.droot _ | omega)
          · skip
            exact OK.wret is7 fs7 (by first | trivial | omega | exact hI.flds _ | exact hI.dflds _ | exact hI.recs _ | exact hI.drecs _ | exact hI.droot _ | omega)

theorem k_X10_missStep (p0 : Int32) (p1 : Int32) (p2 : Int32) (p3 : Int32) (σ : ST) (hI : IA σ)  : OK (f_X10_missStep  p0 p1 p2 p3 σ) (RW σ fun v => True) := by
  unfold f_X10_missStep
  have lt_m1 := li_m1
  have lt_0 := li_0
  have lt_1 := li_1
  have lFU : ((FU : Nat) : Int) = 100000 := rfl
  refine OK.bndR (k_X10_isPlan _ _ hI ) (fun v1 h2 => ?_)
  dsimp only
  refine OK.ieq (fun h3 => ?_) (fun h3 => ?_)
  · skip
    exact OK.wret hI Fr.rf (by first | trivial | omega | exact hI.flds _ | exact hI.dflds _ | exact hI.recs _ | exact hI.drecs _ | exact hI.droot _ | omega)
  · skip
    refine OK.bndR (k_X10_isPlan _ _ hI ) (fun v4 h5 => ?_)
    dsimp only
    refine OK.ieq (fun h6 => ?_) (fun h6 => ?_)
    · skip
      exact OK.wret hI Fr.rf (by first | trivial | omega | exact hI.flds _ | exact hI.dflds _ | exact hI.recs _ | exact hI.drecs _ | exact hI.droot _ | omega)
    · skip
      refine OK.bndS (k_X0_findMisses _ _ _ hI ) Fr.rf (fun s7 is7 fs7 => ?_)
      try dsimp only
      refine OK.bndR (k_X0_stepOfMiss _ _ _ is7 ) (fun v8 h9 => ?_)
      dsimp only
      exact OK.wret is7 fs7 (by first | trivial | omega | exact hI.flds _ | exact hI.dflds _ | exact hI.recs _ | exact hI.drecs _ | exact hI.droot _ | omega)

theorem k_X7_isFilled_50 (p0 : Int32) (σ : ST) (hI : IA σ)  : OK (f_X7_isFilled 50 p0 σ) (RO σ fun v => v.toInt = 0 ∨ v.toInt = 1) := by
  unfold f_X7_isFilled
  have lt_0 := li_0
  have lt_1 := li_1
  have lFU : ((FU : Nat) : Int) = 100000 := rfl
  have g50 := (hI.t50).1
  have g50b : 0 ≤ (σ.1 50 1).toInt ∧ (σ.1 50 1).toInt ≤ 400 := (hI.t50).2.1
  have g50n : ((ln7 50 : Nat) : Int) = 400 := rfl
  refine OK.bndR (k_X7_isRow_50 _ _ hI ) (fun v1 h2 => ?_)
  dsimp only
  refine OK.ieq (fun h3 => ?_) (fun h3 => ?_)
  · skip
    exact OK.roret (by first | trivial | omega | exact hI.flds _ | exact hI.dflds _ | exact hI.recs _ | exact hI.drecs _ | exact hI.droot _ | omega)
  · skip
    refine OK.grd ⟨by omega, by omega⟩ ?_
    refine OK.ieq (fun h4 => ?_) (fun h4 => ?_)
    · skip
      exact OK.roret (by first | trivial | omega | exact hI.flds _ | exact hI.dflds _ | exact hI.recs _ | exact hI.drecs _ | exact hI.droot _ | omega)
    · skip
      exact OK.roret (by first | trivial | omega | exact hI.flds _ | exact hI.dflds _ | exact hI.recs _ | exact hI.drecs _ | exact hI.droot _ | omega)

theorem k_X7_numberOf_50 (p0 : Int32) (σ : ST) (hI : IA σ)  : OK (f_X7_numberOf 50 p0 σ) (RO σ fun v => True) := by
  unfold f_X7_numberOf
  have lt_m1 := li_m1
  have lt_0 := li_0
  have lt_1 := li_1
  have lFU : ((FU : Nat) : Int) = 100000 := rfl
  have g50 := (hI.t50).1
  have g50b : 0 ≤ (σ.1 50 1).toInt ∧ (σ.1 50 1).toInt ≤ 400 := (hI.t50).2.1
  have g50n : ((ln7 50 : Nat) : Int) = 400 := rfl
  refine OK.bndR (k_X7_isRow_50 _ _ hI ) (fun v1 h2 => ?_)
  dsimp only
  refine OK.ieq (fun h3 => ?_) (fun h3 => ?_)
  · skip
    exact OK.roret (by first | trivial | omega | exact hI.flds _ | exact hI.dflds _ | exact hI.recs _ | exact hI.drecs _ | exact hI.droot _ | omega)
  · skip
    refine OK.grd ⟨by omega, by omega⟩ ?_
    exact OK.roret (by first | trivial | omega | exact hI.flds _ | exact hI.dflds _ | exact hI.recs _ | exact hI.drecs _ | exact hI.droot _ | omega)

theorem k_X10_node_23 (σ : ST) (hI : IA σ)  : OK (f_X10_node_23  σ) (RO σ fun v => True) := by
  unfold f_X10_node_23
  have lt_0 := li_0
  have lt_1 := li_1
  have lFU : ((FU : Nat) : Int) = 100000 := rfl
  exact OK.roret (by first | trivial | omega | exact hI.flds _ | exact hI.dflds _ | exact hI.recs _ | exact hI.drecs _ | exact hI.droot _ | omega)

theorem k_X10_node (p0 : Int32) (p1 : Int32) (σ : ST) (hI : IA σ)  : OK (f_X10_node  p0 p1 σ) (RO σ fun v => True) := by
  unfold f_X10_node
  have lt_m1 := li_m1
  have lt_0 := li_0
  have lt_1 := li_1
  have lt_2 := li_2
  have lt_3 := li_3
  have lt_4 := li_4
  have lFU : ((FU : Nat) : Int) = 100000 := rfl
  refine OK.bndR (k_X7_rowAt_50 _ _ hI ) (fun v1 h2 => ?_)
  dsimp only
  refine OK.ieq (fun h3 => ?_) (fun h3 => ?_)
  · skip
    exact OK.roq (k_X10_node_23 _ hI ) (fun v hv => by first | trivial | omega | exact hI.flds _ | exact hI.dflds _ | exact hI.recs _ | exact hI.drecs _ | exact hI.droot _ | omega)
  · skip
    refine OK.ilt (fun h4 => ?_) (fun h4 => ?_)
    · skip
      exact OK.roq (k_X10_node_23 _ hI ) (fun v hv => by first | trivial | omega | exact hI.flds _ | exact hI.dflds _ | exact hI.recs _ | exact hI.drecs _ | exact hI.droot _ | omega)
    · skip
      refine OK.ile (fun h5 => ?_) (fun h5 => ?_)
      · skip
        refine OK.ieq (fun h6 => ?_) (fun h6 => ?_)
        · skip
          refine OK.bndR (k_X7_sortAt_50 _ _ hI ) (fun v7 h8 => ?_)
          dsimp only
          exact OK.roret (by first | trivial | omega | exact hI.flds _ | exact hI.dflds _ | exact hI.recs _ | exact hI.drecs _ | exact hI.droot _ | omega)
        · skip
          refine OK.ieq (fun h9 => ?_) (fun h9 => ?_)
          · skip
            refine OK.bndR (k_X7_parentOf_50 _ _ hI ) (fun v10 h11 => ?_)
            dsimp only
            refine OK.bndR (k_X7_numberOf_50 _ _ hI ) (fun v12 h13 => ?_)
            dsimp only
            exact OK.roret (by first | trivial | omega | exact hI.flds _ | exact hI.dflds _ | exact hI.recs _ | exact hI.drecs _ | exact hI.droot _ | omega)
          · skip
            refine OK.ieq (fun h14 => ?_) (fun h14 => ?_)
            · skip
              refine OK.bndR (k_X7_placeOf_50 _ _ hI ) (fun v15 h16 => ?_)
              dsimp only
              exact OK.roret (by first | trivial | omega | exact hI.flds _ | exact hI.dflds _ | exact hI.recs _ | exact hI.drecs _ | exact hI.droot _ | omega)
            · skip
              refine OK.ieq (fun h17 => ?_) (fun h17 => ?_)
              · skip
                refine OK.bndR (k_X7_sizeOf_50 _ _ hI ) (fun v18 h19 => ?_)
                dsimp only
                exact OK.roret (by first | trivial | omega | exact hI.flds _ | exact hI.dflds _ | exact hI.recs _ | exact hI.drecs _ | exact hI.droot _ | omega)
              · skip
                refine OK.bndR (k_X7_isFilled_50 _ _ hI ) (fun v20 h21 => ?_)
                dsimp only
                refine OK.ieq (fun h22 => ?_) (fun h22 => ?_)
                · skip
                  exact OK.roret (by first | trivial | omega | exact hI.flds _ | exact hI.dflds _ | exact hI.recs _ | exact hI.drecs _ | exact hI.droot _ | omega)
                · skip
                  exact OK.roret (by first | trivial | omega | exact hI.flds _ | exact hI.dflds _ | exact hI.recs _ | exact hI.drecs _ | exact hI.droot _ | omega)
      · skip
        exact OK.roq (k_X10_node_23 _ hI ) (fun v hv => by first | trivial | omega | exact hI.flds _ | exact hI.dflds _ | exact hI.recs _ | exact hI.drecs _ | exact hI.droot _ | omega)

theorem k_X1_clear (σ : ST) (hI : IA σ)  : OK (f_X1_clear  σ) (RS σ) := by
  unfold f_X1_clear
  have lt_m1 := li_m1
  have lt_0 := li_0
  have lt_1 := li_1
  have lFU : ((FU : Nat) : Int) = 100000 := rfl
  refine OK.bndS (k_J7_fill_53178_40 _ _ hI ) Fr.rf (fun s1 is1 fs1 => ?_)
  try dsimp only
  exact OK.sret is1 fs1

theorem k_X5_addType_20 (p0 : Int32) (σ : ST) (hI : IA σ) : OK (f_X5_addType 20 p0 σ) (RW σ fun v => -1 ≤ v.toInt) := by
  unfold f_X5_addType
  have lt_1 := li_1
  have lt_262 := li_262
  have g : 0 ≤ (σ.1 20 1).toInt ∧ (σ.1 20 1).toInt ≤ 262 := hI.dtypes
  refine OK.ilt (fun h => ?_) (fun h => OK.wret hI Fr.rf (by decide))
  refine OK.grd ⟨by omega, by omega⟩ ?_
  refine OK.lt (fun z2 h2 => ?_)
  have i2 : IA z2 := by rw [h2]; exact ia_I_32 (ia_I_31 hI)
  have f2 : Fr σ z2 := by rw [h2]; exact fr_I_32 (fr_I_31 Fr.rf)
  have e2 : z2.1 20 1 = σ.1 20 1 := by rw [h2]; rfl
  refine OK.lt (fun z3 h3 => ?_)
  have i3 : IA z3 := by rw [h3]; exact ia_L (ia_I_33 i2)
  have f3 : Fr σ z3 := by rw [h3]; exact fr_L (fr_I_33 f2)
  have e3 : z3.1 20 1 = σ.1 20 1 := by rw [h3]; exact e2
  refine OK.lt (fun z4 h4 => ?_)
  obtain ⟨ak, a, al, ar⟩ := i_add (z3.1 20 1) 1
  rw [e3] at a al ar
  try (refine k0el (k := ak) ?_ (fun e0 => ?_); (focus omega); subst e0)
  have i4 : IA z4 := by rw [h4]; exact ia_J_20_1 (ia_I_35 i3) (show bI (z3.1 20 1 + 1) 0 262 from by rw [e3]; exact ⟨by omega, by omega⟩)
  have f4 : Fr σ z4 := by rw [h4]; exact fr_I_20 (fr_I_35 f3)
  exact OK.wret i4 f4 (by omega)


theorem k_X5_setInner_20 (p0 : Int32) (p1 : Int32) (σ : ST) (hI : IA σ)  : OK (f_X5_setInner 20 p0 p1 σ) (RS σ) := by
  unfold f_X5_setInner
  have lt_0 := li_0
  have lt_1 := li_1
  have lFU : ((FU : Nat) : Int) = 100000 := rfl
  refine OK.bndR (k_X5_isType_20 _ _ hI ) (fun v1 h2 => ?_)
  dsimp only
  refine OK.ieq (fun h3 => ?_) (fun h3 => ?_)
  · skip
    exact OK.sret hI Fr.rf
  · skip
    refine OK.grd ⟨by omega, by omega⟩ ?_
    exact OK.sret (ia_I_32 hI) (fr_I_32 Fr.rf)

theorem k_X5_addPlan_20 (p0 : Int32) (σ : ST) (hI : IA σ)  : OK (f_X5_addPlan 20 p0 σ) (RS σ) := by
  unfold f_X5_addPlan
  have lt_0 := li_0
  have lt_1 := li_1
  have lt_6 := li_6
  have lt_7 := li_7
  have lFU : ((FU : Nat) : Int) = 100000 := rfl
  refine OK.ilt (fun h1 => ?_) (fun h1 => ?_)
  · skip
    exact OK.sret hI Fr.rf
  · skip
    refine OK.ilt (fun h2 => ?_) (fun h2 => ?_)
    · skip
      refine OK.grd ⟨by omega, by omega⟩ ?_
      refine OK.bndW (k_X5_addType_20 _ _ (ia_J_21 hI (show bI 0 0 36 from ⟨by omega, by omega⟩)) ) (fr_I_21 Fr.rf) (fun v3 s5 is5 fs5 h4 => ?_)
      dsimp only
      refine OK.bndS (k_X5_setInner_20 _ _ _ (ia_J_22 is5 (show -1 ≤ v3.toInt from by omega)) ) (fr_I_22 fs5) (fun s6 is6 fs6 => ?_)
      try dsimp only
      obtain ⟨a7k, a7, a7l, a7r⟩ := i_add p0 1
      try (refine k0el (k := a7k) ?_ (fun e0 => ?_); (focus omega); subst e0)
      exact OK.sret (ia_J_20_0 is6 (show bI (p0 + 1) 0 6 from ⟨by omega, by omega⟩)) (fr_I_20 fs6)
    · skip
      exact OK.sret hI Fr.rf

theorem k_X6_isDigit (p0 : Int32) (σ : ST) (hI : IA σ)  : OK (f_X6_isDigit  p0 σ) (RO σ fun v => v.toInt = 0 ∨ v.toInt = 1) := by
  unfold f_X6_isDigit
  have lt_0 := li_0
  have lt_1 := li_1
  have lt_48 := li_48
  have lt_57 := li_57
  have lFU : ((FU : Nat) : Int) = 100000 := rfl
  refine OK.ilt (fun h1 => ?_) (fun h1 => ?_)
  · skip
    exact OK.roret (by first | trivial | omega | exact hI.flds _ | exact hI.dflds _ | exact hI.recs _ | exact hI.drecs _ | exact hI.droot _ | omega)
  · skip
    refine OK.ilt (fun h2 => ?_) (fun h2 => ?_)
    · skip
      exact OK.roret (by first | trivial | omega | exact hI.flds _ | exact hI.dflds _ | exact hI.recs _ | exact hI.drecs _ | exact hI.droot _ | omega)
    · skip
      exact OK.roret (by first | trivial | omega | exact hI.flds _ | exact hI.dflds _ | exact hI.recs _ | exact hI.drecs _ | exact hI.droot _ | omega)

theorem k_X6_isLetter (p0 : Int32) (σ : ST) (hI : IA σ)  : OK (f_X6_isLetter  p0 σ) (RO σ fun v => v.toInt = 0 ∨ v.toInt = 1) := by
  unfold f_X6_isLetter
  have lt_0 := li_0
  have lt_1 := li_1
  have lt_97 := li_97
  have lt_122 := li_122
  have lFU : ((FU : Nat) : Int) = 100000 := rfl
  refine OK.ilt (fun h1 => ?_) (fun h1 => ?_)
  · skip
    exact OK.roret (by first | trivial | omega | exact hI.flds _ | exact hI.dflds _ | exact hI.recs _ | exact hI.drecs _ | exact hI.droot _ | omega)
  · skip
    refine OK.ilt (fun h2 => ?_) (fun h2 => ?_)
    · skip
      exact OK.roret (by first | trivial | omega | exact hI.flds _ | exact hI.dflds _ | exact hI.recs _ | exact hI.drecs _ | exact hI.droot _ | omega)
    · skip
      exact OK.roret (by first | trivial | omega | exact hI.flds _ | exact hI.dflds _ | exact hI.recs _ | exact hI.drecs _ | exact hI.droot _ | omega)

theorem k_X6_signAt (p0 : Int32) (σ : ST) (hI : IA σ)  : OK (f_X6_signAt  p0 σ) (RO σ fun v => True) := by
  unfold f_X6_signAt
  have lt_0 := li_0
  have lt_1 := li_1
  have lt_255 := li_255
  have lt_1000 := li_1000
  have lFU : ((FU : Nat) : Int) = 100000 := rfl
  refine OK.ilt (fun h1 => ?_) (fun h1 => ?_)
  · skip
    exact OK.roret (by first | trivial | omega | exact hI.flds _ | exact hI.dflds _ | exact hI.recs _ | exact hI.drecs _ | exact hI.droot _ | omega)
  · skip
    have g2 : 0 ≤ (σ.1 2 2).toInt ∧ (σ.1 2 2).toInt ≤ 1000 := hI.tend
    refine OK.ile (fun h3 => ?_) (fun h3 => ?_)
    · skip
      exact OK.roret (by first | trivial | omega | exact hI.flds _ | exact hI.dflds _ | exact hI.recs _ | exact hI.drecs _ | exact hI.droot _ | omega)
    · skip
      refine OK.ile (fun h4 => ?_) (fun h4 => ?_)
      · skip
        exact OK.roret (by first | trivial | omega | exact hI.flds _ | exact hI.dflds _ | exact hI.recs _ | exact hI.drecs _ | exact hI.droot _ | omega)
      · skip
        refine OK.grd ⟨by omega, by omega⟩ ?_
        exact OK.roret (by first | trivial | omega | exact hI.flds _ | exact hI.dflds _ | exact hI.recs _ | exact hI.drecs _ | exact hI.droot _ | omega)

theorem IA.same {σ s : ST} (h : IA σ) (h1 : s.1 = σ.1) (h2 : s.2.2.2 = σ.2.2.2) : IA s := by
  unfold IA TR at h ⊢
  rw [h1, h2]
  exact h
theorem Fr.same {σ s : ST} (h1 : s.1 = σ.1) (h3 : s.2.1 3 = σ.2.1 3) (h2 : s.2.2.2 = σ.2.2.2) : Fr σ s := ⟨by rw [h1], by rw [h1], ⟨by rw [h1], h3⟩, h2⟩
def TL (σ : ST) (m : Int) (q : Int32 × ST) : Prop := q.2.1 = σ.1 ∧ (q.2.2.2.2 = σ.2.2.2 ∧ q.2.2.1 3 = σ.2.1 3) ∧ 0 ≤ q.1.toInt ∧ q.1.toInt ≤ m
theorem TL.mk {σ : ST} {m : Int} {v : Int32} (h1 : 0 ≤ v.toInt) (h2 : v.toInt ≤ m) : OK (some (v, σ)) (TL σ m) := ⟨_, rfl, rfl, ⟨rfl, rfl⟩, h1, h2⟩
theorem k_X6_takeLetters_7 : ∀ (n : Nat) (x1 x2 x3 : Int32) (σ : ST), (0 ≤ x2.toInt ∧ x2.toInt ≤ 12 ∧ 0 ≤ x3.toInt ∧ x3.toInt ≤ x2.toInt + 1 ∧ (13 : Int) - x3.toInt < n) → OK (f_X6_takeLetters_7 n x1 x2 x3 σ) (TL σ 13) := by
  intro n
  induction n with
  | zero => intro x1 x2 x3 σ hv; omega
  | succ n ih =>
    intro x1 x2 x3 σ hv
    rw [f_X6_takeLetters_7]
    have lt_0 := li_0
    have lt_1 := li_1
    have lt_1000 := li_1000
    obtain ⟨bk, b, bl, br⟩ := i_add x2 1
    try (refine k0el (k := bk) ?_ (fun e0 => ?_); (focus omega); subst e0)
    obtain ⟨ck, c, cl, cr⟩ := i_add x3 1
    try (refine k0el (k := ck) ?_ (fun e0 => ?_); (focus omega); subst e0)
    refine OK.ilt (fun h => TL.mk (by omega) (by omega)) (fun h => ?_)
    have h57 : ∀ y0 : Int32, OK (f_X6_takeLetters_57 (f_X6_takeLetters_7 n) x1 x2 x3 y0 σ) (TL σ 13) := by
      intro y0
      unfold f_X6_takeLetters_57
      refine OK.ilt (fun _ => TL.mk (by omega) (by omega)) (fun _ => ?_)
      refine OK.ile (fun _ => ?_) (fun _ => TL.mk (by omega) (by omega))
      refine OK.ile (fun h9 => ?_) (fun h9 => ?_)
      · exact ih x1 x2 (x3 + 1) σ (by omega)
      · exact ih x1 x2 (x3 + 1) (stL σ 2 7 ((σ.2.1 2 7) ||| ((y0.toInt64) <<< ((5 * x3).toInt64 &&& 63)))) (by omega)
    refine OK.ilt (fun h1 => h57 0) (fun h1 => ?_)
    refine OK.ile (fun h2 => h57 0) (fun h2 => ?_)
    refine OK.ile (fun h3 => h57 0) (fun h3 => ?_)
    refine OK.grd ⟨by omega, by omega⟩ ?_
    exact h57 _


theorem k_X6_takeLetters (p0 p1 : Int32) (σ : ST) (hp : 0 ≤ p1.toInt ∧ p1.toInt ≤ 12) : OK (f_X6_takeLetters p0 p1 σ) (TL σ 13) := by
  have lt_0 := li_0
  have lFU : ((FU : Nat) : Int) = 100000 := rfl
  exact k_X6_takeLetters_7 FU p0 p1 0 (stL σ 2 7 0) (by omega)


theorem k_X6_scanLettered_38 (σ : ST) (hI : IA σ)  : OK (f_X6_scanLettered_38  σ) (RS σ) := by
  unfold f_X6_scanLettered_38
  have lt_0 := li_0
  have lt_1 := li_1
  have lFU : ((FU : Nat) : Int) = 100000 := rfl
  exact OK.sret (ia_I_2_4 hI) (fr_I_2 Fr.rf)

theorem k_X6_scanLettered (σ : ST) (hI : IA σ) (hp : (σ.1 2 5).toInt < 1000) : OK (f_X6_scanLettered σ) (RS σ) := by
  unfold f_X6_scanLettered
  have lt_1 := li_1
  have lt_12 := li_12
  have g : 0 ≤ (σ.1 2 5).toInt ∧ (σ.1 2 5).toInt ≤ 1030 := hI.tstart
  refine OK.bnd (k_X6_takeLetters _ _ _ (by omega)) (fun q hq => ?_)
  obtain ⟨v, s⟩ := q
  obtain ⟨e1, ⟨e2, e3⟩, h1, h2⟩ := hq
  have e1 : s.1 = σ.1 := e1
  have e2 : s.2.2.2 = σ.2.2.2 := e2
  have e3 : s.2.1 3 = σ.2.1 3 := e3
  have h1 : 0 ≤ v.toInt := h1
  have h2 : v.toInt ≤ 13 := h2
  have is := hI.same e1 e2
  have fs : Fr σ s := Fr.same e1 e3 e2
  dsimp only
  unfold f_X6_scanLettered_38
  refine OK.ilt (fun h => OK.sret (ia_I_2_4 is) (fr_I_2 fs)) (fun h => ?_)
  refine OK.bndR (k_X6_signAt _ _ is) (fun w hw => ?_)
  dsimp only
  refine OK.ieq (fun h => ?_) (fun h => OK.sret (ia_I_2_4 is) (fr_I_2 fs))
  rw [e1]
  obtain ⟨ak, a, al, ar⟩ := i_add (σ.1 2 5) 1
  try (refine k0el (k := ak) ?_ (fun e0 => ?_); (focus omega); subst e0)
  obtain ⟨bk, b, bl, br⟩ := i_add (σ.1 2 5 + 1) v
  try (refine k0el (k := bk) ?_ (fun e0 => ?_); (focus omega); subst e0)
  obtain ⟨ck, c, cl, cr⟩ := i_add (σ.1 2 5 + 1 + v) 1
  try (refine k0el (k := ck) ?_ (fun e0 => ?_); (focus omega); subst e0)
  exact OK.sret (ia_J_2_3 (ia_I_2_4 is) ⟨by omega, by omega⟩) (fr_I_2 (fr_I_2 fs))


theorem k_X6_scanNumber_189 (x1 : Int32) (σ : ST) (hI : IA σ) (hp0 : 0 ≤ x1.toInt ∧ x1.toInt ≤ 1030)  : OK (f_X6_scanNumber_189  x1 σ) (RS σ) := by
  unfold f_X6_scanNumber_189
  have lt_0 := li_0
  have lt_1 := li_1
  have lFU : ((FU : Nat) : Int) = 100000 := rfl
  exact OK.sret (ia_J_2_3 (ia_I_2_4 hI) (show bI x1 0 1030 from ⟨by omega, by omega⟩)) (fr_I_2 (fr_I_2 Fr.rf))

theorem k_X6_scanNumber_119 (x1 : Int32) (x2 : Int32) (σ : ST) (hI : IA σ) (hp0 : 0 ≤ x1.toInt ∧ x1.toInt ≤ 1025)  : OK (f_X6_scanNumber_119  x1 x2 σ) (RS σ) := by
  unfold f_X6_scanNumber_119
  have lt_0 := li_0
  have lt_1 := li_1
  have lt_2 := li_2
  have lt_18 := li_18
  have lt_46 := li_46
  have lFU : ((FU : Nat) : Int) = 100000 := rfl
  refine OK.ieq (fun h1 => ?_) (fun h1 => ?_)
  · skip
    exact OK.sret hI Fr.rf
  · skip
    refine OK.ile (fun h2 => ?_) (fun h2 => ?_)
    · skip
      refine OK.bndR (k_X6_signAt _ _ hI ) (fun v3 h4 => ?_)
      dsimp only
      refine OK.ieq (fun h5 => ?_) (fun h5 => ?_)
      · skip
        refine OK.bndR (k_X6_signAt _ _ hI ) (fun v6 h7 => ?_)
        dsimp only
        refine OK.bndR (k_X6_isDigit _ _ hI ) (fun v8 h9 => ?_)
        dsimp only
        refine OK.ieq (fun h10 => ?_) (fun h10 => ?_)
        · skip
          exact OK.sret hI Fr.rf
        · skip
          refine OK.bndR (k_X6_signAt _ _ hI ) (fun v11 h12 => ?_)
          dsimp only
          refine OK.bndR (k_X6_isDigit _ _ hI ) (fun v13 h14 => ?_)
          dsimp only
          refine OK.ieq (fun h15 => ?_) (fun h15 => ?_)
          · skip
            have iz18 : IA (stI σ 2 10 1) := (ia_I_2_10 hI)
            have fz18 : Fr σ (stI σ 2 10 1) := (fr_I_2 Fr.rf)
            generalize (stI σ 2 10 1) = z18 at iz18 fz18 ⊢
            refine OK.bndR (k_X6_signAt _ _ iz18 ) (fun v16 h17 => ?_)
            dsimp only
            obtain ⟨a19k, a19, a19l, a19r⟩ := i_add x1 2
            try (refine k0el (k := a19k) ?_ (fun e0 => ?_); (focus omega); subst e0)
            exact OK.trS (k_X6_scanNumber_189 _ _ (ia_I_2_11 iz18) (show 0 ≤ (x1 + 2).toInt ∧ (x1 + 2).toInt ≤ 1030 from by omega)) (fr_I_2 fz18)
          · skip
            exact OK.sret hI Fr.rf
      · skip
        exact OK.trS (k_X6_scanNumber_189 _ _ hI (show 0 ≤ x1.toInt ∧ x1.toInt ≤ 1030 from by omega)) Fr.rf
    · skip
      exact OK.sret hI Fr.rf

theorem k_X6_scanNumber_65 : ∀ (n : Nat) (x1 : Int32) (x2 : Int32) (σ : ST), IA σ → (0 ≤ x2.toInt ∧ x2.toInt ≤ 19 ∧ (0 ≤ x1.toInt ∧ x1.toInt ≤ 1001 + x2.toInt) ∧ (19 : Int) - x2.toInt < n) → OK (f_X6_scanNumber_65  n x1 x2 σ) (RS σ) := by
  intro n
  induction n with
  | zero =>
    intro x1 x2 σ hI hv
    omega
  | succ n ih =>
    intro x1 x2 σ hI hv
    rw [f_X6_scanNumber_65]
    have lt_0 := li_0
    have lt_1 := li_1
    have lt_18 := li_18
    have lFU : ((FU : Nat) : Int) = 100000 := rfl
    refine OK.ilt (fun h1 => ?_) (fun h1 => ?_)
    · skip
      exact OK.trS (k_X6_scanNumber_119 _ _ _ hI (show 0 ≤ x1.toInt ∧ x1.toInt ≤ 1025 from by omega)) Fr.rf
    · skip
      refine OK.bndR (k_X6_signAt _ _ hI ) (fun v2 h3 => ?_)
      dsimp only
      refine OK.bndR (k_X6_isDigit _ _ hI ) (fun v4 h5 => ?_)
      dsimp only
      refine OK.ieq (fun h6 => ?_) (fun h6 => ?_)
      · skip
        exact OK.trS (k_X6_scanNumber_119 _ _ _ hI (show 0 ≤ x1.toInt ∧ x1.toInt ≤ 1025 from by omega)) Fr.rf
      · skip
        refine OK.ile (fun h7 => ?_) (fun h7 => ?_)
        · skip
          unfold f_X6_scanNumber_110
          try dsimp only
          obtain ⟨a8k, a8, a8l, a8r⟩ := i_add x1 1
          try (refine k0el (k := a8k) ?_ (fun e0 => ?_); (focus omega); subst e0)
          obtain ⟨a9k, a9, a9l, a9r⟩ := i_add x2 1
          try (refine k0el (k := a9k) ?_ (fun e0 => ?_); (focus omega); subst e0)
          exact OK.trS (ih _ _ _ hI (by omega)) Fr.rf
        · skip
          refine OK.bndR (k_X6_signAt _ _ hI ) (fun v10 h11 => ?_)
          dsimp only
          unfold f_X6_scanNumber_110
          try dsimp only
          obtain ⟨a12k, a12, a12l, a12r⟩ := i_add x1 1
          try (refine k0el (k := a12k) ?_ (fun e0 => ?_); (focus omega); subst e0)
          obtain ⟨a13k, a13, a13l, a13r⟩ := i_add x2 1
          try (refine k0el (k := a13k) ?_ (fun e0 => ?_); (focus omega); subst e0)
          exact OK.trS (ih _ _ _ (ia_L hI) (by omega)) (fr_L Fr.rf)

theorem k_X6_scanNumber_62 (y0 : Int32) (σ : ST) (hI : IA σ) (hp0 : 0 ≤ y0.toInt ∧ y0.toInt ≤ 1001)  : OK (f_X6_scanNumber_62  y0 σ) (RS σ) := by
  unfold f_X6_scanNumber_62
  have lt_0 := li_0
  have lt_1 := li_1
  have lFU : ((FU : Nat) : Int) = 100000 := rfl
  exact OK.trS (k_X6_scanNumber_65 FU _ _ _ hI (by omega)) Fr.rf

theorem k_X6_scanNumber_19 (y0 : Int32) (σ : ST) (hI : IA σ) (hp0 : (σ.1 2 5).toInt < 1000) (hp1 : y0.toInt = 0 ∨ y0.toInt = 1)  : OK (f_X6_scanNumber_19  y0 σ) (RS σ) := by
  unfold f_X6_scanNumber_19
  have lt_0 := li_0
  have lt_1 := li_1
  have lFU : ((FU : Nat) : Int) = 100000 := rfl
  refine OK.grd (b01 (by omega)) ?_
  refine OK.ieq (fun h1 => ?_) (fun h1 => ?_)
  · skip
    have g2 : 0 ≤ (σ.1 2 5).toInt ∧ (σ.1 2 5).toInt ≤ 1030 := hI.tstart
    have g3 : 0 ≤ (σ.1 2 2).toInt ∧ (σ.1 2 2).toInt ≤ 1000 := hI.tend
    exact OK.trS (k_X6_scanNumber_62 _ _ (ia_I_2_4 (ia_L (ia_I_2_11 (ia_I_2_10 (ia_I_2_9 hI))))) (show 0 ≤ (σ.1 2 5).toInt ∧ (σ.1 2 5).toInt ≤ 1001 from by omega)) (fr_I_2 (fr_L (fr_I_2 (fr_I_2 (fr_I_2 Fr.rf)))))
  · skip
    have g4 : 0 ≤ (σ.1 2 5).toInt ∧ (σ.1 2 5).toInt ≤ 1030 := hI.tstart
    obtain ⟨a5k, a5, a5l, a5r⟩ := i_add (σ.1 2 5) 1
    try (refine k0el (k := a5k) ?_ (fun e0 => ?_); (focus omega); subst e0)
    have g6 : 0 ≤ (σ.1 2 2).toInt ∧ (σ.1 2 2).toInt ≤ 1000 := hI.tend
    exact OK.trS (k_X6_scanNumber_62 _ _ (ia_I_2_4 (ia_L (ia_I_2_11 (ia_I_2_10 (ia_I_2_9 hI))))) (show 0 ≤ ((σ.1 2 5) + 1).toInt ∧ ((σ.1 2 5) + 1).toInt ≤ 1001 from by omega)) (fr_I_2 (fr_L (fr_I_2 (fr_I_2 (fr_I_2 Fr.rf)))))

theorem k_X6_scanNumber (σ : ST) (hI : IA σ) (hp0 : (σ.1 2 5).toInt < 1000)  : OK (f_X6_scanNumber  σ) (RS σ) := by
  unfold f_X6_scanNumber
  have lt_0 := li_0
  have lt_1 := li_1
  have lt_45 := li_45
  have lFU : ((FU : Nat) : Int) = 100000 := rfl
  refine OK.bndR (k_X6_signAt _ _ hI ) (fun v1 h2 => ?_)
  dsimp only
  refine OK.ieq (fun h3 => ?_) (fun h3 => ?_)
  · skip
    have g4 : 0 ≤ (σ.1 2 5).toInt ∧ (σ.1 2 5).toInt ≤ 1030 := hI.tstart
    have g5 : 0 ≤ (σ.1 2 2).toInt ∧ (σ.1 2 2).toInt ≤ 1000 := hI.tend
    exact OK.trS (k_X6_scanNumber_19 _ _ hI (show (σ.1 2 5).toInt < 1000 from by omega) (show (1 : Int32).toInt = 0 ∨ (1 : Int32).toInt = 1 from by omega)) Fr.rf
  · skip
    have g6 : 0 ≤ (σ.1 2 5).toInt ∧ (σ.1 2 5).toInt ≤ 1030 := hI.tstart
    have g7 : 0 ≤ (σ.1 2 2).toInt ∧ (σ.1 2 2).toInt ≤ 1000 := hI.tend
    exact OK.trS (k_X6_scanNumber_19 _ _ hI (show (σ.1 2 5).toInt < 1000 from by omega) (show (0 : Int32).toInt = 0 ∨ (0 : Int32).toInt = 1 from by omega)) Fr.rf

theorem k_X6_scanWord_45 : ∀ (n : Nat) (x2 : Int32) (σ : ST), IA σ → (0 ≤ x2.toInt ∧ x2.toInt ≤ 15 ∧ (15 : Int) - x2.toInt < n) → OK (f_X6_scanWord_45  n x2 σ) (RS σ) := by
  intro n
  induction n with
  | zero =>
    intro x2 σ hI hv
    omega
  | succ n ih =>
    intro x2 σ hI hv
    rw [f_X6_scanWord_45]
    have lt_0 := li_0
    have lt_1 := li_1
    have lt_15 := li_15
    have lFU : ((FU : Nat) : Int) = 100000 := rfl
    refine OK.ile (fun h1 => ?_) (fun h1 => ?_)
    · skip
      exact OK.sret hI Fr.rf
    · skip
      refine OK.grd ⟨by omega, by omega⟩ ?_
      refine OK.ieq (fun h2 => ?_) (fun h2 => ?_)
      · skip
        unfold f_X6_scanWord_75
        try dsimp only
        obtain ⟨a3k, a3, a3l, a3r⟩ := i_add x2 1
        try (refine k0el (k := a3k) ?_ (fun e0 => ?_); (focus omega); subst e0)
        exact OK.trS (ih _ _ (ia_I_2_6 (ia_I_2_4 hI)) (by omega)) (fr_I_2 (fr_I_2 Fr.rf))
      · skip
        unfold f_X6_scanWord_75
        try dsimp only
        obtain ⟨a4k, a4, a4l, a4r⟩ := i_add x2 1
        try (refine k0el (k := a4k) ?_ (fun e0 => ?_); (focus omega); subst e0)
        exact OK.trS (ih _ _ hI (by omega)) Fr.rf

theorem k_X6_scanWord (σ : ST) (hI : IA σ) (hp : (σ.1 2 5).toInt < 1000) : OK (f_X6_scanWord σ) (RS σ) := by
  unfold f_X6_scanWord
  have lt_0 := li_0
  have lt_8 := li_8
  have lFU : ((FU : Nat) : Int) = 100000 := rfl
  have g : 0 ≤ (σ.1 2 5).toInt ∧ (σ.1 2 5).toInt ≤ 1030 := hI.tstart
  refine OK.bnd (k_X6_takeLetters _ _ _ (by omega)) (fun q hq => ?_)
  obtain ⟨v, s⟩ := q
  obtain ⟨e1, ⟨e2, e3⟩, h1, h2⟩ := hq
  have e1 : s.1 = σ.1 := e1
  have e2 : s.2.2.2 = σ.2.2.2 := e2
  have e3 : s.2.1 3 = σ.2.1 3 := e3
  have h1 : 0 ≤ v.toInt := h1
  have h2 : v.toInt ≤ 13 := h2
  have is := hI.same e1 e2
  have fs : Fr σ s := Fr.same e1 e3 e2
  dsimp only
  refine OK.ile (fun h => ?_) (fun h => OK.sret (ia_I_2_4 is) (fr_I_2 fs))
  have hb : bI (s.1 2 5 + v) 0 1030 := by
    rw [e1]
    obtain ⟨ak, a, al, ar⟩ := i_add (σ.1 2 5) v
    try (refine k0el (k := ak) ?_ (fun e0 => ?_); (focus omega); subst e0)
    exact ⟨by omega, by omega⟩
  exact OK.trS (k_X6_scanWord_45 FU _ _ (ia_I_2_6 (ia_I_2_4 (ia_J_2_3 is hb))) (by omega)) (fr_I_2 (fr_I_2 (fr_I_2 fs)))


theorem k_X6_advance_113 (σ : ST) (hI : IA σ) (hp0 : (σ.1 2 5).toInt < 1000)  : OK (f_X6_advance_113  σ) (RS σ) := by
  unfold f_X6_advance_113
  have lt_0 := li_0
  have lt_1 := li_1
  have lFU : ((FU : Nat) : Int) = 100000 := rfl
  have g1 : 0 ≤ (σ.1 2 5).toInt ∧ (σ.1 2 5).toInt ≤ 1030 := hI.tstart
  have g2 : 0 ≤ (σ.1 2 2).toInt ∧ (σ.1 2 2).toInt ≤ 1000 := hI.tend
  refine OK.bndS (k_X6_scanNumber _ hI (show (σ.1 2 5).toInt < 1000 from by omega)) Fr.rf (fun s3 is3 fs3 => ?_)
  try dsimp only
  exact OK.sret is3 fs3

theorem k_X6_advance_169 (x1 : Int32) (σ : ST) (hI : IA σ) (hp0 : (σ.1 2 5).toInt < 1000)  : OK (f_X6_advance_169  x1 σ) (RS σ) := by
  unfold f_X6_advance_169
  have lt_0 := li_0
  have lt_1 := li_1
  have lFU : ((FU : Nat) : Int) = 100000 := rfl
  have g1 : 0 ≤ (σ.1 2 5).toInt ∧ (σ.1 2 5).toInt ≤ 1030 := hI.tstart
  obtain ⟨a2k, a2, a2l, a2r⟩ := i_add (σ.1 2 5) 1
  try (refine k0el (k := a2k) ?_ (fun e0 => ?_); (focus omega); subst e0)
  exact OK.sret (ia_J_2_3 (ia_I_2_4 hI) (show bI ((σ.1 2 5) + 1) 0 1030 from ⟨by omega, by omega⟩)) (fr_I_2 (fr_I_2 Fr.rf))

theorem k_X6_advance_50 (σ : ST) (hI : IA σ)  : OK (f_X6_advance_50  σ) (RS σ) := by
  unfold f_X6_advance_50
  have lt_0 := li_0
  have lt_1 := li_1
  have lt_34 := li_34
  have lt_44 := li_44
  have lt_45 := li_45
  have lt_59 := li_59
  have lt_91 := li_91
  have lt_93 := li_93
  have lt_123 := li_123
  have lt_125 := li_125
  have lFU : ((FU : Nat) : Int) = 100000 := rfl
  have g1 : 0 ≤ (σ.1 2 3).toInt ∧ (σ.1 2 3).toInt ≤ 1030 := hI.tnext
  have iz4 : IA (stI σ 2 5 (σ.1 2 3)) := (ia_J_2_5 hI (show bI (σ.1 2 3) 0 1030 from ⟨by omega, by omega⟩))
  have fz4 : Fr σ (stI σ 2 5 (σ.1 2 3)) := (fr_I_2 Fr.rf)
  generalize (stI σ 2 5 (σ.1 2 3)) = z4 at iz4 fz4 ⊢
  refine OK.bndR (k_X6_signAt _ _ iz4 ) (fun v2 h3 => ?_)
  dsimp only
  have g5 : 0 ≤ (z4.1 2 5).toInt ∧ (z4.1 2 5).toInt ≤ 1030 := iz4.tstart
  have g6 : 0 ≤ (z4.1 2 2).toInt ∧ (z4.1 2 2).toInt ≤ 1000 := iz4.tend
  refine OK.ilt (fun h7 => ?_) (fun h7 => ?_)
  · skip
    refine OK.bndR (k_X6_isLetter _ _ iz4 ) (fun v8 h9 => ?_)
    dsimp only
    refine OK.ieq (fun h10 => ?_) (fun h10 => ?_)
    · skip
      refine OK.ieq (fun h11 => ?_) (fun h11 => ?_)
      · skip
        exact OK.trS (k_X6_advance_113 _ iz4 (show (z4.1 2 5).toInt < 1000 from by omega)) fz4
      · skip
        refine OK.bndR (k_X6_isDigit _ _ iz4 ) (fun v12 h13 => ?_)
        dsimp only
        refine OK.ieq (fun h14 => ?_) (fun h14 => ?_)
        · skip
          refine OK.ieq (fun h15 => ?_) (fun h15 => ?_)
          · skip
            refine OK.bndS (k_X6_scanLettered _ iz4 (show (z4.1 2 5).toInt < 1000 from by omega)) fz4 (fun s16 is16 fs16 => ?_)
            try dsimp only
            exact OK.sret is16 fs16
          · skip
            refine OK.ieq (fun h17 => ?_) (fun h17 => ?_)
            · skip
              exact OK.trS (k_X6_advance_169 _ _ iz4 (show (z4.1 2 5).toInt < 1000 from by omega)) fz4
            · skip
              refine OK.ieq (fun h18 => ?_) (fun h18 => ?_)
              · skip
                exact OK.trS (k_X6_advance_169 _ _ iz4 (show (z4.1 2 5).toInt < 1000 from by omega)) fz4
              · skip
                refine OK.ieq (fun h19 => ?_) (fun h19 => ?_)
                · skip
                  exact OK.trS (k_X6_advance_169 _ _ iz4 (show (z4.1 2 5).toInt < 1000 from by omega)) fz4
                · skip
                  refine OK.ieq (fun h20 => ?_) (fun h20 => ?_)
                  · skip
                    exact OK.trS (k_X6_advance_169 _ _ iz4 (show (z4.1 2 5).toInt < 1000 from by omega)) fz4
                  · skip
                    refine OK.ieq (fun h21 => ?_) (fun h21 => ?_)
                    · skip
                      exact OK.trS (k_X6_advance_169 _ _ iz4 (show (z4.1 2 5).toInt < 1000 from by omega)) fz4
                    · skip
                      refine OK.ieq (fun h22 => ?_) (fun h22 => ?_)
                      · skip
                        exact OK.trS (k_X6_advance_169 _ _ iz4 (show (z4.1 2 5).toInt < 1000 from by omega)) fz4
                      · skip
                        exact OK.sret (ia_I_2_4 iz4) (fr_I_2 fz4)
        · skip
          exact OK.trS (k_X6_advance_113 _ iz4 (show (z4.1 2 5).toInt < 1000 from by omega)) fz4
    · skip
      refine OK.bndS (k_X6_scanWord _ iz4 (show (z4.1 2 5).toInt < 1000 from by omega)) fz4 (fun s23 is23 fs23 => ?_)
      try dsimp only
      exact OK.sret is23 fs23
  · skip
    exact OK.sret (ia_I_2_4 iz4) (fr_I_2 fz4)

theorem k_X6_advance_0 : ∀ (n : Nat) (σ : ST), IA σ → ((1001 : Int) - (σ.1 2 3).toInt < n) → 0 < n → OK (f_X6_advance_0 n σ) (RS σ) := by
  intro n
  induction n with
  | zero => intro σ hI hv h0; omega
  | succ n ih =>
    intro σ hI hv h0
    rw [f_X6_advance_0]
    have lt_1 := li_1
    have g : 0 ≤ (σ.1 2 2).toInt ∧ (σ.1 2 2).toInt ≤ 1000 := hI.tend
    have g3 : 0 ≤ (σ.1 2 3).toInt ∧ (σ.1 2 3).toInt ≤ 1030 := hI.tnext
    refine OK.ile (fun h => k_X6_advance_50 _ hI) (fun h => ?_)
    obtain ⟨ak, a, al, ar⟩ := i_add (σ.1 2 3) 1
    try (refine k0el (k := ak) ?_ (fun e0 => ?_); (focus omega); subst e0)
    have h37 : OK (f_X6_advance_37 (f_X6_advance_0 n) σ) (RS σ) := by
      unfold f_X6_advance_37
      exact OK.trS (ih _ (ia_J_2_3 hI ⟨by omega, by omega⟩) (show (1001 : Int) - (σ.1 2 3 + 1).toInt < n from by omega) (by omega)) (fr_I_2 Fr.rf)
    refine OK.bndR (k_X6_signAt _ _ hI) (fun w hw => ?_)
    dsimp only
    refine OK.ieq (fun _ => h37) (fun _ => ?_)
    refine OK.bndR (k_X6_signAt _ _ hI) (fun w hw => ?_)
    dsimp only
    exact OK.ieq (fun _ => h37) (fun _ => k_X6_advance_50 _ hI)


theorem k_X6_advance (σ : ST) (hI : IA σ) : OK (f_X6_advance σ) (RS σ) := by
  have lFU : ((FU : Nat) : Int) = 100000 := rfl
  have g3 : 0 ≤ (σ.1 2 3).toInt ∧ (σ.1 2 3).toInt ≤ 1030 := hI.tnext
  exact k_X6_advance_0 FU σ hI (by omega) (by decide)


theorem k_X6_refuseAt (p0 : Int32) (p1 : Int32) (σ : ST) (hI : IA σ)  : OK (f_X6_refuseAt  p0 p1 σ) (RW σ fun v => v.toInt = 0 ∨ v.toInt = 1) := by
  unfold f_X6_refuseAt
  have lt_0 := li_0
  have lt_1 := li_1
  have lFU : ((FU : Nat) : Int) = 100000 := rfl
  refine OK.ieq (fun h1 => ?_) (fun h1 => ?_)
  · skip
    exact OK.wret (ia_I_2_13 (ia_I_2_12 hI)) (fr_I_2 (fr_I_2 Fr.rf)) (by first | trivial | omega | exact hI.flds _ | exact hI.dflds _ | exact hI.recs _ | exact hI.drecs _ | exact hI.droot _ | omega)
  · skip
    exact OK.wret hI Fr.rf (by first | trivial | omega | exact hI.flds _ | exact hI.dflds _ | exact hI.recs _ | exact hI.drecs _ | exact hI.droot _ | omega)

theorem k_X6_refuse (p0 : Int32) (σ : ST) (hI : IA σ)  : OK (f_X6_refuse  p0 σ) (RW σ fun v => v.toInt = 0 ∨ v.toInt = 1) := by
  unfold f_X6_refuse
  have lt_0 := li_0
  have lt_1 := li_1
  have lFU : ((FU : Nat) : Int) = 100000 := rfl
  refine OK.bndW (k_X6_refuseAt _ _ _ hI ) Fr.rf (fun v1 s3 is3 fs3 h2 => ?_)
  dsimp only
  refine OK.grd (b01 (by omega)) ?_
  exact OK.wret is3 fs3 (by first | trivial | omega | exact hI.flds _ | exact hI.dflds _ | exact hI.recs _ | exact hI.drecs _ | exact hI.droot _ | omega)

theorem k_X3_beginPlan (p0 : Int32) (σ : ST) (hI : IA σ)  : OK (f_X3_beginPlan  p0 σ) (RW σ fun v => v.toInt = 0 ∨ v.toInt = 1) := by
  unfold f_X3_beginPlan
  have lt_0 := li_0
  have lt_1 := li_1
  have lt_4 := li_4
  have lt_6 := li_6
  have lt_59 := li_59
  have lFU : ((FU : Nat) : Int) = 100000 := rfl
  refine OK.ilt (fun h1 => ?_) (fun h1 => ?_)
  · skip
    refine OK.bndS (k_X5_addPlan_20 _ _ hI ) Fr.rf (fun s2 is2 fs2 => ?_)
    try dsimp only
    refine OK.bndS (k_X6_advance _ is2 ) fs2 (fun s3 is3 fs3 => ?_)
    try dsimp only
    refine OK.ieq (fun h4 => ?_) (fun h4 => ?_)
    · skip
      refine OK.bndS (k_X6_advance _ is3 ) fs3 (fun s5 is5 fs5 => ?_)
      try dsimp only
      exact OK.wret is5 fs5 (by first | trivial | omega | exact hI.flds _ | exact hI.dflds _ | exact hI.recs _ | exact hI.drecs _ | exact hI.droot _ | omega)
    · skip
      refine OK.bndW (k_X6_refuse _ _ is3 ) fs3 (fun v6 s8 is8 fs8 h7 => ?_)
      dsimp only
      refine OK.grd (b01 (by omega)) ?_
      exact OK.wret is8 fs8 (by first | trivial | omega | exact hI.flds _ | exact hI.dflds _ | exact hI.recs _ | exact hI.drecs _ | exact hI.droot _ | omega)
  · skip
    refine OK.bndW (k_X6_refuse _ _ hI ) Fr.rf (fun v9 s11 is11 fs11 h10 => ?_)
    dsimp only
    refine OK.grd (b01 (by omega)) ?_
    exact OK.wret is11 fs11 (by first | trivial | omega | exact hI.flds _ | exact hI.dflds _ | exact hI.recs _ | exact hI.drecs _ | exact hI.droot _ | omega)

theorem k_X5_setElse_20 (p0 : Int32) (p1 : Int32) (p2 : Int64) (σ : ST) (hI : IA σ)  : OK (f_X5_setElse 20 p0 p1 p2 σ) (RS σ) := by
  unfold f_X5_setElse
  have lt_0 := li_0
  have lt_1 := li_1
  have lt_8 := li_8
  have lFU : ((FU : Nat) : Int) = 100000 := rfl
  refine OK.bndR (k_X5_isFieldOf _ _ _ hI ) (fun v1 h2 => ?_)
  dsimp only
  refine OK.ieq (fun h3 => ?_) (fun h3 => ?_)
  · skip
    exact OK.sret hI Fr.rf
  · skip
    refine OK.grd ⟨by omega, by omega⟩ ?_
    refine OK.lt (fun z4 h5 => ?_)
    have iz4 : IA z4 := by rw [h5]; exact (ia_I_25 hI)
    have fz4 : Fr σ z4 := by rw [h5]; exact (fr_I_25 Fr.rf)
    obtain ⟨a6k, a6, a6l, a6r⟩ := i_mul p0 8
    rw [li_8] at a6
    try (refine k0el (k := a6k) ?_ (fun e0 => ?_); (focus omega); subst e0)
    obtain ⟨a7k, a7, a7l, a7r⟩ := i_add (p0 * 8) p1
    try (refine k0el (k := a7k) ?_ (fun e0 => ?_); (focus omega); subst e0)
    refine OK.grd ⟨by omega, by omega⟩ ?_
    exact OK.sret (ia_L iz4) (fr_L fz4)

theorem k_X6_isKeyword (p0 : Int32) (σ : ST) (hI : IA σ)  : OK (f_X6_isKeyword  p0 σ) (RO σ fun v => v.toInt = 0 ∨ v.toInt = 1) := by
  unfold f_X6_isKeyword
  have lt_0 := li_0
  have lt_1 := li_1
  have lt_2 := li_2
  have lFU : ((FU : Nat) : Int) = 100000 := rfl
  refine OK.ieq (fun h1 => ?_) (fun h1 => ?_)
  · skip
    refine OK.ieq (fun h2 => ?_) (fun h2 => ?_)
    · skip
      exact OK.roret (by first | trivial | omega | exact hI.flds _ | exact hI.dflds _ | exact hI.recs _ | exact hI.drecs _ | exact hI.droot _ | omega)
    · skip
      exact OK.roret (by first | trivial | omega | exact hI.flds _ | exact hI.dflds _ | exact hI.recs _ | exact hI.drecs _ | exact hI.droot _ | omega)
  · skip
    exact OK.roret (by first | trivial | omega | exact hI.flds _ | exact hI.dflds _ | exact hI.recs _ | exact hI.drecs _ | exact hI.droot _ | omega)

theorem k_X6_beginsLiteral_52 (σ : ST) (hI : IA σ)  : OK (f_X6_beginsLiteral_52  σ) (RO σ fun v => v.toInt = 0 ∨ v.toInt = 1) := by
  unfold f_X6_beginsLiteral_52
  have lt_0 := li_0
  have lt_1 := li_1
  have lFU : ((FU : Nat) : Int) = 100000 := rfl
  exact OK.roret (by first | trivial | omega | exact hI.flds _ | exact hI.dflds _ | exact hI.recs _ | exact hI.drecs _ | exact hI.droot _ | omega)

theorem k_X6_beginsLiteral (σ : ST) (hI : IA σ)  : OK (f_X6_beginsLiteral  σ) (RO σ fun v => v.toInt = 0 ∨ v.toInt = 1) := by
  unfold f_X6_beginsLiteral
  have lt_0 := li_0
  have lt_1 := li_1
  have lt_4 := li_4
  have lt_5 := li_5
  have lt_7 := li_7
  have lt_13 := li_13
  have lt_14 := li_14
  have lt_91 := li_91
  have lFU : ((FU : Nat) : Int) = 100000 := rfl
  refine OK.ieq (fun h1 => ?_) (fun h1 => ?_)
  · skip
    exact OK.roq (k_X6_beginsLiteral_52 _ hI ) (fun v hv => by first | trivial | omega | exact hI.flds _ | exact hI.dflds _ | exact hI.recs _ | exact hI.drecs _ | exact hI.droot _ | omega)
  · skip
    refine OK.ieq (fun h2 => ?_) (fun h2 => ?_)
    · skip
      exact OK.roq (k_X6_beginsLiteral_52 _ hI ) (fun v hv => by first | trivial | omega | exact hI.flds _ | exact hI.dflds _ | exact hI.recs _ | exact hI.drecs _ | exact hI.droot _ | omega)
    · skip
      refine OK.ieq (fun h3 => ?_) (fun h3 => ?_)
      · skip
        exact OK.roq (k_X6_beginsLiteral_52 _ hI ) (fun v hv => by first | trivial | omega | exact hI.flds _ | exact hI.dflds _ | exact hI.recs _ | exact hI.drecs _ | exact hI.droot _ | omega)
      · skip
        refine OK.bndR (k_X6_isKeyword _ _ hI ) (fun v4 h5 => ?_)
        dsimp only
        refine OK.ieq (fun h6 => ?_) (fun h6 => ?_)
        · skip
          refine OK.bndR (k_X6_isKeyword _ _ hI ) (fun v7 h8 => ?_)
          dsimp only
          refine OK.ieq (fun h9 => ?_) (fun h9 => ?_)
          · skip
            refine OK.bndR (k_X6_isKeyword _ _ hI ) (fun v10 h11 => ?_)
            dsimp only
            refine OK.ieq (fun h12 => ?_) (fun h12 => ?_)
            · skip
              exact OK.roret (by first | trivial | omega | exact hI.flds _ | exact hI.dflds _ | exact hI.recs _ | exact hI.drecs _ | exact hI.droot _ | omega)
            · skip
              exact OK.roq (k_X6_beginsLiteral_52 _ hI ) (fun v hv => by first | trivial | omega | exact hI.flds _ | exact hI.dflds _ | exact hI.recs _ | exact hI.drecs _ | exact hI.droot _ | omega)
          · skip
            exact OK.roq (k_X6_beginsLiteral_52 _ hI ) (fun v hv => by first | trivial | omega | exact hI.flds _ | exact hI.dflds _ | exact hI.recs _ | exact hI.drecs _ | exact hI.droot _ | omega)
        · skip
          exact OK.roq (k_X6_beginsLiteral_52 _ hI ) (fun v hv => by first | trivial | omega | exact hI.flds _ | exact hI.dflds _ | exact hI.recs _ | exact hI.drecs _ | exact hI.droot _ | omega)

theorem k_X6_whole (σ : ST) (hI : IA σ)  : OK (f_X6_whole  σ) (RO σ fun v => True) := by
  unfold f_X6_whole
  have lt_0 := li_0
  have lt_1 := li_1
  have lFU : ((FU : Nat) : Int) = 100000 := rfl
  refine OK.ieq (fun h1 => ?_) (fun h1 => ?_)
  · skip
    exact OK.roret (by first | trivial | omega | exact hI.flds _ | exact hI.dflds _ | exact hI.recs _ | exact hI.drecs _ | exact hI.droot _ | omega)
  · skip
    exact OK.roret (by first | trivial | omega | exact hI.flds _ | exact hI.dflds _ | exact hI.recs _ | exact hI.drecs _ | exact hI.droot _ | omega)

theorem k_X6_fits_73 (σ : ST) (hI : IA σ)  : OK (f_X6_fits_73  σ) (RO σ fun v => v.toInt = 0 ∨ v.toInt = 1) := by
  unfold f_X6_fits_73
  have lt_0 := li_0
  have lt_1 := li_1
  have lFU : ((FU : Nat) : Int) = 100000 := rfl
  exact OK.roret (by first | trivial | omega | exact hI.flds _ | exact hI.dflds _ | exact hI.recs _ | exact hI.drecs _ | exact hI.droot _ | omega)

theorem k_X6_fits (p0 : Int32) (σ : ST) (hI : IA σ)  : OK (f_X6_fits  p0 σ) (RO σ fun v => v.toInt = 0 ∨ v.toInt = 1) := by
  unfold f_X6_fits
  have lt_0 := li_0
  have lt_1 := li_1
  have lt_2 := li_2
  have lt_3 := li_3
  have lt_4 := li_4
  have lt_5 := li_5
  have lt_6 := li_6
  have lt_7 := li_7
  have lt_13 := li_13
  have lt_14 := li_14
  have lt_91 := li_91
  have lt_123 := li_123
  have lFU : ((FU : Nat) : Int) = 100000 := rfl
  refine OK.ieq (fun h1 => ?_) (fun h1 => ?_)
  · skip
    refine OK.bndR (k_X6_isKeyword _ _ hI ) (fun v2 h3 => ?_)
    dsimp only
    refine OK.grd (b01 (by omega)) ?_
    exact OK.roret (by first | trivial | omega | exact hI.flds _ | exact hI.dflds _ | exact hI.recs _ | exact hI.drecs _ | exact hI.droot _ | omega)
  · skip
    refine OK.ieq (fun h4 => ?_) (fun h4 => ?_)
    · skip
      refine OK.bndR (k_X6_isKeyword _ _ hI ) (fun v5 h6 => ?_)
      dsimp only
      refine OK.ieq (fun h7 => ?_) (fun h7 => ?_)
      · skip
        refine OK.bndR (k_X6_isKeyword _ _ hI ) (fun v8 h9 => ?_)
        dsimp only
        refine OK.ieq (fun h10 => ?_) (fun h10 => ?_)
        · skip
          exact OK.roret (by first | trivial | omega | exact hI.flds _ | exact hI.dflds _ | exact hI.recs _ | exact hI.drecs _ | exact hI.droot _ | omega)
        · skip
          exact OK.roq (k_X6_fits_73 _ hI ) (fun v hv => by first | trivial | omega | exact hI.flds _ | exact hI.dflds _ | exact hI.recs _ | exact hI.drecs _ | exact hI.droot _ | omega)
      · skip
        exact OK.roq (k_X6_fits_73 _ hI ) (fun v hv => by first | trivial | omega | exact hI.flds _ | exact hI.dflds _ | exact hI.recs _ | exact hI.drecs _ | exact hI.droot _ | omega)
    · skip
      refine OK.ieq (fun h11 => ?_) (fun h11 => ?_)
      · skip
        refine OK.ieq (fun h12 => ?_) (fun h12 => ?_)
        · skip
          refine OK.ieq (fun h13 => ?_) (fun h13 => ?_)
          · skip
            refine OK.bndR (k_X6_whole _ hI ) (fun v14 h15 => ?_)
            dsimp only
            refine OK.bndR (k_X10_isInt _ _ hI ) (fun v16 h17 => ?_)
            dsimp only
            refine OK.ieq (fun h18 => ?_) (fun h18 => ?_)
            · skip
              exact OK.roret (by first | trivial | omega | exact hI.flds _ | exact hI.dflds _ | exact hI.recs _ | exact hI.drecs _ | exact hI.droot _ | omega)
            · skip
              exact OK.roret (by first | trivial | omega | exact hI.flds _ | exact hI.dflds _ | exact hI.recs _ | exact hI.drecs _ | exact hI.droot _ | omega)
          · skip
            exact OK.roret (by first | trivial | omega | exact hI.flds _ | exact hI.dflds _ | exact hI.recs _ | exact hI.drecs _ | exact hI.droot _ | omega)
        · skip
          exact OK.roret (by first | trivial | omega | exact hI.flds _ | exact hI.dflds _ | exact hI.recs _ | exact hI.drecs _ | exact hI.droot _ | omega)
      · skip
        refine OK.ieq (fun h19 => ?_) (fun h19 => ?_)
        · skip
          refine OK.ieq (fun h20 => ?_) (fun h20 => ?_)
          · skip
            refine OK.ieq (fun h21 => ?_) (fun h21 => ?_)
            · skip
              exact OK.roret (by first | trivial | omega | exact hI.flds _ | exact hI.dflds _ | exact hI.recs _ | exact hI.drecs _ | exact hI.droot _ | omega)
            · skip
              exact OK.roret (by first | trivial | omega | exact hI.flds _ | exact hI.dflds _ | exact hI.recs _ | exact hI.drecs _ | exact hI.droot _ | omega)
          · skip
            exact OK.roret (by first | trivial | omega | exact hI.flds _ | exact hI.dflds _ | exact hI.recs _ | exact hI.drecs _ | exact hI.droot _ | omega)
        · skip
          refine OK.ieq (fun h22 => ?_) (fun h22 => ?_)
          · skip
            refine OK.ieq (fun h23 => ?_) (fun h23 => ?_)
            · skip
              exact OK.roret (by first | trivial | omega | exact hI.flds _ | exact hI.dflds _ | exact hI.recs _ | exact hI.drecs _ | exact hI.droot _ | omega)
            · skip
              exact OK.roret (by first | trivial | omega | exact hI.flds _ | exact hI.dflds _ | exact hI.recs _ | exact hI.drecs _ | exact hI.droot _ | omega)
          · skip
            refine OK.ieq (fun h24 => ?_) (fun h24 => ?_)
            · skip
              refine OK.ieq (fun h25 => ?_) (fun h25 => ?_)
              · skip
                exact OK.roret (by first | trivial | omega | exact hI.flds _ | exact hI.dflds _ | exact hI.recs _ | exact hI.drecs _ | exact hI.droot _ | omega)
              · skip
                exact OK.roret (by first | trivial | omega | exact hI.flds _ | exact hI.dflds _ | exact hI.recs _ | exact hI.drecs _ | exact hI.droot _ | omega)
            · skip
              refine OK.ieq (fun h26 => ?_) (fun h26 => ?_)
              · skip
                refine OK.ieq (fun h27 => ?_) (fun h27 => ?_)
                · skip
                  exact OK.roret (by first | trivial | omega | exact hI.flds _ | exact hI.dflds _ | exact hI.recs _ | exact hI.drecs _ | exact hI.droot _ | omega)
                · skip
                  exact OK.roret (by first | trivial | omega | exact hI.flds _ | exact hI.dflds _ | exact hI.recs _ | exact hI.drecs _ | exact hI.droot _ | omega)
              · skip
                refine OK.ieq (fun h28 => ?_) (fun h28 => ?_)
                · skip
                  refine OK.ieq (fun h29 => ?_) (fun h29 => ?_)
                  · skip
                    exact OK.roret (by first | trivial | omega | exact hI.flds _ | exact hI.dflds _ | exact hI.recs _ | exact hI.drecs _ | exact hI.droot _ | omega)
                  · skip
                    exact OK.roret (by first | trivial | omega | exact hI.flds _ | exact hI.dflds _ | exact hI.recs _ | exact hI.drecs _ | exact hI.droot _ | omega)
                · skip
                  exact OK.roret (by first | trivial | omega | exact hI.flds _ | exact hI.dflds _ | exact hI.recs _ | exact hI.drecs _ | exact hI.droot _ | omega)

theorem k_X6_realBits_42 (x1 : Int64) (σ : ST) (hI : IA σ)  : OK (f_X6_realBits_42  x1 σ) (RO σ fun v => True) := by
  unfold f_X6_realBits_42
  have lt_0 := li_0
  have lt_1 := li_1
  have lFU : ((FU : Nat) : Int) = 100000 := rfl
  exact OK.roret (by first | trivial | omega | exact hI.flds _ | exact hI.dflds _ | exact hI.recs _ | exact hI.drecs _ | exact hI.droot _ | omega)

theorem k_X6_realBits (σ : ST) (hI : IA σ) : OK (f_X6_realBits σ) (RO σ fun _ => True) := by
  unfold f_X6_realBits
  have h1 := FP.Core.ddiv_out (FP.Core.i2d_fin (σ.1 2 11)).notNaN fp10_fin fp10_nz
  have h2 := FP.Core.dadd_out' (FP.Core.l2d_fin (σ.2.1 2 8)) h1
  refine OK.grd (fl_num h1) ?_
  refine OK.grd (fl_num h2) ?_
  refine OK.bndR (k_X10_bitsOfPositive _ _ h2) (fun v h3 => ?_)
  dsimp only
  refine OK.ieq (fun h => OK.roret trivial) (fun h => ?_)
  refine OK.ieq (fun h => ?_) (fun h => ?_)
  · exact OK.ieq (fun h => OK.roret trivial) (fun h => OK.roret trivial)
  · exact OK.roret trivial


theorem k_X6_worth (p0 : Int32) (σ : ST) (hI : IA σ)  : OK (f_X6_worth  p0 σ) (RO σ fun v => True) := by
  unfold f_X6_worth
  have lt_0 := li_0
  have lt_1 := li_1
  have lt_2 := li_2
  have lt_3 := li_3
  have lt_4 := li_4
  have lt_5 := li_5
  have lt_13 := li_13
  have lFU : ((FU : Nat) : Int) = 100000 := rfl
  refine OK.ieq (fun h1 => ?_) (fun h1 => ?_)
  · skip
    refine OK.bndR (k_X6_isKeyword _ _ hI ) (fun v2 h3 => ?_)
    dsimp only
    refine OK.ieq (fun h4 => ?_) (fun h4 => ?_)
    · skip
      exact OK.roret (by first | trivial | omega | exact hI.flds _ | exact hI.dflds _ | exact hI.recs _ | exact hI.drecs _ | exact hI.droot _ | omega)
    · skip
      exact OK.roret (by first | trivial | omega | exact hI.flds _ | exact hI.dflds _ | exact hI.recs _ | exact hI.drecs _ | exact hI.droot _ | omega)
  · skip
    refine OK.ieq (fun h5 => ?_) (fun h5 => ?_)
    · skip
      refine OK.bndR (k_X6_whole _ hI ) (fun v6 h7 => ?_)
      dsimp only
      exact OK.roret (by first | trivial | omega | exact hI.flds _ | exact hI.dflds _ | exact hI.recs _ | exact hI.drecs _ | exact hI.droot _ | omega)
    · skip
      refine OK.ieq (fun h8 => ?_) (fun h8 => ?_)
      · skip
        refine OK.bndR (k_X6_whole _ hI ) (fun v9 h10 => ?_)
        dsimp only
        exact OK.roret (by first | trivial | omega | exact hI.flds _ | exact hI.dflds _ | exact hI.recs _ | exact hI.drecs _ | exact hI.droot _ | omega)
      · skip
        refine OK.ieq (fun h11 => ?_) (fun h11 => ?_)
        · skip
          refine OK.bndR (k_X6_realBits _ hI ) (fun v12 h13 => ?_)
          dsimp only
          exact OK.roret (by first | trivial | omega | exact hI.flds _ | exact hI.dflds _ | exact hI.recs _ | exact hI.drecs _ | exact hI.droot _ | omega)
        · skip
          refine OK.ieq (fun h14 => ?_) (fun h14 => ?_)
          · skip
            exact OK.roret (by first | trivial | omega | exact hI.flds _ | exact hI.dflds _ | exact hI.recs _ | exact hI.drecs _ | exact hI.droot _ | omega)
          · skip
            exact OK.roret (by first | trivial | omega | exact hI.flds _ | exact hI.dflds _ | exact hI.recs _ | exact hI.drecs _ | exact hI.droot _ | omega)

theorem k_X3_parseElse (p0 : Int32) (p1 : Int32) (σ : ST) (hI : IA σ)  : OK (f_X3_parseElse  p0 p1 σ) (RW σ fun v => v.toInt = 0 ∨ v.toInt = 1) := by
  unfold f_X3_parseElse
  have lt_0 := li_0
  have lt_1 := li_1
  have lt_2 := li_2
  have lt_3 := li_3
  have lt_6 := li_6
  have lt_93 := li_93
  have lFU : ((FU : Nat) : Int) = 100000 := rfl
  refine OK.bndR (k_X6_isKeyword _ _ hI ) (fun v1 h2 => ?_)
  dsimp only
  refine OK.ieq (fun h3 => ?_) (fun h3 => ?_)
  · skip
    exact OK.wret hI Fr.rf (by first | trivial | omega | exact hI.flds _ | exact hI.dflds _ | exact hI.recs _ | exact hI.drecs _ | exact hI.droot _ | omega)
  · skip
    refine OK.bndS (k_X6_advance _ hI ) Fr.rf (fun s4 is4 fs4 => ?_)
    try dsimp only
    refine OK.bndR (k_X6_beginsLiteral _ is4 ) (fun v5 h6 => ?_)
    dsimp only
    refine OK.ieq (fun h7 => ?_) (fun h7 => ?_)
    · skip
      refine OK.bndW (k_X6_refuse _ _ is4 ) fs4 (fun v8 s10 is10 fs10 h9 => ?_)
      dsimp only
      refine OK.grd (b01 (by omega)) ?_
      exact OK.wret is10 fs10 (by first | trivial | omega | exact hI.flds _ | exact hI.dflds _ | exact hI.recs _ | exact hI.drecs _ | exact hI.droot _ | omega)
    · skip
      refine OK.bndR (k_X5_typeOf_20 _ _ _ is4 ) (fun v11 h12 => ?_)
      dsimp only
      refine OK.bndR (k_X5_firstChoice_20 _ _ is4 ) (fun v13 h14 => ?_)
      dsimp only
      refine OK.bndR (k_X5_sortOf_20 _ _ is4 ) (fun v15 h16 => ?_)
      dsimp only
      refine OK.bndR (k_X6_fits _ _ is4 ) (fun v17 h18 => ?_)
      dsimp only
      refine OK.ieq (fun h19 => ?_) (fun h19 => ?_)
      · skip
        refine OK.bndW (k_X6_refuse _ _ is4 ) fs4 (fun v20 s22 is22 fs22 h21 => ?_)
        dsimp only
        refine OK.grd (b01 (by omega)) ?_
        exact OK.wret is22 fs22 (by first | trivial | omega | exact hI.flds _ | exact hI.dflds _ | exact hI.recs _ | exact hI.drecs _ | exact hI.droot _ | omega)
      · skip
        refine OK.bndR (k_X6_worth _ _ is4 ) (fun v23 h24 => ?_)
        dsimp only
        refine OK.bndS (k_X5_setElse_20 _ _ _ _ is4 ) fs4 (fun s25 is25 fs25 => ?_)
        try dsimp only
        refine OK.bndS (k_X6_advance _ is25 ) fs25 (fun s26 is26 fs26 => ?_)
        try dsimp only
        refine OK.ieq (fun h27 => ?_) (fun h27 => ?_)
        · skip
          refine OK.ieq (fun h28 => ?_) (fun h28 => ?_)
          · skip
            refine OK.bndS (k_X6_advance _ is26 ) fs26 (fun s29 is29 fs29 => ?_)
            try dsimp only
            exact OK.wret is29 fs29 (by first | trivial | omega | exact hI.flds _ | exact hI.dflds _ | exact hI.recs _ | exact hI.drecs _ | exact hI.droot _ | omega)
          · skip
            refine OK.bndW (k_X6_refuse _ _ is26 ) fs26 (fun v30 s32 is32 fs32 h31 => ?_)
            dsimp only
            refine OK.grd (b01 (by omega)) ?_
            exact OK.wret is32 fs32 (by first | trivial | omega | exact hI.flds _ | exact hI.dflds _ | exact hI.recs _ | exact hI.drecs _ | exact hI.droot _ | omega)
        · skip
          exact OK.wret is26 fs26 (by first | trivial | omega | exact hI.flds _ | exact hI.dflds _ | exact hI.recs _ | exact hI.drecs _ | exact hI.droot _ | omega)
