theorem k_X4_findSources_89_50 (p0 : Int32) (p1 : Int32) (p2 : Int32) (σ : ST) (hI : IA σ) (hT : σ.2.2.2 89 = 50)  : OK (f_X4_findSources 89 50 p0 p1 p2 σ) (RS σ) := by
  unfold f_X4_findSources
  have lt_0 := li_0
  have lt_1 := li_1
  have lFU : ((FU : Nat) : Int) = 100000 := rfl
  exact OK.trS (k_X4_findSources_3_89_50 FU _ _ _ _ _ hI (by first | exact hT | (rw [Fr.rf.2.2.2]; exact hT)) (by omega)) Fr.rf

theorem k_X4_findSources_92_62 (p0 : Int32) (p1 : Int32) (p2 : Int32) (σ : ST) (hI : IA σ) (hT : σ.2.2.2 92 = 62)  : OK (f_X4_findSources 92 62 p0 p1 p2 σ) (RS σ) := by
  unfold f_X4_findSources
  have lt_0 := li_0
  have lt_1 := li_1
  have lFU : ((FU : Nat) : Int) = 100000 := rfl
  exact OK.trS (k_X4_findSources_3_92_62 FU _ _ _ _ _ hI (by first | exact hT | (rw [Fr.rf.2.2.2]; exact hT)) (by omega)) Fr.rf

theorem k_X4_findSources_92_74 (p0 : Int32) (p1 : Int32) (p2 : Int32) (σ : ST) (hI : IA σ) (hT : σ.2.2.2 92 = 74)  : OK (f_X4_findSources 92 74 p0 p1 p2 σ) (RS σ) := by
  unfold f_X4_findSources
  have lt_0 := li_0
  have lt_1 := li_1
  have lFU : ((FU : Nat) : Int) = 100000 := rfl
  exact OK.trS (k_X4_findSources_3_92_74 FU _ _ _ _ _ hI (by first | exact hT | (rw [Fr.rf.2.2.2]; exact hT)) (by omega)) Fr.rf

theorem k_X4_sourceAt_89_50 (p0 : Int32) (p1 : Int32) (σ : ST) (hI : IA σ) (hT : σ.2.2.2 89 = 50)  : OK (f_X4_sourceAt 89 50 p0 p1 σ) (RO σ fun v => True) := by
  unfold f_X4_sourceAt
  have lt_m1 := li_m1
  have lt_0 := li_0
  have lt_1 := li_1
  have lt_8 := li_8
  have lt_31 := li_31
  have lFU : ((FU : Nat) : Int) = 100000 := rfl
  refine OK.ilt (fun h1 => ?_) (fun h1 => ?_)
  · skip
    exact OK.roret (by first | trivial | omega | exact hI.flds _ | exact hI.dflds _ | exact hI.recs _ | exact hI.drecs _ | exact hI.droot _ | omega)
  · skip
    refine OK.ile (fun h2 => ?_) (fun h2 => ?_)
    · skip
      exact OK.roret (by first | trivial | omega | exact hI.flds _ | exact hI.dflds _ | exact hI.recs _ | exact hI.drecs _ | exact hI.droot _ | omega)
    · skip
      refine OK.ilt (fun h3 => ?_) (fun h3 => ?_)
      · skip
        exact OK.roret (by first | trivial | omega | exact hI.flds _ | exact hI.dflds _ | exact hI.recs _ | exact hI.drecs _ | exact hI.droot _ | omega)
      · skip
        refine OK.ile (fun h4 => ?_) (fun h4 => ?_)
        · skip
          exact OK.roret (by first | trivial | omega | exact hI.flds _ | exact hI.dflds _ | exact hI.recs _ | exact hI.drecs _ | exact hI.droot _ | omega)
        · skip
          obtain ⟨a5k, a5, a5l, a5r⟩ := i_mul p0 8
          rw [li_8] at a5
          try (refine k0el (k := a5k) ?_ (fun e0 => ?_); (focus omega); subst e0)
          obtain ⟨a6k, a6, a6l, a6r⟩ := i_add (p0 * 8) p1
          try (refine k0el (k := a6k) ?_ (fun e0 => ?_); (focus omega); subst e0)
          refine OK.grd ⟨by omega, by omega⟩ ?_
          exact OK.roret (by first | trivial | omega | exact hI.flds _ | exact hI.dflds _ | exact hI.recs _ | exact hI.drecs _ | exact hI.droot _ | omega)

theorem k_X4_sourceAt_92_62 (p0 : Int32) (p1 : Int32) (σ : ST) (hI : IA σ) (hT : σ.2.2.2 92 = 62)  : OK (f_X4_sourceAt 92 62 p0 p1 σ) (RO σ fun v => True) := by
  unfold f_X4_sourceAt
  have lt_m1 := li_m1
  have lt_0 := li_0
  have lt_1 := li_1
  have lt_8 := li_8
  have lt_31 := li_31
  have lFU : ((FU : Nat) : Int) = 100000 := rfl
  refine OK.ilt (fun h1 => ?_) (fun h1 => ?_)
  · skip
    exact OK.roret (by first | trivial | omega | exact hI.flds _ | exact hI.dflds _ | exact hI.recs _ | exact hI.drecs _ | exact hI.droot _ | omega)
  · skip
    refine OK.ile (fun h2 => ?_) (fun h2 => ?_)
    · skip
      exact OK.roret (by first | trivial | omega | exact hI.flds _ | exact hI.dflds _ | exact hI.recs _ | exact hI.drecs _ | exact hI.droot _ | omega)
    · skip
      refine OK.ilt (fun h3 => ?_) (fun h3 => ?_)
      · skip
        exact OK.roret (by first | trivial | omega | exact hI.flds _ | exact hI.dflds _ | exact hI.recs _ | exact hI.drecs _ | exact hI.droot _ | omega)
      · skip
        refine OK.ile (fun h4 => ?_) (fun h4 => ?_)
        · skip
          exact OK.roret (by first | trivial | omega | exact hI.flds _ | exact hI.dflds _ | exact hI.recs _ | exact hI.drecs _ | exact hI.droot _ | omega)
        · skip
          obtain ⟨a5k, a5, a5l, a5r⟩ := i_mul p0 8
          rw [li_8] at a5
          try (refine k0el (k := a5k) ?_ (fun e0 => ?_); (focus omega); subst e0)
          obtain ⟨a6k, a6, a6l, a6r⟩ := i_add (p0 * 8) p1
          try (refine k0el (k := a6k) ?_ (fun e0 => ?_); (focus omega); subst e0)
          refine OK.grd ⟨by omega, by omega⟩ ?_
          exact OK.roret (by first | trivial | omega | exact hI.flds _ | exact hI.dflds _ | exact hI.recs _ | exact hI.drecs _ | exact hI.droot _ | omega)

theorem k_X4_sourceAt_92_74 (p0 : Int32) (p1 : Int32) (σ : ST) (hI : IA σ) (hT : σ.2.2.2 92 = 74)  : OK (f_X4_sourceAt 92 74 p0 p1 σ) (RO σ fun v => True) := by
  unfold f_X4_sourceAt
  have lt_m1 := li_m1
  have lt_0 := li_0
  have lt_1 := li_1
  have lt_8 := li_8
  have lt_31 := li_31
  have lFU : ((FU : Nat) : Int) = 100000 := rfl
  refine OK.ilt (fun h1 => ?_) (fun h1 => ?_)
  · skip
    exact OK.roret (by first | trivial | omega | exact hI.flds _ | exact hI.dflds _ | exact hI.recs _ | exact hI.drecs _ | exact hI.droot _ | omega)
  · skip
    refine OK.ile (fun h2 => ?_) (fun h2 => ?_)
    · skip
      exact OK.roret (by first | trivial | omega | exact hI.flds _ | exact hI.dflds _ | exact hI.recs _ | exact hI.drecs _ | exact hI.droot _ | omega)
    · skip
      refine OK.ilt (fun h3 => ?_) (fun h3 => ?_)
      · skip
        exact OK.roret (by first | trivial | omega | exact hI.flds _ | exact hI.dflds _ | exact hI.recs _ | exact hI.drecs _ | exact hI.droot _ | omega)
      · skip
        refine OK.ile (fun h4 => ?_) (fun h4 => ?_)
        · skip
          exact OK.roret (by first | trivial | omega | exact hI.flds _ | exact hI.dflds _ | exact hI.recs _ | exact hI.drecs _ | exact hI.droot _ | omega)
        · skip
          obtain ⟨a5k, a5, a5l, a5r⟩ := i_mul p0 8
          rw [li_8] at a5
          try (refine k0el (k := a5k) ?_ (fun e0 => ?_); (focus omega); subst e0)
          obtain ⟨a6k, a6, a6l, a6r⟩ := i_add (p0 * 8) p1
          try (refine k0el (k := a6k) ?_ (fun e0 => ?_); (focus omega); subst e0)
          refine OK.grd ⟨by omega, by omega⟩ ?_
          exact OK.roret (by first | trivial | omega | exact hI.flds _ | exact hI.dflds _ | exact hI.recs _ | exact hI.drecs _ | exact hI.droot _ | omega)

theorem k_X5_branchOf_23_4 : ∀ (n : Nat) (x2 : Int32) (x3 : Int32) (x4 : Int32) (σ : ST), IA σ → (0 ≤ x4.toInt ∧ x4.toInt ≤ 4 ∧ (4 : Int) - x4.toInt < n) → OK (f_X5_branchOf_23 4 n x2 x3 x4 σ) (RO σ fun v => True) := by
  intro n
  induction n with
  | zero =>
    intro x2 x3 x4 σ hI hv
    omega
  | succ n ih =>
    intro x2 x3 x4 σ hI hv
    rw [f_X5_branchOf_23]
    have lt_0 := li_0
    have lt_1 := li_1
    have lt_4 := li_4
    have lFU : ((FU : Nat) : Int) = 100000 := rfl
    refine OK.ile (fun h1 => ?_) (fun h1 => ?_)
    · skip
      exact OK.roret (by first | trivial | omega | exact hI.flds _ | exact hI.dflds _ | exact hI.recs _ | exact hI.drecs _ | exact hI.droot _ | omega)
    · skip
      refine OK.ile (fun h2 => ?_) (fun h2 => ?_)
      · skip
        exact OK.roret (by first | trivial | omega | exact hI.flds _ | exact hI.dflds _ | exact hI.recs _ | exact hI.drecs _ | exact hI.droot _ | omega)
      · skip
        refine OK.bndR (k_X5_branchAfter_4 _ _ hI ) (fun v3 h4 => ?_)
        dsimp only
        obtain ⟨a5k, a5, a5l, a5r⟩ := i_add x4 1
        try (refine k0el (k := a5k) ?_ (fun e0 => ?_); (focus omega); subst e0)
        exact OK.roq (ih _ _ _ _ hI (by omega)) (fun v hv => by first | trivial | omega | exact hI.flds _ | exact hI.dflds _ | exact hI.recs _ | exact hI.drecs _ | exact hI.droot _ | omega)

theorem k_X5_branchOf_19_4 (x2 : Int32) (y0 : Int32) (σ : ST) (hI : IA σ)  : OK (f_X5_branchOf_19 4 x2 y0 σ) (RO σ fun v => True) := by
  unfold f_X5_branchOf_19
  have lt_0 := li_0
  have lt_1 := li_1
  have lFU : ((FU : Nat) : Int) = 100000 := rfl
  exact OK.roq (k_X5_branchOf_23_4 FU _ _ _ _ hI (by omega)) (fun v hv => by first | trivial | omega | exact hI.flds _ | exact hI.dflds _ | exact hI.recs _ | exact hI.drecs _ | exact hI.droot _ | omega)

theorem k_X5_branchOf_4 (p0 : Int32) (p1 : Int32) (σ : ST) (hI : IA σ)  : OK (f_X5_branchOf 4 p0 p1 σ) (RO σ fun v => True) := by
  unfold f_X5_branchOf
  have lt_m1 := li_m1
  have lt_0 := li_0
  have lt_1 := li_1
  have lt_8 := li_8
  have lFU : ((FU : Nat) : Int) = 100000 := rfl
  refine OK.bndR (k_X5_sortOf_4 _ _ hI ) (fun v1 h2 => ?_)
  dsimp only
  refine OK.ieq (fun h3 => ?_) (fun h3 => ?_)
  · skip
    refine OK.bndR (k_X5_innerOf_4 _ _ hI ) (fun v4 h5 => ?_)
    dsimp only
    exact OK.roq (k_X5_branchOf_19_4 _ _ _ hI ) (fun v hv => by first | trivial | omega | exact hI.flds _ | exact hI.dflds _ | exact hI.recs _ | exact hI.drecs _ | exact hI.droot _ | omega)
  · skip
    exact OK.roq (k_X5_branchOf_19_4 _ _ _ hI ) (fun v hv => by first | trivial | omega | exact hI.flds _ | exact hI.dflds _ | exact hI.recs _ | exact hI.drecs _ | exact hI.droot _ | omega)

theorem k_X5_branchesOf_20_4 : ∀ (n : Nat) (x2 : Int32) (x3 : Int32) (σ : ST), IA σ → (0 ≤ x2.toInt ∧ x2.toInt ≤ 4 ∧ (4 : Int) - x2.toInt < n) → OK (f_X5_branchesOf_20 4 n x2 x3 σ) (RO σ fun v => 0 ≤ v.toInt ∧ v.toInt ≤ 4) := by
  intro n
  induction n with
  | zero =>
    intro x2 x3 σ hI hv
    omega
  | succ n ih =>
    intro x2 x3 σ hI hv
    rw [f_X5_branchesOf_20]
    have lt_m1 := li_m1
    have lt_0 := li_0
    have lt_1 := li_1
    have lt_4 := li_4
    have lFU : ((FU : Nat) : Int) = 100000 := rfl
    refine OK.ieq (fun h1 => ?_) (fun h1 => ?_)
    · skip
      exact OK.roret (by first | trivial | omega | exact hI.flds _ | exact hI.dflds _ | exact hI.recs _ | exact hI.drecs _ | exact hI.droot _ | omega)
    · skip
      refine OK.ile (fun h2 => ?_) (fun h2 => ?_)
      · skip
        exact OK.roret (by first | trivial | omega | exact hI.flds _ | exact hI.dflds _ | exact hI.recs _ | exact hI.drecs _ | exact hI.droot _ | omega)
      · skip
        refine OK.bndR (k_X5_branchAfter_4 _ _ hI ) (fun v3 h4 => ?_)
        dsimp only
        obtain ⟨a5k, a5, a5l, a5r⟩ := i_add x2 1
        try (refine k0el (k := a5k) ?_ (fun e0 => ?_); (focus omega); subst e0)
        exact OK.roq (ih _ _ _ hI (by omega)) (fun v hv => by first | trivial | omega | exact hI.flds _ | exact hI.dflds _ | exact hI.recs _ | exact hI.drecs _ | exact hI.droot _ | omega)

theorem k_X5_branchesOf_4 (p0 : Int32) (σ : ST) (hI : IA σ)  : OK (f_X5_branchesOf 4 p0 σ) (RO σ fun v => 0 ≤ v.toInt ∧ v.toInt ≤ 4) := by
  unfold f_X5_branchesOf
  have lt_0 := li_0
  have lt_1 := li_1
  have lt_8 := li_8
  have lFU : ((FU : Nat) : Int) = 100000 := rfl
  refine OK.bndR (k_X5_sortOf_4 _ _ hI ) (fun v1 h2 => ?_)
  dsimp only
  refine OK.ieq (fun h3 => ?_) (fun h3 => ?_)
  · skip
    refine OK.bndR (k_X5_innerOf_4 _ _ hI ) (fun v4 h5 => ?_)
    dsimp only
    exact OK.roq (k_X5_branchesOf_20_4 FU _ _ _ hI (by omega)) (fun v hv => by first | trivial | omega | exact hI.flds _ | exact hI.dflds _ | exact hI.recs _ | exact hI.drecs _ | exact hI.droot _ | omega)
  · skip
    exact OK.roret (by first | trivial | omega | exact hI.flds _ | exact hI.dflds _ | exact hI.recs _ | exact hI.drecs _ | exact hI.droot _ | omega)

theorem k_X4_take_89_50 {N0 : Nat} {r_X4_take : Nat → Nat → Int32 → Int32 → Int32 → Int32 → Int32 → ST → Option (ST)} (hr_X4_take : ∀ (p0 : Int32) (p1 : Int32) (p2 : Int32) (p3 : Int32) (p4 : Int32) (σ : ST), IA σ → σ.2.2.2 89 = 50 → 0 ≤ p4.toInt ∧ p4.toInt ≤ 31 ∧ (128 : Int) ≤ (N0 : Nat) + 4 * p4.toInt → OK (r_X4_take 89 50 p0 p1 p2 p3 p4 σ) (RS σ)) {r_X4_takeField : Nat → Nat → Int32 → Int32 → Int32 → Int32 → Int32 → ST → Option (ST)} (hr_X4_takeField : ∀ (p0 : Int32) (p1 : Int32) (p2 : Int32) (p3 : Int32) (p4 : Int32) (σ : ST), IA σ → σ.2.2.2 89 = 50 → 0 ≤ p4.toInt ∧ p4.toInt ≤ 30 ∧ (125 : Int) ≤ (N0 : Nat) + 4 * p4.toInt → OK (r_X4_takeField 89 50 p0 p1 p2 p3 p4 σ) (RS σ)) {r_X4_takeList : Nat → Nat → Int32 → Int32 → Int32 → Int32 → Int32 → ST → Option (ST)} (hr_X4_takeList : ∀ (p0 : Int32) (p1 : Int32) (p2 : Int32) (p3 : Int32) (p4 : Int32) (σ : ST), IA σ → σ.2.2.2 89 = 50 → 0 ≤ p4.toInt ∧ p4.toInt ≤ 30 ∧ (126 : Int) ≤ (N0 : Nat) + 4 * p4.toInt → OK (r_X4_takeList 89 50 p0 p1 p2 p3 p4 σ) (RS σ)) {r_X4_takeOwn : Nat → Nat → Int32 → Int32 → Int32 → Int32 → Int32 → ST → Option (ST)} (hr_X4_takeOwn : ∀ (p0 : Int32) (p1 : Int32) (p2 : Int32) (p3 : Int32) (p4 : Int32) (σ : ST), IA σ → σ.2.2.2 89 = 50 → 0 ≤ p4.toInt ∧ p4.toInt ≤ 30 ∧ (127 : Int) ≤ (N0 : Nat) + 4 * p4.toInt → OK (r_X4_takeOwn 89 50 p0 p1 p2 p3 p4 σ) (RS σ)) {r_X4_takeRecord : Nat → Nat → Int32 → Int32 → Int32 → Int32 → Int32 → ST → Option (ST)} (hr_X4_takeRecord : ∀ (p0 : Int32) (p1 : Int32) (p2 : Int32) (p3 : Int32) (p4 : Int32) (σ : ST), IA σ → σ.2.2.2 89 = 50 → 0 ≤ p4.toInt ∧ p4.toInt ≤ 30 ∧ (126 : Int) ≤ (N0 : Nat) + 4 * p4.toInt → OK (r_X4_takeRecord 89 50 p0 p1 p2 p3 p4 σ) (RS σ)) (p0 : Int32) (p1 : Int32) (p2 : Int32) (p3 : Int32) (p4 : Int32) (σ : ST) (hI : IA σ) (hT : σ.2.2.2 89 = 50) (hv : 0 ≤ p4.toInt ∧ p4.toInt ≤ 31 ∧ (128 : Int) ≤ (N0 + 1 : Nat) + 4 * p4.toInt)  : OK (f_X4_take r_X4_take r_X4_takeField r_X4_takeList r_X4_takeOwn r_X4_takeRecord 89 50 p0 p1 p2 p3 p4 σ) (RS σ) := by
  unfold f_X4_take
  have lt_m1 := li_m1
  have lt_0 := li_0
  have lt_1 := li_1
  have lt_8 := li_8
  have lt_13 := li_13
  have lt_16 := li_16
  have lt_31 := li_31
  have lt_200 := li_200
  have lFU : ((FU : Nat) : Int) = 100000 := rfl
  have lFR : ((FR : Nat) : Int) = 160 := rfl
  refine OK.ilt (fun h1 => ?_) (fun h1 => ?_)
  · skip
    refine OK.ieq (fun h2 => ?_) (fun h2 => ?_)
    · skip
      refine OK.bndR (k_X4_isEmptyThere_89_50 _ _ _ hI (by first | exact hT | exact hI.r89 | (rw [Fr.rf.2.2.2]; exact hT))) (fun v3 h4 => ?_)
      dsimp only
      refine OK.ieq (fun h5 => ?_) (fun h5 => ?_)
      · skip
        unfold f_X4_take_34
        try dsimp only
        refine OK.bndR (k_X5_sortOf_4 _ _ hI ) (fun v6 h7 => ?_)
        dsimp only
        refine OK.ieq (fun h8 => ?_) (fun h8 => ?_)
        · skip
          refine OK.bndR (k_X5_branchesOf_4 _ _ hI ) (fun v9 h10 => ?_)
          dsimp only
          refine OK.bndW (k_X4_takeCount_89_50 _ _ _ hI (by first | exact hT | exact hI.r89 | (rw [Fr.rf.2.2.2]; exact hT))) Fr.rf (fun v11 s13 is13 fs13 h12 => ?_)
          dsimp only
          refine OK.ieq (fun h14 => ?_) (fun h14 => ?_)
          · skip
            refine OK.bndR (k_X5_branchOf_4 _ _ _ is13 ) (fun v15 h16 => ?_)
            dsimp only
            refine OK.bndS (k_X4_step_89_50 _ _ is13 (by first | exact hT | exact hI.r89 | (rw [fs13.2.2.2]; exact hT))) fs13 (fun s17 is17 fs17 => ?_)
            try dsimp only
            refine OK.ieq (fun h18 => ?_) (fun h18 => ?_)
            · skip
              unfold f_X4_take_140
              try dsimp only
              refine OK.bndS (hr_X4_takeOwn _ _ _ _ _ _ is17 (by first | exact hT | exact hI.r89 | (rw [fs17.2.2.2]; exact hT)) (by omega)) fs17 (fun s19 is19 fs19 => ?_)
              try dsimp only
              refine OK.bndS (k_X4_stepBack_89_50 _ is19 (by first | exact hT | exact hI.r89 | (rw [fs19.2.2.2]; exact hT))) fs19 (fun s20 is20 fs20 => ?_)
              try dsimp only
              exact OK.sret is20 fs20
            · skip
              refine OK.bndR (k_X0_fits _ _ _ is17 ) (fun v21 h22 => ?_)
              dsimp only
              refine OK.ieq (fun h23 => ?_) (fun h23 => ?_)
              · skip
                refine OK.bndS (k_X4_fail_89_50 _ _ _ is17 (by first | exact hT | exact hI.r89 | (rw [fs17.2.2.2]; exact hT))) fs17 (fun s24 is24 fs24 => ?_)
                try dsimp only
                exact OK.sret is24 fs24
              · skip
                unfold f_X4_take_140
                try dsimp only
                refine OK.bndS (hr_X4_takeOwn _ _ _ _ _ _ is17 (by first | exact hT | exact hI.r89 | (rw [fs17.2.2.2]; exact hT)) (by omega)) fs17 (fun s25 is25 fs25 => ?_)
                try dsimp only
                refine OK.bndS (k_X4_stepBack_89_50 _ is25 (by first | exact hT | exact hI.r89 | (rw [fs25.2.2.2]; exact hT))) fs25 (fun s26 is26 fs26 => ?_)
                try dsimp only
                exact OK.sret is26 fs26
          · skip
            exact OK.sret is13 fs13
        · skip
          refine OK.bndS (hr_X4_takeOwn _ _ _ _ _ _ hI (by first | exact hT | exact hI.r89 | (rw [Fr.rf.2.2.2]; exact hT)) (by omega)) Fr.rf (fun s27 is27 fs27 => ?_)
          try dsimp only
          exact OK.sret is27 fs27
      · skip
        exact OK.sret hI Fr.rf
    · skip
      unfold f_X4_take_34
      try dsimp only
      refine OK.bndR (k_X5_sortOf_4 _ _ hI ) (fun v28 h29 => ?_)
      dsimp only
      refine OK.ieq (fun h30 => ?_) (fun h30 => ?_)
      · skip
        refine OK.bndR (k_X5_branchesOf_4 _ _ hI ) (fun v31 h32 => ?_)
        dsimp only
        refine OK.bndW (k_X4_takeCount_89_50 _ _ _ hI (by first | exact hT | exact hI.r89 | (rw [Fr.rf.2.2.2]; exact hT))) Fr.rf (fun v33 s35 is35 fs35 h34 => ?_)
        dsimp only
        refine OK.ieq (fun h36 => ?_) (fun h36 => ?_)
        · skip
          refine OK.bndR (k_X5_branchOf_4 _ _ _ is35 ) (fun v37 h38 => ?_)
          dsimp only
          refine OK.bndS (k_X4_step_89_50 _ _ is35 (by first | exact hT | exact hI.r89 | (rw [fs35.2.2.2]; exact hT))) fs35 (fun s39 is39 fs39 => ?_)
          try dsimp only
          refine OK.ieq (fun h40 => ?_) (fun h40 => ?_)
          · skip
            unfold f_X4_take_140
            try dsimp only
            refine OK.bndS (hr_X4_takeOwn _ _ _ _ _ _ is39 (by first | exact hT | exact hI.r89 | (rw [fs39.2.2.2]; exact hT)) (by omega)) fs39 (fun s41 is41 fs41 => ?_)
            try dsimp only
            refine OK.bndS (k_X4_stepBack_89_50 _ is41 (by first | exact hT | exact hI.r89 | (rw [fs41.2.2.2]; exact hT))) fs41 (fun s42 is42 fs42 => ?_)
            try dsimp only
            exact OK.sret is42 fs42
          · skip
            refine OK.bndR (k_X0_fits _ _ _ is39 ) (fun v43 h44 => ?_)
            dsimp only
            refine OK.ieq (fun h45 => ?_) (fun h45 => ?_)
            · skip
              refine OK.bndS (k_X4_fail_89_50 _ _ _ is39 (by first | exact hT | exact hI.r89 | (rw [fs39.2.2.2]; exact hT))) fs39 (fun s46 is46 fs46 => ?_)
              try dsimp only
              exact OK.sret is46 fs46
            · skip
              unfold f_X4_take_140
              try dsimp only
              refine OK.bndS (hr_X4_takeOwn _ _ _ _ _ _ is39 (by first | exact hT | exact hI.r89 | (rw [fs39.2.2.2]; exact hT)) (by omega)) fs39 (fun s47 is47 fs47 => ?_)
              try dsimp only
              refine OK.bndS (k_X4_stepBack_89_50 _ is47 (by first | exact hT | exact hI.r89 | (rw [fs47.2.2.2]; exact hT))) fs47 (fun s48 is48 fs48 => ?_)
              try dsimp only
              exact OK.sret is48 fs48
        · skip
          exact OK.sret is35 fs35
      · skip
        refine OK.bndS (hr_X4_takeOwn _ _ _ _ _ _ hI (by first | exact hT | exact hI.r89 | (rw [Fr.rf.2.2.2]; exact hT)) (by omega)) Fr.rf (fun s49 is49 fs49 => ?_)
        try dsimp only
        exact OK.sret is49 fs49
  · skip
    refine OK.bndS (k_X4_fail_89_50 _ _ _ hI (by first | exact hT | exact hI.r89 | (rw [Fr.rf.2.2.2]; exact hT))) Fr.rf (fun s50 is50 fs50 => ?_)
    try dsimp only
    exact OK.sret is50 fs50

theorem k_X4_take_92_62 {N0 : Nat} {r_X4_take : Nat → Nat → Int32 → Int32 → Int32 → Int32 → Int32 → ST → Option (ST)} (hr_X4_take : ∀ (p0 : Int32) (p1 : Int32) (p2 : Int32) (p3 : Int32) (p4 : Int32) (σ : ST), IA σ → σ.2.2.2 92 = 62 → 0 ≤ p4.toInt ∧ p4.toInt ≤ 31 ∧ (128 : Int) ≤ (N0 : Nat) + 4 * p4.toInt → OK (r_X4_take 92 62 p0 p1 p2 p3 p4 σ) (RS σ)) {r_X4_takeField : Nat → Nat → Int32 → Int32 → Int32 → Int32 → Int32 → ST → Option (ST)} (hr_X4_takeField : ∀ (p0 : Int32) (p1 : Int32) (p2 : Int32) (p3 : Int32) (p4 : Int32) (σ : ST), IA σ → σ.2.2.2 92 = 62 → 0 ≤ p4.toInt ∧ p4.toInt ≤ 30 ∧ (125 : Int) ≤ (N0 : Nat) + 4 * p4.toInt → OK (r_X4_takeField 92 62 p0 p1 p2 p3 p4 σ) (RS σ)) {r_X4_takeList : Nat → Nat → Int32 → Int32 → Int32 → Int32 → Int32 → ST → Option (ST)} (hr_X4_takeList : ∀ (p0 : Int32) (p1 : Int32) (p2 : Int32) (p3 : Int32) (p4 : Int32) (σ : ST), IA σ → σ.2.2.2 92 = 62 → 0 ≤ p4.toInt ∧ p4.toInt ≤ 30 ∧ (126 : Int) ≤ (N0 : Nat) + 4 * p4.toInt → OK (r_X4_takeList 92 62 p0 p1 p2 p3 p4 σ) (RS σ)) {r_X4_takeOwn : Nat → Nat → Int32 → Int32 → Int32 → Int32 → Int32 → ST → Option (ST)} (hr_X4_takeOwn : ∀ (p0 : Int32) (p1 : Int32) (p2 : Int32) (p3 : Int32) (p4 : Int32) (σ : ST), IA σ → σ.2.2.2 92 = 62 → 0 ≤ p4.toInt ∧ p4.toInt ≤ 30 ∧ (127 : Int) ≤ (N0 : Nat) + 4 * p4.toInt → OK (r_X4_takeOwn 92 62 p0 p1 p2 p3 p4 σ) (RS σ)) {r_X4_takeRecord : Nat → Nat → Int32 → Int32 → Int32 → Int32 → Int32 → ST → Option (ST)} (hr_X4_takeRecord : ∀ (p0 : Int32) (p1 : Int32) (p2 : Int32) (p3 : Int32) (p4 : Int32) (σ : ST), IA σ → σ.2.2.2 92 = 62 → 0 ≤ p4.toInt ∧ p4.toInt ≤ 30 ∧ (126 : Int) ≤ (N0 : Nat) + 4 * p4.toInt → OK (r_X4_takeRecord 92 62 p0 p1 p2 p3 p4 σ) (RS σ)) (p0 : Int32) (p1 : Int32) (p2 : Int32) (p3 : Int32) (p4 : Int32) (σ : ST) (hI : IA σ) (hT : σ.2.2.2 92 = 62) (hv : 0 ≤ p4.toInt ∧ p4.toInt ≤ 31 ∧ (128 : Int) ≤ (N0 + 1 : Nat) + 4 * p4.toInt)  : OK (f_X4_take r_X4_take r_X4_takeField r_X4_takeList r_X4_takeOwn r_X4_takeRecord 92 62 p0 p1 p2 p3 p4 σ) (RS σ) := by
  unfold f_X4_take
  have lt_m1 := li_m1
  have lt_0 := li_0
  have lt_1 := li_1
  have lt_8 := li_8
  have lt_13 := li_13
  have lt_16 := li_16
  have lt_31 := li_31
  have lt_200 := li_200
  have lFU : ((FU : Nat) : Int) = 100000 := rfl
  have lFR : ((FR : Nat) : Int) = 160 := rfl
  refine OK.ilt (fun h1 => ?_) (fun h1 => ?_)
  · skip
    refine OK.ieq (fun h2 => ?_) (fun h2 => ?_)
    · skip
      refine OK.bndR (k_X4_isEmptyThere_92_62 _ _ _ hI (by first | exact hT | exact hI.r89 | (rw [Fr.rf.2.2.2]; exact hT))) (fun v3 h4 => ?_)
      dsimp only
      refine OK.ieq (fun h5 => ?_) (fun h5 => ?_)
      · skip
        unfold f_X4_take_34
        try dsimp only
        refine OK.bndR (k_X5_sortOf_4 _ _ hI ) (fun v6 h7 => ?_)
        dsimp only
        refine OK.ieq (fun h8 => ?_) (fun h8 => ?_)
        · skip
          refine OK.bndR (k_X5_branchesOf_4 _ _ hI ) (fun v9 h10 => ?_)
          dsimp only
          refine OK.bndW (k_X4_takeCount_92_62 _ _ _ hI (by first | exact hT | exact hI.r89 | (rw [Fr.rf.2.2.2]; exact hT))) Fr.rf (fun v11 s13 is13 fs13 h12 => ?_)
          dsimp only
          refine OK.ieq (fun h14 => ?_) (fun h14 => ?_)
          · skip
            refine OK.bndR (k_X5_branchOf_4 _ _ _ is13 ) (fun v15 h16 => ?_)
            dsimp only
            refine OK.bndS (k_X4_step_92_62 _ _ is13 (by first | exact hT | exact hI.r89 | (rw [fs13.2.2.2]; exact hT))) fs13 (fun s17 is17 fs17 => ?_)
            try dsimp only
            refine OK.ieq (fun h18 => ?_) (fun h18 => ?_)
            · skip
              unfold f_X4_take_140
              try dsimp only
              refine OK.bndS (hr_X4_takeOwn _ _ _ _ _ _ is17 (by first | exact hT | exact hI.r89 | (rw [fs17.2.2.2]; exact hT)) (by omega)) fs17 (fun s19 is19 fs19 => ?_)
              try dsimp only
              refine OK.bndS (k_X4_stepBack_92_62 _ is19 (by first | exact hT | exact hI.r89 | (rw [fs19.2.2.2]; exact hT))) fs19 (fun s20 is20 fs20 => ?_)
              try dsimp only
              exact OK.sret is20 fs20
            · skip
              refine OK.bndR (k_X0_fits _ _ _ is17 ) (fun v21 h22 => ?_)
              dsimp only
              refine OK.ieq (fun h23 => ?_) (fun h23 => ?_)
              · skip
                refine OK.bndS (k_X4_fail_92_62 _ _ _ is17 (by first | exact hT | exact hI.r89 | (rw [fs17.2.2.2]; exact hT))) fs17 (fun s24 is24 fs24 => ?_)
                try dsimp only
                exact OK.sret is24 fs24
              · skip
                unfold f_X4_take_140
                try dsimp only
                refine OK.bndS (hr_X4_takeOwn _ _ _ _ _ _ is17 (by first | exact hT | exact hI.r89 | (rw [fs17.2.2.2]; exact hT)) (by omega)) fs17 (fun s25 is25 fs25 => ?_)
                try dsimp only
                refine OK.bndS (k_X4_stepBack_92_62 _ is25 (by first | exact hT | exact hI.r89 | (rw [fs25.2.2.2]; exact hT))) fs25 (fun s26 is26 fs26 => ?_)
                try dsimp only
                exact OK.sret is26 fs26
          · skip
            exact OK.sret is13 fs13
        · skip
          refine OK.bndS (hr_X4_takeOwn _ _ _ _ _ _ hI (by first | exact hT | exact hI.r89 | (rw [Fr.rf.2.2.2]; exact hT)) (by omega)) Fr.rf (fun s27 is27 fs27 => ?_)
          try dsimp only
          exact OK.sret is27 fs27
      · skip
        exact OK.sret hI Fr.rf
    · skip
      unfold f_X4_take_34
      try dsimp only
      refine OK.bndR (k_X5_sortOf_4 _ _ hI ) (fun v28 h29 => ?_)
      dsimp only
      refine OK.ieq (fun h30 => ?_) (fun h30 => ?_)
      · skip
        refine OK.bndR (k_X5_branchesOf_4 _ _ hI ) (fun v31 h32 => ?_)
        dsimp only
        refine OK.bndW (k_X4_takeCount_92_62 _ _ _ hI (by first | exact hT | exact hI.r89 | (rw [Fr.rf.2.2.2]; exact hT))) Fr.rf (fun v33 s35 is35 fs35 h34 => ?_)
        dsimp only
        refine OK.ieq (fun h36 => ?_) (fun h36 => ?_)
        · skip
          refine OK.bndR (k_X5_branchOf_4 _ _ _ is35 ) (fun v37 h38 => ?_)
          dsimp only
          refine OK.bndS (k_X4_step_92_62 _ _ is35 (by first | exact hT | exact hI.r89 | (rw [fs35.2.2.2]; exact hT))) fs35 (fun s39 is39 fs39 => ?_)
          try dsimp only
          refine OK.ieq (fun h40 => ?_) (fun h40 => ?_)
          · skip
            unfold f_X4_take_140
            try dsimp only
            refine OK.bndS (hr_X4_takeOwn _ _ _ _ _ _ is39 (by first | exact hT | exact hI.r89 | (rw [fs39.2.2.2]; exact hT)) (by omega)) fs39 (fun s41 is41 fs41 => ?_)
            try dsimp only
            refine OK.bndS (k_X4_stepBack_92_62 _ is41 (by first | exact hT | exact hI.r89 | (rw [fs41.2.2.2]; exact hT))) fs41 (fun s42 is42 fs42 => ?_)
            try dsimp only
            exact OK.sret is42 fs42
          · skip
            refine OK.bndR (k_X0_fits _ _ _ is39 ) (fun v43 h44 => ?_)
            dsimp only
            refine OK.ieq (fun h45 => ?_) (fun h45 => ?_)
            · skip
              refine OK.bndS (k_X4_fail_92_62 _ _ _ is39 (by first | exact hT | exact hI.r89 | (rw [fs39.2.2.2]; exact hT))) fs39 (fun s46 is46 fs46 => ?_)
              try dsimp only
              exact OK.sret is46 fs46
            · skip
              unfold f_X4_take_140
              try dsimp only
              refine OK.bndS (hr_X4_takeOwn _ _ _ _ _ _ is39 (by first | exact hT | exact hI.r89 | (rw [fs39.2.2.2]; exact hT)) (by omega)) fs39 (fun s47 is47 fs47 => ?_)
              try dsimp only
              refine OK.bndS (k_X4_stepBack_92_62 _ is47 (by first | exact hT | exact hI.r89 | (rw [fs47.2.2.2]; exact hT))) fs47 (fun s48 is48 fs48 => ?_)
              try dsimp only
              exact OK.sret is48 fs48
        · skip
          exact OK.sret is35 fs35
      · skip
        refine OK.bndS (hr_X4_takeOwn _ _ _ _ _ _ hI (by first | exact hT | exact hI.r89 | (rw [Fr.rf.2.2.2]; exact hT)) (by omega)) Fr.rf (fun s49 is49 fs49 => ?_)
        try dsimp only
        exact OK.sret is49 fs49
  · skip
    refine OK.bndS (k_X4_fail_92_62 _ _ _ hI (by first | exact hT | exact hI.r89 | (rw [Fr.rf.2.2.2]; exact hT))) Fr.rf (fun s50 is50 fs50 => ?_)
    try dsimp only
    exact OK.sret is50 fs50

theorem k_X4_take_92_74 {N0 : Nat} {r_X4_take : Nat → Nat → Int32 → Int32 → Int32 → Int32 → Int32 → ST → Option (ST)} (hr_X4_take : ∀ (p0 : Int32) (p1 : Int32) (p2 : Int32) (p3 : Int32) (p4 : Int32) (σ : ST), IA σ → σ.2.2.2 92 = 74 → 0 ≤ p4.toInt ∧ p4.toInt ≤ 31 ∧ (128 : Int) ≤ (N0 : Nat) + 4 * p4.toInt → OK (r_X4_take 92 74 p0 p1 p2 p3 p4 σ) (RS σ)) {r_X4_takeField : Nat → Nat → Int32 → Int32 → Int32 → Int32 → Int32 → ST → Option (ST)} (hr_X4_takeField : ∀ (p0 : Int32) (p1 : Int32) (p2 : Int32) (p3 : Int32) (p4 : Int32) (σ : ST), IA σ → σ.2.2.2 92 = 74 → 0 ≤ p4.toInt ∧ p4.toInt ≤ 30 ∧ (125 : Int) ≤ (N0 : Nat) + 4 * p4.toInt → OK (r_X4_takeField 92 74 p0 p1 p2 p3 p4 σ) (RS σ)) {r_X4_takeList : Nat → Nat → Int32 → Int32 → Int32 → Int32 → Int32 → ST → Option (ST)} (hr_X4_takeList : ∀ (p0 : Int32) (p1 : Int32) (p2 : Int32) (p3 : Int32) (p4 : Int32) (σ : ST), IA σ → σ.2.2.2 92 = 74 → 0 ≤ p4.toInt ∧ p4.toInt ≤ 30 ∧ (126 : Int) ≤ (N0 : Nat) + 4 * p4.toInt → OK (r_X4_takeList 92 74 p0 p1 p2 p3 p4 σ) (RS σ)) {r_X4_takeOwn : Nat → Nat → Int32 → Int32 → Int32 → Int32 → Int32 → ST → Option (ST)} (hr_X4_takeOwn : ∀ (p0 : Int32) (p1 : Int32) (p2 : Int32) (p3 : Int32) (p4 : Int32) (σ : ST), IA σ → σ.2.2.2 92 = 74 → 0 ≤ p4.toInt ∧ p4.toInt ≤ 30 ∧ (127 : Int) ≤ (N0 : Nat) + 4 * p4.toInt → OK (r_X4_takeOwn 92 74 p0 p1 p2 p3 p4 σ) (RS σ)) {r_X4_takeRecord : Nat → Nat → Int32 → Int32 → Int32 → Int32 → Int32 → ST → Option (ST)} (hr_X4_takeRecord : ∀ (p0 : Int32) (p1 : Int32) (p2 : Int32) (p3 : Int32) (p4 : Int32) (σ : ST), IA σ → σ.2.2.2 92 = 74 → 0 ≤ p4.toInt ∧ p4.toInt ≤ 30 ∧ (126 : Int) ≤ (N0 : Nat) + 4 * p4.toInt → OK (r_X4_takeRecord 92 74 p0 p1 p2 p3 p4 σ) (RS σ)) (p0 : Int32) (p1 : Int32) (p2 : Int32) (p3 : Int32) (p4 : Int32) (σ : ST) (hI : IA σ) (hT : σ.2.2.2 92 = 74) (hv : 0 ≤ p4.toInt ∧ p4.toInt ≤ 31 ∧ (128 : Int) ≤ (N0 + 1 : Nat) + 4 * p4.toInt)  : OK (f_X4_take r_X4_take r_X4_takeField r_X4_takeList r_X4_takeOwn r_X4_takeRecord 92 74 p0 p1 p2 p3 p4 σ) (RS σ) := by
  unfold f_X4_take
  have lt_m1 := li_m1
  have lt_0 := li_0
  have lt_1 := li_1
  have lt_8 := li_8
  have lt_13 := li_13
  have lt_16 := li_16
  have lt_31 := li_31
  have lt_200 := li_200
  have lFU : ((FU : Nat) : Int) = 100000 := rfl
  have lFR : ((FR : Nat) : Int) = 160 := rfl
  refine OK.ilt (fun h1 => ?_) (fun h1 => ?_)
  · skip
    refine OK.ieq (fun h2 => ?_) (fun h2 => ?_)
    · skip
      refine OK.bndR (k_X4_isEmptyThere_92_74 _ _ _ hI (by first | exact hT | exact hI.r89 | (rw [Fr.rf.2.2.2]; exact hT))) (fun v3 h4 => ?_)
      dsimp only
      refine OK.ieq (fun h5 => ?_) (fun h5 => ?_)
      · skip
        unfold f_X4_take_34
        try dsimp only
        refine OK.bndR (k_X5_sortOf_4 _ _ hI ) (fun v6 h7 => ?_)
        dsimp only
        refine OK.ieq (fun h8 => ?_) (fun h8 => ?_)
        · skip
          refine OK.bndR (k_X5_branchesOf_4 _ _ hI ) (fun v9 h10 => ?_)
          dsimp only
          refine OK.bndW (k_X4_takeCount_92_74 _ _ _ hI (by first | exact hT | exact hI.r89 | (rw [Fr.rf.2.2.2]; exact hT))) Fr.rf (fun v11 s13 is13 fs13 h12 => ?_)
          dsimp only
          refine OK.ieq (fun h14 => ?_) (fun h14 => ?_)
          · skip
            refine OK.bndR (k_X5_branchOf_4 _ _ _ is13 ) (fun v15 h16 => ?_)
            dsimp only
            refine OK.bndS (k_X4_step_92_74 _ _ is13 (by first | exact hT | exact hI.r89 | (rw [fs13.2.2.2]; exact hT))) fs13 (fun s17 is17 fs17 => ?_)
            try dsimp only
            refine OK.ieq (fun h18 => ?_) (fun h18 => ?_)
            · skip
              unfold f_X4_take_140
              try dsimp only
              refine OK.bndS (hr_X4_takeOwn _ _ _ _ _ _ is17 (by first | exact hT | exact hI.r89 | (rw [fs17.2.2.2]; exact hT)) (by omega)) fs17 (fun s19 is19 fs19 => ?_)
              try dsimp only
              refine OK.bndS (k_X4_stepBack_92_74 _ is19 (by first | exact hT | exact hI.r89 | (rw [fs19.2.2.2]; exact hT))) fs19 (fun s20 is20 fs20 => ?_)
              try dsimp only
              exact OK.sret is20 fs20
            · skip
              refine OK.bndR (k_X0_fits _ _ _ is17 ) (fun v21 h22 => ?_)
              dsimp only
              refine OK.ieq (fun h23 => ?_) (fun h23 => ?_)
              · skip
                refine OK.bndS (k_X4_fail_92_74 _ _ _ is17 (by first | exact hT | exact hI.r89 | (rw [fs17.2.2.2]; exact hT))) fs17 (fun s24 is24 fs24 => ?_)
                try dsimp only
                exact OK.sret is24 fs24
              · skip
                unfold f_X4_take_140
                try dsimp only
                refine OK.bndS (hr_X4_takeOwn _ _ _ _ _ _ is17 (by first | exact hT | exact hI.r89 | (rw [fs17.2.2.2]; exact hT)) (by omega)) fs17 (fun s25 is25 fs25 => ?_)
                try dsimp only
                refine OK.bndS (k_X4_stepBack_92_74 _ is25 (by first | exact hT | exact hI.r89 | (rw [fs25.2.2.2]; exact hT))) fs25 (fun s26 is26 fs26 => ?_)
                try dsimp only
                exact OK.sret is26 fs26
          · skip
            exact OK.sret is13 fs13
        · skip
          refine OK.bndS (hr_X4_takeOwn _ _ _ _ _ _ hI (by first | exact hT | exact hI.r89 | (rw [Fr.rf.2.2.2]; exact hT)) (by omega)) Fr.rf (fun s27 is27 fs27 => ?_)
          try dsimp only
          exact OK.sret is27 fs27
      · skip
        exact OK.sret hI Fr.rf
    · skip
      unfold f_X4_take_34
      try dsimp only
      refine OK.bndR (k_X5_sortOf_4 _ _ hI ) (fun v28 h29 => ?_)
      dsimp only
      refine OK.ieq (fun h30 => ?_) (fun h30 => ?_)
      · skip
        refine OK.bndR (k_X5_branchesOf_4 _ _ hI ) (fun v31 h32 => ?_)
        dsimp only
        refine OK.bndW (k_X4_takeCount_92_74 _ _ _ hI (by first | exact hT | exact hI.r89 | (rw [Fr.rf.2.2.2]; exact hT))) Fr.rf (fun v33 s35 is35 fs35 h34 => ?_)
        dsimp only
        refine OK.ieq (fun h36 => ?_) (fun h36 => ?_)
        · skip
          refine OK.bndR (k_X5_branchOf_4 _ _ _ is35 ) (fun v37 h38 => ?_)
          dsimp only
          refine OK.bndS (k_X4_step_92_74 _ _ is35 (by first | exact hT | exact hI.r89 | (rw [fs35.2.2.2]; exact hT))) fs35 (fun s39 is39 fs39 => ?_)
          try dsimp only
          refine OK.ieq (fun h40 => ?_) (fun h40 => ?_)
          · skip
            unfold f_X4_take_140
            try dsimp only
            refine OK.bndS (hr_X4_takeOwn _ _ _ _ _ _ is39 (by first | exact hT | exact hI.r89 | (rw [fs39.2.2.2]; exact hT)) (by omega)) fs39 (fun s41 is41 fs41 => ?_)
            try dsimp only
            refine OK.bndS (k_X4_stepBack_92_74 _ is41 (by first | exact hT | exact hI.r89 | (rw [fs41.2.2.2]; exact hT))) fs41 (fun s42 is42 fs42 => ?_)
            try dsimp only
            exact OK.sret is42 fs42
          · skip
            refine OK.bndR (k_X0_fits _ _ _ is39 ) (fun v43 h44 => ?_)
            dsimp only
            refine OK.ieq (fun h45 => ?_) (fun h45 => ?_)
            · skip
              refine OK.bndS (k_X4_fail_92_74 _ _ _ is39 (by first | exact hT | exact hI.r89 | (rw [fs39.2.2.2]; exact hT))) fs39 (fun s46 is46 fs46 => ?_)
              try dsimp only
              exact OK.sret is46 fs46
            · skip
              unfold f_X4_take_140
              try dsimp only
              refine OK.bndS (hr_X4_takeOwn _ _ _ _ _ _ is39 (by first | exact hT | exact hI.r89 | (rw [fs39.2.2.2]; exact hT)) (by omega)) fs39 (fun s47 is47 fs47 => ?_)
              try dsimp only
              refine OK.bndS (k_X4_stepBack_92_74 _ is47 (by first | exact hT | exact hI.r89 | (rw [fs47.2.2.2]; exact hT))) fs47 (fun s48 is48 fs48 => ?_)
              try dsimp only
              exact OK.sret is48 fs48
        · skip
          exact OK.sret is35 fs35
      · skip
        refine OK.bndS (hr_X4_takeOwn _ _ _ _ _ _ hI (by first | exact hT | exact hI.r89 | (rw [Fr.rf.2.2.2]; exact hT)) (by omega)) Fr.rf (fun s49 is49 fs49 => ?_)
        try dsimp only
        exact OK.sret is49 fs49
  · skip
    refine OK.bndS (k_X4_fail_92_74 _ _ _ hI (by first | exact hT | exact hI.r89 | (rw [Fr.rf.2.2.2]; exact hT))) Fr.rf (fun s50 is50 fs50 => ?_)
    try dsimp only
    exact OK.sret is50 fs50

theorem k_X4_takeField_12_89_50 {N0 : Nat} {r_X4_take : Nat → Nat → Int32 → Int32 → Int32 → Int32 → Int32 → ST → Option (ST)} (hr_X4_take : ∀ (p0 : Int32) (p1 : Int32) (p2 : Int32) (p3 : Int32) (p4 : Int32) (σ : ST), IA σ → σ.2.2.2 89 = 50 → 0 ≤ p4.toInt ∧ p4.toInt ≤ 31 ∧ (128 : Int) ≤ (N0 : Nat) + 4 * p4.toInt → OK (r_X4_take 89 50 p0 p1 p2 p3 p4 σ) (RS σ)) {r_X4_takeField : Nat → Nat → Int32 → Int32 → Int32 → Int32 → Int32 → ST → Option (ST)} (hr_X4_takeField : ∀ (p0 : Int32) (p1 : Int32) (p2 : Int32) (p3 : Int32) (p4 : Int32) (σ : ST), IA σ → σ.2.2.2 89 = 50 → 0 ≤ p4.toInt ∧ p4.toInt ≤ 30 ∧ (125 : Int) ≤ (N0 : Nat) + 4 * p4.toInt → OK (r_X4_takeField 89 50 p0 p1 p2 p3 p4 σ) (RS σ)) {r_X4_takeList : Nat → Nat → Int32 → Int32 → Int32 → Int32 → Int32 → ST → Option (ST)} (hr_X4_takeList : ∀ (p0 : Int32) (p1 : Int32) (p2 : Int32) (p3 : Int32) (p4 : Int32) (σ : ST), IA σ → σ.2.2.2 89 = 50 → 0 ≤ p4.toInt ∧ p4.toInt ≤ 30 ∧ (126 : Int) ≤ (N0 : Nat) + 4 * p4.toInt → OK (r_X4_takeList 89 50 p0 p1 p2 p3 p4 σ) (RS σ)) {r_X4_takeOwn : Nat → Nat → Int32 → Int32 → Int32 → Int32 → Int32 → ST → Option (ST)} (hr_X4_takeOwn : ∀ (p0 : Int32) (p1 : Int32) (p2 : Int32) (p3 : Int32) (p4 : Int32) (σ : ST), IA σ → σ.2.2.2 89 = 50 → 0 ≤ p4.toInt ∧ p4.toInt ≤ 30 ∧ (127 : Int) ≤ (N0 : Nat) + 4 * p4.toInt → OK (r_X4_takeOwn 89 50 p0 p1 p2 p3 p4 σ) (RS σ)) {r_X4_takeRecord : Nat → Nat → Int32 → Int32 → Int32 → Int32 → Int32 → ST → Option (ST)} (hr_X4_takeRecord : ∀ (p0 : Int32) (p1 : Int32) (p2 : Int32) (p3 : Int32) (p4 : Int32) (σ : ST), IA σ → σ.2.2.2 89 = 50 → 0 ≤ p4.toInt ∧ p4.toInt ≤ 30 ∧ (126 : Int) ≤ (N0 : Nat) + 4 * p4.toInt → OK (r_X4_takeRecord 89 50 p0 p1 p2 p3 p4 σ) (RS σ)) : ∀ (n : Nat) (x1 : Int32) (x2 : Int32) (x3 : Int32) (x4 : Int32) (x5 : Int32) (x6 : Int32) (x7 : Int32) (x8 : Int32) (σ : ST), IA σ → σ.2.2.2 89 = 50 → ((0 ≤ x5.toInt ∧ x5.toInt ≤ 30 ∧ (125 : Int) ≤ (N0 + 1 : Nat) + 4 * x5.toInt) ∧ 0 ≤ x8.toInt ∧ x8.toInt ≤ 8 ∧ (8 : Int) - x8.toInt < n) → OK (f_X4_takeField_12 r_X4_take r_X4_takeField r_X4_takeList r_X4_takeOwn r_X4_takeRecord 89 50 n x1 x2 x3 x4 x5 x6 x7 x8 σ) (RS σ) := by
  intro n
  induction n with
  | zero =>
    intro x1 x2 x3 x4 x5 x6 x7 x8 σ hI hT hv
    omega
  | succ n ih =>
    intro x1 x2 x3 x4 x5 x6 x7 x8 σ hI hT hv
    rw [f_X4_takeField_12]
    have lt_m1 := li_m1
    have lt_0 := li_0
    have lt_1 := li_1
    have lFU : ((FU : Nat) : Int) = 100000 := rfl
    have lFR : ((FR : Nat) : Int) = 160 := rfl
    refine OK.bndR (k_X5_fieldsOf_4 _ _ hI ) (fun v1 h2 => ?_)
    dsimp only
    refine OK.ile (fun h3 => ?_) (fun h3 => ?_)
    · skip
      unfold f_X4_takeField_82
      try dsimp only
      refine OK.ieq (fun h4 => ?_) (fun h4 => ?_)
      · skip
        obtain ⟨a5k, a5, a5l, a5r⟩ := i_add x5 1
        try (refine k0el (k := a5k) ?_ (fun e0 => ?_); (focus omega); subst e0)
        refine OK.bndS (hr_X4_take _ _ _ _ _ _ hI (by first | exact hT | exact hI.r89 | (rw [Fr.rf.2.2.2]; exact hT)) (by omega)) Fr.rf (fun s6 is6 fs6 => ?_)
        try dsimp only
        exact OK.sret is6 fs6
      · skip
        exact OK.sret hI Fr.rf
    · skip
      refine OK.ieq (fun h7 => ?_) (fun h7 => ?_)
      · skip
        refine OK.bndR (k_X4_sourceAt_89_50 _ _ _ hI (by first | exact hT | exact hI.r89 | (rw [Fr.rf.2.2.2]; exact hT))) (fun v8 h9 => ?_)
        dsimp only
        refine OK.ieq (fun h10 => ?_) (fun h10 => ?_)
        · skip
          have iz13 : IA (stI σ 89 5 x6) := (ia_I_89 hI)
          have fz13 : Fr σ (stI σ 89 5 x6) := (fr_I_89 Fr.rf)
          generalize (stI σ 89 5 x6) = z13 at iz13 fz13 ⊢
          refine OK.bndR (k_X5_typeOf_4 _ _ _ iz13 ) (fun v11 h12 => ?_)
          dsimp only
          obtain ⟨a14k, a14, a14l, a14r⟩ := i_add x5 1
          try (refine k0el (k := a14k) ?_ (fun e0 => ?_); (focus omega); subst e0)
          refine OK.bndS (hr_X4_take _ _ _ _ _ _ iz13 (by first | exact hT | exact hI.r89 | (rw [fz13.2.2.2]; exact hT)) (by omega)) fz13 (fun s15 is15 fs15 => ?_)
          try dsimp only
          unfold f_X4_takeField_76
          try dsimp only
          obtain ⟨a16k, a16, a16l, a16r⟩ := i_add x8 1
          try (refine k0el (k := a16k) ?_ (fun e0 => ?_); (focus omega); subst e0)
          exact OK.trS (ih _ _ _ _ _ _ _ _ _ is15 (by first | exact hT | (rw [fs15.2.2.2]; exact hT)) (by omega)) fs15
        · skip
          unfold f_X4_takeField_76
          try dsimp only
          obtain ⟨a17k, a17, a17l, a17r⟩ := i_add x8 1
          try (refine k0el (k := a17k) ?_ (fun e0 => ?_); (focus omega); subst e0)
          exact OK.trS (ih _ _ _ _ _ _ _ _ _ hI (by first | exact hT | (rw [Fr.rf.2.2.2]; exact hT)) (by omega)) Fr.rf
      · skip
        unfold f_X4_takeField_82
        try dsimp only
        refine OK.ieq (fun h18 => ?_) (fun h18 => ?_)
        · skip
          obtain ⟨a19k, a19, a19l, a19r⟩ := i_add x5 1
          try (refine k0el (k := a19k) ?_ (fun e0 => ?_); (focus omega); subst e0)
          refine OK.bndS (hr_X4_take _ _ _ _ _ _ hI (by first | exact hT | exact hI.r89 | (rw [Fr.rf.2.2.2]; exact hT)) (by omega)) Fr.rf (fun s20 is20 fs20 => ?_)
          try dsimp only
          exact OK.sret is20 fs20
        · skip
          exact OK.sret hI Fr.rf

theorem k_X4_takeField_12_92_62 {N0 : Nat} {r_X4_take : Nat → Nat → Int32 → Int32 → Int32 → Int32 → Int32 → ST → Option (ST)} (hr_X4_take : ∀ (p0 : Int32) (p1 : Int32) (p2 : Int32) (p3 : Int32) (p4 : Int32) (σ : ST), IA σ → σ.2.2.2 92 = 62 → 0 ≤ p4.toInt ∧ p4.toInt ≤ 31 ∧ (128 : Int) ≤ (N0 : Nat) + 4 * p4.toInt → OK (r_X4_take 92 62 p0 p1 p2 p3 p4 σ) (RS σ)) {r_X4_takeField : Nat → Nat → Int32 → Int32 → Int32 → Int32 → Int32 → ST → Option (ST)} (hr_X4_takeField : ∀ (p0 : Int32) (p1 : Int32) (p2 : Int32) (p3 : Int32) (p4 : Int32) (σ : ST), IA σ → σ.2.2.2 92 = 62 → 0 ≤ p4.toInt ∧ p4.toInt ≤ 30 ∧ (125 : Int) ≤ (N0 : Nat) + 4 * p4.toInt → OK (r_X4_takeField 92 62 p0 p1 p2 p3 p4 σ) (RS σ)) {r_X4_takeList : Nat → Nat → Int32 → Int32 → Int32 → Int32 → Int32 → ST → Option (ST)} (hr_X4_takeList : ∀ (p0 : Int32) (p1 : Int32) (p2 : Int32) (p3 : Int32) (p4 : Int32) (σ : ST), IA σ → σ.2.2.2 92 = 62 → 0 ≤ p4.toInt ∧ p4.toInt ≤ 30 ∧ (126 : Int) ≤ (N0 : Nat) + 4 * p4.toInt → OK (r_X4_takeList 92 62 p0 p1 p2 p3 p4 σ) (RS σ)) {r_X4_takeOwn : Nat → Nat → Int32 → Int32 → Int32 → Int32 → Int32 → ST → Option (ST)} (hr_X4_takeOwn : ∀ (p0 : Int32) (p1 : Int32) (p2 : Int32) (p3 : Int32) (p4 : Int32) (σ : ST), IA σ → σ.2.2.2 92 = 62 → 0 ≤ p4.toInt ∧ p4.toInt ≤ 30 ∧ (127 : Int) ≤ (N0 : Nat) + 4 * p4.toInt → OK (r_X4_takeOwn 92 62 p0 p1 p2 p3 p4 σ) (RS σ)) {r_X4_takeRecord : Nat → Nat → Int32 → Int32 → Int32 → Int32 → Int32 → ST → Option (ST)} (hr_X4_takeRecord : ∀ (p0 : Int32) (p1 : Int32) (p2 : Int32) (p3 : Int32) (p4 : Int32) (σ : ST), IA σ → σ.2.2.2 92 = 62 → 0 ≤ p4.toInt ∧ p4.toInt ≤ 30 ∧ (126 : Int) ≤ (N0 : Nat) + 4 * p4.toInt → OK (r_X4_takeRecord 92 62 p0 p1 p2 p3 p4 σ) (RS σ)) : ∀ (n : Nat) (x1 : Int32) (x2 : Int32) (x3 : Int32) (x4 : Int32) (x5 : Int32) (x6 : Int32) (x7 : Int32) (x8 : Int32) (σ : ST), IA σ → σ.2.2.2 92 = 62 → ((0 ≤ x5.toInt ∧ x5.toInt ≤ 30 ∧ (125 : Int) ≤ (N0 + 1 : Nat) + 4 * x5.toInt) ∧ 0 ≤ x8.toInt ∧ x8.toInt ≤ 8 ∧ (8 : Int) - x8.toInt < n) → OK (f_X4_takeField_12 r_X4_take r_X4_takeField r_X4_takeList r_X4_takeOwn r_X4_takeRecord 92 62 n x1 x2 x3 x4 x5 x6 x7 x8 σ) (RS σ) := by
  intro n
  induction n with
  | zero =>
    intro x1 x2 x3 x4 x5 x6 x7 x8 σ hI hT hv
    omega
  | succ n ih =>
    intro x1 x2 x3 x4 x5 x6 x7 x8 σ hI hT hv
    rw [f_X4_takeField_12]
    have lt_m1 := li_m1
    have lt_0 := li_0
    have lt_1 := li_1
    have lFU : ((FU : Nat) : Int) = 100000 := rfl
    have lFR : ((FR : Nat) : Int) = 160 := rfl
    refine OK.bndR (k_X5_fieldsOf_4 _ _ hI ) (fun v1 h2 => ?_)
    dsimp only
    refine OK.ile (fun h3 => ?_) (fun h3 => ?_)
    · skip
      unfold f_X4_takeField_82
      try dsimp only
      refine OK.ieq (fun h4 => ?_) (fun h4 => ?_)
      · skip
        obtain ⟨a5k, a5, a5l, a5r⟩ := i_add x5 1
        try (refine k0el (k := a5k) ?_ (fun e0 => ?_); (focus omega); subst e0)
        refine OK.bndS (hr_X4_take _ _ _ _ _ _ hI (by first | exact hT | exact hI.r89 | (rw [Fr.rf.2.2.2]; exact hT)) (by omega)) Fr.rf (fun s6 is6 fs6 => ?_)
        try dsimp only
        exact OK.sret is6 fs6
      · skip
        exact OK.sret hI Fr.rf
    · skip
      refine OK.ieq (fun h7 => ?_) (fun h7 => ?_)
      · skip
        refine OK.bndR (k_X4_sourceAt_92_62 _ _ _ hI (by first | exact hT | exact hI.r89 | (rw [Fr.rf.2.2.2]; exact hT))) (fun v8 h9 => ?_)
        dsimp only
        refine OK.ieq (fun h10 => ?_) (fun h10 => ?_)
        · skip
          have iz13 : IA (stI σ 92 5 x6) := (ia_I_92 hI)
          have fz13 : Fr σ (stI σ 92 5 x6) := (fr_I_92 Fr.rf)
          generalize (stI σ 92 5 x6) = z13 at iz13 fz13 ⊢
          refine OK.bndR (k_X5_typeOf_4 _ _ _ iz13 ) (fun v11 h12 => ?_)
          dsimp only
          obtain ⟨a14k, a14, a14l, a14r⟩ := i_add x5 1
          try (refine k0el (k := a14k) ?_ (fun e0 => ?_); (focus omega); subst e0)
          refine OK.bndS (hr_X4_take _ _ _ _ _ _ iz13 (by first | exact hT | exact hI.r89 | (rw [fz13.2.2.2]; exact hT)) (by omega)) fz13 (fun s15 is15 fs15 => ?_)
          try dsimp only
          unfold f_X4_takeField_76
          try dsimp only
          obtain ⟨a16k, a16, a16l, a16r⟩ := i_add x8 1
          try (refine k0el (k := a16k) ?_ (fun e0 => ?_); (focus omega); subst e0)
          exact OK.trS (ih _ _ _ _ _ _ _ _ _ is15 (by first | exact hT | (rw [fs15.2.2.2]; exact hT)) (by omega)) fs15
        · skip
          unfold f_X4_takeField_76
          try dsimp only
          obtain ⟨a17k, a17, a17l, a17r⟩ := i_add x8 1
          try (refine k0el (k := a17k) ?_ (fun e0 => ?_); (focus omega); subst e0)
          exact OK.trS (ih _ _ _ _ _ _ _ _ _ hI (by first | exact hT | (rw [Fr.rf.2.2.2]; exact hT)) (by omega)) Fr.rf
      · skip
        unfold f_X4_takeField_82
        try dsimp only
        refine OK.ieq (fun h18 => ?_) (fun h18 => ?_)
        · skip
          obtain ⟨a19k, a19, a19l, a19r⟩ := i_add x5 1
          try (refine k0el (k := a19k) ?_ (fun e0 => ?_); (focus omega); subst e0)
          refine OK.bndS (hr_X4_take _ _ _ _ _ _ hI (by first | exact hT | exact hI.r89 | (rw [Fr.rf.2.2.2]; exact hT)) (by omega)) Fr.rf (fun s20 is20 fs20 => ?_)
          try dsimp only
          exact OK.sret is20 fs20
        · skip
          exact OK.sret hI Fr.rf

theorem k_X4_takeField_12_92_74 {N0 : Nat} {r_X4_take : Nat → Nat → Int32 → Int32 → Int32 → Int32 → Int32 → ST → Option (ST)} (hr_X4_take : ∀ (p0 : Int32) (p1 : Int32) (p2 : Int32) (p3 : Int32) (p4 : Int32) (σ : ST), IA σ → σ.2.2.2 92 = 74 → 0 ≤ p4.toInt ∧ p4.toInt ≤ 31 ∧ (128 : Int) ≤ (N0 : Nat) + 4 * p4.toInt → OK (r_X4_take 92 74 p0 p1 p2 p3 p4 σ) (RS σ)) {r_X4_takeField : Nat → Nat → Int32 → Int32 → Int32 → Int32 → Int32 → ST → Option (ST)} (hr_X4_takeField : ∀ (p0 : Int32) (p1 : Int32) (p2 : Int32) (p3 : Int32) (p4 : Int32) (σ : ST), IA σ → σ.2.2.2 92 = 74 → 0 ≤ p4.toInt ∧ p4.toInt ≤ 30 ∧ (125 : Int) ≤ (N0 : Nat) + 4 * p4.toInt → OK (r_X4_takeField 92 74 p0 p1 p2 p3 p4 σ) (RS σ)) {r_X4_takeList : Nat → Nat → Int32 → Int32 → Int32 → Int32 → Int32 → ST → Option (ST)} (hr_X4_takeList : ∀ (p0 : Int32) (p1 : Int32) (p2 : Int32) (p3 : Int32) (p4 : Int32) (σ : ST), IA σ → σ.2.2.2 92 = 74 → 0 ≤ p4.toInt ∧ p4.toInt ≤ 30 ∧ (126 : Int) ≤ (N0 : Nat) + 4 * p4.toInt → OK (r_X4_takeList 92 74 p0 p1 p2 p3 p4 σ) (RS σ)) {r_X4_takeOwn : Nat → Nat → Int32 → Int32 → Int32 → Int32 → Int32 → ST → Option (ST)} (hr_X4_takeOwn : ∀ (p0 : Int32) (p1 : Int32) (p2 : Int32) (p3 : Int32) (p4 : Int32) (σ : ST), IA σ → σ.2.2.2 92 = 74 → 0 ≤ p4.toInt ∧ p4.toInt ≤ 30 ∧ (127 : Int) ≤ (N0 : Nat) + 4 * p4.toInt → OK (r_X4_takeOwn 92 74 p0 p1 p2 p3 p4 σ) (RS σ)) {r_X4_takeRecord : Nat → Nat → Int32 → Int32 → Int32 → Int32 → Int32 → ST → Option (ST)} (hr_X4_takeRecord : ∀ (p0 : Int32) (p1 : Int32) (p2 : Int32) (p3 : Int32) (p4 : Int32) (σ : ST), IA σ → σ.2.2.2 92 = 74 → 0 ≤ p4.toInt ∧ p4.toInt ≤ 30 ∧ (126 : Int) ≤ (N0 : Nat) + 4 * p4.toInt → OK (r_X4_takeRecord 92 74 p0 p1 p2 p3 p4 σ) (RS σ)) : ∀ (n : Nat) (x1 : Int32) (x2 : Int32) (x3 : Int32) (x4 : Int32) (x5 : Int32) (x6 : Int32) (x7 : Int32) (x8 : Int32) (σ : ST), IA σ → σ.2.2.2 92 = 74 → ((0 ≤ x5.toInt ∧ x5.toInt ≤ 30 ∧ (125 : Int) ≤ (N0 + 1 : Nat) + 4 * x5.toInt) ∧ 0 ≤ x8.toInt ∧ x8.toInt ≤ 8 ∧ (8 : Int) - x8.toInt < n) → OK (f_X4_takeField_12 r_X4_take r_X4_takeField r_X4_takeList r_X4_takeOwn r_X4_takeRecord 92 74 n x1 x2 x3 x4 x5 x6 x7 x8 σ) (RS σ) := by
  intro n
  induction n with
  | zero =>
    intro x1 x2 x3 x4 x5 x6 x7 x8 σ hI hT hv
    omega
  | succ n ih =>
    intro x1 x2 x3 x4 x5 x6 x7 x8 σ hI hT hv
    rw [f_X4_takeField_12]
    have lt_m1 := li_m1
    have lt_0 := li_0
    have lt_1 := li_1
    have lFU : ((FU : Nat) : Int) = 100000 := rfl
    have lFR : ((FR : Nat) : Int) = 160 := rfl
    refine OK.bndR (k_X5_fieldsOf_4 _ _ hI ) (fun v1 h2 => ?_)
    dsimp only
    refine OK.ile (fun h3 => ?_) (fun h3 => ?_)
    · skip
      unfold f_X4_takeField_82
      try dsimp only
      refine OK.ieq (fun h4 => ?_) (fun h4 => ?_)
      · skip
        obtain ⟨a5k, a5, a5l, a5r⟩ := i_add x5 1
        try (refine k0el (k := a5k) ?_ (fun e0 => ?_); (focus omega); subst e0)
        refine OK.bndS (hr_X4_take _ _ _ _ _ _ hI (by first | exact hT | exact hI.r89 | (rw [Fr.rf.2.2.2]; exact hT)) (by omega)) Fr.rf (fun s6 is6 fs6 => ?_)
        try dsimp only
        exact OK.sret is6 fs6
      · skip
        exact OK.sret hI Fr.rf
    · skip
      refine OK.ieq (fun h7 => ?_) (fun h7 => ?_)
      · skip
        refine OK.bndR (k_X4_sourceAt_92_74 _ _ _ hI (by first | exact hT | exact hI.r89 | (rw [Fr.rf.2.2.2]; exact hT))) (fun v8 h9 => ?_)
        dsimp only
        refine OK.ieq (fun h10 => ?_) (fun h10 => ?_)
        · skip
          have iz13 : IA (stI σ 92 5 x6) := (ia_I_92 hI)
          have fz13 : Fr σ (stI σ 92 5 x6) := (fr_I_92 Fr.rf)
          generalize (stI σ 92 5 x6) = z13 at iz13 fz13 ⊢
          refine OK.bndR (k_X5_typeOf_4 _ _ _ iz13 ) (fun v11 h12 => ?_)
          dsimp only
          obtain ⟨a14k, a14, a14l, a14r⟩ := i_add x5 1
          try (refine k0el (k := a14k) ?_ (fun e0 => ?_); (focus omega); subst e0)
          refine OK.bndS (hr_X4_take _ _ _ _ _ _ iz13 (by first | exact hT | exact hI.r89 | (rw [fz13.2.2.2]; exact hT)) (by omega)) fz13 (fun s15 is15 fs15 => ?_)
          try dsimp only
          unfold f_X4_takeField_76
          try dsimp only
          obtain ⟨a16k, a16, a16l, a16r⟩ := i_add x8 1
          try (refine k0el (k := a16k) ?_ (fun e0 => ?_); (focus omega); subst e0)
          exact OK.trS (ih _ _ _ _ _ _ _ _ _ is15 (by first | exact hT | (rw [fs15.2.2.2]; exact hT)) (by omega)) fs15
        · skip
          unfold f_X4_takeField_76
          try dsimp only
          obtain ⟨a17k, a17, a17l, a17r⟩ := i_add x8 1
          try (refine k0el (k := a17k) ?_ (fun e0 => ?_); (focus omega); subst e0)
          exact OK.trS (ih _ _ _ _ _ _ _ _ _ hI (by first | exact hT | (rw [Fr.rf.2.2.2]; exact hT)) (by omega)) Fr.rf
      · skip
        unfold f_X4_takeField_82
        try dsimp only
        refine OK.ieq (fun h18 => ?_) (fun h18 => ?_)
        · skip
          obtain ⟨a19k, a19, a19l, a19r⟩ := i_add x5 1
          try (refine k0el (k := a19k) ?_ (fun e0 => ?_); (focus omega); subst e0)
          refine OK.bndS (hr_X4_take _ _ _ _ _ _ hI (by first | exact hT | exact hI.r89 | (rw [Fr.rf.2.2.2]; exact hT)) (by omega)) Fr.rf (fun s20 is20 fs20 => ?_)
          try dsimp only
          exact OK.sret is20 fs20
        · skip
          exact OK.sret hI Fr.rf

theorem k_X4_takeField_89_50 {N0 : Nat} {r_X4_take : Nat → Nat → Int32 → Int32 → Int32 → Int32 → Int32 → ST → Option (ST)} (hr_X4_take : ∀ (p0 : Int32) (p1 : Int32) (p2 : Int32) (p3 : Int32) (p4 : Int32) (σ : ST), IA σ → σ.2.2.2 89 = 50 → 0 ≤ p4.toInt ∧ p4.toInt ≤ 31 ∧ (128 : Int) ≤ (N0 : Nat) + 4 * p4.toInt → OK (r_X4_take 89 50 p0 p1 p2 p3 p4 σ) (RS σ)) {r_X4_takeField : Nat → Nat → Int32 → Int32 → Int32 → Int32 → Int32 → ST → Option (ST)} (hr_X4_takeField : ∀ (p0 : Int32) (p1 : Int32) (p2 : Int32) (p3 : Int32) (p4 : Int32) (σ : ST), IA σ → σ.2.2.2 89 = 50 → 0 ≤ p4.toInt ∧ p4.toInt ≤ 30 ∧ (125 : Int) ≤ (N0 : Nat) + 4 * p4.toInt → OK (r_X4_takeField 89 50 p0 p1 p2 p3 p4 σ) (RS σ)) {r_X4_takeList : Nat → Nat → Int32 → Int32 → Int32 → Int32 → Int32 → ST → Option (ST)} (hr_X4_takeList : ∀ (p0 : Int32) (p1 : Int32) (p2 : Int32) (p3 : Int32) (p4 : Int32) (σ : ST), IA σ → σ.2.2.2 89 = 50 → 0 ≤ p4.toInt ∧ p4.toInt ≤ 30 ∧ (126 : Int) ≤ (N0 : Nat) + 4 * p4.toInt → OK (r_X4_takeList 89 50 p0 p1 p2 p3 p4 σ) (RS σ)) {r_X4_takeOwn : Nat → Nat → Int32 → Int32 → Int32 → Int32 → Int32 → ST → Option (ST)} (hr_X4_takeOwn : ∀ (p0 : Int32) (p1 : Int32) (p2 : Int32) (p3 : Int32) (p4 : Int32) (σ : ST), IA σ → σ.2.2.2 89 = 50 → 0 ≤ p4.toInt ∧ p4.toInt ≤ 30 ∧ (127 : Int) ≤ (N0 : Nat) + 4 * p4.toInt → OK (r_X4_takeOwn 89 50 p0 p1 p2 p3 p4 σ) (RS σ)) {r_X4_takeRecord : Nat → Nat → Int32 → Int32 → Int32 → Int32 → Int32 → ST → Option (ST)} (hr_X4_takeRecord : ∀ (p0 : Int32) (p1 : Int32) (p2 : Int32) (p3 : Int32) (p4 : Int32) (σ : ST), IA σ → σ.2.2.2 89 = 50 → 0 ≤ p4.toInt ∧ p4.toInt ≤ 30 ∧ (126 : Int) ≤ (N0 : Nat) + 4 * p4.toInt → OK (r_X4_takeRecord 89 50 p0 p1 p2 p3 p4 σ) (RS σ)) (p0 : Int32) (p1 : Int32) (p2 : Int32) (p3 : Int32) (p4 : Int32) (σ : ST) (hI : IA σ) (hT : σ.2.2.2 89 = 50) (hv : 0 ≤ p4.toInt ∧ p4.toInt ≤ 30 ∧ (125 : Int) ≤ (N0 + 1 : Nat) + 4 * p4.toInt)  : OK (f_X4_takeField r_X4_take r_X4_takeField r_X4_takeList r_X4_takeOwn r_X4_takeRecord 89 50 p0 p1 p2 p3 p4 σ) (RS σ) := by
  unfold f_X4_takeField
  have lt_0 := li_0
  have lt_1 := li_1
  have lFU : ((FU : Nat) : Int) = 100000 := rfl
  have lFR : ((FR : Nat) : Int) = 160 := rfl
  exact OK.trS (k_X4_takeField_12_89_50 hr_X4_take hr_X4_takeField hr_X4_takeList hr_X4_takeOwn hr_X4_takeRecord FU _ _ _ _ _ _ _ _ _ hI (by first | exact hT | (rw [Fr.rf.2.2.2]; exact hT)) (by omega)) Fr.rf

theorem k_X4_takeField_92_62 {N0 : Nat} {r_X4_take : Nat → Nat → Int32 → Int32 → Int32 → Int32 → Int32 → ST → Option (ST)} (hr_X4_take : ∀ (p0 : Int32) (p1 : Int32) (p2 : Int32) (p3 : Int32) (p4 : Int32) (σ : ST), IA σ → σ.2.2.2 92 = 62 → 0 ≤ p4.toInt ∧ p4.toInt ≤ 31 ∧ (128 : Int) ≤ (N0 : Nat) + 4 * p4.toInt → OK (r_X4_take 92 62 p0 p1 p2 p3 p4 σ) (RS σ)) {r_X4_takeField : Nat → Nat → Int32 → Int32 → Int32 → Int32 → Int32 → ST → Option (ST)} (hr_X4_takeField : ∀ (p0 : Int32) (p1 : Int32) (p2 : Int32) (p3 : Int32) (p4 : Int32) (σ : ST), IA σ → σ.2.2.2 92 = 62 → 0 ≤ p4.toInt ∧ p4.toInt ≤ 30 ∧ (125 : Int) ≤ (N0 : Nat) + 4 * p4.toInt → OK (r_X4_takeField 92 62 p0 p1 p2 p3 p4 σ) (RS σ)) {r_X4_takeList : Nat → Nat → Int32 → Int32 → Int32 → Int32 → Int32 → ST → Option (ST)} (hr_X4_takeList : ∀ (p0 : Int32) (p1 : Int32) (p2 : Int32) (p3 : Int32) (p4 : Int32) (σ : ST), IA σ → σ.2.2.2 92 = 62 → 0 ≤ p4.toInt ∧ p4.toInt ≤ 30 ∧ (126 : Int) ≤ (N0 : Nat) + 4 * p4.toInt → OK (r_X4_takeList 92 62 p0 p1 p2 p3 p4 σ) (RS σ)) {r_X4_takeOwn : Nat → Nat → Int32 → Int32 → Int32 → Int32 → Int32 → ST → Option (ST)} (hr_X4_takeOwn : ∀ (p0 : Int32) (p1 : Int32) (p2 : Int32) (p3 : Int32) (p4 : Int32) (σ : ST), IA σ → σ.2.2.2 92 = 62 → 0 ≤ p4.toInt ∧ p4.toInt ≤ 30 ∧ (127 : Int) ≤ (N0 : Nat) + 4 * p4.toInt → OK (r_X4_takeOwn 92 62 p0 p1 p2 p3 p4 σ) (RS σ)) {r_X4_takeRecord : Nat → Nat → Int32 → Int32 → Int32 → Int32 → Int32 → ST → Option (ST)} (hr_X4_takeRecord : ∀ (p0 : Int32) (p1 : Int32) (p2 : Int32) (p3 : Int32) (p4 : Int32) (σ : ST), IA σ → σ.2.2.2 92 = 62 → 0 ≤ p4.toInt ∧ p4.toInt ≤ 30 ∧ (126 : Int) ≤ (N0 : Nat) + 4 * p4.toInt → OK (r_X4_takeRecord 92 62 p0 p1 p2 p3 p4 σ) (RS σ)) (p0 : Int32) (p1 : Int32) (p2 : Int32) (p3 : Int32) (p4 : Int32) (σ : ST) (hI : IA σ) (hT : σ.2.2.2 92 = 62) (hv : 0 ≤ p4.toInt ∧ p4.toInt ≤ 30 ∧ (125 : Int) ≤ (N0 + 1 : Nat) + 4 * p4.toInt)  : OK (f_X4_takeField r_X4_take r_X4_takeField r_X4_takeList r_X4_takeOwn r_X4_takeRecord 92 62 p0 p1 p2 p3 p4 σ) (RS σ) := by
  unfold f_X4_takeField
  have lt_0 := li_0
  have lt_1 := li_1
  have lFU : ((FU : Nat) : Int) = 100000 := rfl
  have lFR : ((FR : Nat) : Int) = 160 := rfl
  exact OK.trS (k_X4_takeField_12_92_62 hr_X4_take hr_X4_takeField hr_X4_takeList hr_X4_takeOwn hr_X4_takeRecord FU _ _ _ _ _ _ _ _ _ hI (by first | exact hT | (rw [Fr.rf.2.2.2]; exact hT)) (by omega)) Fr.rf

theorem k_X4_takeField_92_74 {N0 : Nat} {r_X4_take : Nat → Nat → Int32 → Int32 → Int32 → Int32 → Int32 → ST → Option (ST)} (hr_X4_take : ∀ (p0 : Int32) (p1 : Int32) (p2 : Int32) (p3 : Int32) (p4 : Int32) (σ : ST), IA σ → σ.2.2.2 92 = 74 → 0 ≤ p4.toInt ∧ p4.toInt ≤ 31 ∧ (128 : Int) ≤ (N0 : Nat) + 4 * p4.toInt → OK (r_X4_take 92 74 p0 p1 p2 p3 p4 σ) (RS σ)) {r_X4_takeField : Nat → Nat → Int32 → Int32 → Int32 → Int32 → Int32 → ST → Option (ST)} (hr_X4_takeField : ∀ (p0 : Int32) (p1 : Int32) (p2 : Int32) (p3 : Int32) (p4 : Int32) (σ : ST), IA σ → σ.2.2.2 92 = 74 → 0 ≤ p4.toInt ∧ p4.toInt ≤ 30 ∧ (125 : Int) ≤ (N0 : Nat) + 4 * p4.toInt → OK (r_X4_takeField 92 74 p0 p1 p2 p3 p4 σ) (RS σ)) {r_X4_takeList : Nat → Nat → Int32 → Int32 → Int32 → Int32 → Int32 → ST → Option (ST)} (hr_X4_takeList : ∀ (p0 : Int32) (p1 : Int32) (p2 : Int32) (p3 : Int32) (p4 : Int32) (σ : ST), IA σ → σ.2.2.2 92 = 74 → 0 ≤ p4.toInt ∧ p4.toInt ≤ 30 ∧ (126 : Int) ≤ (N0 : Nat) + 4 * p4.toInt → OK (r_X4_takeList 92 74 p0 p1 p2 p3 p4 σ) (RS σ)) {r_X4_takeOwn : Nat → Nat → Int32 → Int32 → Int32 → Int32 → Int32 → ST → Option (ST)} (hr_X4_takeOwn : ∀ (p0 : Int32) (p1 : Int32) (p2 : Int32) (p3 : Int32) (p4 : Int32) (σ : ST), IA σ → σ.2.2.2 92 = 74 → 0 ≤ p4.toInt ∧ p4.toInt ≤ 30 ∧ (127 : Int) ≤ (N0 : Nat) + 4 * p4.toInt → OK (r_X4_takeOwn 92 74 p0 p1 p2 p3 p4 σ) (RS σ)) {r_X4_takeRecord : Nat → Nat → Int32 → Int32 → Int32 → Int32 → Int32 → ST → Option (ST)} (hr_X4_takeRecord : ∀ (p0 : Int32) (p1 : Int32) (p2 : Int32) (p3 : Int32) (p4 : Int32) (σ : ST), IA σ → σ.2.2.2 92 = 74 → 0 ≤ p4.toInt ∧ p4.toInt ≤ 30 ∧ (126 : Int) ≤ (N0 : Nat) + 4 * p4.toInt → OK (r_X4_takeRecord 92 74 p0 p1 p2 p3 p4 σ) (RS σ)) (p0 : Int32) (p1 : Int32) (p2 : Int32) (p3 : Int32) (p4 : Int32) (σ : ST) (hI : IA σ) (hT : σ.2.2.2 92 = 74) (hv : 0 ≤ p4.toInt ∧ p4.toInt ≤ 30 ∧ (125 : Int) ≤ (N0 + 1 : Nat) + 4 * p4.toInt)  : OK (f_X4_takeField r_X4_take r_X4_takeField r_X4_takeList r_X4_takeOwn r_X4_takeRecord 92 74 p0 p1 p2 p3 p4 σ) (RS σ) := by
  unfold f_X4_takeField
  have lt_0 := li_0
  have lt_1 := li_1
  have lFU : ((FU : Nat) : Int) = 100000 := rfl
  have lFR : ((FR : Nat) : Int) = 160 := rfl
  exact OK.trS (k_X4_takeField_12_92_74 hr_X4_take hr_X4_takeField hr_X4_takeList hr_X4_takeOwn hr_X4_takeRecord FU _ _ _ _ _ _ _ _ _ hI (by first | exact hT | (rw [Fr.rf.2.2.2]; exact hT)) (by omega)) Fr.rf

theorem k_X4_takeList_48_89_50 {N0 : Nat} {r_X4_take : Nat → Nat → Int32 → Int32 → Int32 → Int32 → Int32 → ST → Option (ST)} (hr_X4_take : ∀ (p0 : Int32) (p1 : Int32) (p2 : Int32) (p3 : Int32) (p4 : Int32) (σ : ST), IA σ → σ.2.2.2 89 = 50 → 0 ≤ p4.toInt ∧ p4.toInt ≤ 31 ∧ (128 : Int) ≤ (N0 : Nat) + 4 * p4.toInt → OK (r_X4_take 89 50 p0 p1 p2 p3 p4 σ) (RS σ)) {r_X4_takeField : Nat → Nat → Int32 → Int32 → Int32 → Int32 → Int32 → ST → Option (ST)} (hr_X4_takeField : ∀ (p0 : Int32) (p1 : Int32) (p2 : Int32) (p3 : Int32) (p4 : Int32) (σ : ST), IA σ → σ.2.2.2 89 = 50 → 0 ≤ p4.toInt ∧ p4.toInt ≤ 30 ∧ (125 : Int) ≤ (N0 : Nat) + 4 * p4.toInt → OK (r_X4_takeField 89 50 p0 p1 p2 p3 p4 σ) (RS σ)) {r_X4_takeList : Nat → Nat → Int32 → Int32 → Int32 → Int32 → Int32 → ST → Option (ST)} (hr_X4_takeList : ∀ (p0 : Int32) (p1 : Int32) (p2 : Int32) (p3 : Int32) (p4 : Int32) (σ : ST), IA σ → σ.2.2.2 89 = 50 → 0 ≤ p4.toInt ∧ p4.toInt ≤ 30 ∧ (126 : Int) ≤ (N0 : Nat) + 4 * p4.toInt → OK (r_X4_takeList 89 50 p0 p1 p2 p3 p4 σ) (RS σ)) {r_X4_takeOwn : Nat → Nat → Int32 → Int32 → Int32 → Int32 → Int32 → ST → Option (ST)} (hr_X4_takeOwn : ∀ (p0 : Int32) (p1 : Int32) (p2 : Int32) (p3 : Int32) (p4 : Int32) (σ : ST), IA σ → σ.2.2.2 89 = 50 → 0 ≤ p4.toInt ∧ p4.toInt ≤ 30 ∧ (127 : Int) ≤ (N0 : Nat) + 4 * p4.toInt → OK (r_X4_takeOwn 89 50 p0 p1 p2 p3 p4 σ) (RS σ)) {r_X4_takeRecord : Nat → Nat → Int32 → Int32 → Int32 → Int32 → Int32 → ST → Option (ST)} (hr_X4_takeRecord : ∀ (p0 : Int32) (p1 : Int32) (p2 : Int32) (p3 : Int32) (p4 : Int32) (σ : ST), IA σ → σ.2.2.2 89 = 50 → 0 ≤ p4.toInt ∧ p4.toInt ≤ 30 ∧ (126 : Int) ≤ (N0 : Nat) + 4 * p4.toInt → OK (r_X4_takeRecord 89 50 p0 p1 p2 p3 p4 σ) (RS σ)) : ∀ (n : Nat) (x1 : Int32) (x5 : Int32) (x6 : Int32) (x7 : Int32) (x8 : Int32) (x9 : Int32) (σ : ST), IA σ → σ.2.2.2 89 = 50 → ((0 ≤ x5.toInt ∧ x5.toInt ≤ 30 ∧ (126 : Int) ≤ (N0 + 1 : Nat) + 4 * x5.toInt) ∧ 0 ≤ x9.toInt ∧ x9.toInt ≤ 200 ∧ (x6.toInt ≤ 200) ∧ (200 : Int) - x9.toInt < n) → OK (f_X4_takeList_48 r_X4_take r_X4_takeField r_X4_takeList r_X4_takeOwn r_X4_takeRecord 89 50 n x1 x5 x6 x7 x8 x9 σ) (RS σ) := by
  intro n
  induction n with
  | zero =>
    intro x1 x5 x6 x7 x8 x9 σ hI hT hv
    omega
  | succ n ih =>
    intro x1 x5 x6 x7 x8 x9 σ hI hT hv
    rw [f_X4_takeList_48]
    have lt_0 := li_0
    have lt_1 := li_1
    have lt_100 := li_100
    have lFU : ((FU : Nat) : Int) = 100000 := rfl
    have lFR : ((FR : Nat) : Int) = 160 := rfl
    refine OK.ile (fun h1 => ?_) (fun h1 => ?_)
    · skip
      exact OK.sret hI Fr.rf
    · skip
      refine OK.ieq (fun h2 => ?_) (fun h2 => ?_)
      · skip
        refine OK.bndS (k_X4_step_89_50 _ _ hI (by first | exact hT | exact hI.r89 | (rw [Fr.rf.2.2.2]; exact hT))) Fr.rf (fun s3 is3 fs3 => ?_)
        try dsimp only
        obtain ⟨a4k, a4, a4l, a4r⟩ := i_add x5 1
        try (refine k0el (k := a4k) ?_ (fun e0 => ?_); (focus omega); subst e0)
        refine OK.bndS (hr_X4_take _ _ _ _ _ _ is3 (by first | exact hT | exact hI.r89 | (rw [fs3.2.2.2]; exact hT)) (by omega)) fs3 (fun s5 is5 fs5 => ?_)
        try dsimp only
        refine OK.bndS (k_X4_stepBack_89_50 _ is5 (by first | exact hT | exact hI.r89 | (rw [fs5.2.2.2]; exact hT))) fs5 (fun s6 is6 fs6 => ?_)
        try dsimp only
        obtain ⟨a7k, a7, a7l, a7r⟩ := i_add x9 1
        try (refine k0el (k := a7k) ?_ (fun e0 => ?_); (focus omega); subst e0)
        exact OK.trS (ih _ _ _ _ _ _ _ is6 (by first | exact hT | (rw [fs6.2.2.2]; exact hT)) (by omega)) fs6
      · skip
        exact OK.sret hI Fr.rf

theorem k_X4_takeList_48_92_62 {N0 : Nat} {r_X4_take : Nat → Nat → Int32 → Int32 → Int32 → Int32 → Int32 → ST → Option (ST)} (hr_X4_take : ∀ (p0 : Int32) (p1 : Int32) (p2 : Int32) (p3 : Int32) (p4 : Int32) (σ : ST), IA σ → σ.2.2.2 92 = 62 → 0 ≤ p4.toInt ∧ p4.toInt ≤ 31 ∧ (128 : Int) ≤ (N0 : Nat) + 4 * p4.toInt → OK (r_X4_take 92 62 p0 p1 p2 p3 p4 σ) (RS σ)) {r_X4_takeField : Nat → Nat → Int32 → Int32 → Int32 → Int32 → Int32 → ST → Option (ST)} (hr_X4_takeField : ∀ (p0 : Int32) (p1 : Int32) (p2 : Int32) (p3 : Int32) (p4 : Int32) (σ : ST), IA σ → σ.2.2.2 92 = 62 → 0 ≤ p4.toInt ∧ p4.toInt ≤ 30 ∧ (125 : Int) ≤ (N0 : Nat) + 4 * p4.toInt → OK (r_X4_takeField 92 62 p0 p1 p2 p3 p4 σ) (RS σ)) {r_X4_takeList : Nat → Nat → Int32 → Int32 → Int32 → Int32 → Int32 → ST → Option (ST)} (hr_X4_takeList : ∀ (p0 : Int32) (p1 : Int32) (p2 : Int32) (p3 : Int32) (p4 : Int32) (σ : ST), IA σ → σ.2.2.2 92 = 62 → 0 ≤ p4.toInt ∧ p4.toInt ≤ 30 ∧ (126 : Int) ≤ (N0 : Nat) + 4 * p4.toInt → OK (r_X4_takeList 92 62 p0 p1 p2 p3 p4 σ) (RS σ)) {r_X4_takeOwn : Nat → Nat → Int32 → Int32 → Int32 → Int32 → Int32 → ST → Option (ST)} (hr_X4_takeOwn : ∀ (p0 : Int32) (p1 : Int32) (p2 : Int32) (p3 : Int32) (p4 : Int32) (σ : ST), IA σ → σ.2.2.2 92 = 62 → 0 ≤ p4.toInt ∧ p4.toInt ≤ 30 ∧ (127 : Int) ≤ (N0 : Nat) + 4 * p4.toInt → OK (r_X4_takeOwn 92 62 p0 p1 p2 p3 p4 σ) (RS σ)) {r_X4_takeRecord : Nat → Nat → Int32 → Int32 → Int32 → Int32 → Int32 → ST → Option (ST)} (hr_X4_takeRecord : ∀ (p0 : Int32) (p1 : Int32) (p2 : Int32) (p3 : Int32) (p4 : Int32) (σ : ST), IA σ → σ.2.2.2 92 = 62 → 0 ≤ p4.toInt ∧ p4.toInt ≤ 30 ∧ (126 : Int) ≤ (N0 : Nat) + 4 * p4.toInt → OK (r_X4_takeRecord 92 62 p0 p1 p2 p3 p4 σ) (RS σ)) : ∀ (n : Nat) (x1 : Int32) (x5 : Int32) (x6 : Int32) (x7 : Int32) (x8 : Int32) (x9 : Int32) (σ : ST), IA σ → σ.2.2.2 92 = 62 → ((0 ≤ x5.toInt ∧ x5.toInt ≤ 30 ∧ (126 : Int) ≤ (N0 + 1 : Nat) + 4 * x5.toInt) ∧ 0 ≤ x9.toInt ∧ x9.toInt ≤ 200 ∧ (x6.toInt ≤ 200) ∧ (200 : Int) - x9.toInt < n) → OK (f_X4_takeList_48 r_X4_take r_X4_takeField r_X4_takeList r_X4_takeOwn r_X4_takeRecord 92 62 n x1 x5 x6 x7 x8 x9 σ) (RS σ) := by
  intro n
  induction n with
  | zero =>
    intro x1 x5 x6 x7 x8 x9 σ hI hT hv
    omega
  | succ n ih =>
    intro x1 x5 x6 x7 x8 x9 σ hI hT hv
    rw [f_X4_takeList_48]
    have lt_0 := li_0
    have lt_1 := li_1
    have lt_100 := li_100
    have lFU : ((FU : Nat) : Int) = 100000 := rfl
    have lFR : ((FR : Nat) : Int) = 160 := rfl
    refine OK.ile (fun h1 => ?_) (fun h1 => ?_)
    · skip
      exact OK.sret hI Fr.rf
    · skip
      refine OK.ieq (fun h2 => ?_) (fun h2 => ?_)
      · skip
        refine OK.bndS (k_X4_step_92_62 _ _ hI (by first | exact hT | exact hI.r89 | (rw [Fr.rf.2.2.2]; exact hT))) Fr.rf (fun s3 is3 fs3 => ?_)
        try dsimp only
        obtain ⟨a4k, a4, a4l, a4r⟩ := i_add x5 1
        try (refine k0el (k := a4k) ?_ (fun e0 => ?_); (focus omega); subst e0)
        refine OK.bndS (hr_X4_take _ _ _ _ _ _ is3 (by first | exact hT | exact hI.r89 | (rw [fs3.2.2.2]; exact hT)) (by omega)) fs3 (fun s5 is5 fs5 => ?_)
        try dsimp only
        refine OK.bndS (k_X4_stepBack_92_62 _ is5 (by first | exact hT | exact hI.r89 | (rw [fs5.2.2.2]; exact hT))) fs5 (fun s6 is6 fs6 => ?_)
        try dsimp only
        obtain ⟨a7k, a7, a7l, a7r⟩ := i_add x9 1
        try (refine k0el (k := a7k) ?_ (fun e0 => ?_); (focus omega); subst e0)
        exact OK.trS (ih _ _ _ _ _ _ _ is6 (by first | exact hT | (rw [fs6.2.2.2]; exact hT)) (by omega)) fs6
      · skip
        exact OK.sret hI Fr.rf

theorem k_X4_takeList_48_92_74 {N0 : Nat} {r_X4_take : Nat → Nat → Int32 → Int32 → Int32 → Int32 → Int32 → ST → Option (ST)} (hr_X4_take : ∀ (p0 : Int32) (p1 : Int32) (p2 : Int32) (p3 : Int32) (p4 : Int32) (σ : ST), IA σ → σ.2.2.2 92 = 74 → 0 ≤ p4.toInt ∧ p4.toInt ≤ 31 ∧ (128 : Int) ≤ (N0 : Nat) + 4 * p4.toInt → OK (r_X4_take 92 74 p0 p1 p2 p3 p4 σ) (RS σ)) {r_X4_takeField : Nat → Nat → Int32 → Int32 → Int32 → Int32 → Int32 → ST → Option (ST)} (hr_X4_takeField : ∀ (p0 : Int32) (p1 : Int32) (p2 : Int32) (p3 : Int32) (p4 : Int32) (σ : ST), IA σ → σ.2.2.2 92 = 74 → 0 ≤ p4.toInt ∧ p4.toInt ≤ 30 ∧ (125 : Int) ≤ (N0 : Nat) + 4 * p4.toInt → OK (r_X4_takeField 92 74 p0 p1 p2 p3 p4 σ) (RS σ)) {r_X4_takeList : Nat → Nat → Int32 → Int32 → Int32 → Int32 → Int32 → ST → Option (ST)} (hr_X4_takeList : ∀ (p0 : Int32) (p1 : Int32) (p2 : Int32) (p3 : Int32) (p4 : Int32) (σ : ST), IA σ → σ.2.2.2 92 = 74 → 0 ≤ p4.toInt ∧ p4.toInt ≤ 30 ∧ (126 : Int) ≤ (N0 : Nat) + 4 * p4.toInt → OK (r_X4_takeList 92 74 p0 p1 p2 p3 p4 σ) (RS σ)) {r_X4_takeOwn : Nat → Nat → Int32 → Int32 → Int32 → Int32 → Int32 → ST → Option (ST)} (hr_X4_takeOwn : ∀ (p0 : Int32) (p1 : Int32) (p2 : Int32) (p3 : Int32) (p4 : Int32) (σ : ST), IA σ → σ.2.2.2 92 = 74 → 0 ≤ p4.toInt ∧ p4.toInt ≤ 30 ∧ (127 : Int) ≤ (N0 : Nat) + 4 * p4.toInt → OK (r_X4_takeOwn 92 74 p0 p1 p2 p3 p4 σ) (RS σ)) {r_X4_takeRecord : Nat → Nat → Int32 → Int32 → Int32 → Int32 → Int32 → ST → Option (ST)} (hr_X4_takeRecord : ∀ (p0 : Int32) (p1 : Int32) (p2 : Int32) (p3 : Int32) (p4 : Int32) (σ : ST), IA σ → σ.2.2.2 92 = 74 → 0 ≤ p4.toInt ∧ p4.toInt ≤ 30 ∧ (126 : Int) ≤ (N0 : Nat) + 4 * p4.toInt → OK (r_X4_takeRecord 92 74 p0 p1 p2 p3 p4 σ) (RS σ)) : ∀ (n : Nat) (x1 : Int32) (x5 : Int32) (x6 : Int32) (x7 : Int32) (x8 : Int32) (x9 : Int32) (σ : ST), IA σ → σ.2.2.2 92 = 74 → ((0 ≤ x5.toInt ∧ x5.toInt ≤ 30 ∧ (126 : Int) ≤ (N0 + 1 : Nat) + 4 * x5.toInt) ∧ 0 ≤ x9.toInt ∧ x9.toInt ≤ 200 ∧ (x6.toInt ≤ 200) ∧ (200 : Int) - x9.toInt < n) → OK (f_X4_takeList_48 r_X4_take r_X4_takeField r_X4_takeList r_X4_takeOwn r_X4_takeRecord 92 74 n x1 x5 x6 x7 x8 x9 σ) (RS σ) := by
  intro n
  induction n with
  | zero =>
    intro x1 x5 x6 x7 x8 x9 σ hI hT hv
    omega
  | succ n ih =>
    intro x1 x5 x6 x7 x8 x9 σ hI hT hv
    rw [f_X4_takeList_48]
    have lt_0 := li_0
    have lt_1 := li_1
    have lt_100 := li_100
    have lFU : ((FU : Nat) : Int) = 100000 := rfl
    have lFR : ((FR : Nat) : Int) = 160 := rfl
    refine OK.ile (fun h1 => ?_) (fun h1 => ?_)
    · skip
      exact OK.sret hI Fr.rf
    · skip
      refine OK.ieq (fun h2 => ?_) (fun h2 => ?_)
      · skip
        refine OK.bndS (k_X4_step_92_74 _ _ hI (by first | exact hT | exact hI.r89 | (rw [Fr.rf.2.2.2]; exact hT))) Fr.rf (fun s3 is3 fs3 => ?_)
        try dsimp only
        obtain ⟨a4k, a4, a4l, a4r⟩ := i_add x5 1
        try (refine k0el (k := a4k) ?_ (fun e0 => ?_); (focus omega); subst e0)
        refine OK.bndS (hr_X4_take _ _ _ _ _ _ is3 (by first | exact hT | exact hI.r89 | (rw [fs3.2.2.2]; exact hT)) (by omega)) fs3 (fun s5 is5 fs5 => ?_)
        try dsimp only
        refine OK.bndS (k_X4_stepBack_92_74 _ is5 (by first | exact hT | exact hI.r89 | (rw [fs5.2.2.2]; exact hT))) fs5 (fun s6 is6 fs6 => ?_)
        try dsimp only
        obtain ⟨a7k, a7, a7l, a7r⟩ := i_add x9 1
        try (refine k0el (k := a7k) ?_ (fun e0 => ?_); (focus omega); subst e0)
        exact OK.trS (ih _ _ _ _ _ _ _ is6 (by first | exact hT | (rw [fs6.2.2.2]; exact hT)) (by omega)) fs6
      · skip
        exact OK.sret hI Fr.rf

theorem k_X4_takeList_89_50 {N0 : Nat} {r_X4_take : Nat → Nat → Int32 → Int32 → Int32 → Int32 → Int32 → ST → Option (ST)} (hr_X4_take : ∀ (p0 : Int32) (p1 : Int32) (p2 : Int32) (p3 : Int32) (p4 : Int32) (σ : ST), IA σ → σ.2.2.2 89 = 50 → 0 ≤ p4.toInt ∧ p4.toInt ≤ 31 ∧ (128 : Int) ≤ (N0 : Nat) + 4 * p4.toInt → OK (r_X4_take 89 50 p0 p1 p2 p3 p4 σ) (RS σ)) {r_X4_takeField : Nat → Nat → Int32 → Int32 → Int32 → Int32 → Int32 → ST → Option (ST)} (hr_X4_takeField : ∀ (p0 : Int32) (p1 : Int32) (p2 : Int32) (p3 : Int32) (p4 : Int32) (σ : ST), IA σ → σ.2.2.2 89 = 50 → 0 ≤ p4.toInt ∧ p4.toInt ≤ 30 ∧ (125 : Int) ≤ (N0 : Nat) + 4 * p4.toInt → OK (r_X4_takeField 89 50 p0 p1 p2 p3 p4 σ) (RS σ)) {r_X4_takeList : Nat → Nat → Int32 → Int32 → Int32 → Int32 → Int32 → ST → Option (ST)} (hr_X4_takeList : ∀ (p0 : Int32) (p1 : Int32) (p2 : Int32) (p3 : Int32) (p4 : Int32) (σ : ST), IA σ → σ.2.2.2 89 = 50 → 0 ≤ p4.toInt ∧ p4.toInt ≤ 30 ∧ (126 : Int) ≤ (N0 : Nat) + 4 * p4.toInt → OK (r_X4_takeList 89 50 p0 p1 p2 p3 p4 σ) (RS σ)) {r_X4_takeOwn : Nat → Nat → Int32 → Int32 → Int32 → Int32 → Int32 → ST → Option (ST)} (hr_X4_takeOwn : ∀ (p0 : Int32) (p1 : Int32) (p2 : Int32) (p3 : Int32) (p4 : Int32) (σ : ST), IA σ → σ.2.2.2 89 = 50 → 0 ≤ p4.toInt ∧ p4.toInt ≤ 30 ∧ (127 : Int) ≤ (N0 : Nat) + 4 * p4.toInt → OK (r_X4_takeOwn 89 50 p0 p1 p2 p3 p4 σ) (RS σ)) {r_X4_takeRecord : Nat → Nat → Int32 → Int32 → Int32 → Int32 → Int32 → ST → Option (ST)} (hr_X4_takeRecord : ∀ (p0 : Int32) (p1 : Int32) (p2 : Int32) (p3 : Int32) (p4 : Int32) (σ : ST), IA σ → σ.2.2.2 89 = 50 → 0 ≤ p4.toInt ∧ p4.toInt ≤ 30 ∧ (126 : Int) ≤ (N0 : Nat) + 4 * p4.toInt → OK (r_X4_takeRecord 89 50 p0 p1 p2 p3 p4 σ) (RS σ)) (p0 : Int32) (p1 : Int32) (p2 : Int32) (p3 : Int32) (p4 : Int32) (σ : ST) (hI : IA σ) (hT : σ.2.2.2 89 = 50) (hv : 0 ≤ p4.toInt ∧ p4.toInt ≤ 30 ∧ (126 : Int) ≤ (N0 + 1 : Nat) + 4 * p4.toInt)  : OK (f_X4_takeList r_X4_take r_X4_takeField r_X4_takeList r_X4_takeOwn r_X4_takeRecord 89 50 p0 p1 p2 p3 p4 σ) (RS σ) := by
  unfold f_X4_takeList
  have lt_m1 := li_m1
  have lt_0 := li_0
  have lt_1 := li_1
  have lt_200 := li_200
  have lFU : ((FU : Nat) : Int) = 100000 := rfl
  have lFR : ((FR : Nat) : Int) = 160 := rfl
  refine OK.bndW (k_X4_takeCount_89_50 _ _ _ hI (by first | exact hT | exact hI.r89 | (rw [Fr.rf.2.2.2]; exact hT))) Fr.rf (fun v1 s3 is3 fs3 h2 => ?_)
  dsimp only
  refine OK.bndW (k_X4_addNode_89_50 _ _ _ _ _ _ is3 (by first | exact hT | exact hI.r89 | (rw [fs3.2.2.2]; exact hT))) fs3 (fun v4 s6 is6 fs6 h5 => ?_)
  dsimp only
  refine OK.ieq (fun h7 => ?_) (fun h7 => ?_)
  · skip
    unfold f_X4_takeList_43
    try dsimp only
    exact OK.trS (k_X4_takeList_48_89_50 hr_X4_take hr_X4_takeField hr_X4_takeList hr_X4_takeOwn hr_X4_takeRecord FU _ _ _ _ _ _ _ is6 (by first | exact hT | (rw [fs6.2.2.2]; exact hT)) (by omega)) fs6
  · skip
    refine OK.bndR (k_X5_innerOf_4 _ _ is6 ) (fun v8 h9 => ?_)
    dsimp only
    unfold f_X4_takeList_43
    try dsimp only
    exact OK.trS (k_X4_takeList_48_89_50 hr_X4_take hr_X4_takeField hr_X4_takeList hr_X4_takeOwn hr_X4_takeRecord FU _ _ _ _ _ _ _ is6 (by first | exact hT | (rw [fs6.2.2.2]; exact hT)) (by omega)) fs6
theorem k_X4_takeList_92_62 {N0 : Nat} {r_X4_take : Nat → Nat → Int32 → Int32 → Int32 → Int32 → Int32 → ST → Option (ST)} (hr_X4_take : ∀ (p0 : Int32) (p1 : Int32) (p2 : Int32) (p3 : Int32) (p4 : Int32) (σ : ST), IA σ → σ.2.2.2 92 = 62 → 0 ≤ p4.toInt ∧ p4.toInt ≤ 31 ∧ (128 : Int) ≤ (N0 : Nat) + 4 * p4.toInt → OK (r_X4_take 92 62 p0 p1 p2 p3 p4 σ) (RS σ)) {r_X4_takeField : Nat → Nat → Int32 → Int32 → Int32 → Int32 → Int32 → ST → Option (ST)} (hr_X4_takeField : ∀ (p0 : Int32) (p1 : Int32) (p2 : Int32) (p3 : Int32) (p4 : Int32) (σ : ST), IA σ → σ.2.2.2 92 = 62 → 0 ≤ p4.toInt ∧ p4.toInt ≤ 30 ∧ (125 : Int) ≤ (N0 : Nat) + 4 * p4.toInt → OK (r_X4_takeField 92 62 p0 p1 p2 p3 p4 σ) (RS σ)) {r_X4_takeList : Nat → Nat → Int32 → Int32 → Int32 → Int32 → Int32 → ST → Option (ST)} (hr_X4_takeList : ∀ (p0 : Int32) (p1 : Int32) (p2 : Int32) (p3 : Int32) (p4 : Int32) (σ : ST), IA σ → σ.2.2.2 92 = 62 → 0 ≤ p4.toInt ∧ p4.toInt ≤ 30 ∧ (126 : Int) ≤ (N0 : Nat) + 4 * p4.toInt → OK (r_X4_takeList 92 62 p0 p1 p2 p3 p4 σ) (RS σ)) {r_X4_takeOwn : Nat → Nat → Int32 → Int32 → Int32 → Int32 → Int32 → ST → Option (ST)} (hr_X4_takeOwn : ∀ (p0 : Int32) (p1 : Int32) (p2 : Int32) (p3 : Int32) (p4 : Int32) (σ : ST), IA σ → σ.2.2.2 92 = 62 → 0 ≤ p4.toInt ∧ p4.toInt ≤ 30 ∧ (127 : Int) ≤ (N0 : Nat) + 4 * p4.toInt → OK (r_X4_takeOwn 92 62 p0 p1 p2 p3 p4 σ) (RS σ)) {r_X4_takeRecord : Nat → Nat → Int32 → Int32 → Int32 → Int32 → Int32 → ST → Option (ST)} (hr_X4_takeRecord : ∀ (p0 : Int32) (p1 : Int32) (p2 : Int32) (p3 : Int32) (p4 : Int32) (σ : ST), IA σ → σ.2.2.2 92 = 62 → 0 ≤ p4.toInt ∧ p4.toInt ≤ 30 ∧ (126 : Int) ≤ (N0 : Nat) + 4 * p4.toInt → OK (r_X4_takeRecord 92 62 p0 p1 p2 p3 p4 σ) (RS σ)) (p0 : Int32) (p1 : Int32) (p2 : Int32) (p3 : Int32) (p4 : Int32) (σ : ST) (hI : IA σ) (hT : σ.2.2.2 92 = 62) (hv : 0 ≤ p4.toInt ∧ p4.toInt ≤ 30 ∧ (126 : Int) ≤ (N0 + 1 : Nat) + 4 * p4.toInt)  : OK (f_X4_takeList r_X4_take r_X4_takeField r_X4_takeList r_X4_takeOwn r_X4_takeRecord 92 62 p0 p1 p2 p3 p4 σ) (RS σ) := by
  unfold f_X4_takeList
  have lt_m1 := li_m1
  have lt_0 := li_0
  have lt_1 := li_1
  have lt_200 := li_200
  have lFU : ((FU : Nat) : Int) = 100000 := rfl
  have lFR : ((FR : Nat) : Int) = 160 := rfl
  refine OK.bndW (k_X4_takeCount_92_62 _ _ _ hI (by first | exact hT | exact hI.r89 | (rw [Fr.rf.2.2.2]; exact hT))) Fr.rf (fun v1 s3 is3 fs3 h2 => ?_)
  dsimp only
  refine OK.bndW (k_X4_addNode_92_62 _ _ _ _ _ _ is3 (by first | exact hT | exact hI.r89 | (rw [fs3.2.2.2]; exact hT))) fs3 (fun v4 s6 is6 fs6 h5 => ?_)
  dsimp only
  refine OK.ieq (fun h7 => ?_) (fun h7 => ?_)
  · skip
    unfold f_X4_takeList_43
    try dsimp only
    exact OK.trS (k_X4_takeList_48_92_62 hr_X4_take hr_X4_takeField hr_X4_takeList hr_X4_takeOwn hr_X4_takeRecord FU _ _ _ _ _ _ _ is6 (by first | exact hT | (rw [fs6.2.2.2]; exact hT)) (by omega)) fs6
  · skip
    refine OK.bndR (k_X5_innerOf_4 _ _ is6 ) (fun v8 h9 => ?_)
    dsimp only
    unfold f_X4_takeList_43
    try dsimp only
    exact OK.trS (k_X4_takeList_48_92_62 hr_X4_take hr_X4_takeField hr_X4_takeList hr_X4_takeOwn hr_X4_takeRecord FU _ _ _ _ _ _ _ is6 (by first | exact hT | (rw [fs6.2.2.2]; exact hT)) (by omega)) fs6

theorem k_X4_takeList_92_74 {N0 : Nat} {r_X4_take : Nat → Nat → Int32 → Int32 → Int32 → Int32 → Int32 → ST → Option (ST)} (hr_X4_take : ∀ (p0 : Int32) (p1 : Int32) (p2 : Int32) (p3 : Int32) (p4 : Int32) (σ : ST), IA σ → σ.2.2.2 92 = 74 → 0 ≤ p4.toInt ∧ p4.toInt ≤ 31 ∧ (128 : Int) ≤ (N0 : Nat) + 4 * p4.toInt → OK (r_X4_take 92 74 p0 p1 p2 p3 p4 σ) (RS σ)) {r_X4_takeField : Nat → Nat → Int32 → Int32 → Int32 → Int32 → Int32 → ST → Option (ST)} (hr_X4_takeField : ∀ (p0 : Int32) (p1 : Int32) (p2 : Int32) (p3 : Int32) (p4 : Int32) (σ : ST), IA σ → σ.2.2.2 92 = 74 → 0 ≤ p4.toInt ∧ p4.toInt ≤ 30 ∧ (125 : Int) ≤ (N0 : Nat) + 4 * p4.toInt → OK (r_X4_takeField 92 74 p0 p1 p2 p3 p4 σ) (RS σ)) {r_X4_takeList : Nat → Nat → Int32 → Int32 → Int32 → Int32 → Int32 → ST → Option (ST)} (hr_X4_takeList : ∀ (p0 : Int32) (p1 : Int32) (p2 : Int32) (p3 : Int32) (p4 : Int32) (σ : ST), IA σ → σ.2.2.2 92 = 74 → 0 ≤ p4.toInt ∧ p4.toInt ≤ 30 ∧ (126 : Int) ≤ (N0 : Nat) + 4 * p4.toInt → OK (r_X4_takeList 92 74 p0 p1 p2 p3 p4 σ) (RS σ)) {r_X4_takeOwn : Nat → Nat → Int32 → Int32 → Int32 → Int32 → Int32 → ST → Option (ST)} (hr_X4_takeOwn : ∀ (p0 : Int32) (p1 : Int32) (p2 : Int32) (p3 : Int32) (p4 : Int32) (σ : ST), IA σ → σ.2.2.2 92 = 74 → 0 ≤ p4.toInt ∧ p4.toInt ≤ 30 ∧ (127 : Int) ≤ (N0 : Nat) + 4 * p4.toInt → OK (r_X4_takeOwn 92 74 p0 p1 p2 p3 p4 σ) (RS σ)) {r_X4_takeRecord : Nat → Nat → Int32 → Int32 → Int32 → Int32 → Int32 → ST → Option (ST)} (hr_X4_takeRecord : ∀ (p0 : Int32) (p1 : Int32) (p2 : Int32) (p3 : Int32) (p4 : Int32) (σ : ST), IA σ → σ.2.2.2 92 = 74 → 0 ≤ p4.toInt ∧ p4.toInt ≤ 30 ∧ (126 : Int) ≤ (N0 : Nat) + 4 * p4.toInt → OK (r_X4_takeRecord 92 74 p0 p1 p2 p3 p4 σ) (RS σ)) (p0 : Int32) (p1 : Int32) (p2 : Int32) (p3 : Int32) (p4 : Int32) (σ : ST) (hI : IA σ) (hT : σ.2.2.2 92 = 74) (hv : 0 ≤ p4.toInt ∧ p4.toInt ≤ 30 ∧ (126 : Int) ≤ (N0 + 1 : Nat) + 4 * p4.toInt)  : OK (f_X4_takeList r_X4_take r_X4_takeField r_X4_takeList r_X4_takeOwn r_X4_takeRecord 92 74 p0 p1 p2 p3 p4 σ) (RS σ) := by
  unfold f_X4_takeList
  have lt_m1 := li_m1
  have lt_0 := li_0
  have lt_1 := li_1
  have lt_200 := li_200
  have lFU : ((FU : Nat) : Int) = 100000 := rfl
  have lFR : ((FR : Nat) : Int) = 160 := rfl
  refine OK.bndW (k_X4_takeCount_92_74 _ _ _ hI (by first | exact hT | exact hI.r89 | (rw [Fr.rf.2.2.2]; exact hT))) Fr.rf (fun v1 s3 is3 fs3 h2 => ?_)
  dsimp only
  refine OK.bndW (k_X4_addNode_92_74 _ _ _ _ _ _ is3 (by first | exact hT | exact hI.r89 | (rw [fs3.2.2.2]; exact hT))) fs3 (fun v4 s6 is6 fs6 h5 => ?_)
  dsimp only
  refine OK.ieq (fun h7 => ?_) (fun h7 => ?_)
  · skip
    unfold f_X4_takeList_43
    try dsimp only
    exact OK.trS (k_X4_takeList_48_92_74 hr_X4_take hr_X4_takeField hr_X4_takeList hr_X4_takeOwn hr_X4_takeRecord FU _ _ _ _ _ _ _ is6 (by first | exact hT | (rw [fs6.2.2.2]; exact hT)) (by omega)) fs6
  · skip
    refine OK.bndR (k_X5_innerOf_4 _ _ is6 ) (fun v8 h9 => ?_)
    dsimp only
    unfold f_X4_takeList_43
    try dsimp only
    exact OK.trS (k_X4_takeList_48_92_74 hr_X4_take hr_X4_takeField hr_X4_takeList hr_X4_takeOwn hr_X4_takeRecord FU _ _ _ _ _ _ _ is6 (by first | exact hT | (rw [fs6.2.2.2]; exact hT)) (by omega)) fs6

theorem k_X4_takeOwn_89_50 {N0 : Nat} {r_X4_take : Nat → Nat → Int32 → Int32 → Int32 → Int32 → Int32 → ST → Option (ST)} (hr_X4_take : ∀ (p0 : Int32) (p1 : Int32) (p2 : Int32) (p3 : Int32) (p4 : Int32) (σ : ST), IA σ → σ.2.2.2 89 = 50 → 0 ≤ p4.toInt ∧ p4.toInt ≤ 31 ∧ (128 : Int) ≤ (N0 : Nat) + 4 * p4.toInt → OK (r_X4_take 89 50 p0 p1 p2 p3 p4 σ) (RS σ)) {r_X4_takeField : Nat → Nat → Int32 → Int32 → Int32 → Int32 → Int32 → ST → Option (ST)} (hr_X4_takeField : ∀ (p0 : Int32) (p1 : Int32) (p2 : Int32) (p3 : Int32) (p4 : Int32) (σ : ST), IA σ → σ.2.2.2 89 = 50 → 0 ≤ p4.toInt ∧ p4.toInt ≤ 30 ∧ (125 : Int) ≤ (N0 : Nat) + 4 * p4.toInt → OK (r_X4_takeField 89 50 p0 p1 p2 p3 p4 σ) (RS σ)) {r_X4_takeList : Nat → Nat → Int32 → Int32 → Int32 → Int32 → Int32 → ST → Option (ST)} (hr_X4_takeList : ∀ (p0 : Int32) (p1 : Int32) (p2 : Int32) (p3 : Int32) (p4 : Int32) (σ : ST), IA σ → σ.2.2.2 89 = 50 → 0 ≤ p4.toInt ∧ p4.toInt ≤ 30 ∧ (126 : Int) ≤ (N0 : Nat) + 4 * p4.toInt → OK (r_X4_takeList 89 50 p0 p1 p2 p3 p4 σ) (RS σ)) {r_X4_takeOwn : Nat → Nat → Int32 → Int32 → Int32 → Int32 → Int32 → ST → Option (ST)} (hr_X4_takeOwn : ∀ (p0 : Int32) (p1 : Int32) (p2 : Int32) (p3 : Int32) (p4 : Int32) (σ : ST), IA σ → σ.2.2.2 89 = 50 → 0 ≤ p4.toInt ∧ p4.toInt ≤ 30 ∧ (127 : Int) ≤ (N0 : Nat) + 4 * p4.toInt → OK (r_X4_takeOwn 89 50 p0 p1 p2 p3 p4 σ) (RS σ)) {r_X4_takeRecord : Nat → Nat → Int32 → Int32 → Int32 → Int32 → Int32 → ST → Option (ST)} (hr_X4_takeRecord : ∀ (p0 : Int32) (p1 : Int32) (p2 : Int32) (p3 : Int32) (p4 : Int32) (σ : ST), IA σ → σ.2.2.2 89 = 50 → 0 ≤ p4.toInt ∧ p4.toInt ≤ 30 ∧ (126 : Int) ≤ (N0 : Nat) + 4 * p4.toInt → OK (r_X4_takeRecord 89 50 p0 p1 p2 p3 p4 σ) (RS σ)) (p0 : Int32) (p1 : Int32) (p2 : Int32) (p3 : Int32) (p4 : Int32) (σ : ST) (hI : IA σ) (hT : σ.2.2.2 89 = 50) (hv : 0 ≤ p4.toInt ∧ p4.toInt ≤ 30 ∧ (127 : Int) ≤ (N0 + 1 : Nat) + 4 * p4.toInt)  : OK (f_X4_takeOwn r_X4_take r_X4_takeField r_X4_takeList r_X4_takeOwn r_X4_takeRecord 89 50 p0 p1 p2 p3 p4 σ) (RS σ) := by
  unfold f_X4_takeOwn
  have lt_0 := li_0
  have lt_1 := li_1
  have lt_6 := li_6
  have lt_7 := li_7
  have lt_8 := li_8
  have lFU : ((FU : Nat) : Int) = 100000 := rfl
  have lFR : ((FR : Nat) : Int) = 160 := rfl
  refine OK.bndR (k_X5_sortOf_4 _ _ hI ) (fun v1 h2 => ?_)
  dsimp only
  refine OK.ieq (fun h3 => ?_) (fun h3 => ?_)
  · skip
    refine OK.bndR (k_X0_chosen _ _ _ hI ) (fun v4 h5 => ?_)
    dsimp only
    unfold f_X4_takeOwn_26
    try dsimp only
    refine OK.bndR (k_X5_sortOf_4 _ _ hI ) (fun v6 h7 => ?_)
    dsimp only
    refine OK.ieq (fun h8 => ?_) (fun h8 => ?_)
    · skip
      refine OK.bndR (k_X5_innerOf_4 _ _ hI ) (fun v9 h10 => ?_)
      dsimp only
      refine OK.bndS (hr_X4_takeRecord _ _ _ _ _ _ hI (by first | exact hT | exact hI.r89 | (rw [Fr.rf.2.2.2]; exact hT)) (by omega)) Fr.rf (fun s11 is11 fs11 => ?_)
      try dsimp only
      exact OK.sret is11 fs11
    · skip
      refine OK.ieq (fun h12 => ?_) (fun h12 => ?_)
      · skip
        refine OK.bndR (k_X5_innerOf_4 _ _ hI ) (fun v13 h14 => ?_)
        dsimp only
        refine OK.bndS (hr_X4_takeList _ _ _ _ _ _ hI (by first | exact hT | exact hI.r89 | (rw [Fr.rf.2.2.2]; exact hT)) (by omega)) Fr.rf (fun s15 is15 fs15 => ?_)
        try dsimp only
        exact OK.sret is15 fs15
      · skip
        refine OK.bndS (k_X4_takePlain_89_50 _ _ _ _ _ hI (by first | exact hT | exact hI.r89 | (rw [Fr.rf.2.2.2]; exact hT))) Fr.rf (fun s16 is16 fs16 => ?_)
        try dsimp only
        exact OK.sret is16 fs16
  · skip
    unfold f_X4_takeOwn_26
    try dsimp only
    refine OK.bndR (k_X5_sortOf_4 _ _ hI ) (fun v17 h18 => ?_)
    dsimp only
    refine OK.ieq (fun h19 => ?_) (fun h19 => ?_)
    · skip
      refine OK.bndR (k_X5_innerOf_4 _ _ hI ) (fun v20 h21 => ?_)
      dsimp only
      refine OK.bndS (hr_X4_takeRecord _ _ _ _ _ _ hI (by first | exact hT | exact hI.r89 | (rw [Fr.rf.2.2.2]; exact hT)) (by omega)) Fr.rf (fun s22 is22 fs22 => ?_)
      try dsimp only
      exact OK.sret is22 fs22
    · skip
      refine OK.ieq (fun h23 => ?_) (fun h23 => ?_)
      · skip
        refine OK.bndR (k_X5_innerOf_4 _ _ hI ) (fun v24 h25 => ?_)
        dsimp only
        refine OK.bndS (hr_X4_takeList _ _ _ _ _ _ hI (by first | exact hT | exact hI.r89 | (rw [Fr.rf.2.2.2]; exact hT)) (by omega)) Fr.rf (fun s26 is26 fs26 => ?_)
        try dsimp only
        exact OK.sret is26 fs26
      · skip
        refine OK.bndS (k_X4_takePlain_89_50 _ _ _ _ _ hI (by first | exact hT | exact hI.r89 | (rw [Fr.rf.2.2.2]; exact hT))) Fr.rf (fun s27 is27 fs27 => ?_)
        try dsimp only
        exact OK.sret is27 fs27

theorem k_X4_takeOwn_92_62 {N0 : Nat} {r_X4_take : Nat → Nat → Int32 → Int32 → Int32 → Int32 → Int32 → ST → Option (ST)} (hr_X4_take : ∀ (p0 : Int32) (p1 : Int32) (p2 : Int32) (p3 : Int32) (p4 : Int32) (σ : ST), IA σ → σ.2.2.2 92 = 62 → 0 ≤ p4.toInt ∧ p4.toInt ≤ 31 ∧ (128 : Int) ≤ (N0 : Nat) + 4 * p4.toInt → OK (r_X4_take 92 62 p0 p1 p2 p3 p4 σ) (RS σ)) {r_X4_takeField : Nat → Nat → Int32 → Int32 → Int32 → Int32 → Int32 → ST → Option (ST)} (hr_X4_takeField : ∀ (p0 : Int32) (p1 : Int32) (p2 : Int32) (p3 : Int32) (p4 : Int32) (σ : ST), IA σ → σ.2.2.2 92 = 62 → 0 ≤ p4.toInt ∧ p4.toInt ≤ 30 ∧ (125 : Int) ≤ (N0 : Nat) + 4 * p4.toInt → OK (r_X4_takeField 92 62 p0 p1 p2 p3 p4 σ) (RS σ)) {r_X4_takeList : Nat → Nat → Int32 → Int32 → Int32 → Int32 → Int32 → ST → Option (ST)} (hr_X4_takeList : ∀ (p0 : Int32) (p1 : Int32) (p2 : Int32) (p3 : Int32) (p4 : Int32) (σ : ST), IA σ → σ.2.2.2 92 = 62 → 0 ≤ p4.toInt ∧ p4.toInt ≤ 30 ∧ (126 : Int) ≤ (N0 : Nat) + 4 * p4.toInt → OK (r_X4_takeList 92 62 p0 p1 p2 p3 p4 σ) (RS σ)) {r_X4_takeOwn : Nat → Nat → Int32 → Int32 → Int32 → Int32 → Int32 → ST → Option (ST)} (hr_X4_takeOwn : ∀ (p0 : Int32) (p1 : Int32) (p2 : Int32) (p3 : Int32) (p4 : Int32) (σ : ST), IA σ → σ.2.2.2 92 = 62 → 0 ≤ p4.toInt ∧ p4.toInt ≤ 30 ∧ (127 : Int) ≤ (N0 : Nat) + 4 * p4.toInt → OK (r_X4_takeOwn 92 62 p0 p1 p2 p3 p4 σ) (RS σ)) {r_X4_takeRecord : Nat → Nat → Int32 → Int32 → Int32 → Int32 → Int32 → ST → Option (ST)} (hr_X4_takeRecord : ∀ (p0 : Int32) (p1 : Int32) (p2 : Int32) (p3 : Int32) (p4 : Int32) (σ : ST), IA σ → σ.2.2.2 92 = 62 → 0 ≤ p4.toInt ∧ p4.toInt ≤ 30 ∧ (126 : Int) ≤ (N0 : Nat) + 4 * p4.toInt → OK (r_X4_takeRecord 92 62 p0 p1 p2 p3 p4 σ) (RS σ)) (p0 : Int32) (p1 : Int32) (p2 : Int32) (p3 : Int32) (p4 : Int32) (σ : ST) (hI : IA σ) (hT : σ.2.2.2 92 = 62) (hv : 0 ≤ p4.toInt ∧ p4.toInt ≤ 30 ∧ (127 : Int) ≤ (N0 + 1 : Nat) + 4 * p4.toInt)  : OK (f_X4_takeOwn r_X4_take r_X4_takeField r_X4_takeList r_X4_takeOwn r_X4_takeRecord 92 62 p0 p1 p2 p3 p4 σ) (RS σ) := by
  unfold f_X4_takeOwn
  have lt_0 := li_0
  have lt_1 := li_1
  have lt_6 := li_6
  have lt_7 := li_7
  have lt_8 := li_8
  have lFU : ((FU : Nat) : Int) = 100000 := rfl
  have lFR : ((FR : Nat) : Int) = 160 := rfl
  refine OK.bndR (k_X5_sortOf_4 _ _ hI ) (fun v1 h2 => ?_)
  dsimp only
  refine OK.ieq (fun h3 => ?_) (fun h3 => ?_)
  · skip
    refine OK.bndR (k_X0_chosen _ _ _ hI ) (fun v4 h5 => ?_)
    dsimp only
    unfold f_X4_takeOwn_26
    try dsimp only
    refine OK.bndR (k_X5_sortOf_4 _ _ hI ) (fun v6 h7 => ?_)
    dsimp only
    refine OK.ieq (fun h8 => ?_) (fun h8 => ?_)
    · skip
      refine OK.bndR (k_X5_innerOf_4 _ _ hI ) (fun v9 h10 => ?_)
      dsimp only
      refine OK.bndS (hr_X4_takeRecord _ _ _ _ _ _ hI (by first | exact hT | exact hI.r89 | (rw [Fr.rf.2.2.2]; exact hT)) (by omega)) Fr.rf (fun s11 is11 fs11 => ?_)
      try dsimp only
      exact OK.sret is11 fs11
    · skip
      refine OK.ieq (fun h12 => ?_) (fun h12 => ?_)
      · skip
        refine OK.bndR (k_X5_innerOf_4 _ _ hI ) (fun v13 h14 => ?_)
        dsimp only
        refine OK.bndS (hr_X4_takeList _ _ _ _ _ _ hI (by first | exact hT | exact hI.r89 | (rw [Fr.rf.2.2.2]; exact hT)) (by omega)) Fr.rf (fun s15 is15 fs15 => ?_)
        try dsimp only
        exact OK.sret is15 fs15
      · skip
        refine OK.bndS (k_X4_takePlain_92_62 _ _ _ _ _ hI (by first | exact hT | exact hI.r89 | (rw [Fr.rf.2.2.2]; exact hT))) Fr.rf (fun s16 is16 fs16 => ?_)
        try dsimp only
        exact OK.sret is16 fs16
  · skip
    unfold f_X4_takeOwn_26
    try dsimp only
    refine OK.bndR (k_X5_sortOf_4 _ _ hI ) (fun v17 h18 => ?_)
    dsimp only
    refine OK.ieq (fun h19 => ?_) (fun h19 => ?_)
    · skip
      refine OK.bndR (k_X5_innerOf_4 _ _ hI ) (fun v20 h21 => ?_)
      dsimp only
      refine OK.bndS (hr_X4_takeRecord _ _ _ _ _ _ hI (by first | exact hT | exact hI.r89 | (rw [Fr.rf.2.2.2]; exact hT)) (by omega)) Fr.rf (fun s22 is22 fs22 => ?_)
      try dsimp only
      exact OK.sret is22 fs22
    · skip
      refine OK.ieq (fun h23 => ?_) (fun h23 => ?_)
      · skip
        refine OK.bndR (k_X5_innerOf_4 _ _ hI ) (fun v24 h25 => ?_)
        dsimp only
        refine OK.bndS (hr_X4_takeList _ _ _ _ _ _ hI (by first | exact hT | exact hI.r89 | (rw [Fr.rf.2.2.2]; exact hT)) (by omega)) Fr.rf (fun s26 is26 fs26 => ?_)
        try dsimp only
        exact OK.sret is26 fs26
      · skip
        refine OK.bndS (k_X4_takePlain_92_62 _ _ _ _ _ hI (by first | exact hT | exact hI.r89 | (rw [Fr.rf.2.2.2]; exact hT))) Fr.rf (fun s27 is27 fs27 => ?_)
        try dsimp only
        exact OK.sret is27 fs27

theorem k_X4_takeOwn_92_74 {N0 : Nat} {r_X4_take : Nat → Nat → Int32 → Int32 → Int32 → Int32 → Int32 → ST → Option (ST)} (hr_X4_take : ∀ (p0 : Int32) (p1 : Int32) (p2 : Int32) (p3 : Int32) (p4 : Int32) (σ : ST), IA σ → σ.2.2.2 92 = 74 → 0 ≤ p4.toInt ∧ p4.toInt ≤ 31 ∧ (128 : Int) ≤ (N0 : Nat) + 4 * p4.toInt → OK (r_X4_take 92 74 p0 p1 p2 p3 p4 σ) (RS σ)) {r_X4_takeField : Nat → Nat → Int32 → Int32 → Int32 → Int32 → Int32 → ST → Option (ST)} (hr_X4_takeField : ∀ (p0 : Int32) (p1 : Int32) (p2 : Int32) (p3 : Int32) (p4 : Int32) (σ : ST), IA σ → σ.2.2.2 92 = 74 → 0 ≤ p4.toInt ∧ p4.toInt ≤ 30 ∧ (125 : Int) ≤ (N0 : Nat) + 4 * p4.toInt → OK (r_X4_takeField 92 74 p0 p1 p2 p3 p4 σ) (RS σ)) {r_X4_takeList : Nat → Nat → Int32 → Int32 → Int32 → Int32 → Int32 → ST → Option (ST)} (hr_X4_takeList : ∀ (p0 : Int32) (p1 : Int32) (p2 : Int32) (p3 : Int32) (p4 : Int32) (σ : ST), IA σ → σ.2.2.2 92 = 74 → 0 ≤ p4.toInt ∧ p4.toInt ≤ 30 ∧ (126 : Int) ≤ (N0 : Nat) + 4 * p4.toInt → OK (r_X4_takeList 92 74 p0 p1 p2 p3 p4 σ) (RS σ)) {r_X4_takeOwn : Nat → Nat → Int32 → Int32 → Int32 → Int32 → Int32 → ST → Option (ST)} (hr_X4_takeOwn : ∀ (p0 : Int32) (p1 : Int32) (p2 : Int32) (p3 : Int32) (p4 : Int32) (σ : ST), IA σ → σ.2.2.2 92 = 74 → 0 ≤ p4.toInt ∧ p4.toInt ≤ 30 ∧ (127 : Int) ≤ (N0 : Nat) + 4 * p4.toInt → OK (r_X4_takeOwn 92 74 p0 p1 p2 p3 p4 σ) (RS σ)) {r_X4_takeRecord : Nat → Nat → Int32 → Int32 → Int32 → Int32 → Int32 → ST → Option (ST)} (hr_X4_takeRecord : ∀ (p0 : Int32) (p1 : Int32) (p2 : Int32) (p3 : Int32) (p4 : Int32) (σ : ST), IA σ → σ.2.2.2 92 = 74 → 0 ≤ p4.toInt ∧ p4.toInt ≤ 30 ∧ (126 : Int) ≤ (N0 : Nat) + 4 * p4.toInt → OK (r_X4_takeRecord 92 74 p0 p1 p2 p3 p4 σ) (RS σ)) (p0 : Int32) (p1 : Int32) (p2 : Int32) (p3 : Int32) (p4 : Int32) (σ : ST) (hI : IA σ) (hT : σ.2.2.2 92 = 74) (hv : 0 ≤ p4.toInt ∧ p4.toInt ≤ 30 ∧ (127 : Int) ≤ (N0 + 1 : Nat) + 4 * p4.toInt)  : OK (f_X4_takeOwn r_X4_take r_X4_takeField r_X4_takeList r_X4_takeOwn r_X4_takeRecord 92 74 p0 p1 p2 p3 p4 σ) (RS σ) := by
  unfold f_X4_takeOwn
  have lt_0 := li_0
  have lt_1 := li_1
  have lt_6 := li_6
  have lt_7 := li_7
  have lt_8 := li_8
  have lFU : ((FU : Nat) : Int) = 100000 := rfl
  have lFR : ((FR : Nat) : Int) = 160 := rfl
  refine OK.bndR (k_X5_sortOf_4 _ _ hI ) (fun v1 h2 => ?_)
  dsimp only
  refine OK.ieq (fun h3 => ?_) (fun h3 => ?_)
  · skip
    refine OK.bndR (k_X0_chosen _ _ _ hI ) (fun v4 h5 => ?_)
    dsimp only
    unfold f_X4_takeOwn_26
    try dsimp only
    refine OK.bndR (k_X5_sortOf_4 _ _ hI ) (fun v6 h7 => ?_)
    dsimp only
    refine OK.ieq (fun h8 => ?_) (fun h8 => ?_)
    · skip
      refine OK.bndR (k_X5_innerOf_4 _ _ hI ) (fun v9 h10 => ?_)
      dsimp only
      refine OK.bndS (hr_X4_takeRecord _ _ _ _ _ _ hI (by first | exact hT | exact hI.r89 | (rw [Fr.rf.2.2.2]; exact hT)) (by omega)) Fr.rf (fun s11 is11 fs11 => ?_)
      try dsimp only
      exact OK.sret is11 fs11
    · skip
      refine OK.ieq (fun h12 => ?_) (fun h12 => ?_)
      · skip
        refine OK.bndR (k_X5_innerOf_4 _ _ hI ) (fun v13 h14 => ?_)
        dsimp only
        refine OK.bndS (hr_X4_takeList _ _ _ _ _ _ hI (by first | exact hT | exact hI.r89 | (rw [Fr.rf.2.2.2]; exact hT)) (by omega)) Fr.rf (fun s15 is15 fs15 => ?_)
        try dsimp only
        exact OK.sret is15 fs15
      · skip
        refine OK.bndS (k_X4_takePlain_92_74 _ _ _ _ _ hI (by first | exact hT | exact hI.r89 | (rw [Fr.rf.2.2.2]; exact hT))) Fr.rf (fun s16 is16 fs16 => ?_)
        try dsimp only
        exact OK.sret is16 fs16
  · skip
    unfold f_X4_takeOwn_26
    try dsimp only
    refine OK.bndR (k_X5_sortOf_4 _ _ hI ) (fun v17 h18 => ?_)
    dsimp only
    refine OK.ieq (fun h19 => ?_) (fun h19 => ?_)
    · skip
      refine OK.bndR (k_X5_innerOf_4 _ _ hI ) (fun v20 h21 => ?_)
      dsimp only
      refine OK.bndS (hr_X4_takeRecord _ _ _ _ _ _ hI (by first | exact hT | exact hI.r89 | (rw [Fr.rf.2.2.2]; exact hT)) (by omega)) Fr.rf (fun s22 is22 fs22 => ?_)
      try dsimp only
      exact OK.sret is22 fs22
    · skip
      refine OK.ieq (fun h23 => ?_) (fun h23 => ?_)
      · skip
        refine OK.bndR (k_X5_innerOf_4 _ _ hI ) (fun v24 h25 => ?_)
        dsimp only
        refine OK.bndS (hr_X4_takeList _ _ _ _ _ _ hI (by first | exact hT | exact hI.r89 | (rw [Fr.rf.2.2.2]; exact hT)) (by omega)) Fr.rf (fun s26 is26 fs26 => ?_)
        try dsimp only
        exact OK.sret is26 fs26
      · skip
        refine OK.bndS (k_X4_takePlain_92_74 _ _ _ _ _ hI (by first | exact hT | exact hI.r89 | (rw [Fr.rf.2.2.2]; exact hT))) Fr.rf (fun s27 is27 fs27 => ?_)
        try dsimp only
        exact OK.sret is27 fs27

theorem k_X4_takeRecord_112_89_50 {N0 : Nat} {r_X4_take : Nat → Nat → Int32 → Int32 → Int32 → Int32 → Int32 → ST → Option (ST)} (hr_X4_take : ∀ (p0 : Int32) (p1 : Int32) (p2 : Int32) (p3 : Int32) (p4 : Int32) (σ : ST), IA σ → σ.2.2.2 89 = 50 → 0 ≤ p4.toInt ∧ p4.toInt ≤ 31 ∧ (128 : Int) ≤ (N0 : Nat) + 4 * p4.toInt → OK (r_X4_take 89 50 p0 p1 p2 p3 p4 σ) (RS σ)) {r_X4_takeField : Nat → Nat → Int32 → Int32 → Int32 → Int32 → Int32 → ST → Option (ST)} (hr_X4_takeField : ∀ (p0 : Int32) (p1 : Int32) (p2 : Int32) (p3 : Int32) (p4 : Int32) (σ : ST), IA σ → σ.2.2.2 89 = 50 → 0 ≤ p4.toInt ∧ p4.toInt ≤ 30 ∧ (125 : Int) ≤ (N0 : Nat) + 4 * p4.toInt → OK (r_X4_takeField 89 50 p0 p1 p2 p3 p4 σ) (RS σ)) {r_X4_takeList : Nat → Nat → Int32 → Int32 → Int32 → Int32 → Int32 → ST → Option (ST)} (hr_X4_takeList : ∀ (p0 : Int32) (p1 : Int32) (p2 : Int32) (p3 : Int32) (p4 : Int32) (σ : ST), IA σ → σ.2.2.2 89 = 50 → 0 ≤ p4.toInt ∧ p4.toInt ≤ 30 ∧ (126 : Int) ≤ (N0 : Nat) + 4 * p4.toInt → OK (r_X4_takeList 89 50 p0 p1 p2 p3 p4 σ) (RS σ)) {r_X4_takeOwn : Nat → Nat → Int32 → Int32 → Int32 → Int32 → Int32 → ST → Option (ST)} (hr_X4_takeOwn : ∀ (p0 : Int32) (p1 : Int32) (p2 : Int32) (p3 : Int32) (p4 : Int32) (σ : ST), IA σ → σ.2.2.2 89 = 50 → 0 ≤ p4.toInt ∧ p4.toInt ≤ 30 ∧ (127 : Int) ≤ (N0 : Nat) + 4 * p4.toInt → OK (r_X4_takeOwn 89 50 p0 p1 p2 p3 p4 σ) (RS σ)) {r_X4_takeRecord : Nat → Nat → Int32 → Int32 → Int32 → Int32 → Int32 → ST → Option (ST)} (hr_X4_takeRecord : ∀ (p0 : Int32) (p1 : Int32) (p2 : Int32) (p3 : Int32) (p4 : Int32) (σ : ST), IA σ → σ.2.2.2 89 = 50 → 0 ≤ p4.toInt ∧ p4.toInt ≤ 30 ∧ (126 : Int) ≤ (N0 : Nat) + 4 * p4.toInt → OK (r_X4_takeRecord 89 50 p0 p1 p2 p3 p4 σ) (RS σ)) : ∀ (n : Nat) (x5 : Int32) (x6 : Int32) (x7 : Int32) (x8 : Int32) (σ : ST), IA σ → σ.2.2.2 89 = 50 → ((0 ≤ x5.toInt ∧ x5.toInt ≤ 30 ∧ (126 : Int) ≤ (N0 + 1 : Nat) + 4 * x5.toInt) ∧ 0 ≤ x8.toInt ∧ x8.toInt ≤ 8 ∧ (8 : Int) - x8.toInt < n) → OK (f_X4_takeRecord_112 r_X4_take r_X4_takeField r_X4_takeList r_X4_takeOwn r_X4_takeRecord 89 50 n x5 x6 x7 x8 σ) (RS σ) := by
  intro n
  induction n with
  | zero =>
    intro x5 x6 x7 x8 σ hI hT hv
    omega
  | succ n ih =>
    intro x5 x6 x7 x8 σ hI hT hv
    rw [f_X4_takeRecord_112]
    have lt_m1 := li_m1
    have lt_0 := li_0
    have lt_1 := li_1
    have lFU : ((FU : Nat) : Int) = 100000 := rfl
    have lFR : ((FR : Nat) : Int) = 160 := rfl
    refine OK.bndR (k_X5_fieldsOf_4 _ _ hI ) (fun v1 h2 => ?_)
    dsimp only
    refine OK.ile (fun h3 => ?_) (fun h3 => ?_)
    · skip
      exact OK.sret hI Fr.rf
    · skip
      refine OK.ieq (fun h4 => ?_) (fun h4 => ?_)
      · skip
        refine OK.bndR (k_X4_sourceAt_89_50 _ _ _ hI (by first | exact hT | exact hI.r89 | (rw [Fr.rf.2.2.2]; exact hT))) (fun v5 h6 => ?_)
        dsimp only
        refine OK.ieq (fun h7 => ?_) (fun h7 => ?_)
        · skip
          refine OK.bndS (k_X4_fillIn_89_50 _ _ _ _ hI (by first | exact hT | exact hI.r89 | (rw [Fr.rf.2.2.2]; exact hT))) Fr.rf (fun s8 is8 fs8 => ?_)
          try dsimp only
          unfold f_X4_takeRecord_155
          try dsimp only
          obtain ⟨a9k, a9, a9l, a9r⟩ := i_add x8 1
          try (refine k0el (k := a9k) ?_ (fun e0 => ?_); (focus omega); subst e0)
          exact OK.trS (ih _ _ _ _ _ is8 (by first | exact hT | (rw [fs8.2.2.2]; exact hT)) (by omega)) fs8
        · skip
          unfold f_X4_takeRecord_155
          try dsimp only
          obtain ⟨a10k, a10, a10l, a10r⟩ := i_add x8 1
          try (refine k0el (k := a10k) ?_ (fun e0 => ?_); (focus omega); subst e0)
          exact OK.trS (ih _ _ _ _ _ hI (by first | exact hT | (rw [Fr.rf.2.2.2]; exact hT)) (by omega)) Fr.rf
      · skip
        exact OK.sret hI Fr.rf

theorem k_X4_takeRecord_112_92_62 {N0 : Nat} {r_X4_take : Nat → Nat → Int32 → Int32 → Int32 → Int32 → Int32 → ST → Option (ST)} (hr_X4_take : ∀ (p0 : Int32) (p1 : Int32) (p2 : Int32) (p3 : Int32) (p4 : Int32) (σ : ST), IA σ → σ.2.2.2 92 = 62 → 0 ≤ p4.toInt ∧ p4.toInt ≤ 31 ∧ (128 : Int) ≤ (N0 : Nat) + 4 * p4.toInt → OK (r_X4_take 92 62 p0 p1 p2 p3 p4 σ) (RS σ)) {r_X4_takeField : Nat → Nat → Int32 → Int32 → Int32 → Int32 → Int32 → ST → Option (ST)} (hr_X4_takeField : ∀ (p0 : Int32) (p1 : Int32) (p2 : Int32) (p3 : Int32) (p4 : Int32) (σ : ST), IA σ → σ.2.2.2 92 = 62 → 0 ≤ p4.toInt ∧ p4.toInt ≤ 30 ∧ (125 : Int) ≤ (N0 : Nat) + 4 * p4.toInt → OK (r_X4_takeField 92 62 p0 p1 p2 p3 p4 σ) (RS σ)) {r_X4_takeList : Nat → Nat → Int32 → Int32 → Int32 → Int32 → Int32 → ST → Option (ST)} (hr_X4_takeList : ∀ (p0 : Int32) (p1 : Int32) (p2 : Int32) (p3 : Int32) (p4 : Int32) (σ : ST), IA σ → σ.2.2.2 92 = 62 → 0 ≤ p4.toInt ∧ p4.toInt ≤ 30 ∧ (126 : Int) ≤ (N0 : Nat) + 4 * p4.toInt → OK (r_X4_takeList 92 62 p0 p1 p2 p3 p4 σ) (RS σ)) {r_X4_takeOwn : Nat → Nat → Int32 → Int32 → Int32 → Int32 → Int32 → ST → Option (ST)} (hr_X4_takeOwn : ∀ (p0 : Int32) (p1 : Int32) (p2 : Int32) (p3 : Int32) (p4 : Int32) (σ : ST), IA σ → σ.2.2.2 92 = 62 → 0 ≤ p4.toInt ∧ p4.toInt ≤ 30 ∧ (127 : Int) ≤ (N0 : Nat) + 4 * p4.toInt → OK (r_X4_takeOwn 92 62 p0 p1 p2 p3 p4 σ) (RS σ)) {r_X4_takeRecord : Nat → Nat → Int32 → Int32 → Int32 → Int32 → Int32 → ST → Option (ST)} (hr_X4_takeRecord : ∀ (p0 : Int32) (p1 : Int32) (p2 : Int32) (p3 : Int32) (p4 : Int32) (σ : ST), IA σ → σ.2.2.2 92 = 62 → 0 ≤ p4.toInt ∧ p4.toInt ≤ 30 ∧ (126 : Int) ≤ (N0 : Nat) + 4 * p4.toInt → OK (r_X4_takeRecord 92 62 p0 p1 p2 p3 p4 σ) (RS σ)) : ∀ (n : Nat) (x5 : Int32) (x6 : Int32) (x7 : Int32) (x8 : Int32) (σ : ST), IA σ → σ.2.2.2 92 = 62 → ((0 ≤ x5.toInt ∧ x5.toInt ≤ 30 ∧ (126 : Int) ≤ (N0 + 1 : Nat) + 4 * x5.toInt) ∧ 0 ≤ x8.toInt ∧ x8.toInt ≤ 8 ∧ (8 : Int) - x8.toInt < n) → OK (f_X4_takeRecord_112 r_X4_take r_X4_takeField r_X4_takeList r_X4_takeOwn r_X4_takeRecord 92 62 n x5 x6 x7 x8 σ) (RS σ) := by
  intro n
  induction n with
  | zero =>
    intro x5 x6 x7 x8 σ hI hT hv
    omega
  | succ n ih =>
    intro x5 x6 x7 x8 σ hI hT hv
    rw [f_X4_takeRecord_112]
    have lt_m1 := li_m1
    have lt_0 := li_0
    have lt_1 := li_1
    have lFU : ((FU : Nat) : Int) = 100000 := rfl
    have lFR : ((FR : Nat) : Int) = 160 := rfl
    refine OK.bndR (k_X5_fieldsOf_4 _ _ hI ) (fun v1 h2 => ?_)
    dsimp only
    refine OK.ile (fun h3 => ?_) (fun h3 => ?_)
    · skip
      exact OK.sret hI Fr.rf
    · skip
      refine OK.ieq (fun h4 => ?_) (fun h4 => ?_)
      · skip
        refine OK.bndR (k_X4_sourceAt_92_62 _ _ _ hI (by first | exact hT | exact hI.r89 | (rw [Fr.rf.2.2.2]; exact hT))) (fun v5 h6 => ?_)
        dsimp only
        refine OK.ieq (fun h7 => ?_) (fun h7 => ?_)
        · skip
          refine OK.bndS (k_X4_fillIn_92_62 _ _ _ _ hI (by first | exact hT | exact hI.r89 | (rw [Fr.rf.2.2.2]; exact hT))) Fr.rf (fun s8 is8 fs8 => ?_)
          try dsimp only
          unfold f_X4_takeRecord_155
          try dsimp only
          obtain ⟨a9k, a9, a9l, a9r⟩ := i_add x8 1
          try (refine k0el (k := a9k) ?_ (fun e0 => ?_); (focus omega); subst e0)
          exact OK.trS (ih _ _ _ _ _ is8 (by first | exact hT | (rw [fs8.2.2.2]; exact hT)) (by omega)) fs8
        · skip
          unfold f_X4_takeRecord_155
          try dsimp only
          obtain ⟨a10k, a10, a10l, a10r⟩ := i_add x8 1
          try (refine k0el (k := a10k) ?_ (fun e0 => ?_); (focus omega); subst e0)
          exact OK.trS (ih _ _ _ _ _ hI (by first | exact hT | (rw [Fr.rf.2.2.2]; exact hT)) (by omega)) Fr.rf
      · skip
        exact OK.sret hI Fr.rf

theorem k_X4_takeRecord_112_92_74 {N0 : Nat} {r_X4_take : Nat → Nat → Int32 → Int32 → Int32 → Int32 → Int32 → ST → Option (ST)} (hr_X4_take : ∀ (p0 : Int32) (p1 : Int32) (p2 : Int32) (p3 : Int32) (p4 : Int32) (σ : ST), IA σ → σ.2.2.2 92 = 74 → 0 ≤ p4.toInt ∧ p4.toInt ≤ 31 ∧ (128 : Int) ≤ (N0 : Nat) + 4 * p4.toInt → OK (r_X4_take 92 74 p0 p1 p2 p3 p4 σ) (RS σ)) {r_X4_takeField : Nat → Nat → Int32 → Int32 → Int32 → Int32 → Int32 → ST → Option (ST)} (hr_X4_takeField : ∀ (p0 : Int32) (p1 : Int32) (p2 : Int32) (p3 : Int32) (p4 : Int32) (σ : ST), IA σ → σ.2.2.2 92 = 74 → 0 ≤ p4.toInt ∧ p4.toInt ≤ 30 ∧ (125 : Int) ≤ (N0 : Nat) + 4 * p4.toInt → OK (r_X4_takeField 92 74 p0 p1 p2 p3 p4 σ) (RS σ)) {r_X4_takeList : Nat → Nat → Int32 → Int32 → Int32 → Int32 → Int32 → ST → Option (ST)} (hr_X4_takeList : ∀ (p0 : Int32) (p1 : Int32) (p2 : Int32) (p3 : Int32) (p4 : Int32) (σ : ST), IA σ → σ.2.2.2 92 = 74 → 0 ≤ p4.toInt ∧ p4.toInt ≤ 30 ∧ (126 : Int) ≤ (N0 : Nat) + 4 * p4.toInt → OK (r_X4_takeList 92 74 p0 p1 p2 p3 p4 σ) (RS σ)) {r_X4_takeOwn : Nat → Nat → Int32 → Int32 → Int32 → Int32 → Int32 → ST → Option (ST)} (hr_X4_takeOwn : ∀ (p0 : Int32) (p1 : Int32) (p2 : Int32) (p3 : Int32) (p4 : Int32) (σ : ST), IA σ → σ.2.2.2 92 = 74 → 0 ≤ p4.toInt ∧ p4.toInt ≤ 30 ∧ (127 : Int) ≤ (N0 : Nat) + 4 * p4.toInt → OK (r_X4_takeOwn 92 74 p0 p1 p2 p3 p4 σ) (RS σ)) {r_X4_takeRecord : Nat → Nat → Int32 → Int32 → Int32 → Int32 → Int32 → ST → Option (ST)} (hr_X4_takeRecord : ∀ (p0 : Int32) (p1 : Int32) (p2 : Int32) (p3 : Int32) (p4 : Int32) (σ : ST), IA σ → σ.2.2.2 92 = 74 → 0 ≤ p4.toInt ∧ p4.toInt ≤ 30 ∧ (126 : Int) ≤ (N0 : Nat) + 4 * p4.toInt → OK (r_X4_takeRecord 92 74 p0 p1 p2 p3 p4 σ) (RS σ)) : ∀ (n : Nat) (x5 : Int32) (x6 : Int32) (x7 : Int32) (x8 : Int32) (σ : ST), IA σ → σ.2.2.2 92 = 74 → ((0 ≤ x5.toInt ∧ x5.toInt ≤ 30 ∧ (126 : Int) ≤ (N0 + 1 : Nat) + 4 * x5.toInt) ∧ 0 ≤ x8.toInt ∧ x8.toInt ≤ 8 ∧ (8 : Int) - x8.toInt < n) → OK (f_X4_takeRecord_112 r_X4_take r_X4_takeField r_X4_takeList r_X4_takeOwn r_X4_takeRecord 92 74 n x5 x6 x7 x8 σ) (RS σ) := by
  intro n
  induction n with
  | zero =>
    intro x5 x6 x7 x8 σ hI hT hv
    omega
  | succ n ih =>
    intro x5 x6 x7 x8 σ hI hT hv
    rw [f_X4_takeRecord_112]
    have lt_m1 := li_m1
    have lt_0 := li_0
    have lt_1 := li_1
    have lFU : ((FU : Nat) : Int) = 100000 := rfl
    have lFR : ((FR : Nat) : Int) = 160 := rfl
    refine OK.bndR (k_X5_fieldsOf_4 _ _ hI ) (fun v1 h2 => ?_)
    dsimp only
    refine OK.ile (fun h3 => ?_) (fun h3 => ?_)
    · skip
      exact OK.sret hI Fr.rf
    · skip
      refine OK.ieq (fun h4 => ?_) (fun h4 => ?_)
      · skip
        refine OK.bndR (k_X4_sourceAt_92_74 _ _ _ hI (by first | exact hT | exact hI.r89 | (rw [Fr.rf.2.2.2]; exact hT))) (fun v5 h6 => ?_)
        dsimp only
        refine OK.ieq (fun h7 => ?_) (fun h7 => ?_)
        · skip
          refine OK.bndS (k_X4_fillIn_92_74 _ _ _ _ hI (by first | exact hT | exact hI.r89 | (rw [Fr.rf.2.2.2]; exact hT))) Fr.rf (fun s8 is8 fs8 => ?_)
          try dsimp only
          unfold f_X4_takeRecord_155
          try dsimp only
          obtain ⟨a9k, a9, a9l, a9r⟩ := i_add x8 1
          try (refine k0el (k := a9k) ?_ (fun e0 => ?_); (focus omega); subst e0)
          exact OK.trS (ih _ _ _ _ _ is8 (by first | exact hT | (rw [fs8.2.2.2]; exact hT)) (by omega)) fs8
        · skip
          unfold f_X4_takeRecord_155
          try dsimp only
          obtain ⟨a10k, a10, a10l, a10r⟩ := i_add x8 1
          try (refine k0el (k := a10k) ?_ (fun e0 => ?_); (focus omega); subst e0)
          exact OK.trS (ih _ _ _ _ _ hI (by first | exact hT | (rw [Fr.rf.2.2.2]; exact hT)) (by omega)) Fr.rf
      · skip
        exact OK.sret hI Fr.rf

theorem k_X4_takeRecord_51_89_50 {N0 : Nat} {r_X4_take : Nat → Nat → Int32 → Int32 → Int32 → Int32 → Int32 → ST → Option (ST)} (hr_X4_take : ∀ (p0 : Int32) (p1 : Int32) (p2 : Int32) (p3 : Int32) (p4 : Int32) (σ : ST), IA σ → σ.2.2.2 89 = 50 → 0 ≤ p4.toInt ∧ p4.toInt ≤ 31 ∧ (128 : Int) ≤ (N0 : Nat) + 4 * p4.toInt → OK (r_X4_take 89 50 p0 p1 p2 p3 p4 σ) (RS σ)) {r_X4_takeField : Nat → Nat → Int32 → Int32 → Int32 → Int32 → Int32 → ST → Option (ST)} (hr_X4_takeField : ∀ (p0 : Int32) (p1 : Int32) (p2 : Int32) (p3 : Int32) (p4 : Int32) (σ : ST), IA σ → σ.2.2.2 89 = 50 → 0 ≤ p4.toInt ∧ p4.toInt ≤ 30 ∧ (125 : Int) ≤ (N0 : Nat) + 4 * p4.toInt → OK (r_X4_takeField 89 50 p0 p1 p2 p3 p4 σ) (RS σ)) {r_X4_takeList : Nat → Nat → Int32 → Int32 → Int32 → Int32 → Int32 → ST → Option (ST)} (hr_X4_takeList : ∀ (p0 : Int32) (p1 : Int32) (p2 : Int32) (p3 : Int32) (p4 : Int32) (σ : ST), IA σ → σ.2.2.2 89 = 50 → 0 ≤ p4.toInt ∧ p4.toInt ≤ 30 ∧ (126 : Int) ≤ (N0 : Nat) + 4 * p4.toInt → OK (r_X4_takeList 89 50 p0 p1 p2 p3 p4 σ) (RS σ)) {r_X4_takeOwn : Nat → Nat → Int32 → Int32 → Int32 → Int32 → Int32 → ST → Option (ST)} (hr_X4_takeOwn : ∀ (p0 : Int32) (p1 : Int32) (p2 : Int32) (p3 : Int32) (p4 : Int32) (σ : ST), IA σ → σ.2.2.2 89 = 50 → 0 ≤ p4.toInt ∧ p4.toInt ≤ 30 ∧ (127 : Int) ≤ (N0 : Nat) + 4 * p4.toInt → OK (r_X4_takeOwn 89 50 p0 p1 p2 p3 p4 σ) (RS σ)) {r_X4_takeRecord : Nat → Nat → Int32 → Int32 → Int32 → Int32 → Int32 → ST → Option (ST)} (hr_X4_takeRecord : ∀ (p0 : Int32) (p1 : Int32) (p2 : Int32) (p3 : Int32) (p4 : Int32) (σ : ST), IA σ → σ.2.2.2 89 = 50 → 0 ≤ p4.toInt ∧ p4.toInt ≤ 30 ∧ (126 : Int) ≤ (N0 : Nat) + 4 * p4.toInt → OK (r_X4_takeRecord 89 50 p0 p1 p2 p3 p4 σ) (RS σ)) : ∀ (n : Nat) (x1 : Int32) (x5 : Int32) (x6 : Int32) (x7 : Int32) (x8 : Int32) (σ : ST), IA σ → σ.2.2.2 89 = 50 → ((0 ≤ x5.toInt ∧ x5.toInt ≤ 30 ∧ (126 : Int) ≤ (N0 + 1 : Nat) + 4 * x5.toInt) ∧ 0 ≤ x8.toInt ∧ x8.toInt ≤ 8 ∧ (8 : Int) - x8.toInt < n) → OK (f_X4_takeRecord_51 r_X4_take r_X4_takeField r_X4_takeList r_X4_takeOwn r_X4_takeRecord 89 50 n x1 x5 x6 x7 x8 σ) (RS σ) := by
  intro n
  induction n with
  | zero =>
    intro x1 x5 x6 x7 x8 σ hI hT hv
    omega
  | succ n ih =>
    intro x1 x5 x6 x7 x8 σ hI hT hv
    rw [f_X4_takeRecord_51]
    have lt_0 := li_0
    have lt_1 := li_1
    have lFU : ((FU : Nat) : Int) = 100000 := rfl
    have lFR : ((FR : Nat) : Int) = 160 := rfl
    refine OK.bndR (k_X5_fieldsOf_4 _ _ hI ) (fun v1 h2 => ?_)
    dsimp only
    refine OK.ile (fun h3 => ?_) (fun h3 => ?_)
    · skip
      unfold f_X4_takeRecord_109
      try dsimp only
      exact OK.trS (k_X4_takeRecord_112_89_50 hr_X4_take hr_X4_takeField hr_X4_takeList hr_X4_takeOwn hr_X4_takeRecord FU _ _ _ _ _ hI (by first | exact hT | (rw [Fr.rf.2.2.2]; exact hT)) (by omega)) Fr.rf
    · skip
      refine OK.ieq (fun h4 => ?_) (fun h4 => ?_)
      · skip
        refine OK.bndS (k_X4_step_89_50 _ _ hI (by first | exact hT | exact hI.r89 | (rw [Fr.rf.2.2.2]; exact hT))) Fr.rf (fun s5 is5 fs5 => ?_)
        try dsimp only
        refine OK.bndR (k_X5_typeOf_4 _ _ _ is5 ) (fun v6 h7 => ?_)
        dsimp only
        refine OK.bndS (hr_X4_takeField _ _ _ _ _ _ is5 (by first | exact hT | exact hI.r89 | (rw [fs5.2.2.2]; exact hT)) (by omega)) fs5 (fun s8 is8 fs8 => ?_)
        try dsimp only
        refine OK.bndS (k_X4_stepBack_89_50 _ is8 (by first | exact hT | exact hI.r89 | (rw [fs8.2.2.2]; exact hT))) fs8 (fun s9 is9 fs9 => ?_)
        try dsimp only
        obtain ⟨a10k, a10, a10l, a10r⟩ := i_add x8 1
        try (refine k0el (k := a10k) ?_ (fun e0 => ?_); (focus omega); subst e0)
        exact OK.trS (ih _ _ _ _ _ _ is9 (by first | exact hT | (rw [fs9.2.2.2]; exact hT)) (by omega)) fs9
      · skip
        unfold f_X4_takeRecord_109
        try dsimp only
        exact OK.trS (k_X4_takeRecord_112_89_50 hr_X4_take hr_X4_takeField hr_X4_takeList hr_X4_takeOwn hr_X4_takeRecord FU _ _ _ _ _ hI (by first | exact hT | (rw [Fr.rf.2.2.2]; exact hT)) (by omega)) Fr.rf

theorem k_X4_takeRecord_51_92_62 {N0 : Nat} {r_X4_take : Nat → Nat → Int32 → Int32 → Int32 → Int32 → Int32 → ST → Option (ST)} (hr_X4_take : ∀ (p0 : Int32) (p1 : Int32) (p2 : Int32) (p3 : Int32) (p4 : Int32) (σ : ST), IA σ → σ.2.2.2 92 = 62 → 0 ≤ p4.toInt ∧ p4.toInt ≤ 31 ∧ (128 : Int) ≤ (N0 : Nat) + 4 * p4.toInt → OK (r_X4_take 92 62 p0 p1 p2 p3 p4 σ) (RS σ)) {r_X4_takeField : Nat → Nat → Int32 → Int32 → Int32 → Int32 → Int32 → ST → Option (ST)} (hr_X4_takeField : ∀ (p0 : Int32) (p1 : Int32) (p2 : Int32) (p3 : Int32) (p4 : Int32) (σ : ST), IA σ → σ.2.2.2 92 = 62 → 0 ≤ p4.toInt ∧ p4.toInt ≤ 30 ∧ (125 : Int) ≤ (N0 : Nat) + 4 * p4.toInt → OK (r_X4_takeField 92 62 p0 p1 p2 p3 p4 σ) (RS σ)) {r_X4_takeList : Nat → Nat → Int32 → Int32 → Int32 → Int32 → Int32 → ST → Option (ST)} (hr_X4_takeList : ∀ (p0 : Int32) (p1 : Int32) (p2 : Int32) (p3 : Int32) (p4 : Int32) (σ : ST), IA σ → σ.2.2.2 92 = 62 → 0 ≤ p4.toInt ∧ p4.toInt ≤ 30 ∧ (126 : Int) ≤ (N0 : Nat) + 4 * p4.toInt → OK (r_X4_takeList 92 62 p0 p1 p2 p3 p4 σ) (RS σ)) {r_X4_takeOwn : Nat → Nat → Int32 → Int32 → Int32 → Int32 → Int32 → ST → Option (ST)} (hr_X4_takeOwn : ∀ (p0 : Int32) (p1 : Int32) (p2 : Int32) (p3 : Int32) (p4 : Int32) (σ : ST), IA σ → σ.2.2.2 92 = 62 → 0 ≤ p4.toInt ∧ p4.toInt ≤ 30 ∧ (127 : Int) ≤ (N0 : Nat) + 4 * p4.toInt → OK (r_X4_takeOwn 92 62 p0 p1 p2 p3 p4 σ) (RS σ)) {r_X4_takeRecord : Nat → Nat → Int32 → Int32 → Int32 → Int32 → Int32 → ST → Option (ST)} (hr_X4_takeRecord : ∀ (p0 : Int32) (p1 : Int32) (p2 : Int32) (p3 : Int32) (p4 : Int32) (σ : ST), IA σ → σ.2.2.2 92 = 62 → 0 ≤ p4.toInt ∧ p4.toInt ≤ 30 ∧ (126 : Int) ≤ (N0 : Nat) + 4 * p4.toInt → OK (r_X4_takeRecord 92 62 p0 p1 p2 p3 p4 σ) (RS σ)) : ∀ (n : Nat) (x1 : Int32) (x5 : Int32) (x6 : Int32) (x7 : Int32) (x8 : Int32) (σ : ST), IA σ → σ.2.2.2 92 = 62 → ((0 ≤ x5.toInt ∧ x5.toInt ≤ 30 ∧ (126 : Int) ≤ (N0 + 1 : Nat) + 4 * x5.toInt) ∧ 0 ≤ x8.toInt ∧ x8.toInt ≤ 8 ∧ (8 : Int) - x8.toInt < n) → OK (f_X4_takeRecord_51 r_X4_take r_X4_takeField r_X4_takeList r_X4_takeOwn r_X4_takeRecord 92 62 n x1 x5 x6 x7 x8 σ) (RS σ) := by
  intro n
  induction n with
  | zero =>
    intro x1 x5 x6 x7 x8 σ hI hT hv
    omega
  | succ n ih =>
    intro x1 x5 x6 x7 x8 σ hI hT hv
    rw [f_X4_takeRecord_51]
    have lt_0 := li_0
    have lt_1 := li_1
    have lFU : ((FU : Nat) : Int) = 100000 := rfl
    have lFR : ((FR : Nat) : Int) = 160 := rfl
    refine OK.bndR (k_X5_fieldsOf_4 _ _ hI ) (fun v1 h2 => ?_)
    dsimp only
    refine OK.ile (fun h3 => ?_) (fun h3 => ?_)
    · skip
      unfold f_X4_takeRecord_109
      try dsimp only
      exact OK.trS (k_X4_takeRecord_112_92_62 hr_X4_take hr_X4_takeField hr_X4_takeList hr_X4_takeOwn hr_X4_takeRecord FU _ _ _ _ _ hI (by first | exact hT | (rw [Fr.rf.2.2.2]; exact hT)) (by omega)) Fr.rf
    · skip
      refine OK.ieq (fun h4 => ?_) (fun h4 => ?_)
      · skip
        refine OK.bndS (k_X4_step_92_62 _ _ hI (by first | exact hT | exact hI.r89 | (rw [Fr.rf.2.2.2]; exact hT))) Fr.rf (fun s5 is5 fs5 => ?_)
        try dsimp only
        refine OK.bndR (k_X5_typeOf_4 _ _ _ is5 ) (fun v6 h7 => ?_)
        dsimp only
        refine OK.bndS (hr_X4_takeField _ _ _ _ _ _ is5 (by first | exact hT | exact hI.r89 | (rw [fs5.2.2.2]; exact hT)) (by omega)) fs5 (fun s8 is8 fs8 => ?_)
        try dsimp only
        refine OK.bndS (k_X4_stepBack_92_62 _ is8 (by first | exact hT | exact hI.r89 | (rw [fs8.2.2.2]; exact hT))) fs8 (fun s9 is9 fs9 => ?_)
        try dsimp only
        obtain ⟨a10k, a10, a10l, a10r⟩ := i_add x8 1
        try (refine k0el (k := a10k) ?_ (fun e0 => ?_); (focus omega); subst e0)
        exact OK.trS (ih _ _ _ _ _ _ is9 (by first | exact hT | (rw [fs9.2.2.2]; exact hT)) (by omega)) fs9
      · skip
        unfold f_X4_takeRecord_109
        try dsimp only
        exact OK.trS (k_X4_takeRecord_112_92_62 hr_X4_take hr_X4_takeField hr_X4_takeList hr_X4_takeOwn hr_X4_takeRecord FU _ _ _ _ _ hI (by first | exact hT | (rw [Fr.rf.2.2.2]; exact hT)) (by omega)) Fr.rf

theorem k_X4_takeRecord_51_92_74 {N0 : Nat} {r_X4_take : Nat → Nat → Int32 → Int32 → Int32 → Int32 → Int32 → ST → Option (ST)} (hr_X4_take : ∀ (p0 : Int32) (p1 : Int32) (p2 : Int32) (p3 : Int32) (p4 : Int32) (σ : ST), IA σ → σ.2.2.2 92 = 74 → 0 ≤ p4.toInt ∧ p4.toInt ≤ 31 ∧ (128 : Int) ≤ (N0 : Nat) + 4 * p4.toInt → OK (r_X4_take 92 74 p0 p1 p2 p3 p4 σ) (RS σ)) {r_X4_takeField : Nat → Nat → Int32 → Int32 → Int32 → Int32 → Int32 → ST → Option (ST)} (hr_X4_takeField : ∀ (p0 : Int32) (p1 : Int32) (p2 : Int32) (p3 : Int32) (p4 : Int32) (σ : ST), IA σ → σ.2.2.2 92 = 74 → 0 ≤ p4.toInt ∧ p4.toInt ≤ 30 ∧ (125 : Int) ≤ (N0 : Nat) + 4 * p4.toInt → OK (r_X4_takeField 92 74 p0 p1 p2 p3 p4 σ) (RS σ)) {r_X4_takeList : Nat → Nat → Int32 → Int32 → Int32 → Int32 → Int32 → ST → Option (ST)} (hr_X4_takeList : ∀ (p0 : Int32) (p1 : Int32) (p2 : Int32) (p3 : Int32) (p4 : Int32) (σ : ST), IA σ → σ.2.2.2 92 = 74 → 0 ≤ p4.toInt ∧ p4.toInt ≤ 30 ∧ (126 : Int) ≤ (N0 : Nat) + 4 * p4.toInt → OK (r_X4_takeList 92 74 p0 p1 p2 p3 p4 σ) (RS σ)) {r_X4_takeOwn : Nat → Nat → Int32 → Int32 → Int32 → Int32 → Int32 → ST → Option (ST)} (hr_X4_takeOwn : ∀ (p0 : Int32) (p1 : Int32) (p2 : Int32) (p3 : Int32) (p4 : Int32) (σ : ST), IA σ → σ.2.2.2 92 = 74 → 0 ≤ p4.toInt ∧ p4.toInt ≤ 30 ∧ (127 : Int) ≤ (N0 : Nat) + 4 * p4.toInt → OK (r_X4_takeOwn 92 74 p0 p1 p2 p3 p4 σ) (RS σ)) {r_X4_takeRecord : Nat → Nat → Int32 → Int32 → Int32 → Int32 → Int32 → ST → Option (ST)} (hr_X4_takeRecord : ∀ (p0 : Int32) (p1 : Int32) (p2 : Int32) (p3 : Int32) (p4 : Int32) (σ : ST), IA σ → σ.2.2.2 92 = 74 → 0 ≤ p4.toInt ∧ p4.toInt ≤ 30 ∧ (126 : Int) ≤ (N0 : Nat) + 4 * p4.toInt → OK (r_X4_takeRecord 92 74 p0 p1 p2 p3 p4 σ) (RS σ)) : ∀ (n : Nat) (x1 : Int32) (x5 : Int32) (x6 : Int32) (x7 : Int32) (x8 : Int32) (σ : ST), IA σ → σ.2.2.2 92 = 74 → ((0 ≤ x5.toInt ∧ x5.toInt ≤ 30 ∧ (126 : Int) ≤ (N0 + 1 : Nat) + 4 * x5.toInt) ∧ 0 ≤ x8.toInt ∧ x8.toInt ≤ 8 ∧ (8 : Int) - x8.toInt < n) → OK (f_X4_takeRecord_51 r_X4_take r_X4_takeField r_X4_takeList r_X4_takeOwn r_X4_takeRecord 92 74 n x1 x5 x6 x7 x8 σ) (RS σ) := by
  intro n
  induction n with
  | zero =>
    intro x1 x5 x6 x7 x8 σ hI hT hv
    omega
  | succ n ih =>
    intro x1 x5 x6 x7 x8 σ hI hT hv
    rw [f_X4_takeRecord_51]
    have lt_0 := li_0
    have lt_1 := li_1
    have lFU : ((FU : Nat) : Int) = 100000 := rfl
    have lFR : ((FR : Nat) : Int) = 160 := rfl
    refine OK.bndR (k_X5_fieldsOf_4 _ _ hI ) (fun v1 h2 => ?_)
    dsimp only
    refine OK.ile (fun h3 => ?_) (fun h3 => ?_)
    · skip
      unfold f_X4_takeRecord_109
      try dsimp only
      exact OK.trS (k_X4_takeRecord_112_92_74 hr_X4_take hr_X4_takeField hr_X4_takeList hr_X4_takeOwn hr_X4_takeRecord FU _ _ _ _ _ hI (by first | exact hT | (rw [Fr.rf.2.2.2]; exact hT)) (by omega)) Fr.rf
    · skip
      refine OK.ieq (fun h4 => ?_) (fun h4 => ?_)
      · skip
        refine OK.bndS (k_X4_step_92_74 _ _ hI (by first | exact hT | exact hI.r89 | (rw [Fr.rf.2.2.2]; exact hT))) Fr.rf (fun s5 is5 fs5 => ?_)
        try dsimp only
        refine OK.bndR (k_X5_typeOf_4 _ _ _ is5 ) (fun v6 h7 => ?_)
        dsimp only
        refine OK.bndS (hr_X4_takeField _ _ _ _ _ _ is5 (by first | exact hT | exact hI.r89 | (rw [fs5.2.2.2]; exact hT)) (by omega)) fs5 (fun s8 is8 fs8 => ?_)
        try dsimp only
        refine OK.bndS (k_X4_stepBack_92_74 _ is8 (by first | exact hT | exact hI.r89 | (rw [fs8.2.2.2]; exact hT))) fs8 (fun s9 is9 fs9 => ?_)
        try dsimp only
        obtain ⟨a10k, a10, a10l, a10r⟩ := i_add x8 1
        try (refine k0el (k := a10k) ?_ (fun e0 => ?_); (focus omega); subst e0)
        exact OK.trS (ih _ _ _ _ _ _ is9 (by first | exact hT | (rw [fs9.2.2.2]; exact hT)) (by omega)) fs9
      · skip
        unfold f_X4_takeRecord_109
        try dsimp only
        exact OK.trS (k_X4_takeRecord_112_92_74 hr_X4_take hr_X4_takeField hr_X4_takeList hr_X4_takeOwn hr_X4_takeRecord FU _ _ _ _ _ hI (by first | exact hT | (rw [Fr.rf.2.2.2]; exact hT)) (by omega)) Fr.rf

theorem k_X4_takeRecord_89_50 {N0 : Nat} {r_X4_take : Nat → Nat → Int32 → Int32 → Int32 → Int32 → Int32 → ST → Option (ST)} (hr_X4_take : ∀ (p0 : Int32) (p1 : Int32) (p2 : Int32) (p3 : Int32) (p4 : Int32) (σ : ST), IA σ → σ.2.2.2 89 = 50 → 0 ≤ p4.toInt ∧ p4.toInt ≤ 31 ∧ (128 : Int) ≤ (N0 : Nat) + 4 * p4.toInt → OK (r_X4_take 89 50 p0 p1 p2 p3 p4 σ) (RS σ)) {r_X4_takeField : Nat → Nat → Int32 → Int32 → Int32 → Int32 → Int32 → ST → Option (ST)} (hr_X4_takeField : ∀ (p0 : Int32) (p1 : Int32) (p2 : Int32) (p3 : Int32) (p4 : Int32) (σ : ST), IA σ → σ.2.2.2 89 = 50 → 0 ≤ p4.toInt ∧ p4.toInt ≤ 30 ∧ (125 : Int) ≤ (N0 : Nat) + 4 * p4.toInt → OK (r_X4_takeField 89 50 p0 p1 p2 p3 p4 σ) (RS σ)) {r_X4_takeList : Nat → Nat → Int32 → Int32 → Int32 → Int32 → Int32 → ST → Option (ST)} (hr_X4_takeList : ∀ (p0 : Int32) (p1 : Int32) (p2 : Int32) (p3 : Int32) (p4 : Int32) (σ : ST), IA σ → σ.2.2.2 89 = 50 → 0 ≤ p4.toInt ∧ p4.toInt ≤ 30 ∧ (126 : Int) ≤ (N0 : Nat) + 4 * p4.toInt → OK (r_X4_takeList 89 50 p0 p1 p2 p3 p4 σ) (RS σ)) {r_X4_takeOwn : Nat → Nat → Int32 → Int32 → Int32 → Int32 → Int32 → ST → Option (ST)} (hr_X4_takeOwn : ∀ (p0 : Int32) (p1 : Int32) (p2 : Int32) (p3 : Int32) (p4 : Int32) (σ : ST), IA σ → σ.2.2.2 89 = 50 → 0 ≤ p4.toInt ∧ p4.toInt ≤ 30 ∧ (127 : Int) ≤ (N0 : Nat) + 4 * p4.toInt → OK (r_X4_takeOwn 89 50 p0 p1 p2 p3 p4 σ) (RS σ)) {r_X4_takeRecord : Nat → Nat → Int32 → Int32 → Int32 → Int32 → Int32 → ST → Option (ST)} (hr_X4_takeRecord : ∀ (p0 : Int32) (p1 : Int32) (p2 : Int32) (p3 : Int32) (p4 : Int32) (σ : ST), IA σ → σ.2.2.2 89 = 50 → 0 ≤ p4.toInt ∧ p4.toInt ≤ 30 ∧ (126 : Int) ≤ (N0 : Nat) + 4 * p4.toInt → OK (r_X4_takeRecord 89 50 p0 p1 p2 p3 p4 σ) (RS σ)) (p0 : Int32) (p1 : Int32) (p2 : Int32) (p3 : Int32) (p4 : Int32) (σ : ST) (hI : IA σ) (hT : σ.2.2.2 89 = 50) (hv : 0 ≤ p4.toInt ∧ p4.toInt ≤ 30 ∧ (126 : Int) ≤ (N0 + 1 : Nat) + 4 * p4.toInt)  : OK (f_X4_takeRecord r_X4_take r_X4_takeField r_X4_takeList r_X4_takeOwn r_X4_takeRecord 89 50 p0 p1 p2 p3 p4 σ) (RS σ) := by
  unfold f_X4_takeRecord
  have lt_m1 := li_m1
  have lt_0 := li_0
  have lt_1 := li_1
  have lFU : ((FU : Nat) : Int) = 100000 := rfl
  have lFR : ((FR : Nat) : Int) = 160 := rfl
  refine OK.ieq (fun h1 => ?_) (fun h1 => ?_)
  · skip
    unfold f_X4_takeRecord_17
    try dsimp only
    refine OK.bndR (k_X5_fieldsOf_4 _ _ hI ) (fun v2 h3 => ?_)
    dsimp only
    refine OK.bndW (k_X4_addNode_89_50 _ _ _ _ _ _ hI (by first | exact hT | exact hI.r89 | (rw [Fr.rf.2.2.2]; exact hT))) Fr.rf (fun v4 s6 is6 fs6 h5 => ?_)
    dsimp only
    refine OK.bndS (k_X4_findSources_89_50 _ _ _ _ is6 (by first | exact hT | exact hI.r89 | (rw [fs6.2.2.2]; exact hT))) fs6 (fun s7 is7 fs7 => ?_)
    try dsimp only
    exact OK.trS (k_X4_takeRecord_51_89_50 hr_X4_take hr_X4_takeField hr_X4_takeList hr_X4_takeOwn hr_X4_takeRecord FU _ _ _ _ _ _ is7 (by first | exact hT | (rw [fs7.2.2.2]; exact hT)) (by omega)) fs7
  · skip
    refine OK.bndR (k_X5_innerOf_4 _ _ hI ) (fun v8 h9 => ?_)
    dsimp only
    unfold f_X4_takeRecord_17
    try dsimp only
    refine OK.bndR (k_X5_fieldsOf_4 _ _ hI ) (fun v10 h11 => ?_)
    dsimp only
    refine OK.bndW (k_X4_addNode_89_50 _ _ _ _ _ _ hI (by first | exact hT | exact hI.r89 | (rw [Fr.rf.2.2.2]; exact hT))) Fr.rf (fun v12 s14 is14 fs14 h13 => ?_)
    dsimp only
    refine OK.bndS (k_X4_findSources_89_50 _ _ _ _ is14 (by first | exact hT | exact hI.r89 | (rw [fs14.2.2.2]; exact hT))) fs14 (fun s15 is15 fs15 => ?_)
    try dsimp only
    exact OK.trS (k_X4_takeRecord_51_89_50 hr_X4_take hr_X4_takeField hr_X4_takeList hr_X4_takeOwn hr_X4_takeRecord FU _ _ _ _ _ _ is15 (by first | exact hT | (rw [fs15.2.2.2]; exact hT)) (by omega)) fs15

theorem kR_X4_take_89_50 : ∀ n : Nat, (∀ (p0 : Int32) (p1 : Int32) (p2 : Int32) (p3 : Int32) (p4 : Int32) (σ : ST), IA σ → σ.2.2.2 89 = 50 → 0 ≤ p4.toInt ∧ p4.toInt ≤ 31 ∧ (128 : Int) ≤ (n : Nat) + 4 * p4.toInt → OK ((R_X4_take n).1 89 50 p0 p1 p2 p3 p4 σ) (RS σ)) ∧ (∀ (p0 : Int32) (p1 : Int32) (p2 : Int32) (p3 : Int32) (p4 : Int32) (σ : ST), IA σ → σ.2.2.2 89 = 50 → 0 ≤ p4.toInt ∧ p4.toInt ≤ 30 ∧ (125 : Int) ≤ (n : Nat) + 4 * p4.toInt → OK ((R_X4_take n).2.1 89 50 p0 p1 p2 p3 p4 σ) (RS σ)) ∧ (∀ (p0 : Int32) (p1 : Int32) (p2 : Int32) (p3 : Int32) (p4 : Int32) (σ : ST), IA σ → σ.2.2.2 89 = 50 → 0 ≤ p4.toInt ∧ p4.toInt ≤ 30 ∧ (126 : Int) ≤ (n : Nat) + 4 * p4.toInt → OK ((R_X4_take n).2.2.1 89 50 p0 p1 p2 p3 p4 σ) (RS σ)) ∧ (∀ (p0 : Int32) (p1 : Int32) (p2 : Int32) (p3 : Int32) (p4 : Int32) (σ : ST), IA σ → σ.2.2.2 89 = 50 → 0 ≤ p4.toInt ∧ p4.toInt ≤ 30 ∧ (127 : Int) ≤ (n : Nat) + 4 * p4.toInt → OK ((R_X4_take n).2.2.2.1 89 50 p0 p1 p2 p3 p4 σ) (RS σ)) ∧ (∀ (p0 : Int32) (p1 : Int32) (p2 : Int32) (p3 : Int32) (p4 : Int32) (σ : ST), IA σ → σ.2.2.2 89 = 50 → 0 ≤ p4.toInt ∧ p4.toInt ≤ 30 ∧ (126 : Int) ≤ (n : Nat) + 4 * p4.toInt → OK ((R_X4_take n).2.2.2.2 89 50 p0 p1 p2 p3 p4 σ) (RS σ)) := by
  intro n
  induction n with
  | zero =>
    refine ⟨?_, ?_, ?_, ?_, ?_⟩
    · intro p0 p1 p2 p3 p4 σ hI hT hv; omega
    · intro p0 p1 p2 p3 p4 σ hI hT hv; omega
    · intro p0 p1 p2 p3 p4 σ hI hT hv; omega
    · intro p0 p1 p2 p3 p4 σ hI hT hv; omega
    · intro p0 p1 p2 p3 p4 σ hI hT hv; omega
  | succ n ih =>
    obtain ⟨ih0, ih1, ih2, ih3, ih4⟩ := ih
    refine ⟨?_, ?_, ?_, ?_, ?_⟩
    · intro p0 p1 p2 p3 p4 σ hI hT hv; exact k_X4_take_89_50 (N0 := n) ih0 ih1 ih2 ih3 ih4 p0 p1 p2 p3 p4 σ hI hT (by omega)
    · intro p0 p1 p2 p3 p4 σ hI hT hv; exact k_X4_takeField_89_50 (N0 := n) ih0 ih1 ih2 ih3 ih4 p0 p1 p2 p3 p4 σ hI hT (by omega)
    · intro p0 p1 p2 p3 p4 σ hI hT hv; exact k_X4_takeList_89_50 (N0 := n) ih0 ih1 ih2 ih3 ih4 p0 p1 p2 p3 p4 σ hI hT (by omega)
    · intro p0 p1 p2 p3 p4 σ hI hT hv; exact k_X4_takeOwn_89_50 (N0 := n) ih0 ih1 ih2 ih3 ih4 p0 p1 p2 p3 p4 σ hI hT (by omega)
    · intro p0 p1 p2 p3 p4 σ hI hT hv; exact k_X4_takeRecord_89_50 (N0 := n) ih0 ih1 ih2 ih3 ih4 p0 p1 p2 p3 p4 σ hI hT (by omega)
theorem kT_X4_take_89_50 (p0 : Int32) (p1 : Int32) (p2 : Int32) (p3 : Int32) (p4 : Int32) (σ : ST) (hI : IA σ) (hT : σ.2.2.2 89 = 50) (hv : 0 ≤ p4.toInt ∧ p4.toInt ≤ 31 ∧ (128 : Int) ≤ (FR : Nat) + 4 * p4.toInt) : OK (f_T_X4_take 89 50 p0 p1 p2 p3 p4 σ) (RS σ) := (kR_X4_take_89_50 FR).1 p0 p1 p2 p3 p4 σ hI hT hv
theorem kT_X4_takeField_89_50 (p0 : Int32) (p1 : Int32) (p2 : Int32) (p3 : Int32) (p4 : Int32) (σ : ST) (hI : IA σ) (hT : σ.2.2.2 89 = 50) (hv : 0 ≤ p4.toInt ∧ p4.toInt ≤ 30 ∧ (125 : Int) ≤ (FR : Nat) + 4 * p4.toInt) : OK (f_T_X4_takeField 89 50 p0 p1 p2 p3 p4 σ) (RS σ) := (kR_X4_take_89_50 FR).2.1 p0 p1 p2 p3 p4 σ hI hT hv
theorem kT_X4_takeList_89_50 (p0 : Int32) (p1 : Int32) (p2 : Int32) (p3 : Int32) (p4 : Int32) (σ : ST) (hI : IA σ) (hT : σ.2.2.2 89 = 50) (hv : 0 ≤ p4.toInt ∧ p4.toInt ≤ 30 ∧ (126 : Int) ≤ (FR : Nat) + 4 * p4.toInt) : OK (f_T_X4_takeList 89 50 p0 p1 p2 p3 p4 σ) (RS σ) := (kR_X4_take_89_50 FR).2.2.1 p0 p1 p2 p3 p4 σ hI hT hv
theorem kT_X4_takeOwn_89_50 (p0 : Int32) (p1 : Int32) (p2 : Int32) (p3 : Int32) (p4 : Int32) (σ : ST) (hI : IA σ) (hT : σ.2.2.2 89 = 50) (hv : 0 ≤ p4.toInt ∧ p4.toInt ≤ 30 ∧ (127 : Int) ≤ (FR : Nat) + 4 * p4.toInt) : OK (f_T_X4_takeOwn 89 50 p0 p1 p2 p3 p4 σ) (RS σ) := (kR_X4_take_89_50 FR).2.2.2.1 p0 p1 p2 p3 p4 σ hI hT hv
theorem kT_X4_takeRecord_89_50 (p0 : Int32) (p1 : Int32) (p2 : Int32) (p3 : Int32) (p4 : Int32) (σ : ST) (hI : IA σ) (hT : σ.2.2.2 89 = 50) (hv : 0 ≤ p4.toInt ∧ p4.toInt ≤ 30 ∧ (126 : Int) ≤ (FR : Nat) + 4 * p4.toInt) : OK (f_T_X4_takeRecord 89 50 p0 p1 p2 p3 p4 σ) (RS σ) := (kR_X4_take_89_50 FR).2.2.2.2 p0 p1 p2 p3 p4 σ hI hT hv

theorem k_X4_takeRecord_92_62 {N0 : Nat} {r_X4_take : Nat → Nat → Int32 → Int32 → Int32 → Int32 → Int32 → ST → Option (ST)} (hr_X4_take : ∀ (p0 : Int32) (p1 : Int32) (p2 : Int32) (p3 : Int32) (p4 : Int32) (σ : ST), IA σ → σ.2.2.2 92 = 62 → 0 ≤ p4.toInt ∧ p4.toInt ≤ 31 ∧ (128 : Int) ≤ (N0 : Nat) + 4 * p4.toInt → OK (r_X4_take 92 62 p0 p1 p2 p3 p4 σ) (RS σ)) {r_X4_takeField : Nat → Nat → Int32 → Int32 → Int32 → Int32 → Int32 → ST → Option (ST)} (hr_X4_takeField : ∀ (p0 : Int32) (p1 : Int32) (p2 : Int32) (p3 : Int32) (p4 : Int32) (σ : ST), IA σ → σ.2.2.2 92 = 62 → 0 ≤ p4.toInt ∧ p4.toInt ≤ 30 ∧ (125 : Int) ≤ (N0 : Nat) + 4 * p4.toInt → OK (r_X4_takeField 92 62 p0 p1 p2 p3 p4 σ) (RS σ)) {r_X4_takeList : Nat → Nat → Int32 → Int32 → Int32 → Int32 → Int32 → ST → Option (ST)} (hr_X4_takeList : ∀ (p0 : Int32) (p1 : Int32) (p2 : Int32) (p3 : Int32) (p4 : Int32) (σ : ST), IA σ → σ.2.2.2 92 = 62 → 0 ≤ p4.toInt ∧ p4.toInt ≤ 30 ∧ (126 : Int) ≤ (N0 : Nat) + 4 * p4.toInt → OK (r_X4_takeList 92 62 p0 p1 p2 p3 p4 σ) (RS σ)) {r_X4_takeOwn : Nat → Nat → Int32 → Int32 → Int32 → Int32 → Int32 → ST → Option (ST)} (hr_X4_takeOwn : ∀ (p0 : Int32) (p1 : Int32) (p2 : Int32) (p3 : Int32) (p4 : Int32) (σ : ST), IA σ → σ.2.2.2 92 = 62 → 0 ≤ p4.toInt ∧ p4.toInt ≤ 30 ∧ (127 : Int) ≤ (N0 : Nat) + 4 * p4.toInt → OK (r_X4_takeOwn 92 62 p0 p1 p2 p3 p4 σ) (RS σ)) {r_X4_takeRecord : Nat → Nat → Int32 → Int32 → Int32 → Int32 → Int32 → ST → Option (ST)} (hr_X4_takeRecord : ∀ (p0 : Int32) (p1 : Int32) (p2 : Int32) (p3 : Int32) (p4 : Int32) (σ : ST), IA σ → σ.2.2.2 92 = 62 → 0 ≤ p4.toInt ∧ p4.toInt ≤ 30 ∧ (126 : Int) ≤ (N0 : Nat) + 4 * p4.toInt → OK (r_X4_takeRecord 92 62 p0 p1 p2 p3 p4 σ) (RS σ)) (p0 : Int32) (p1 : Int32) (p2 : Int32) (p3 : Int32) (p4 : Int32) (σ : ST) (hI : IA σ) (hT : σ.2.2.2 92 = 62) (hv : 0 ≤ p4.toInt ∧ p4.toInt ≤ 30 ∧ (126 : Int) ≤ (N0 + 1 : Nat) + 4 * p4.toInt)  : OK (f_X4_takeRecord r_X4_take r_X4_takeField r_X4_takeList r_X4_takeOwn r_X4_takeRecord 92 62 p0 p1 p2 p3 p4 σ) (RS σ) := by
  unfold f_X4_takeRecord
  have lt_m1 := li_m1
  have lt_0 := li_0
  have lt_1 := li_1
  have lFU : ((FU : Nat) : Int) = 100000 := rfl
  have lFR : ((FR : Nat) : Int) = 160 := rfl
  refine OK.ieq (fun h1 => ?_) (fun h1 => ?_)
  · skip
    unfold f_X4_takeRecord_17
    try dsimp only
    refine OK.bndR (k_X5_fieldsOf_4 _ _ hI ) (fun v2 h3 => ?_)
    dsimp only
    refine OK.bndW (k_X4_addNode_92_62 _ _ _ _ _ _ hI (by first | exact hT | exact hI.r89 | (rw [Fr.rf.2.2.2]; exact hT))) Fr.rf (fun v4 s6 is6 fs6 h5 => ?_)
    dsimp only
    refine OK.bndS (k_X4_findSources_92_62 _ _ _ _ is6 (by first | exact hT | exact hI.r89 | (rw [fs6.2.2.2]; exact hT))) fs6 (fun s7 is7 fs7 => ?_)
    try dsimp only
    exact OK.trS (k_X4_takeRecord_51_92_62 hr_X4_take hr_X4_takeField hr_X4_takeList hr_X4_takeOwn hr_X4_takeRecord FU _ _ _ _ _ _ is7 (by first | exact hT | (rw [fs7.2.2.2]; exact hT)) (by omega)) fs7
  · skip
    refine OK.bndR (k_X5_innerOf_4 _ _ hI ) (fun v8 h9 => ?_)
    dsimp only
    unfold f_X4_takeRecord_17
    try dsimp only
    refine OK.bndR (k_X5_fieldsOf_4 _ _ hI ) (fun v10 h11 => ?_)
    dsimp only
    refine OK.bndW (k_X4_addNode_92_62 _ _ _ _ _ _ hI (by first | exact hT | exact hI.r89 | (rw [Fr.rf.2.2.2]; exact hT))) Fr.rf (fun v12 s14 is14 fs14 h13 => ?_)
    dsimp only
    refine OK.bndS (k_X4_findSources_92_62 _ _ _ _ is14 (by first | exact hT | exact hI.r89 | (rw [fs14.2.2.2]; exact hT))) fs14 (fun s15 is15 fs15 => ?_)
    try dsimp only
    exact OK.trS (k_X4_takeRecord_51_92_62 hr_X4_take hr_X4_takeField hr_X4_takeList hr_X4_takeOwn hr_X4_takeRecord FU _ _ _ _ _ _ is15 (by first | exact hT | (rw [fs15.2.2.2]; exact hT)) (by omega)) fs15

theorem kR_X4_take_92_62 : ∀ n : Nat, (∀ (p0 : Int32) (p1 : Int32) (p2 : Int32) (p3 : Int32) (p4 : Int32) (σ : ST), IA σ → σ.2.2.2 92 = 62 → 0 ≤ p4.toInt ∧ p4.toInt ≤ 31 ∧ (128 : Int) ≤ (n : Nat) + 4 * p4.toInt → OK ((R_X4_take n).1 92 62 p0 p1 p2 p3 p4 σ) (RS σ)) ∧ (∀ (p0 : Int32) (p1 : Int32) (p2 : Int32) (p3 : Int32) (p4 : Int32) (σ : ST), IA σ → σ.2.2.2 92 = 62 → 0 ≤ p4.toInt ∧ p4.toInt ≤ 30 ∧ (125 : Int) ≤ (n : Nat) + 4 * p4.toInt → OK ((R_X4_take n).2.1 92 62 p0 p1 p2 p3 p4 σ) (RS σ)) ∧ (∀ (p0 : Int32) (p1 : Int32) (p2 : Int32) (p3 : Int32) (p4 : Int32) (σ : ST), IA σ → σ.2.2.2 92 = 62 → 0 ≤ p4.toInt ∧ p4.toInt ≤ 30 ∧ (126 : Int) ≤ (n : Nat) + 4 * p4.toInt → OK ((R_X4_take n).2.2.1 92 62 p0 p1 p2 p3 p4 σ) (RS σ)) ∧ (∀ (p0 : Int32) (p1 : Int32) (p2 : Int32) (p3 : Int32) (p4 : Int32) (σ : ST), IA σ → σ.2.2.2 92 = 62 → 0 ≤ p4.toInt ∧ p4.toInt ≤ 30 ∧ (127 : Int) ≤ (n : Nat) + 4 * p4.toInt → OK ((R_X4_take n).2.2.2.1 92 62 p0 p1 p2 p3 p4 σ) (RS σ)) ∧ (∀ (p0 : Int32) (p1 : Int32) (p2 : Int32) (p3 : Int32) (p4 : Int32) (σ : ST), IA σ → σ.2.2.2 92 = 62 → 0 ≤ p4.toInt ∧ p4.toInt ≤ 30 ∧ (126 : Int) ≤ (n : Nat) + 4 * p4.toInt → OK ((R_X4_take n).2.2.2.2 92 62 p0 p1 p2 p3 p4 σ) (RS σ)) := by
  intro n
  induction n with
  | zero =>
    refine ⟨?_, ?_, ?_, ?_, ?_⟩
    · intro p0 p1 p2 p3 p4 σ hI hT hv; omega
    · intro p0 p1 p2 p3 p4 σ hI hT hv; omega
    · intro p0 p1 p2 p3 p4 σ hI hT hv; omega
    · intro p0 p1 p2 p3 p4 σ hI hT hv; omega
    · intro p0 p1 p2 p3 p4 σ hI hT hv; omega
  | succ n ih =>
    obtain ⟨ih0, ih1, ih2, ih3, ih4⟩ := ih
    refine ⟨?_, ?_, ?_, ?_, ?_⟩
    · intro p0 p1 p2 p3 p4 σ hI hT hv; exact k_X4_take_92_62 (N0 := n) ih0 ih1 ih2 ih3 ih4 p0 p1 p2 p3 p4 σ hI hT (by omega)
    · intro p0 p1 p2 p3 p4 σ hI hT hv; exact k_X4_takeField_92_62 (N0 := n) ih0 ih1 ih2 ih3 ih4 p0 p1 p2 p3 p4 σ hI hT (by omega)
    · intro p0 p1 p2 p3 p4 σ hI hT hv; exact k_X4_takeList_92_62 (N0 := n) ih0 ih1 ih2 ih3 ih4 p0 p1 p2 p3 p4 σ hI hT (by omega)
    · intro p0 p1 p2 p3 p4 σ hI hT hv; exact k_X4_takeOwn_92_62 (N0 := n) ih0 ih1 ih2 ih3 ih4 p0 p1 p2 p3 p4 σ hI hT (by omega)
    · intro p0 p1 p2 p3 p4 σ hI hT hv; exact k_X4_takeRecord_92_62 (N0 := n) ih0 ih1 ih2 ih3 ih4 p0 p1 p2 p3 p4 σ hI hT (by omega)
theorem kT_X4_take_92_62 (p0 : Int32) (p1 : Int32) (p2 : Int32) (p3 : Int32) (p4 : Int32) (σ : ST) (hI : IA σ) (hT : σ.2.2.2 92 = 62) (hv : 0 ≤ p4.toInt ∧ p4.toInt ≤ 31 ∧ (128 : Int) ≤ (FR : Nat) + 4 * p4.toInt) : OK (f_T_X4_take 92 62 p0 p1 p2 p3 p4 σ) (RS σ) := (kR_X4_take_92_62 FR).1 p0 p1 p2 p3 p4 σ hI hT hv
theorem kT_X4_takeField_92_62 (p0 : Int32) (p1 : Int32) (p2 : Int32) (p3 : Int32) (p4 : Int32) (σ : ST) (hI : IA σ) (hT : σ.2.2.2 92 = 62) (hv : 0 ≤ p4.toInt ∧ p4.toInt ≤ 30 ∧ (125 : Int) ≤ (FR : Nat) + 4 * p4.toInt) : OK (f_T_X4_takeField 92 62 p0 p1 p2 p3 p4 σ) (RS σ) := (kR_X4_take_92_62 FR).2.1 p0 p1 p2 p3 p4 σ hI hT hv
theorem kT_X4_takeList_92_62 (p0 : Int32) (p1 : Int32) (p2 : Int32) (p3 : Int32) (p4 : Int32) (σ : ST) (hI : IA σ) (hT : σ.2.2.2 92 = 62) (hv : 0 ≤ p4.toInt ∧ p4.toInt ≤ 30 ∧ (126 : Int) ≤ (FR : Nat) + 4 * p4.toInt) : OK (f_T_X4_takeList 92 62 p0 p1 p2 p3 p4 σ) (RS σ) := (kR_X4_take_92_62 FR).2.2.1 p0 p1 p2 p3 p4 σ hI hT hv
theorem kT_X4_takeOwn_92_62 (p0 : Int32) (p1 : Int32) (p2 : Int32) (p3 : Int32) (p4 : Int32) (σ : ST) (hI : IA σ) (hT : σ.2.2.2 92 = 62) (hv : 0 ≤ p4.toInt ∧ p4.toInt ≤ 30 ∧ (127 : Int) ≤ (FR : Nat) + 4 * p4.toInt) : OK (f_T_X4_takeOwn 92 62 p0 p1 p2 p3 p4 σ) (RS σ) := (kR_X4_take_92_62 FR).2.2.2.1 p0 p1 p2 p3 p4 σ hI hT hv
theorem kT_X4_takeRecord_92_62 (p0 : Int32) (p1 : Int32) (p2 : Int32) (p3 : Int32) (p4 : Int32) (σ : ST) (hI : IA σ) (hT : σ.2.2.2 92 = 62) (hv : 0 ≤ p4.toInt ∧ p4.toInt ≤ 30 ∧ (126 : Int) ≤ (FR : Nat) + 4 * p4.toInt) : OK (f_T_X4_takeRecord 92 62 p0 p1 p2 p3 p4 σ) (RS σ) := (kR_X4_take_92_62 FR).2.2.2.2 p0 p1 p2 p3 p4 σ hI hT hv

theorem k_X4_takeRecord_92_74 {N0 : Nat} {r_X4_take : Nat → Nat → Int32 → Int32 → Int32 → Int32 → Int32 → ST → Option (ST)} (hr_X4_take : ∀ (p0 : Int32) (p1 : Int32) (p2 : Int32) (p3 : Int32) (p4 : Int32) (σ : ST), IA σ → σ.2.2.2 92 = 74 → 0 ≤ p4.toInt ∧ p4.toInt ≤ 31 ∧ (128 : Int) ≤ (N0 : Nat) + 4 * p4.toInt → OK (r_X4_take 92 74 p0 p1 p2 p3 p4 σ) (RS σ)) {r_X4_takeField : Nat → Nat → Int32 → Int32 → Int32 → Int32 → Int32 → ST → Option (ST)} (hr_X4_takeField : ∀ (p0 : Int32) (p1 : Int32) (p2 : Int32) (p3 : Int32) (p4 : Int32) (σ : ST), IA σ → σ.2.2.2 92 = 74 → 0 ≤ p4.toInt ∧ p4.toInt ≤ 30 ∧ (125 : Int) ≤ (N0 : Nat) + 4 * p4.toInt → OK (r_X4_takeField 92 74 p0 p1 p2 p3 p4 σ) (RS σ)) {r_X4_takeList : Nat → Nat → Int32 → Int32 → Int32 → Int32 → Int32 → ST → Option (ST)} (hr_X4_takeList : ∀ (p0 : Int32) (p1 : Int32) (p2 : Int32) (p3 : Int32) (p4 : Int32) (σ : ST), IA σ → σ.2.2.2 92 = 74 → 0 ≤ p4.toInt ∧ p4.toInt ≤ 30 ∧ (126 : Int) ≤ (N0 : Nat) + 4 * p4.toInt → OK (r_X4_takeList 92 74 p0 p1 p2 p3 p4 σ) (RS σ)) {r_X4_takeOwn : Nat → Nat → Int32 → Int32 → Int32 → Int32 → Int32 → ST → Option (ST)} (hr_X4_takeOwn : ∀ (p0 : Int32) (p1 : Int32) (p2 : Int32) (p3 : Int32) (p4 : Int32) (σ : ST), IA σ → σ.2.2.2 92 = 74 → 0 ≤ p4.toInt ∧ p4.toInt ≤ 30 ∧ (127 : Int) ≤ (N0 : Nat) + 4 * p4.toInt → OK (r_X4_takeOwn 92 74 p0 p1 p2 p3 p4 σ) (RS σ)) {r_X4_takeRecord : Nat → Nat → Int32 → Int32 → Int32 → Int32 → Int32 → ST → Option (ST)} (hr_X4_takeRecord : ∀ (p0 : Int32) (p1 : Int32) (p2 : Int32) (p3 : Int32) (p4 : Int32) (σ : ST), IA σ → σ.2.2.2 92 = 74 → 0 ≤ p4.toInt ∧ p4.toInt ≤ 30 ∧ (126 : Int) ≤ (N0 : Nat) + 4 * p4.toInt → OK (r_X4_takeRecord 92 74 p0 p1 p2 p3 p4 σ) (RS σ)) (p0 : Int32) (p1 : Int32) (p2 : Int32) (p3 : Int32) (p4 : Int32) (σ : ST) (hI : IA σ) (hT : σ.2.2.2 92 = 74) (hv : 0 ≤ p4.toInt ∧ p4.toInt ≤ 30 ∧ (126 : Int) ≤ (N0 + 1 : Nat) + 4 * p4.toInt)  : OK (f_X4_takeRecord r_X4_take r_X4_takeField r_X4_takeList r_X4_takeOwn r_X4_takeRecord 92 74 p0 p1 p2 p3 p4 σ) (RS σ) := by
  unfold f_X4_takeRecord
  have lt_m1 := li_m1
  have lt_0 := li_0
  have lt_1 := li_1
  have lFU : ((FU : Nat) : Int) = 100000 := rfl
  have lFR : ((FR : Nat) : Int) = 160 := rfl
  refine OK.ieq (fun h1 => ?_) (fun h1 => ?_)
  · skip
    unfold f_X4_takeRecord_17
    try dsimp only
    refine OK.bndR (k_X5_fieldsOf_4 _ _ hI ) (fun v2 h3 => ?_)
    dsimp only
    refine OK.bndW (k_X4_addNode_92_74 _ _ _ _ _ _ hI (by first | exact hT | exact hI.r89 | (rw [Fr.rf.2.2.2]; exact hT))) Fr.rf (fun v4 s6 is6 fs6 h5 => ?_)
    dsimp only
    refine OK.bndS (k_X4_findSources_92_74 _ _ _ _ is6 (by first | exact hT | exact hI.r89 | (rw [fs6.2.2.2]; exact hT))) fs6 (fun s7 is7 fs7 => ?_)
    try dsimp only
    exact OK.trS (k_X4_takeRecord_51_92_74 hr_X4_take hr_X4_takeField hr_X4_takeList hr_X4_takeOwn hr_X4_takeRecord FU _ _ _ _ _ _ is7 (by first | exact hT | (rw [fs7.2.2.2]; exact hT)) (by omega)) fs7
  · skip
    refine OK.bndR (k_X5_innerOf_4 _ _ hI ) (fun v8 h9 => ?_)
    dsimp only
    unfold f_X4_takeRecord_17
    try dsimp only
    refine OK.bndR (k_X5_fieldsOf_4 _ _ hI ) (fun v10 h11 => ?_)
    dsimp only
    refine OK.bndW (k_X4_addNode_92_74 _ _ _ _ _ _ hI (by first | exact hT | exact hI.r89 | (rw [Fr.rf.2.2.2]; exact hT))) Fr.rf (fun v12 s14 is14 fs14 h13 => ?_)
    dsimp only
    refine OK.bndS (k_X4_findSources_92_74 _ _ _ _ is14 (by first | exact hT | exact hI.r89 | (rw [fs14.2.2.2]; exact hT))) fs14 (fun s15 is15 fs15 => ?_)
    try dsimp only
    exact OK.trS (k_X4_takeRecord_51_92_74 hr_X4_take hr_X4_takeField hr_X4_takeList hr_X4_takeOwn hr_X4_takeRecord FU _ _ _ _ _ _ is15 (by first | exact hT | (rw [fs15.2.2.2]; exact hT)) (by omega)) fs15

theorem kR_X4_take_92_74 : ∀ n : Nat, (∀ (p0 : Int32) (p1 : Int32) (p2 : Int32) (p3 : Int32) (p4 : Int32) (σ : ST), IA σ → σ.2.2.2 92 = 74 → 0 ≤ p4.toInt ∧ p4.toInt ≤ 31 ∧ (128 : Int) ≤ (n : Nat) + 4 * p4.toInt → OK ((R_X4_take n).1 92 74 p0 p1 p2 p3 p4 σ) (RS σ)) ∧ (∀ (p0 : Int32) (p1 : Int32) (p2 : Int32) (p3 : Int32) (p4 : Int32) (σ : ST), IA σ → σ.2.2.2 92 = 74 → 0 ≤ p4.toInt ∧ p4.toInt ≤ 30 ∧ (125 : Int) ≤ (n : Nat) + 4 * p4.toInt → OK ((R_X4_take n).2.1 92 74 p0 p1 p2 p3 p4 σ) (RS σ)) ∧ (∀ (p0 : Int32) (p1 : Int32) (p2 : Int32) (p3 : Int32) (p4 : Int32) (σ : ST), IA σ → σ.2.2.2 92 = 74 → 0 ≤ p4.toInt ∧ p4.toInt ≤ 30 ∧ (126 : Int) ≤ (n : Nat) + 4 * p4.toInt → OK ((R_X4_take n).2.2.1 92 74 p0 p1 p2 p3 p4 σ) (RS σ)) ∧ (∀ (p0 : Int32) (p1 : Int32) (p2 : Int32) (p3 : Int32) (p4 : Int32) (σ : ST), IA σ → σ.2.2.2 92 = 74 → 0 ≤ p4.toInt ∧ p4.toInt ≤ 30 ∧ (127 : Int) ≤ (n : Nat) + 4 * p4.toInt → OK ((R_X4_take n).2.2.2.1 92 74 p0 p1 p2 p3 p4 σ) (RS σ)) ∧ (∀ (p0 : Int32) (p1 : Int32) (p2 : Int32) (p3 : Int32) (p4 : Int32) (σ : ST), IA σ → σ.2.2.2 92 = 74 → 0 ≤ p4.toInt ∧ p4.toInt ≤ 30 ∧ (126 : Int) ≤ (n : Nat) + 4 * p4.toInt → OK ((R_X4_take n).2.2.2.2 92 74 p0 p1 p2 p3 p4 σ) (RS σ)) := by
  intro n
  induction n with
  | zero =>
    refine ⟨?_, ?_, ?_, ?_, ?_⟩
    · intro p0 p1 p2 p3 p4 σ hI hT hv; omega
    · intro p0 p1 p2 p3 p4 σ hI hT hv; omega
    · intro p0 p1 p2 p3 p4 σ hI hT hv; omega
    · intro p0 p1 p2 p3 p4 σ hI hT hv; omega
    · intro p0 p1 p2 p3 p4 σ hI hT hv; omega
  | succ n ih =>
    obtain ⟨ih0, ih1, ih2, ih3, ih4⟩ := ih
    refine ⟨?_, ?_, ?_, ?_, ?_⟩
    · intro p0 p1 p2 p3 p4 σ hI hT hv; exact k_X4_take_92_74 (N0 := n) ih0 ih1 ih2 ih3 ih4 p0 p1 p2 p3 p4 σ hI hT (by omega)
    · intro p0 p1 p2 p3 p4 σ hI hT hv; exact k_X4_takeField_92_74 (N0 := n) ih0 ih1 ih2 ih3 ih4 p0 p1 p2 p3 p4 σ hI hT (by omega)
    · intro p0 p1 p2 p3 p4 σ hI hT hv; exact k_X4_takeList_92_74 (N0 := n) ih0 ih1 ih2 ih3 ih4 p0 p1 p2 p3 p4 σ hI hT (by omega)
    · intro p0 p1 p2 p3 p4 σ hI hT hv; exact k_X4_takeOwn_92_74 (N0 := n) ih0 ih1 ih2 ih3 ih4 p0 p1 p2 p3 p4 σ hI hT (by omega)
    · intro p0 p1 p2 p3 p4 σ hI hT hv; exact k_X4_takeRecord_92_74 (N0 := n) ih0 ih1 ih2 ih3 ih4 p0 p1 p2 p3 p4 σ hI hT (by omega)
theorem kT_X4_take_92_74 (p0 : Int32) (p1 : Int32) (p2 : Int32) (p3 : Int32) (p4 : Int32) (σ : ST) (hI : IA σ) (hT : σ.2.2.2 92 = 74) (hv : 0 ≤ p4.toInt ∧ p4.toInt ≤ 31 ∧ (128 : Int) ≤ (FR : Nat) + 4 * p4.toInt) : OK (f_T_X4_take 92 74 p0 p1 p2 p3 p4 σ) (RS σ) := (kR_X4_take_92_74 FR).1 p0 p1 p2 p3 p4 σ hI hT hv
theorem kT_X4_takeField_92_74 (p0 : Int32) (p1 : Int32) (p2 : Int32) (p3 : Int32) (p4 : Int32) (σ : ST) (hI : IA σ) (hT : σ.2.2.2 92 = 74) (hv : 0 ≤ p4.toInt ∧ p4.toInt ≤ 30 ∧ (125 : Int) ≤ (FR : Nat) + 4 * p4.toInt) : OK (f_T_X4_takeField 92 74 p0 p1 p2 p3 p4 σ) (RS σ) := (kR_X4_take_92_74 FR).2.1 p0 p1 p2 p3 p4 σ hI hT hv
theorem kT_X4_takeList_92_74 (p0 : Int32) (p1 : Int32) (p2 : Int32) (p3 : Int32) (p4 : Int32) (σ : ST) (hI : IA σ) (hT : σ.2.2.2 92 = 74) (hv : 0 ≤ p4.toInt ∧ p4.toInt ≤ 30 ∧ (126 : Int) ≤ (FR : Nat) + 4 * p4.toInt) : OK (f_T_X4_takeList 92 74 p0 p1 p2 p3 p4 σ) (RS σ) := (kR_X4_take_92_74 FR).2.2.1 p0 p1 p2 p3 p4 σ hI hT hv
theorem kT_X4_takeOwn_92_74 (p0 : Int32) (p1 : Int32) (p2 : Int32) (p3 : Int32) (p4 : Int32) (σ : ST) (hI : IA σ) (hT : σ.2.2.2 92 = 74) (hv : 0 ≤ p4.toInt ∧ p4.toInt ≤ 30 ∧ (127 : Int) ≤ (FR : Nat) + 4 * p4.toInt) : OK (f_T_X4_takeOwn 92 74 p0 p1 p2 p3 p4 σ) (RS σ) := (kR_X4_take_92_74 FR).2.2.2.1 p0 p1 p2 p3 p4 σ hI hT hv
theorem kT_X4_takeRecord_92_74 (p0 : Int32) (p1 : Int32) (p2 : Int32) (p3 : Int32) (p4 : Int32) (σ : ST) (hI : IA σ) (hT : σ.2.2.2 92 = 74) (hv : 0 ≤ p4.toInt ∧ p4.toInt ≤ 30 ∧ (126 : Int) ≤ (FR : Nat) + 4 * p4.toInt) : OK (f_T_X4_takeRecord 92 74 p0 p1 p2 p3 p4 σ) (RS σ) := (kR_X4_take_92_74 FR).2.2.2.2 p0 p1 p2 p3 p4 σ hI hT hv

theorem tr_clear {b : Nat} {n : Int} {σ τ : ST} (h : TR b n σ) (h0 : τ.1 b 0 = σ.1 b 0) (h1 : τ.1 b 1 = 0) : TR b n τ := by
  obtain ⟨a1, a2, _⟩ := h
  have l0 : (0 : Int32).toInt = 0 := by decide
  obtain ⟨c1, c2⟩ := a2
  refine ⟨by rw [h0]; exact a1, ⟨by rw [h1, l0]; omega, by rw [h1, l0]; omega⟩, fun r hr => ?_⟩
  rw [h1, l0] at hr
  omega
theorem ia_clear50 {σ : ST} (h : IA σ) : IA (stI σ 50 1 0) := ⟨h.1, h.2.1, h.2.2.1, h.2.2.2.1, h.2.2.2.2.1, h.2.2.2.2.2.1, h.2.2.2.2.2.2.1, h.2.2.2.2.2.2.2.1, h.2.2.2.2.2.2.2.2.1, h.2.2.2.2.2.2.2.2.2.1, h.2.2.2.2.2.2.2.2.2.2.1, h.2.2.2.2.2.2.2.2.2.2.2.1, h.2.2.2.2.2.2.2.2.2.2.2.2.1, h.2.2.2.2.2.2.2.2.2.2.2.2.2.1, h.2.2.2.2.2.2.2.2.2.2.2.2.2.2.1, h.2.2.2.2.2.2.2.2.2.2.2.2.2.2.2.1, h.2.2.2.2.2.2.2.2.2.2.2.2.2.2.2.2.1, tr_clear h.t50 rfl rfl, h.t62, h.t74⟩
theorem ia_clear62 {σ : ST} (h : IA σ) : IA (stI σ 62 1 0) := ⟨h.1, h.2.1, h.2.2.1, h.2.2.2.1, h.2.2.2.2.1, h.2.2.2.2.2.1, h.2.2.2.2.2.2.1, h.2.2.2.2.2.2.2.1, h.2.2.2.2.2.2.2.2.1, h.2.2.2.2.2.2.2.2.2.1, h.2.2.2.2.2.2.2.2.2.2.1, h.2.2.2.2.2.2.2.2.2.2.2.1, h.2.2.2.2.2.2.2.2.2.2.2.2.1, h.2.2.2.2.2.2.2.2.2.2.2.2.2.1, h.2.2.2.2.2.2.2.2.2.2.2.2.2.2.1, h.2.2.2.2.2.2.2.2.2.2.2.2.2.2.2.1, h.2.2.2.2.2.2.2.2.2.2.2.2.2.2.2.2.1, h.t50, tr_clear h.t62 rfl rfl, h.t74⟩
theorem ia_clear74 {σ : ST} (h : IA σ) : IA (stI σ 74 1 0) := ⟨h.1, h.2.1, h.2.2.1, h.2.2.2.1, h.2.2.2.2.1, h.2.2.2.2.2.1, h.2.2.2.2.2.2.1, h.2.2.2.2.2.2.2.1, h.2.2.2.2.2.2.2.2.1, h.2.2.2.2.2.2.2.2.2.1, h.2.2.2.2.2.2.2.2.2.2.1, h.2.2.2.2.2.2.2.2.2.2.2.1, h.2.2.2.2.2.2.2.2.2.2.2.2.1, h.2.2.2.2.2.2.2.2.2.2.2.2.2.1, h.2.2.2.2.2.2.2.2.2.2.2.2.2.2.1, h.2.2.2.2.2.2.2.2.2.2.2.2.2.2.2.1, h.2.2.2.2.2.2.2.2.2.2.2.2.2.2.2.2.1, h.t50, h.t62, tr_clear h.t74 rfl rfl⟩
theorem k_X7_clear_50 (σ : ST) (hI : IA σ) : OK (f_X7_clear 50 σ) (RS σ) := OK.sret (ia_clear50 hI) ⟨rfl, rfl, ⟨rfl, rfl⟩, rfl⟩


theorem k_X7_clear_62 (σ : ST) (hI : IA σ) : OK (f_X7_clear 62 σ) (RS σ) := OK.sret (ia_clear62 hI) ⟨rfl, rfl, ⟨rfl, rfl⟩, rfl⟩


theorem k_X7_clear_74 (σ : ST) (hI : IA σ) : OK (f_X7_clear 74 σ) (RS σ) := OK.sret (ia_clear74 hI) ⟨rfl, rfl, ⟨rfl, rfl⟩, rfl⟩


theorem k_X7_firstOf_50 (p0 : Int32) (σ : ST) (hI : IA σ)  : OK (f_X7_firstOf 50 p0 σ) (RO σ fun v => (p0.toInt < 0 ∨ (σ.1 50 1).toInt ≤ p0.toInt) ∧ v.toInt = -1 ∨ 0 ≤ p0.toInt ∧ p0.toInt < (σ.1 50 1).toInt ∧ v.toInt = (σ.1 (50 + 7) p0.toNatClampNeg).toInt) := by
  unfold f_X7_firstOf
  have lt_m1 := li_m1
  have lt_0 := li_0
  have lt_1 := li_1
  have lFU : ((FU : Nat) : Int) = 100000 := rfl
  have g50 := (hI.t50).1
  have g50b : 0 ≤ (σ.1 50 1).toInt ∧ (σ.1 50 1).toInt ≤ 400 := (hI.t50).2.1
  have g50n : ((ln7 50 : Nat) : Int) = 400 := rfl
  refine OK.bndR (k_X7_isRow_50 _ _ hI ) (fun v1 h2 => ?_)
  dsimp only
  refine OK.ieq (fun h3 => ?_) (fun h3 => ?_)
  · skip
    exact OK.roret (by first | trivial | omega | exact hI.flds _ | exact hI.dflds _ | exact hI.recs _ | exact hI.drecs _ | exact hI.droot _ | omega)
  · skip
    refine OK.grd ⟨by omega, by omega⟩ ?_
    exact OK.roret (by first | trivial | omega | exact hI.flds _ | exact hI.dflds _ | exact hI.recs _ | exact hI.drecs _ | exact hI.droot _ | omega)

theorem k_X7_firstOf_62 (p0 : Int32) (σ : ST) (hI : IA σ)  : OK (f_X7_firstOf 62 p0 σ) (RO σ fun v => (p0.toInt < 0 ∨ (σ.1 62 1).toInt ≤ p0.toInt) ∧ v.toInt = -1 ∨ 0 ≤ p0.toInt ∧ p0.toInt < (σ.1 62 1).toInt ∧ v.toInt = (σ.1 (62 + 7) p0.toNatClampNeg).toInt) := by
  unfold f_X7_firstOf
  have lt_m1 := li_m1
  have lt_0 := li_0
  have lt_1 := li_1
  have lFU : ((FU : Nat) : Int) = 100000 := rfl
  have g62 := (hI.t62).1
  have g62b : 0 ≤ (σ.1 62 1).toInt ∧ (σ.1 62 1).toInt ≤ 502 := (hI.t62).2.1
  have g62n : ((ln7 62 : Nat) : Int) = 502 := rfl
  refine OK.bndR (k_X7_isRow_62 _ _ hI ) (fun v1 h2 => ?_)
  dsimp only
  refine OK.ieq (fun h3 => ?_) (fun h3 => ?_)
  · skip
    exact OK.roret (by first | trivial | omega | exact hI.flds _ | exact hI.dflds _ | exact hI.recs _ | exact hI.drecs _ | exact hI.droot _ | omega)
  · skip
    refine OK.grd ⟨by omega, by omega⟩ ?_
    exact OK.roret (by first | trivial | omega | exact hI.flds _ | exact hI.dflds _ | exact hI.recs _ | exact hI.drecs _ | exact hI.droot _ | omega)

theorem k_X7_firstOf_74 (p0 : Int32) (σ : ST) (hI : IA σ)  : OK (f_X7_firstOf 74 p0 σ) (RO σ fun v => (p0.toInt < 0 ∨ (σ.1 74 1).toInt ≤ p0.toInt) ∧ v.toInt = -1 ∨ 0 ≤ p0.toInt ∧ p0.toInt < (σ.1 74 1).toInt ∧ v.toInt = (σ.1 (74 + 7) p0.toNatClampNeg).toInt) := by
  unfold f_X7_firstOf
  have lt_m1 := li_m1
  have lt_0 := li_0
  have lt_1 := li_1
  have lFU : ((FU : Nat) : Int) = 100000 := rfl
  have g74 := (hI.t74).1
  have g74b : 0 ≤ (σ.1 74 1).toInt ∧ (σ.1 74 1).toInt ≤ 400 := (hI.t74).2.1
  have g74n : ((ln7 74 : Nat) : Int) = 400 := rfl
  refine OK.bndR (k_X7_isRow_74 _ _ hI ) (fun v1 h2 => ?_)
  dsimp only
  refine OK.ieq (fun h3 => ?_) (fun h3 => ?_)
  · skip
    exact OK.roret (by first | trivial | omega | exact hI.flds _ | exact hI.dflds _ | exact hI.recs _ | exact hI.drecs _ | exact hI.droot _ | omega)
  · skip
    refine OK.grd ⟨by omega, by omega⟩ ?_
    exact OK.roret (by first | trivial | omega | exact hI.flds _ | exact hI.dflds _ | exact hI.recs _ | exact hI.drecs _ | exact hI.droot _ | omega)
