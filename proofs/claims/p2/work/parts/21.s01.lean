theorem k_J6_bitCount_0f7a4 (p0 : Int32) (σ : ST) (hI : IA σ)  : OK (f_J6_bitCount_0f7a4  p0 σ) (RO σ fun v => True) := by
  unfold f_J6_bitCount_0f7a4
  have lt_0 := li_0
  have lt_1 := li_1
  have lt_63 := li_63
  have lFU : ((FU : Nat) : Int) = 100000 := rfl
  refine OK.lt (fun w1 _ => ?_)
  refine OK.lt (fun w2 _ => ?_)
  refine OK.lt (fun w3 _ => ?_)
  refine OK.lt (fun w4 _ => ?_)
  refine OK.lt (fun w5 _ => ?_)
  exact OK.roret (by first | trivial | omega | exact hI.flds _ | exact hI.dflds _ | exact hI.recs _ | exact hI.drecs _ | exact hI.droot _ | omega)

theorem k_J9_floorMod_7cf53 (p0 : Int32) (p1 : Int32) (σ : ST) (hI : IA σ) (hp0 : ¬ p1 = 0)  : OK (f_J9_floorMod_7cf53  p0 p1 σ) (RO σ fun v => True) := by
  unfold f_J9_floorMod_7cf53
  have lt_0 := li_0
  have lt_1 := li_1
  have lFU : ((FU : Nat) : Int) = 100000 := rfl
  refine OK.grd (by first | assumption | decide | omega) ?_
  refine OK.ile (fun h1 => ?_) (fun h1 => ?_)
  · skip
    exact OK.roret (by first | trivial | omega | exact hI.flds _ | exact hI.dflds _ | exact hI.recs _ | exact hI.drecs _ | exact hI.droot _ | omega)
  · skip
    obtain ⟨a2k, a2, a2l, a2r⟩ := i_mul (p0 / p1) p1
    try (refine k0el (k := a2k) ?_ (fun e0 => ?_); (focus omega); subst e0)
    obtain ⟨a3k, a3, a3l, a3r⟩ := i_sub p0 ((p0 / p1) * p1)
    try (refine k0el (k := a3k) ?_ (fun e0 => ?_); (focus omega); subst e0)
    refine OK.ieq (fun h4 => ?_) (fun h4 => ?_)
    · skip
      exact OK.roret (by first | trivial | omega | exact hI.flds _ | exact hI.dflds _ | exact hI.recs _ | exact hI.drecs _ | exact hI.droot _ | omega)
    · skip
      exact OK.roret (by first | trivial | omega | exact hI.flds _ | exact hI.dflds _ | exact hI.recs _ | exact hI.drecs _ | exact hI.droot _ | omega)

theorem k_X0_bitOf (p0 : Int32) (p1 : Int32) (σ : ST) (hI : IA σ)  : OK (f_X0_bitOf  p0 p1 σ) (RO σ fun v => True) := by
  unfold f_X0_bitOf
  have lt_0 := li_0
  have lt_1 := li_1
  have lt_6 := li_6
  have lt_63 := li_63
  have lFU : ((FU : Nat) : Int) = 100000 := rfl
  refine OK.bndR (k_J9_floorMod_7cf53 _ _ _ hI (by decide)) (fun v1 h2 => ?_)
  dsimp only
  refine OK.bndR (k_J9_floorMod_7cf53 _ _ _ hI (by decide)) (fun v3 h4 => ?_)
  dsimp only
  exact OK.roret (by first | trivial | omega | exact hI.flds _ | exact hI.dflds _ | exact hI.recs _ | exact hI.drecs _ | exact hI.droot _ | omega)

theorem k_X0_plainFits_41 (σ : ST) (hI : IA σ)  : OK (f_X0_plainFits_41  σ) (RO σ fun v => v.toInt = 0 ∨ v.toInt = 1) := by
  unfold f_X0_plainFits_41
  have lt_0 := li_0
  have lt_1 := li_1
  have lFU : ((FU : Nat) : Int) = 100000 := rfl
  exact OK.roret (by first | trivial | omega | exact hI.flds _ | exact hI.dflds _ | exact hI.recs _ | exact hI.drecs _ | exact hI.droot _ | omega)

theorem k_X0_plainFits_31 (x0 : Int32) (x1 : Int32) (σ : ST) (hI : IA σ)  : OK (f_X0_plainFits_31  x0 x1 σ) (RO σ fun v => v.toInt = 0 ∨ v.toInt = 1) := by
  unfold f_X0_plainFits_31
  have lt_0 := li_0
  have lt_1 := li_1
  have lt_3 := li_3
  have lt_4 := li_4
  have lFU : ((FU : Nat) : Int) = 100000 := rfl
  refine OK.ieq (fun h1 => ?_) (fun h1 => ?_)
  · skip
    refine OK.ieq (fun h2 => ?_) (fun h2 => ?_)
    · skip
      exact OK.roq (k_X0_plainFits_41 _ hI ) (fun v hv => by first | trivial | omega | exact hI.flds _ | exact hI.dflds _ | exact hI.recs _ | exact hI.drecs _ | exact hI.droot _ | omega)
    · skip
      exact OK.roret (by first | trivial | omega | exact hI.flds _ | exact hI.dflds _ | exact hI.recs _ | exact hI.drecs _ | exact hI.droot _ | omega)
  · skip
    exact OK.roret (by first | trivial | omega | exact hI.flds _ | exact hI.dflds _ | exact hI.recs _ | exact hI.drecs _ | exact hI.droot _ | omega)

theorem k_X0_plainFits (p0 : Int32) (p1 : Int32) (σ : ST) (hI : IA σ)  : OK (f_X0_plainFits  p0 p1 σ) (RO σ fun v => v.toInt = 0 ∨ v.toInt = 1) := by
  unfold f_X0_plainFits
  have lt_0 := li_0
  have lt_1 := li_1
  have lt_2 := li_2
  have lt_3 := li_3
  have lt_4 := li_4
  have lt_5 := li_5
  have lFU : ((FU : Nat) : Int) = 100000 := rfl
  refine OK.ilt (fun h1 => ?_) (fun h1 => ?_)
  · skip
    exact OK.roret (by first | trivial | omega | exact hI.flds _ | exact hI.dflds _ | exact hI.recs _ | exact hI.drecs _ | exact hI.droot _ | omega)
  · skip
    refine OK.ile (fun h2 => ?_) (fun h2 => ?_)
    · skip
      refine OK.ieq (fun h3 => ?_) (fun h3 => ?_)
      · skip
        exact OK.roq (k_X0_plainFits_41 _ hI ) (fun v hv => by first | trivial | omega | exact hI.flds _ | exact hI.dflds _ | exact hI.recs _ | exact hI.drecs _ | exact hI.droot _ | omega)
      · skip
        refine OK.ieq (fun h4 => ?_) (fun h4 => ?_)
        · skip
          refine OK.ieq (fun h5 => ?_) (fun h5 => ?_)
          · skip
            exact OK.roq (k_X0_plainFits_41 _ hI ) (fun v hv => by first | trivial | omega | exact hI.flds _ | exact hI.dflds _ | exact hI.recs _ | exact hI.drecs _ | exact hI.droot _ | omega)
          · skip
            refine OK.ieq (fun h6 => ?_) (fun h6 => ?_)
            · skip
              exact OK.roq (k_X0_plainFits_41 _ hI ) (fun v hv => by first | trivial | omega | exact hI.flds _ | exact hI.dflds _ | exact hI.recs _ | exact hI.drecs _ | exact hI.droot _ | omega)
            · skip
              exact OK.roq (k_X0_plainFits_31 _ _ _ hI ) (fun v hv => by first | trivial | omega | exact hI.flds _ | exact hI.dflds _ | exact hI.recs _ | exact hI.drecs _ | exact hI.droot _ | omega)
        · skip
          exact OK.roq (k_X0_plainFits_31 _ _ _ hI ) (fun v hv => by first | trivial | omega | exact hI.flds _ | exact hI.dflds _ | exact hI.recs _ | exact hI.drecs _ | exact hI.droot _ | omega)
    · skip
      exact OK.roret (by first | trivial | omega | exact hI.flds _ | exact hI.dflds _ | exact hI.recs _ | exact hI.drecs _ | exact hI.droot _ | omega)

theorem k_X5_isType_4 (p0 : Int32) (σ : ST) (hI : IA σ)  : OK (f_X5_isType 4 p0 σ) (RO σ fun v => v.toInt = 0 ∨ v.toInt = 1 ∧ 0 ≤ p0.toInt ∧ p0.toInt < 262) := by
  unfold f_X5_isType
  have lt_0 := li_0
  have lt_1 := li_1
  have lt_262 := li_262
  have lFU : ((FU : Nat) : Int) = 100000 := rfl
  refine OK.ilt (fun h1 => ?_) (fun h1 => ?_)
  · skip
    exact OK.roret (by first | trivial | omega | exact hI.flds _ | exact hI.dflds _ | exact hI.recs _ | exact hI.drecs _ | exact hI.droot _ | omega)
  · skip
    refine OK.ile (fun h2 => ?_) (fun h2 => ?_)
    · skip
      exact OK.roret (by first | trivial | omega | exact hI.flds _ | exact hI.dflds _ | exact hI.recs _ | exact hI.drecs _ | exact hI.droot _ | omega)
    · skip
      refine OK.ile (fun h3 => ?_) (fun h3 => ?_)
      · skip
        exact OK.roret (by first | trivial | omega | exact hI.flds _ | exact hI.dflds _ | exact hI.recs _ | exact hI.drecs _ | exact hI.droot _ | omega)
      · skip
        exact OK.roret (by first | trivial | omega | exact hI.flds _ | exact hI.dflds _ | exact hI.recs _ | exact hI.drecs _ | exact hI.droot _ | omega)

theorem k_X5_isType_20 (p0 : Int32) (σ : ST) (hI : IA σ)  : OK (f_X5_isType 20 p0 σ) (RO σ fun v => v.toInt = 0 ∨ v.toInt = 1 ∧ 0 ≤ p0.toInt ∧ p0.toInt < 262) := by
  unfold f_X5_isType
  have lt_0 := li_0
  have lt_1 := li_1
  have lt_262 := li_262
  have lFU : ((FU : Nat) : Int) = 100000 := rfl
  refine OK.ilt (fun h1 => ?_) (fun h1 => ?_)
  · skip
    exact OK.roret (by first | trivial | omega | exact hI.flds _ | exact hI.dflds _ | exact hI.recs _ | exact hI.drecs _ | exact hI.droot _ | omega)
  · skip
    refine OK.ile (fun h2 => ?_) (fun h2 => ?_)
    · skip
      exact OK.roret (by first | trivial | omega | exact hI.flds _ | exact hI.dflds _ | exact hI.recs _ | exact hI.drecs _ | exact hI.droot _ | omega)
    · skip
      refine OK.ile (fun h3 => ?_) (fun h3 => ?_)
      · skip
        exact OK.roret (by first | trivial | omega | exact hI.flds _ | exact hI.dflds _ | exact hI.recs _ | exact hI.drecs _ | exact hI.droot _ | omega)
      · skip
        exact OK.roret (by first | trivial | omega | exact hI.flds _ | exact hI.dflds _ | exact hI.recs _ | exact hI.drecs _ | exact hI.droot _ | omega)

theorem k_X5_branchAfter_4 (p0 : Int32) (σ : ST) (hI : IA σ)  : OK (f_X5_branchAfter 4 p0 σ) (RO σ fun v => True) := by
  unfold f_X5_branchAfter
  have lt_m1 := li_m1
  have lt_0 := li_0
  have lt_1 := li_1
  have lFU : ((FU : Nat) : Int) = 100000 := rfl
  refine OK.bndR (k_X5_isType_4 _ _ hI ) (fun v1 h2 => ?_)
  dsimp only
  refine OK.ieq (fun h3 => ?_) (fun h3 => ?_)
  · skip
    exact OK.roret (by first | trivial | omega | exact hI.flds _ | exact hI.dflds _ | exact hI.recs _ | exact hI.drecs _ | exact hI.droot _ | omega)
  · skip
    refine OK.grd ⟨by omega, by omega⟩ ?_
    exact OK.roret (by first | trivial | omega | exact hI.flds _ | exact hI.dflds _ | exact hI.recs _ | exact hI.drecs _ | exact hI.droot _ | omega)

theorem k_X5_innerOf_4 (p0 : Int32) (σ : ST) (hI : IA σ)  : OK (f_X5_innerOf 4 p0 σ) (RO σ fun v => True) := by
  unfold f_X5_innerOf
  have lt_m1 := li_m1
  have lt_0 := li_0
  have lt_1 := li_1
  have lFU : ((FU : Nat) : Int) = 100000 := rfl
  refine OK.bndR (k_X5_isType_4 _ _ hI ) (fun v1 h2 => ?_)
  dsimp only
  refine OK.ieq (fun h3 => ?_) (fun h3 => ?_)
  · skip
    exact OK.roret (by first | trivial | omega | exact hI.flds _ | exact hI.dflds _ | exact hI.recs _ | exact hI.drecs _ | exact hI.droot _ | omega)
  · skip
    refine OK.grd ⟨by omega, by omega⟩ ?_
    exact OK.roret (by first | trivial | omega | exact hI.flds _ | exact hI.dflds _ | exact hI.recs _ | exact hI.drecs _ | exact hI.droot _ | omega)

theorem k_X5_innerOf_20 (p0 : Int32) (σ : ST) (hI : IA σ)  : OK (f_X5_innerOf 20 p0 σ) (RO σ fun v => True) := by
  unfold f_X5_innerOf
  have lt_m1 := li_m1
  have lt_0 := li_0
  have lt_1 := li_1
  have lFU : ((FU : Nat) : Int) = 100000 := rfl
  refine OK.bndR (k_X5_isType_20 _ _ hI ) (fun v1 h2 => ?_)
  dsimp only
  refine OK.ieq (fun h3 => ?_) (fun h3 => ?_)
  · skip
    exact OK.roret (by first | trivial | omega | exact hI.flds _ | exact hI.dflds _ | exact hI.recs _ | exact hI.drecs _ | exact hI.droot _ | omega)
  · skip
    refine OK.grd ⟨by omega, by omega⟩ ?_
    exact OK.roret (by first | trivial | omega | exact hI.flds _ | exact hI.dflds _ | exact hI.recs _ | exact hI.drecs _ | exact hI.droot _ | omega)

theorem k_X5_sortOf_4 (p0 : Int32) (σ : ST) (hI : IA σ)  : OK (f_X5_sortOf 4 p0 σ) (RO σ fun v => True) := by
  unfold f_X5_sortOf
  have lt_m1 := li_m1
  have lt_0 := li_0
  have lt_1 := li_1
  have lFU : ((FU : Nat) : Int) = 100000 := rfl
  refine OK.bndR (k_X5_isType_4 _ _ hI ) (fun v1 h2 => ?_)
  dsimp only
  refine OK.ieq (fun h3 => ?_) (fun h3 => ?_)
  · skip
    exact OK.roret (by first | trivial | omega | exact hI.flds _ | exact hI.dflds _ | exact hI.recs _ | exact hI.drecs _ | exact hI.droot _ | omega)
  · skip
    refine OK.grd ⟨by omega, by omega⟩ ?_
    exact OK.roret (by first | trivial | omega | exact hI.flds _ | exact hI.dflds _ | exact hI.recs _ | exact hI.drecs _ | exact hI.droot _ | omega)

theorem k_X5_sortOf_20 (p0 : Int32) (σ : ST) (hI : IA σ)  : OK (f_X5_sortOf 20 p0 σ) (RO σ fun v => True) := by
  unfold f_X5_sortOf
  have lt_m1 := li_m1
  have lt_0 := li_0
  have lt_1 := li_1
  have lFU : ((FU : Nat) : Int) = 100000 := rfl
  refine OK.bndR (k_X5_isType_20 _ _ hI ) (fun v1 h2 => ?_)
  dsimp only
  refine OK.ieq (fun h3 => ?_) (fun h3 => ?_)
  · skip
    exact OK.roret (by first | trivial | omega | exact hI.flds _ | exact hI.dflds _ | exact hI.recs _ | exact hI.drecs _ | exact hI.droot _ | omega)
  · skip
    refine OK.grd ⟨by omega, by omega⟩ ?_
    exact OK.roret (by first | trivial | omega | exact hI.flds _ | exact hI.dflds _ | exact hI.recs _ | exact hI.drecs _ | exact hI.droot _ | omega)

theorem k_X0_chosenWithin_16 {N0 : Nat} {r_X0_chosenWithin : Int32 → Int32 → Int32 → ST → Option (Int32 × ST)} (hr_X0_chosenWithin : ∀ (p0 : Int32) (p1 : Int32) (p2 : Int32) (σ : ST), IA σ → 0 ≤ p2.toInt ∧ p2.toInt ≤ 11 ∧ (13 : Int) ≤ (N0 : Nat) + p2.toInt → OK (r_X0_chosenWithin p0 p1 p2 σ) (RO σ fun v => True)) {r_X0_fitsWithin : Int32 → Int32 → Int32 → ST → Option (Int32 × ST)} (hr_X0_fitsWithin : ∀ (p0 : Int32) (p1 : Int32) (p2 : Int32) (σ : ST), IA σ → 0 ≤ p2.toInt ∧ p2.toInt ≤ 12 ∧ (13 : Int) ≤ (N0 : Nat) + p2.toInt → OK (r_X0_fitsWithin p0 p1 p2 σ) (RO σ fun v => v.toInt = 0 ∨ v.toInt = 1)) : ∀ (n : Nat) (x1 : Int32) (x3 : Int32) (x4 : Int32) (x5 : Int32) (x6 : Int32) (σ : ST), IA σ → ((0 ≤ x3.toInt ∧ x3.toInt ≤ 11 ∧ (13 : Int) ≤ (N0 + 1 : Nat) + x3.toInt) ∧ 0 ≤ x6.toInt ∧ x6.toInt ≤ 4 ∧ (4 : Int) - x6.toInt < n) → OK (f_X0_chosenWithin_16 r_X0_chosenWithin r_X0_fitsWithin  n x1 x3 x4 x5 x6 σ) (RO σ fun v => True) := by
  intro n
  induction n with
  | zero =>
    intro x1 x3 x4 x5 x6 σ hI hv
    omega
  | succ n ih =>
    intro x1 x3 x4 x5 x6 σ hI hv
    rw [f_X0_chosenWithin_16]
    have lt_m1 := li_m1
    have lt_0 := li_0
    have lt_1 := li_1
    have lt_4 := li_4
    have lFU : ((FU : Nat) : Int) = 100000 := rfl
    have lFR : ((FR : Nat) : Int) = 160 := rfl
    refine OK.ile (fun h1 => ?_) (fun h1 => ?_)
    · skip
      exact OK.roret (by first | trivial | omega | exact hI.flds _ | exact hI.dflds _ | exact hI.recs _ | exact hI.drecs _ | exact hI.droot _ | omega)
    · skip
      refine OK.ieq (fun h2 => ?_) (fun h2 => ?_)
      · skip
        exact OK.roret (by first | trivial | omega | exact hI.flds _ | exact hI.dflds _ | exact hI.recs _ | exact hI.drecs _ | exact hI.droot _ | omega)
      · skip
        obtain ⟨a3k, a3, a3l, a3r⟩ := i_add x3 1
        try (refine k0el (k := a3k) ?_ (fun e0 => ?_); (focus omega); subst e0)
        refine OK.bndR (hr_X0_fitsWithin _ _ _ _ hI (by omega)) (fun v4 h5 => ?_)
        dsimp only
        refine OK.ieq (fun h6 => ?_) (fun h6 => ?_)
        · skip
          unfold f_X0_chosenWithin_79
          try dsimp only
          refine OK.bndR (k_X5_branchAfter_4 _ _ hI ) (fun v7 h8 => ?_)
          dsimp only
          obtain ⟨a9k, a9, a9l, a9r⟩ := i_add x6 1
          try (refine k0el (k := a9k) ?_ (fun e0 => ?_); (focus omega); subst e0)
          exact OK.roq (ih _ _ _ _ _ _ hI (by omega)) (fun v hv => by first | trivial | omega | exact hI.flds _ | exact hI.dflds _ | exact hI.recs _ | exact hI.drecs _ | exact hI.droot _ | omega)
        · skip
          refine OK.bndR (k_X5_sortOf_4 _ _ hI ) (fun v10 h11 => ?_)
          dsimp only
          refine OK.bndR (k_X5_sortOf_4 _ _ hI ) (fun v12 h13 => ?_)
          dsimp only
          refine OK.ieq (fun h14 => ?_) (fun h14 => ?_)
          · skip
            exact OK.roret (by first | trivial | omega | exact hI.flds _ | exact hI.dflds _ | exact hI.recs _ | exact hI.drecs _ | exact hI.droot _ | omega)
          · skip
            refine OK.ieq (fun h15 => ?_) (fun h15 => ?_)
            · skip
              unfold f_X0_chosenWithin_77
              try dsimp only
              unfold f_X0_chosenWithin_79
              try dsimp only
              refine OK.bndR (k_X5_branchAfter_4 _ _ hI ) (fun v16 h17 => ?_)
              dsimp only
              obtain ⟨a18k, a18, a18l, a18r⟩ := i_add x6 1
              try (refine k0el (k := a18k) ?_ (fun e0 => ?_); (focus omega); subst e0)
              exact OK.roq (ih _ _ _ _ _ _ hI (by omega)) (fun v hv => by first | trivial | omega | exact hI.flds _ | exact hI.dflds _ | exact hI.recs _ | exact hI.drecs _ | exact hI.droot _ | omega)
            · skip
              unfold f_X0_chosenWithin_77
              try dsimp only
              unfold f_X0_chosenWithin_79
              try dsimp only
              refine OK.bndR (k_X5_branchAfter_4 _ _ hI ) (fun v19 h20 => ?_)
              dsimp only
              obtain ⟨a21k, a21, a21l, a21r⟩ := i_add x6 1
              try (refine k0el (k := a21k) ?_ (fun e0 => ?_); (focus omega); subst e0)
              exact OK.roq (ih _ _ _ _ _ _ hI (by omega)) (fun v hv => by first | trivial | omega | exact hI.flds _ | exact hI.dflds _ | exact hI.recs _ | exact hI.drecs _ | exact hI.droot _ | omega)

theorem k_X0_chosenWithin {N0 : Nat} {r_X0_chosenWithin : Int32 → Int32 → Int32 → ST → Option (Int32 × ST)} (hr_X0_chosenWithin : ∀ (p0 : Int32) (p1 : Int32) (p2 : Int32) (σ : ST), IA σ → 0 ≤ p2.toInt ∧ p2.toInt ≤ 11 ∧ (13 : Int) ≤ (N0 : Nat) + p2.toInt → OK (r_X0_chosenWithin p0 p1 p2 σ) (RO σ fun v => True)) {r_X0_fitsWithin : Int32 → Int32 → Int32 → ST → Option (Int32 × ST)} (hr_X0_fitsWithin : ∀ (p0 : Int32) (p1 : Int32) (p2 : Int32) (σ : ST), IA σ → 0 ≤ p2.toInt ∧ p2.toInt ≤ 12 ∧ (13 : Int) ≤ (N0 : Nat) + p2.toInt → OK (r_X0_fitsWithin p0 p1 p2 σ) (RO σ fun v => v.toInt = 0 ∨ v.toInt = 1)) (p0 : Int32) (p1 : Int32) (p2 : Int32) (σ : ST) (hI : IA σ) (hv : 0 ≤ p2.toInt ∧ p2.toInt ≤ 11 ∧ (13 : Int) ≤ (N0 + 1 : Nat) + p2.toInt)  : OK (f_X0_chosenWithin r_X0_chosenWithin r_X0_fitsWithin  p0 p1 p2 σ) (RO σ fun v => True) := by
  unfold f_X0_chosenWithin
  have lt_m1 := li_m1
  have lt_0 := li_0
  have lt_1 := li_1
  have lFU : ((FU : Nat) : Int) = 100000 := rfl
  have lFR : ((FR : Nat) : Int) = 160 := rfl
  refine OK.bndR (k_X5_innerOf_4 _ _ hI ) (fun v1 h2 => ?_)
  dsimp only
  exact OK.roq (k_X0_chosenWithin_16 hr_X0_chosenWithin hr_X0_fitsWithin FU _ _ _ _ _ _ hI (by omega)) (fun v hv => by first | trivial | omega | exact hI.flds _ | exact hI.dflds _ | exact hI.recs _ | exact hI.drecs _ | exact hI.droot _ | omega)

theorem k_X0_fitsWithin_48 {N0 : Nat} {r_X0_chosenWithin : Int32 → Int32 → Int32 → ST → Option (Int32 × ST)} (hr_X0_chosenWithin : ∀ (p0 : Int32) (p1 : Int32) (p2 : Int32) (σ : ST), IA σ → 0 ≤ p2.toInt ∧ p2.toInt ≤ 11 ∧ (13 : Int) ≤ (N0 : Nat) + p2.toInt → OK (r_X0_chosenWithin p0 p1 p2 σ) (RO σ fun v => True)) {r_X0_fitsWithin : Int32 → Int32 → Int32 → ST → Option (Int32 × ST)} (hr_X0_fitsWithin : ∀ (p0 : Int32) (p1 : Int32) (p2 : Int32) (σ : ST), IA σ → 0 ≤ p2.toInt ∧ p2.toInt ≤ 12 ∧ (13 : Int) ≤ (N0 : Nat) + p2.toInt → OK (r_X0_fitsWithin p0 p1 p2 σ) (RO σ fun v => v.toInt = 0 ∨ v.toInt = 1)) : ∀ (n : Nat) (x2 : Int32) (x3 : Int32) (x6 : Int32) (x7 : Int32) (σ : ST), IA σ → ((0 ≤ x3.toInt ∧ x3.toInt ≤ 10 ∧ (13 : Int) ≤ (N0 + 1 : Nat) + x3.toInt) ∧ 0 ≤ x7.toInt ∧ x7.toInt ≤ 4 ∧ (4 : Int) - x7.toInt < n) → OK (f_X0_fitsWithin_48 r_X0_chosenWithin r_X0_fitsWithin  n x2 x3 x6 x7 σ) (RO σ fun v => v.toInt = 0 ∨ v.toInt = 1) := by
  intro n
  induction n with
  | zero =>
    intro x2 x3 x6 x7 σ hI hv
    omega
  | succ n ih =>
    intro x2 x3 x6 x7 σ hI hv
    rw [f_X0_fitsWithin_48]
    have lt_m1 := li_m1
    have lt_0 := li_0
    have lt_1 := li_1
    have lt_4 := li_4
    have lFU : ((FU : Nat) : Int) = 100000 := rfl
    have lFR : ((FR : Nat) : Int) = 160 := rfl
    refine OK.ile (fun h1 => ?_) (fun h1 => ?_)
    · skip
      exact OK.roret (by first | trivial | omega | exact hI.flds _ | exact hI.dflds _ | exact hI.recs _ | exact hI.drecs _ | exact hI.droot _ | omega)
    · skip
      refine OK.ieq (fun h2 => ?_) (fun h2 => ?_)
      · skip
        exact OK.roret (by first | trivial | omega | exact hI.flds _ | exact hI.dflds _ | exact hI.recs _ | exact hI.drecs _ | exact hI.droot _ | omega)
      · skip
        obtain ⟨a3k, a3, a3l, a3r⟩ := i_add x3 1
        try (refine k0el (k := a3k) ?_ (fun e0 => ?_); (focus omega); subst e0)
        refine OK.bndR (hr_X0_fitsWithin _ _ _ _ hI (by omega)) (fun v4 h5 => ?_)
        dsimp only
        refine OK.ieq (fun h6 => ?_) (fun h6 => ?_)
        · skip
          refine OK.bndR (k_X5_branchAfter_4 _ _ hI ) (fun v7 h8 => ?_)
          dsimp only
          obtain ⟨a9k, a9, a9l, a9r⟩ := i_add x7 1
          try (refine k0el (k := a9k) ?_ (fun e0 => ?_); (focus omega); subst e0)
          exact OK.roq (ih _ _ _ _ _ hI (by omega)) (fun v hv => by first | trivial | omega | exact hI.flds _ | exact hI.dflds _ | exact hI.recs _ | exact hI.drecs _ | exact hI.droot _ | omega)
        · skip
          exact OK.roret (by first | trivial | omega | exact hI.flds _ | exact hI.dflds _ | exact hI.recs _ | exact hI.drecs _ | exact hI.droot _ | omega)

theorem k_X0_fitsWithin {N0 : Nat} {r_X0_chosenWithin : Int32 → Int32 → Int32 → ST → Option (Int32 × ST)} (hr_X0_chosenWithin : ∀ (p0 : Int32) (p1 : Int32) (p2 : Int32) (σ : ST), IA σ → 0 ≤ p2.toInt ∧ p2.toInt ≤ 11 ∧ (13 : Int) ≤ (N0 : Nat) + p2.toInt → OK (r_X0_chosenWithin p0 p1 p2 σ) (RO σ fun v => True)) {r_X0_fitsWithin : Int32 → Int32 → Int32 → ST → Option (Int32 × ST)} (hr_X0_fitsWithin : ∀ (p0 : Int32) (p1 : Int32) (p2 : Int32) (σ : ST), IA σ → 0 ≤ p2.toInt ∧ p2.toInt ≤ 12 ∧ (13 : Int) ≤ (N0 : Nat) + p2.toInt → OK (r_X0_fitsWithin p0 p1 p2 σ) (RO σ fun v => v.toInt = 0 ∨ v.toInt = 1)) (p0 : Int32) (p1 : Int32) (p2 : Int32) (σ : ST) (hI : IA σ) (hv : 0 ≤ p2.toInt ∧ p2.toInt ≤ 12 ∧ (13 : Int) ≤ (N0 + 1 : Nat) + p2.toInt)  : OK (f_X0_fitsWithin r_X0_chosenWithin r_X0_fitsWithin  p0 p1 p2 σ) (RO σ fun v => v.toInt = 0 ∨ v.toInt = 1) := by
  unfold f_X0_fitsWithin
  have lt_m1 := li_m1
  have lt_0 := li_0
  have lt_1 := li_1
  have lt_6 := li_6
  have lt_7 := li_7
  have lt_8 := li_8
  have lt_10 := li_10
  have lFU : ((FU : Nat) : Int) = 100000 := rfl
  have lFR : ((FR : Nat) : Int) = 160 := rfl
  refine OK.ile (fun h1 => ?_) (fun h1 => ?_)
  · skip
    refine OK.bndR (k_X5_sortOf_4 _ _ hI ) (fun v2 h3 => ?_)
    dsimp only
    refine OK.bndR (k_X5_sortOf_4 _ _ hI ) (fun v4 h5 => ?_)
    dsimp only
    refine OK.ieq (fun h6 => ?_) (fun h6 => ?_)
    · skip
      refine OK.bndR (k_X5_innerOf_4 _ _ hI ) (fun v7 h8 => ?_)
      dsimp only
      exact OK.roq (k_X0_fitsWithin_48 hr_X0_chosenWithin hr_X0_fitsWithin FU _ _ _ _ _ hI (by omega)) (fun v hv => by first | trivial | omega | exact hI.flds _ | exact hI.dflds _ | exact hI.recs _ | exact hI.drecs _ | exact hI.droot _ | omega)
    · skip
      refine OK.ieq (fun h9 => ?_) (fun h9 => ?_)
      · skip
        obtain ⟨a10k, a10, a10l, a10r⟩ := i_add p2 1
        try (refine k0el (k := a10k) ?_ (fun e0 => ?_); (focus omega); subst e0)
        refine OK.bndR (hr_X0_chosenWithin _ _ _ _ hI (by omega)) (fun v11 h12 => ?_)
        dsimp only
        refine OK.ieq (fun h13 => ?_) (fun h13 => ?_)
        · skip
          exact OK.roret (by first | trivial | omega | exact hI.flds _ | exact hI.dflds _ | exact hI.recs _ | exact hI.drecs _ | exact hI.droot _ | omega)
        · skip
          exact OK.roret (by first | trivial | omega | exact hI.flds _ | exact hI.dflds _ | exact hI.recs _ | exact hI.drecs _ | exact hI.droot _ | omega)
      · skip
        refine OK.ieq (fun h14 => ?_) (fun h14 => ?_)
        · skip
          refine OK.ieq (fun h15 => ?_) (fun h15 => ?_)
          · skip
            refine OK.bndR (k_X5_innerOf_4 _ _ hI ) (fun v16 h17 => ?_)
            dsimp only
            refine OK.bndR (k_X5_innerOf_4 _ _ hI ) (fun v18 h19 => ?_)
            dsimp only
            obtain ⟨a20k, a20, a20l, a20r⟩ := i_add p2 1
            try (refine k0el (k := a20k) ?_ (fun e0 => ?_); (focus omega); subst e0)
            refine OK.bndR (hr_X0_fitsWithin _ _ _ _ hI (by omega)) (fun v21 h22 => ?_)
            dsimp only
            refine OK.grd (b01 (by omega)) ?_
            exact OK.roret (by first | trivial | omega | exact hI.flds _ | exact hI.dflds _ | exact hI.recs _ | exact hI.drecs _ | exact hI.droot _ | omega)
          · skip
            unfold f_X0_fitsWithin_158
            try dsimp only
            refine OK.ieq (fun h23 => ?_) (fun h23 => ?_)
            · skip
              refine OK.ieq (fun h24 => ?_) (fun h24 => ?_)
              · skip
                refine OK.bndR (k_X5_innerOf_4 _ _ hI ) (fun v25 h26 => ?_)
                dsimp only
                refine OK.bndR (k_X5_innerOf_4 _ _ hI ) (fun v27 h28 => ?_)
                dsimp only
                refine OK.bndR (k_X0_bitOf _ _ _ hI ) (fun v29 h30 => ?_)
                dsimp only
                refine OK.ieq (fun h31 => ?_) (fun h31 => ?_)
                · skip
                  exact OK.roret (by first | trivial | omega | exact hI.flds _ | exact hI.dflds _ | exact hI.recs _ | exact hI.drecs _ | exact hI.droot _ | omega)
                · skip
                  exact OK.roret (by first | trivial | omega | exact hI.flds _ | exact hI.dflds _ | exact hI.recs _ | exact hI.drecs _ | exact hI.droot _ | omega)
              · skip
                unfold f_X0_fitsWithin_207
                try dsimp only
                refine OK.bndR (k_X0_plainFits _ _ _ hI ) (fun v32 h33 => ?_)
                dsimp only
                refine OK.grd (b01 (by omega)) ?_
                exact OK.roret (by first | trivial | omega | exact hI.flds _ | exact hI.dflds _ | exact hI.recs _ | exact hI.drecs _ | exact hI.droot _ | omega)
            · skip
              unfold f_X0_fitsWithin_207
              try dsimp only
              refine OK.bndR (k_X0_plainFits _ _ _ hI ) (fun v34 h35 => ?_)
              dsimp only
              refine OK.grd (b01 (by omega)) ?_
              exact OK.roret (by first | trivial | omega | exact hI.flds _ | exact hI.dflds _ | exact hI.recs _ | exact hI.drecs _ | exact hI.droot _ | omega)
        · skip
          unfold f_X0_fitsWithin_158
          try dsimp only
          refine OK.ieq (fun h36 => ?_) (fun h36 => ?_)
          · skip
            refine OK.ieq (fun h37 => ?_) (fun h37 => ?_)
            · skip
              refine OK.bndR (k_X5_innerOf_4 _ _ hI ) (fun v38 h39 => ?_)
              dsimp only
              refine OK.bndR (k_X5_innerOf_4 _ _ hI ) (fun v40 h41 => ?_)
              dsimp only
              refine OK.bndR (k_X0_bitOf _ _ _ hI ) (fun v42 h43 => ?_)
              dsimp only
              refine OK.ieq (fun h44 => ?_) (fun h44 => ?_)
              · skip
                exact OK.roret (by first | trivial | omega | exact hI.flds _ | exact hI.dflds _ | exact hI.recs _ | exact hI.drecs _ | exact hI.droot _ | omega)
              · skip
                exact OK.roret (by first | trivial | omega | exact hI.flds _ | exact hI.dflds _ | exact hI.recs _ | exact hI.drecs _ | exact hI.droot _ | omega)
            · skip
              unfold f_X0_fitsWithin_207
              try dsimp only
              refine OK.bndR (k_X0_plainFits _ _ _ hI ) (fun v45 h46 => ?_)
              dsimp only
              refine OK.grd (b01 (by omega)) ?_
              exact OK.roret (by first | trivial | omega | exact hI.flds _ | exact hI.dflds _ | exact hI.recs _ | exact hI.drecs _ | exact hI.droot _ | omega)
          · skip
            unfold f_X0_fitsWithin_207
            try dsimp only
            refine OK.bndR (k_X0_plainFits _ _ _ hI ) (fun v47 h48 => ?_)
            dsimp only
            refine OK.grd (b01 (by omega)) ?_
            exact OK.roret (by first | trivial | omega | exact hI.flds _ | exact hI.dflds _ | exact hI.recs _ | exact hI.drecs _ | exact hI.droot _ | omega)
  · skip
    exact OK.roret (by first | trivial | omega | exact hI.flds _ | exact hI.dflds _ | exact hI.recs _ | exact hI.drecs _ | exact hI.droot _ | omega)

theorem kR_X0_chosenWithin : ∀ n : Nat, (∀ (p0 : Int32) (p1 : Int32) (p2 : Int32) (σ : ST), IA σ → 0 ≤ p2.toInt ∧ p2.toInt ≤ 11 ∧ (13 : Int) ≤ (n : Nat) + p2.toInt → OK ((R_X0_chosenWithin n).1 p0 p1 p2 σ) (RO σ fun v => True)) ∧ (∀ (p0 : Int32) (p1 : Int32) (p2 : Int32) (σ : ST), IA σ → 0 ≤ p2.toInt ∧ p2.toInt ≤ 12 ∧ (13 : Int) ≤ (n : Nat) + p2.toInt → OK ((R_X0_chosenWithin n).2 p0 p1 p2 σ) (RO σ fun v => v.toInt = 0 ∨ v.toInt = 1)) := by
  intro n
  induction n with
  | zero =>
    refine ⟨?_, ?_⟩
    · intro p0 p1 p2 σ hI hv; omega
    · intro p0 p1 p2 σ hI hv; omega
  | succ n ih =>
    obtain ⟨ih0, ih1⟩ := ih
    refine ⟨?_, ?_⟩
    · intro p0 p1 p2 σ hI hv; exact k_X0_chosenWithin (N0 := n) ih0 ih1 p0 p1 p2 σ hI (by omega)
    · intro p0 p1 p2 σ hI hv; exact k_X0_fitsWithin (N0 := n) ih0 ih1 p0 p1 p2 σ hI (by omega)
theorem kT_X0_chosenWithin (p0 : Int32) (p1 : Int32) (p2 : Int32) (σ : ST) (hI : IA σ) (hv : 0 ≤ p2.toInt ∧ p2.toInt ≤ 11 ∧ (13 : Int) ≤ (FR : Nat) + p2.toInt) : OK (f_T_X0_chosenWithin p0 p1 p2 σ) (RO σ fun v => True) := (kR_X0_chosenWithin FR).1 p0 p1 p2 σ hI hv
theorem kT_X0_fitsWithin (p0 : Int32) (p1 : Int32) (p2 : Int32) (σ : ST) (hI : IA σ) (hv : 0 ≤ p2.toInt ∧ p2.toInt ≤ 12 ∧ (13 : Int) ≤ (FR : Nat) + p2.toInt) : OK (f_T_X0_fitsWithin p0 p1 p2 σ) (RO σ fun v => v.toInt = 0 ∨ v.toInt = 1) := (kR_X0_chosenWithin FR).2 p0 p1 p2 σ hI hv

theorem k_X0_chosen (p0 : Int32) (p1 : Int32) (σ : ST) (hI : IA σ)  : OK (f_X0_chosen  p0 p1 σ) (RO σ fun v => True) := by
  unfold f_X0_chosen
  have lt_0 := li_0
  have lt_1 := li_1
  have lFU : ((FU : Nat) : Int) = 100000 := rfl
  have lFR : ((FR : Nat) : Int) = 160 := rfl
  refine OK.bndR (kT_X0_chosenWithin _ _ _ _ hI (by omega)) (fun v1 h2 => ?_)
  dsimp only
  exact OK.roret (by first | trivial | omega | exact hI.flds _ | exact hI.dflds _ | exact hI.recs _ | exact hI.drecs _ | exact hI.droot _ | omega)

theorem k_X0_pairOf (p0 : Int32) (p1 : Int32) (σ : ST) (hI : IA σ)  : OK (f_X0_pairOf  p0 p1 σ) (RO σ fun v => 0 ≤ v.toInt ∧ v.toInt < 36) := by
  unfold f_X0_pairOf
  have lt_0 := li_0
  have lt_1 := li_1
  have lt_6 := li_6
  have lFU : ((FU : Nat) : Int) = 100000 := rfl
  refine OK.ilt (fun h1 => ?_) (fun h1 => ?_)
  · skip
    exact OK.roret (by first | trivial | omega | exact hI.flds _ | exact hI.dflds _ | exact hI.recs _ | exact hI.drecs _ | exact hI.droot _ | omega)
  · skip
    refine OK.ile (fun h2 => ?_) (fun h2 => ?_)
    · skip
      exact OK.roret (by first | trivial | omega | exact hI.flds _ | exact hI.dflds _ | exact hI.recs _ | exact hI.drecs _ | exact hI.droot _ | omega)
    · skip
      refine OK.ilt (fun h3 => ?_) (fun h3 => ?_)
      · skip
        exact OK.roret (by first | trivial | omega | exact hI.flds _ | exact hI.dflds _ | exact hI.recs _ | exact hI.drecs _ | exact hI.droot _ | omega)
      · skip
        refine OK.ile (fun h4 => ?_) (fun h4 => ?_)
        · skip
          exact OK.roret (by first | trivial | omega | exact hI.flds _ | exact hI.dflds _ | exact hI.recs _ | exact hI.drecs _ | exact hI.droot _ | omega)
        · skip
          obtain ⟨a5k, a5, a5l, a5r⟩ := i_mul p0 6
          rw [li_6] at a5
          try (refine k0el (k := a5k) ?_ (fun e0 => ?_); (focus omega); subst e0)
          obtain ⟨a6k, a6, a6l, a6r⟩ := i_add (p0 * 6) p1
          try (refine k0el (k := a6k) ?_ (fun e0 => ?_); (focus omega); subst e0)
          exact OK.roret (by first | trivial | omega | exact hI.flds _ | exact hI.dflds _ | exact hI.recs _ | exact hI.drecs _ | exact hI.droot _ | omega)

theorem k_X0_fits (p0 : Int32) (p1 : Int32) (σ : ST) (hI : IA σ)  : OK (f_X0_fits  p0 p1 σ) (RO σ fun v => v.toInt = 0 ∨ v.toInt = 1) := by
  unfold f_X0_fits
  have lt_0 := li_0
  have lt_1 := li_1
  have lFU : ((FU : Nat) : Int) = 100000 := rfl
  have lFR : ((FR : Nat) : Int) = 160 := rfl
  refine OK.bndR (kT_X0_fitsWithin _ _ _ _ hI (by omega)) (fun v1 h2 => ?_)
  dsimp only
  refine OK.grd (b01 (by omega)) ?_
  exact OK.roret (by first | trivial | omega | exact hI.flds _ | exact hI.dflds _ | exact hI.recs _ | exact hI.drecs _ | exact hI.droot _ | omega)

theorem k_X5_isRecord (p0 : Int32) (σ : ST) (hI : IA σ)  : OK (f_X5_isRecord  p0 σ) (RO σ fun v => v.toInt = 0 ∨ v.toInt = 1 ∧ 0 ≤ p0.toInt ∧ p0.toInt < 36) := by
  unfold f_X5_isRecord
  have lt_0 := li_0
  have lt_1 := li_1
  have lt_36 := li_36
  have lFU : ((FU : Nat) : Int) = 100000 := rfl
  refine OK.ilt (fun h1 => ?_) (fun h1 => ?_)
  · skip
    exact OK.roret (by first | trivial | omega | exact hI.flds _ | exact hI.dflds _ | exact hI.recs _ | exact hI.drecs _ | exact hI.droot _ | omega)
  · skip
    refine OK.ile (fun h2 => ?_) (fun h2 => ?_)
    · skip
      exact OK.roret (by first | trivial | omega | exact hI.flds _ | exact hI.dflds _ | exact hI.recs _ | exact hI.drecs _ | exact hI.droot _ | omega)
    · skip
      exact OK.roret (by first | trivial | omega | exact hI.flds _ | exact hI.dflds _ | exact hI.recs _ | exact hI.drecs _ | exact hI.droot _ | omega)

theorem k_X5_recordName_4 (p0 : Int32) (σ : ST) (hI : IA σ)  : OK (f_X5_recordName 4 p0 σ) (RO σ fun v => True) := by
  unfold f_X5_recordName
  have lt_0 := li_0
  have lt_1 := li_1
  have lFU : ((FU : Nat) : Int) = 100000 := rfl
  refine OK.bndR (k_X5_isRecord _ _ hI ) (fun v1 h2 => ?_)
  dsimp only
  refine OK.ieq (fun h3 => ?_) (fun h3 => ?_)
  · skip
    exact OK.roret (by first | trivial | omega | exact hI.flds _ | exact hI.dflds _ | exact hI.recs _ | exact hI.drecs _ | exact hI.droot _ | omega)
  · skip
    refine OK.grd ⟨by omega, by omega⟩ ?_
    exact OK.roret (by first | trivial | omega | exact hI.flds _ | exact hI.dflds _ | exact hI.recs _ | exact hI.drecs _ | exact hI.droot _ | omega)

theorem k_X5_recordName_20 (p0 : Int32) (σ : ST) (hI : IA σ)  : OK (f_X5_recordName 20 p0 σ) (RO σ fun v => True) := by
  unfold f_X5_recordName
  have lt_0 := li_0
  have lt_1 := li_1
  have lFU : ((FU : Nat) : Int) = 100000 := rfl
  refine OK.bndR (k_X5_isRecord _ _ hI ) (fun v1 h2 => ?_)
  dsimp only
  refine OK.ieq (fun h3 => ?_) (fun h3 => ?_)
  · skip
    exact OK.roret (by first | trivial | omega | exact hI.flds _ | exact hI.dflds _ | exact hI.recs _ | exact hI.drecs _ | exact hI.droot _ | omega)
  · skip
    refine OK.grd ⟨by omega, by omega⟩ ?_
    exact OK.roret (by first | trivial | omega | exact hI.flds _ | exact hI.dflds _ | exact hI.recs _ | exact hI.drecs _ | exact hI.droot _ | omega)

theorem k_X0_mayPair_38 (σ : ST) (hI : IA σ)  : OK (f_X0_mayPair_38  σ) (RO σ fun v => v.toInt = 0 ∨ v.toInt = 1) := by
  unfold f_X0_mayPair_38
  have lt_0 := li_0
  have lt_1 := li_1
  have lFU : ((FU : Nat) : Int) = 100000 := rfl
  exact OK.roret (by first | trivial | omega | exact hI.flds _ | exact hI.dflds _ | exact hI.recs _ | exact hI.drecs _ | exact hI.droot _ | omega)

theorem k_X0_mayPair_18 (x1 : Int32) (x2 : Int32) (σ : ST) (hI : IA σ)  : OK (f_X0_mayPair_18  x1 x2 σ) (RO σ fun v => v.toInt = 0 ∨ v.toInt = 1) := by
  unfold f_X0_mayPair_18
  have lt_0 := li_0
  have lt_1 := li_1
  have lFU : ((FU : Nat) : Int) = 100000 := rfl
  refine OK.bndR (k_X5_recordName_4 _ _ hI ) (fun v1 h2 => ?_)
  dsimp only
  refine OK.bndR (k_X5_recordName_4 _ _ hI ) (fun v3 h4 => ?_)
  dsimp only
  refine OK.ieq (fun h5 => ?_) (fun h5 => ?_)
  · skip
    exact OK.roq (k_X0_mayPair_38 _ hI ) (fun v hv => by first | trivial | omega | exact hI.flds _ | exact hI.dflds _ | exact hI.recs _ | exact hI.drecs _ | exact hI.droot _ | omega)
  · skip
    exact OK.roret (by first | trivial | omega | exact hI.flds _ | exact hI.dflds _ | exact hI.recs _ | exact hI.drecs _ | exact hI.droot _ | omega)

theorem k_X0_mayPair (p0 : Int32) (p1 : Int32) (σ : ST) (hI : IA σ)  : OK (f_X0_mayPair  p0 p1 σ) (RO σ fun v => v.toInt = 0 ∨ v.toInt = 1) := by
  unfold f_X0_mayPair
  have lt_0 := li_0
  have lt_1 := li_1
  have lt_6 := li_6
  have lFU : ((FU : Nat) : Int) = 100000 := rfl
  refine OK.bndR (k_J9_floorMod_7cf53 _ _ _ hI (by decide)) (fun v1 h2 => ?_)
  dsimp only
  refine OK.ieq (fun h3 => ?_) (fun h3 => ?_)
  · skip
    refine OK.bndR (k_J9_floorMod_7cf53 _ _ _ hI (by decide)) (fun v4 h5 => ?_)
    dsimp only
    refine OK.ieq (fun h6 => ?_) (fun h6 => ?_)
    · skip
      exact OK.roq (k_X0_mayPair_38 _ hI ) (fun v hv => by first | trivial | omega | exact hI.flds _ | exact hI.dflds _ | exact hI.recs _ | exact hI.drecs _ | exact hI.droot _ | omega)
    · skip
      exact OK.roq (k_X0_mayPair_18 _ _ _ hI ) (fun v hv => by first | trivial | omega | exact hI.flds _ | exact hI.dflds _ | exact hI.recs _ | exact hI.drecs _ | exact hI.droot _ | omega)
  · skip
    exact OK.roq (k_X0_mayPair_18 _ _ _ hI ) (fun v hv => by first | trivial | omega | exact hI.flds _ | exact hI.dflds _ | exact hI.recs _ | exact hI.drecs _ | exact hI.droot _ | omega)

theorem k_X0_step_26 (σ : ST) (hI : IA σ)  : OK (f_X0_step_26  σ) (RS σ) := by
  unfold f_X0_step_26
  have lt_0 := li_0
  have lt_1 := li_1
  have lFU : ((FU : Nat) : Int) = 100000 := rfl
  exact OK.sret (ia_I_41 hI) (fr_I_41 Fr.rf)

theorem k_X0_step (p0 : Int32) (σ : ST) (hI : IA σ)  : OK (f_X0_step  p0 σ) (RS σ) := by
  unfold f_X0_step
  have lt_0 := li_0
  have lt_1 := li_1
  have lt_32 := li_32
  have lFU : ((FU : Nat) : Int) = 100000 := rfl
  refine OK.ilt (fun h1 => ?_) (fun h1 => ?_)
  · skip
    exact OK.trS (k_X0_step_26 _ hI ) Fr.rf
  · skip
    refine OK.ile (fun h2 => ?_) (fun h2 => ?_)
    · skip
      exact OK.trS (k_X0_step_26 _ hI ) Fr.rf
    · skip
      refine OK.grd ⟨by omega, by omega⟩ ?_
      exact OK.trS (k_X0_step_26 _ (ia_I_47 hI) ) (fr_I_47 Fr.rf)

theorem k_X5_fieldsOf_4 (p0 : Int32) (σ : ST) (hI : IA σ)  : OK (f_X5_fieldsOf 4 p0 σ) (RO σ fun v => 0 ≤ v.toInt ∧ v.toInt ≤ 8) := by
  unfold f_X5_fieldsOf
  have lt_0 := li_0
  have lt_1 := li_1
  have lFU : ((FU : Nat) : Int) = 100000 := rfl
  refine OK.bndR (k_X5_isRecord _ _ hI ) (fun v1 h2 => ?_)
  dsimp only
  refine OK.ieq (fun h3 => ?_) (fun h3 => ?_)
  · skip
    exact OK.roret (by first | trivial | omega | exact hI.flds _ | exact hI.dflds _ | exact hI.recs _ | exact hI.drecs _ | exact hI.droot _ | omega)
  · skip
    refine OK.grd ⟨by omega, by omega⟩ ?_
    exact OK.roret (by first | trivial | omega | exact hI.flds _ | exact hI.dflds _ | exact hI.recs _ | exact hI.drecs _ | exact hI.droot _ | omega)

theorem k_X5_fieldsOf_20 (p0 : Int32) (σ : ST) (hI : IA σ)  : OK (f_X5_fieldsOf 20 p0 σ) (RO σ fun v => 0 ≤ v.toInt ∧ v.toInt ≤ 8) := by
  unfold f_X5_fieldsOf
  have lt_0 := li_0
  have lt_1 := li_1
  have lFU : ((FU : Nat) : Int) = 100000 := rfl
  refine OK.bndR (k_X5_isRecord _ _ hI ) (fun v1 h2 => ?_)
  dsimp only
  refine OK.ieq (fun h3 => ?_) (fun h3 => ?_)
  · skip
    exact OK.roret (by first | trivial | omega | exact hI.flds _ | exact hI.dflds _ | exact hI.recs _ | exact hI.drecs _ | exact hI.droot _ | omega)
  · skip
    refine OK.grd ⟨by omega, by omega⟩ ?_
    exact OK.roret (by first | trivial | omega | exact hI.flds _ | exact hI.dflds _ | exact hI.recs _ | exact hI.drecs _ | exact hI.droot _ | omega)

theorem k_X5_isFieldOf (p0 : Int32) (p1 : Int32) (σ : ST) (hI : IA σ)  : OK (f_X5_isFieldOf  p0 p1 σ) (RO σ fun v => v.toInt = 0 ∨ v.toInt = 1 ∧ 0 ≤ p0.toInt ∧ p0.toInt < 36 ∧ 0 ≤ p1.toInt ∧ p1.toInt < 8) := by
  unfold f_X5_isFieldOf
  have lt_0 := li_0
  have lt_1 := li_1
  have lt_8 := li_8
  have lt_36 := li_36
  have lFU : ((FU : Nat) : Int) = 100000 := rfl
  refine OK.ilt (fun h1 => ?_) (fun h1 => ?_)
  · skip
    exact OK.roret (by first | trivial | omega | exact hI.flds _ | exact hI.dflds _ | exact hI.recs _ | exact hI.drecs _ | exact hI.droot _ | omega)
  · skip
    refine OK.ile (fun h2 => ?_) (fun h2 => ?_)
    · skip
      exact OK.roret (by first | trivial | omega | exact hI.flds _ | exact hI.dflds _ | exact hI.recs _ | exact hI.drecs _ | exact hI.droot _ | omega)
    · skip
      refine OK.ilt (fun h3 => ?_) (fun h3 => ?_)
      · skip
        exact OK.roret (by first | trivial | omega | exact hI.flds _ | exact hI.dflds _ | exact hI.recs _ | exact hI.drecs _ | exact hI.droot _ | omega)
      · skip
        refine OK.ile (fun h4 => ?_) (fun h4 => ?_)
        · skip
          exact OK.roret (by first | trivial | omega | exact hI.flds _ | exact hI.dflds _ | exact hI.recs _ | exact hI.drecs _ | exact hI.droot _ | omega)
        · skip
          exact OK.roret (by first | trivial | omega | exact hI.flds _ | exact hI.dflds _ | exact hI.recs _ | exact hI.drecs _ | exact hI.droot _ | omega)

theorem k_X5_hasElse_4 (p0 : Int32) (p1 : Int32) (σ : ST) (hI : IA σ)  : OK (f_X5_hasElse 4 p0 p1 σ) (RO σ fun v => v.toInt = 0 ∨ v.toInt = 1) := by
  unfold f_X5_hasElse
  have lt_0 := li_0
  have lt_1 := li_1
  have lt_31 := li_31
  have lFU : ((FU : Nat) : Int) = 100000 := rfl
  refine OK.bndR (k_X5_isFieldOf _ _ _ hI ) (fun v1 h2 => ?_)
  dsimp only
  refine OK.ieq (fun h3 => ?_) (fun h3 => ?_)
  · skip
    exact OK.roret (by first | trivial | omega | exact hI.flds _ | exact hI.dflds _ | exact hI.recs _ | exact hI.drecs _ | exact hI.droot _ | omega)
  · skip
    refine OK.grd ⟨by omega, by omega⟩ ?_
    refine OK.ieq (fun h4 => ?_) (fun h4 => ?_)
    · skip
      exact OK.roret (by first | trivial | omega | exact hI.flds _ | exact hI.dflds _ | exact hI.recs _ | exact hI.drecs _ | exact hI.droot _ | omega)
    · skip
      exact OK.roret (by first | trivial | omega | exact hI.flds _ | exact hI.dflds _ | exact hI.recs _ | exact hI.drecs _ | exact hI.droot _ | omega)

theorem k_X5_fieldName_4 (p0 : Int32) (p1 : Int32) (σ : ST) (hI : IA σ)  : OK (f_X5_fieldName 4 p0 p1 σ) (RO σ fun v => True) := by
  unfold f_X5_fieldName
  have lt_0 := li_0
  have lt_1 := li_1
  have lt_8 := li_8
  have lFU : ((FU : Nat) : Int) = 100000 := rfl
  refine OK.bndR (k_X5_isFieldOf _ _ _ hI ) (fun v1 h2 => ?_)
  dsimp only
  refine OK.ieq (fun h3 => ?_) (fun h3 => ?_)
  · skip
    exact OK.roret (by first | trivial | omega | exact hI.flds _ | exact hI.dflds _ | exact hI.recs _ | exact hI.drecs _ | exact hI.droot _ | omega)
  · skip
    obtain ⟨a4k, a4, a4l, a4r⟩ := i_mul p0 8
    rw [li_8] at a4
    try (refine k0el (k := a4k) ?_ (fun e0 => ?_); (focus omega); subst e0)
    obtain ⟨a5k, a5, a5l, a5r⟩ := i_add (p0 * 8) p1
    try (refine k0el (k := a5k) ?_ (fun e0 => ?_); (focus omega); subst e0)
    refine OK.grd ⟨by omega, by omega⟩ ?_
    exact OK.roret (by first | trivial | omega | exact hI.flds _ | exact hI.dflds _ | exact hI.recs _ | exact hI.drecs _ | exact hI.droot _ | omega)

theorem k_X5_fieldName_20 (p0 : Int32) (p1 : Int32) (σ : ST) (hI : IA σ)  : OK (f_X5_fieldName 20 p0 p1 σ) (RO σ fun v => True) := by
  unfold f_X5_fieldName
  have lt_0 := li_0
  have lt_1 := li_1
  have lt_8 := li_8
  have lFU : ((FU : Nat) : Int) = 100000 := rfl
  refine OK.bndR (k_X5_isFieldOf _ _ _ hI ) (fun v1 h2 => ?_)
  dsimp only
  refine OK.ieq (fun h3 => ?_) (fun h3 => ?_)
  · skip
    exact OK.roret (by first | trivial | omega | exact hI.flds _ | exact hI.dflds _ | exact hI.recs _ | exact hI.drecs _ | exact hI.droot _ | omega)
  · skip
    obtain ⟨a4k, a4, a4l, a4r⟩ := i_mul p0 8
    rw [li_8] at a4
    try (refine k0el (k := a4k) ?_ (fun e0 => ?_); (focus omega); subst e0)
    obtain ⟨a5k, a5, a5l, a5r⟩ := i_add (p0 * 8) p1
    try (refine k0el (k := a5k) ?_ (fun e0 => ?_); (focus omega); subst e0)
    refine OK.grd ⟨by omega, by omega⟩ ?_
    exact OK.roret (by first | trivial | omega | exact hI.flds _ | exact hI.dflds _ | exact hI.recs _ | exact hI.drecs _ | exact hI.droot _ | omega)

theorem k_X5_fieldNamed_29_4 : ∀ (n : Nat) (x2 : Int64) (x4 : Int32) (x5 : Int32) (x6 : Int32) (σ : ST), IA σ → (0 ≤ x6.toInt ∧ x6.toInt ≤ 8 ∧ (x5.toInt ≤ 0 ∨ 0 ≤ x4.toInt ∧ x4.toInt ≤ 280) ∧ (8 : Int) - x6.toInt < n) → OK (f_X5_fieldNamed_29 4 n x2 x4 x5 x6 σ) (RO σ fun v => True) := by
  intro n
  induction n with
  | zero =>
    intro x2 x4 x5 x6 σ hI hv
    omega
  | succ n ih =>
    intro x2 x4 x5 x6 σ hI hv
    rw [f_X5_fieldNamed_29]
    have lt_m1 := li_m1
    have lt_0 := li_0
    have lt_1 := li_1
    have lt_8 := li_8
    have lFU : ((FU : Nat) : Int) = 100000 := rfl
    refine OK.ile (fun h1 => ?_) (fun h1 => ?_)
    · skip
      exact OK.roret (by first | trivial | omega | exact hI.flds _ | exact hI.dflds _ | exact hI.recs _ | exact hI.drecs _ | exact hI.droot _ | omega)
    · skip
      refine OK.ile (fun h2 => ?_) (fun h2 => ?_)
      · skip
        exact OK.roret (by first | trivial | omega | exact hI.flds _ | exact hI.dflds _ | exact hI.recs _ | exact hI.drecs _ | exact hI.droot _ | omega)
      · skip
        obtain ⟨a3k, a3, a3l, a3r⟩ := i_add x4 x6
        try (refine k0el (k := a3k) ?_ (fun e0 => ?_); (focus omega); subst e0)
        refine OK.grd ⟨by omega, by omega⟩ ?_
        refine OK.ieq (fun h4 => ?_) (fun h4 => ?_)
        · skip
          exact OK.roret (by first | trivial | omega | exact hI.flds _ | exact hI.dflds _ | exact hI.recs _ | exact hI.drecs _ | exact hI.droot _ | omega)
        · skip
          obtain ⟨a5k, a5, a5l, a5r⟩ := i_add x6 1
          try (refine k0el (k := a5k) ?_ (fun e0 => ?_); (focus omega); subst e0)
          exact OK.roq (ih _ _ _ _ _ hI (by omega)) (fun v hv => by first | trivial | omega | exact hI.flds _ | exact hI.dflds _ | exact hI.recs _ | exact hI.drecs _ | exact hI.droot _ | omega)

theorem k_X5_fieldNamed_29_20 : ∀ (n : Nat) (x2 : Int64) (x4 : Int32) (x5 : Int32) (x6 : Int32) (σ : ST), IA σ → (0 ≤ x6.toInt ∧ x6.toInt ≤ 8 ∧ (x5.toInt ≤ 0 ∨ 0 ≤ x4.toInt ∧ x4.toInt ≤ 280) ∧ (8 : Int) - x6.toInt < n) → OK (f_X5_fieldNamed_29 20 n x2 x4 x5 x6 σ) (RO σ fun v => True) := by
  intro n
  induction n with
  | zero =>
    intro x2 x4 x5 x6 σ hI hv
    omega
  | succ n ih =>
    intro x2 x4 x5 x6 σ hI hv
    rw [f_X5_fieldNamed_29]
    have lt_m1 := li_m1
    have lt_0 := li_0
    have lt_1 := li_1
    have lt_8 := li_8
    have lFU : ((FU : Nat) : Int) = 100000 := rfl
    refine OK.ile (fun h1 => ?_) (fun h1 => ?_)
    · skip
      exact OK.roret (by first | trivial | omega | exact hI.flds _ | exact hI.dflds _ | exact hI.recs _ | exact hI.drecs _ | exact hI.droot _ | omega)
    · skip
      refine OK.ile (fun h2 => ?_) (fun h2 => ?_)
      · skip
        exact OK.roret (by first | trivial | omega | exact hI.flds _ | exact hI.dflds _ | exact hI.recs _ | exact hI.drecs _ | exact hI.droot _ | omega)
      · skip
        obtain ⟨a3k, a3, a3l, a3r⟩ := i_add x4 x6
        try (refine k0el (k := a3k) ?_ (fun e0 => ?_); (focus omega); subst e0)
        refine OK.grd ⟨by omega, by omega⟩ ?_
        refine OK.ieq (fun h4 => ?_) (fun h4 => ?_)
        · skip
          exact OK.roret (by first | trivial | omega | exact hI.flds _ | exact hI.dflds _ | exact hI.recs _ | exact hI.drecs _ | exact hI.droot _ | omega)
        · skip
          obtain ⟨a5k, a5, a5l, a5r⟩ := i_add x6 1
          try (refine k0el (k := a5k) ?_ (fun e0 => ?_); (focus omega); subst e0)
          exact OK.roq (ih _ _ _ _ _ hI (by omega)) (fun v hv => by first | trivial | omega | exact hI.flds _ | exact hI.dflds _ | exact hI.recs _ | exact hI.drecs _ | exact hI.droot _ | omega)

theorem k_X5_fieldNamed_24_4 (x2 : Int64) (x4 : Int32) (y0 : Int32) (σ : ST) (hI : IA σ) (hp0 : y0.toInt ≤ 0 ∨ 0 ≤ x4.toInt ∧ x4.toInt ≤ 280)  : OK (f_X5_fieldNamed_24 4 x2 x4 y0 σ) (RO σ fun v => True) := by
  unfold f_X5_fieldNamed_24
  have lt_0 := li_0
  have lt_1 := li_1
  have lFU : ((FU : Nat) : Int) = 100000 := rfl
  exact OK.roq (k_X5_fieldNamed_29_4 FU _ _ _ _ _ hI (by omega)) (fun v hv => by first | trivial | omega | exact hI.flds _ | exact hI.dflds _ | exact hI.recs _ | exact hI.drecs _ | exact hI.droot _ | omega)

theorem k_X5_fieldNamed_24_20 (x2 : Int64) (x4 : Int32) (y0 : Int32) (σ : ST) (hI : IA σ) (hp0 : y0.toInt ≤ 0 ∨ 0 ≤ x4.toInt ∧ x4.toInt ≤ 280)  : OK (f_X5_fieldNamed_24 20 x2 x4 y0 σ) (RO σ fun v => True) := by
  unfold f_X5_fieldNamed_24
  have lt_0 := li_0
  have lt_1 := li_1
  have lFU : ((FU : Nat) : Int) = 100000 := rfl
  exact OK.roq (k_X5_fieldNamed_29_20 FU _ _ _ _ _ hI (by omega)) (fun v hv => by first | trivial | omega | exact hI.flds _ | exact hI.dflds _ | exact hI.recs _ | exact hI.drecs _ | exact hI.droot _ | omega)

theorem k_X5_fieldNamed_4 (p0 : Int32) (p1 : Int64) (σ : ST) (hI : IA σ)  : OK (f_X5_fieldNamed 4 p0 p1 σ) (RO σ fun v => True) := by
  unfold f_X5_fieldNamed
  have lt_0 := li_0
  have lt_1 := li_1
  have lt_8 := li_8
  have lFU : ((FU : Nat) : Int) = 100000 := rfl
  refine OK.bndR (k_X5_isFieldOf _ _ _ hI ) (fun v1 h2 => ?_)
  dsimp only
  refine OK.ieq (fun h3 => ?_) (fun h3 => ?_)
  · skip
    obtain ⟨a4k, a4, a4l, a4r⟩ := i_mul p0 8
    rw [li_8] at a4
    try (refine k0el (k := a4k) ?_ (fun e0 => ?_); (focus omega); subst e0)
    exact OK.roq (k_X5_fieldNamed_24_4 _ _ _ _ hI (by omega)) (fun v hv => by first | trivial | omega | exact hI.flds _ | exact hI.dflds _ | exact hI.recs _ | exact hI.drecs _ | exact hI.droot _ | omega)
  · skip
    refine OK.grd ⟨by omega, by omega⟩ ?_
    obtain ⟨a5k, a5, a5l, a5r⟩ := i_mul p0 8
    rw [li_8] at a5
    try (refine k0el (k := a5k) ?_ (fun e0 => ?_); (focus omega); subst e0)
    exact OK.roq (k_X5_fieldNamed_24_4 _ _ _ _ hI (by omega)) (fun v hv => by first | trivial | omega | exact hI.flds _ | exact hI.dflds _ | exact hI.recs _ | exact hI.drecs _ | exact hI.droot _ | omega)

theorem k_X5_fieldNamed_20 (p0 : Int32) (p1 : Int64) (σ : ST) (hI : IA σ)  : OK (f_X5_fieldNamed 20 p0 p1 σ) (RO σ fun v => True) := by
  unfold f_X5_fieldNamed
  have lt_0 := li_0
  have lt_1 := li_1
  have lt_8 := li_8
  have lFU : ((FU : Nat) : Int) = 100000 := rfl
  refine OK.bndR (k_X5_isFieldOf _ _ _ hI ) (fun v1 h2 => ?_)
  dsimp only
  refine OK.ieq (fun h3 => ?_) (fun h3 => ?_)
  · skip
    obtain ⟨a4k, a4, a4l, a4r⟩ := i_mul p0 8
    rw [li_8] at a4
    try (refine k0el (k := a4k) ?_ (fun e0 => ?_); (focus omega); subst e0)
    exact OK.roq (k_X5_fieldNamed_24_20 _ _ _ _ hI (by omega)) (fun v hv => by first | trivial | omega | exact hI.flds _ | exact hI.dflds _ | exact hI.recs _ | exact hI.drecs _ | exact hI.droot _ | omega)
  · skip
    refine OK.grd ⟨by omega, by omega⟩ ?_
    obtain ⟨a5k, a5, a5l, a5r⟩ := i_mul p0 8
    rw [li_8] at a5
    try (refine k0el (k := a5k) ?_ (fun e0 => ?_); (focus omega); subst e0)
    exact OK.roq (k_X5_fieldNamed_24_20 _ _ _ _ hI (by omega)) (fun v hv => by first | trivial | omega | exact hI.flds _ | exact hI.dflds _ | exact hI.recs _ | exact hI.drecs _ | exact hI.droot _ | omega)

theorem k_X5_formerName_4 (p0 : Int32) (p1 : Int32) (σ : ST) (hI : IA σ)  : OK (f_X5_formerName 4 p0 p1 σ) (RO σ fun v => True) := by
  unfold f_X5_formerName
  have lt_0 := li_0
  have lt_1 := li_1
  have lt_8 := li_8
  have lFU : ((FU : Nat) : Int) = 100000 := rfl
  refine OK.bndR (k_X5_isFieldOf _ _ _ hI ) (fun v1 h2 => ?_)
  dsimp only
  refine OK.ieq (fun h3 => ?_) (fun h3 => ?_)
  · skip
    exact OK.roret (by first | trivial | omega | exact hI.flds _ | exact hI.dflds _ | exact hI.recs _ | exact hI.drecs _ | exact hI.droot _ | omega)
  · skip
    obtain ⟨a4k, a4, a4l, a4r⟩ := i_mul p0 8
    rw [li_8] at a4
    try (refine k0el (k := a4k) ?_ (fun e0 => ?_); (focus omega); subst e0)
    obtain ⟨a5k, a5, a5l, a5r⟩ := i_add (p0 * 8) p1
    try (refine k0el (k := a5k) ?_ (fun e0 => ?_); (focus omega); subst e0)
    refine OK.grd ⟨by omega, by omega⟩ ?_
    exact OK.roret (by first | trivial | omega | exact hI.flds _ | exact hI.dflds _ | exact hI.recs _ | exact hI.drecs _ | exact hI.droot _ | omega)

theorem k_X5_sourceOf_4 (p0 : Int32) (p1 : Int32) (p2 : Int32) (σ : ST) (hI : IA σ)  : OK (f_X5_sourceOf 4 p0 p1 p2 σ) (RO σ fun v => True) := by
  unfold f_X5_sourceOf
  have lt_m1 := li_m1
  have lt_0 := li_0
  have lt_1 := li_1
  have lFU : ((FU : Nat) : Int) = 100000 := rfl
  refine OK.bndR (k_X5_fieldName_4 _ _ _ hI ) (fun v1 h2 => ?_)
  dsimp only
  refine OK.bndR (k_X5_fieldNamed_4 _ _ _ hI ) (fun v3 h4 => ?_)
  dsimp only
  refine OK.bndR (k_X5_formerName_4 _ _ _ hI ) (fun v5 h6 => ?_)
  dsimp only
  refine OK.ieq (fun h7 => ?_) (fun h7 => ?_)
  · skip
    refine OK.ieq (fun h8 => ?_) (fun h8 => ?_)
    · skip
      exact OK.roret (by first | trivial | omega | exact hI.flds _ | exact hI.dflds _ | exact hI.recs _ | exact hI.drecs _ | exact hI.droot _ | omega)
    · skip
      refine OK.bndR (k_X5_fieldNamed_4 _ _ _ hI ) (fun v9 h10 => ?_)
      dsimp only
      exact OK.roret (by first | trivial | omega | exact hI.flds _ | exact hI.dflds _ | exact hI.recs _ | exact hI.drecs _ | exact hI.droot _ | omega)
  · skip
    exact OK.roret (by first | trivial | omega | exact hI.flds _ | exact hI.dflds _ | exact hI.recs _ | exact hI.drecs _ | exact hI.droot _ | omega)

theorem k_X5_typeOf_4 (p0 : Int32) (p1 : Int32) (σ : ST) (hI : IA σ)  : OK (f_X5_typeOf 4 p0 p1 σ) (RO σ fun v => True) := by
  unfold f_X5_typeOf
  have lt_m1 := li_m1
  have lt_0 := li_0
  have lt_1 := li_1
  have lt_8 := li_8
  have lFU : ((FU : Nat) : Int) = 100000 := rfl
  refine OK.bndR (k_X5_isFieldOf _ _ _ hI ) (fun v1 h2 => ?_)
  dsimp only
  refine OK.ieq (fun h3 => ?_) (fun h3 => ?_)
  · skip
    exact OK.roret (by first | trivial | omega | exact hI.flds _ | exact hI.dflds _ | exact hI.recs _ | exact hI.drecs _ | exact hI.droot _ | omega)
  · skip
    obtain ⟨a4k, a4, a4l, a4r⟩ := i_mul p0 8
    rw [li_8] at a4
    try (refine k0el (k := a4k) ?_ (fun e0 => ?_); (focus omega); subst e0)
    obtain ⟨a5k, a5, a5l, a5r⟩ := i_add (p0 * 8) p1
    try (refine k0el (k := a5k) ?_ (fun e0 => ?_); (focus omega); subst e0)
    refine OK.grd ⟨by omega, by omega⟩ ?_
    exact OK.roret (by first | trivial | omega | exact hI.flds _ | exact hI.dflds _ | exact hI.recs _ | exact hI.drecs _ | exact hI.droot _ | omega)

theorem k_X5_typeOf_20 (p0 : Int32) (p1 : Int32) (σ : ST) (hI : IA σ)  : OK (f_X5_typeOf 20 p0 p1 σ) (RO σ fun v => True) := by
  unfold f_X5_typeOf
  have lt_m1 := li_m1
  have lt_0 := li_0
  have lt_1 := li_1
  have lt_8 := li_8
  have lFU : ((FU : Nat) : Int) = 100000 := rfl
  refine OK.bndR (k_X5_isFieldOf _ _ _ hI ) (fun v1 h2 => ?_)
  dsimp only
  refine OK.ieq (fun h3 => ?_) (fun h3 => ?_)
  · skip
    exact OK.roret (by first | trivial | omega | exact hI.flds _ | exact hI.dflds _ | exact hI.recs _ | exact hI.drecs _ | exact hI.droot _ | omega)
  · skip
    obtain ⟨a4k, a4, a4l, a4r⟩ := i_mul p0 8
    rw [li_8] at a4
    try (refine k0el (k := a4k) ?_ (fun e0 => ?_); (focus omega); subst e0)
    obtain ⟨a5k, a5, a5l, a5r⟩ := i_add (p0 * 8) p1
    try (refine k0el (k := a5k) ?_ (fun e0 => ?_); (focus omega); subst e0)
    refine OK.grd ⟨by omega, by omega⟩ ?_
    exact OK.roret (by first | trivial | omega | exact hI.flds _ | exact hI.dflds _ | exact hI.recs _ | exact hI.drecs _ | exact hI.droot _ | omega)

theorem k_X5_rootType_4 (p0 : Int32) (σ : ST) (hI : IA σ)  : OK (f_X5_rootType 4 p0 σ) (RO σ fun v => True) := by
  unfold f_X5_rootType
  have lt_m1 := li_m1
  have lt_0 := li_0
  have lt_1 := li_1
  have lt_6 := li_6
  have lFU : ((FU : Nat) : Int) = 100000 := rfl
  refine OK.ilt (fun h1 => ?_) (fun h1 => ?_)
  · skip
    exact OK.roret (by first | trivial | omega | exact hI.flds _ | exact hI.dflds _ | exact hI.recs _ | exact hI.drecs _ | exact hI.droot _ | omega)
  · skip
    refine OK.ile (fun h2 => ?_) (fun h2 => ?_)
    · skip
      exact OK.roret (by first | trivial | omega | exact hI.flds _ | exact hI.dflds _ | exact hI.recs _ | exact hI.drecs _ | exact hI.droot _ | omega)
    · skip
      refine OK.grd ⟨by omega, by omega⟩ ?_
      exact OK.roret (by first | trivial | omega | exact hI.flds _ | exact hI.dflds _ | exact hI.recs _ | exact hI.drecs _ | exact hI.droot _ | omega)

theorem k_X5_rootType_20 (p0 : Int32) (σ : ST) (hI : IA σ)  : OK (f_X5_rootType 20 p0 σ) (RO σ fun v => -1 ≤ v.toInt) := by
  unfold f_X5_rootType
  have lt_m1 := li_m1
  have lt_0 := li_0
  have lt_1 := li_1
  have lt_6 := li_6
  have lFU : ((FU : Nat) : Int) = 100000 := rfl
  refine OK.ilt (fun h1 => ?_) (fun h1 => ?_)
  · skip
    exact OK.roret (by first | trivial | omega | exact hI.flds _ | exact hI.dflds _ | exact hI.recs _ | exact hI.drecs _ | exact hI.droot _ | omega)
  · skip
    refine OK.ile (fun h2 => ?_) (fun h2 => ?_)
    · skip
      exact OK.roret (by first | trivial | omega | exact hI.flds _ | exact hI.dflds _ | exact hI.recs _ | exact hI.drecs _ | exact hI.droot _ | omega)
    · skip
      refine OK.grd ⟨by omega, by omega⟩ ?_
      exact OK.roret (by first | trivial | omega | exact hI.flds _ | exact hI.dflds _ | exact hI.recs _ | exact hI.drecs _ | exact hI.droot _ | omega)

theorem k_X0_fieldsFit_2 : ∀ (n : Nat) (x1 : Int32) (x2 : Int32) (x3 : Int32) (σ : ST), IA σ → (0 ≤ x3.toInt ∧ x3.toInt ≤ 8 ∧ (8 : Int) - x3.toInt < n) → OK (f_X0_fieldsFit_2  n x1 x2 x3 σ) (RO σ fun v => v.toInt = 0 ∨ v.toInt = 1) := by
  intro n
  induction n with
  | zero =>
    intro x1 x2 x3 σ hI hv
    omega
  | succ n ih =>
    intro x1 x2 x3 σ hI hv
    rw [f_X0_fieldsFit_2]
    have lt_m1 := li_m1
    have lt_0 := li_0
    have lt_1 := li_1
    have lFU : ((FU : Nat) : Int) = 100000 := rfl
    have lFR : ((FR : Nat) : Int) = 160 := rfl
    refine OK.bndR (k_X5_fieldsOf_4 _ _ hI ) (fun v1 h2 => ?_)
    dsimp only
    refine OK.ile (fun h3 => ?_) (fun h3 => ?_)
    · skip
      exact OK.roret (by first | trivial | omega | exact hI.flds _ | exact hI.dflds _ | exact hI.recs _ | exact hI.drecs _ | exact hI.droot _ | omega)
    · skip
      refine OK.bndR (k_X5_sourceOf_4 _ _ _ _ hI ) (fun v4 h5 => ?_)
      dsimp only
      refine OK.ieq (fun h6 => ?_) (fun h6 => ?_)
      · skip
        refine OK.bndR (k_X5_hasElse_4 _ _ _ hI ) (fun v7 h8 => ?_)
        dsimp only
        unfold f_X0_fieldsFit_68
        try dsimp only
        refine OK.ieq (fun h9 => ?_) (fun h9 => ?_)
        · skip
          exact OK.roret (by first | trivial | omega | exact hI.flds _ | exact hI.dflds _ | exact hI.recs _ | exact hI.drecs _ | exact hI.droot _ | omega)
        · skip
          obtain ⟨a10k, a10, a10l, a10r⟩ := i_add x3 1
          try (refine k0el (k := a10k) ?_ (fun e0 => ?_); (focus omega); subst e0)
          exact OK.roq (ih _ _ _ _ hI (by omega)) (fun v hv => by first | trivial | omega | exact hI.flds _ | exact hI.dflds _ | exact hI.recs _ | exact hI.drecs _ | exact hI.droot _ | omega)
      · skip
        refine OK.bndR (k_X5_typeOf_4 _ _ _ hI ) (fun v11 h12 => ?_)
        dsimp only
        refine OK.bndR (k_X5_typeOf_4 _ _ _ hI ) (fun v13 h14 => ?_)
        dsimp only
        refine OK.bndR (kT_X0_fitsWithin _ _ _ _ hI (by omega)) (fun v15 h16 => ?_)
        dsimp only
        unfold f_X0_fieldsFit_68
        try dsimp only
        refine OK.ieq (fun h17 => ?_) (fun h17 => ?_)
        · skip
          exact OK.roret (by first | trivial | omega | exact hI.flds _ | exact hI.dflds _ | exact hI.recs _ | exact hI.drecs _ | exact hI.droot _ | omega)
        · skip
          obtain ⟨a18k, a18, a18l, a18r⟩ := i_add x3 1
          try (refine k0el (k := a18k) ?_ (fun e0 => ?_); (focus omega); subst e0)
          exact OK.roq (ih _ _ _ _ hI (by omega)) (fun v hv => by first | trivial | omega | exact hI.flds _ | exact hI.dflds _ | exact hI.recs _ | exact hI.drecs _ | exact hI.droot _ | omega)

theorem k_X0_fieldsFit (p0 : Int32) (p1 : Int32) (σ : ST) (hI : IA σ)  : OK (f_X0_fieldsFit  p0 p1 σ) (RO σ fun v => v.toInt = 0 ∨ v.toInt = 1) := by
  unfold f_X0_fieldsFit
  have lt_0 := li_0
  have lt_1 := li_1
  have lFU : ((FU : Nat) : Int) = 100000 := rfl
  exact OK.roq (k_X0_fieldsFit_2 FU _ _ _ _ hI (by omega)) (fun v hv => by first | trivial | omega | exact hI.flds _ | exact hI.dflds _ | exact hI.recs _ | exact hI.drecs _ | exact hI.droot _ | omega)

theorem k_X5_recordsOf_4 (p0 : Int32) (σ : ST) (hI : IA σ)  : OK (f_X5_recordsOf 4 p0 σ) (RO σ fun v => 0 ≤ v.toInt ∧ v.toInt ≤ 36) := by
  unfold f_X5_recordsOf
  have lt_0 := li_0
  have lt_1 := li_1
  have lt_6 := li_6
  have lFU : ((FU : Nat) : Int) = 100000 := rfl
  refine OK.ilt (fun h1 => ?_) (fun h1 => ?_)
  · skip
    exact OK.roret (by first | trivial | omega | exact hI.flds _ | exact hI.dflds _ | exact hI.recs _ | exact hI.drecs _ | exact hI.droot _ | omega)
  · skip
    refine OK.ile (fun h2 => ?_) (fun h2 => ?_)
    · skip
      exact OK.roret (by first | trivial | omega | exact hI.flds _ | exact hI.dflds _ | exact hI.recs _ | exact hI.drecs _ | exact hI.droot _ | omega)
    · skip
      refine OK.grd ⟨by omega, by omega⟩ ?_
      exact OK.roret (by first | trivial | omega | exact hI.flds _ | exact hI.dflds _ | exact hI.recs _ | exact hI.drecs _ | exact hI.droot _ | omega)

theorem k_X5_recordsOf_20 (p0 : Int32) (σ : ST) (hI : IA σ)  : OK (f_X5_recordsOf 20 p0 σ) (RO σ fun v => 0 ≤ v.toInt ∧ v.toInt ≤ 36) := by
  unfold f_X5_recordsOf
  have lt_0 := li_0
  have lt_1 := li_1
  have lt_6 := li_6
  have lFU : ((FU : Nat) : Int) = 100000 := rfl
  refine OK.ilt (fun h1 => ?_) (fun h1 => ?_)
  · skip
    exact OK.roret (by first | trivial | omega | exact hI.flds _ | exact hI.dflds _ | exact hI.recs _ | exact hI.drecs _ | exact hI.droot _ | omega)
  · skip
    refine OK.ile (fun h2 => ?_) (fun h2 => ?_)
    · skip
      exact OK.roret (by first | trivial | omega | exact hI.flds _ | exact hI.dflds _ | exact hI.recs _ | exact hI.drecs _ | exact hI.droot _ | omega)
    · skip
      refine OK.grd ⟨by omega, by omega⟩ ?_
      exact OK.roret (by first | trivial | omega | exact hI.flds _ | exact hI.dflds _ | exact hI.recs _ | exact hI.drecs _ | exact hI.droot _ | omega)

theorem k_X0_turnTo_47 (x3 : Int32) (σ : ST) (hI : IA σ) (hp0 : 0 ≤ x3.toInt ∧ x3.toInt < 36)  : OK (f_X0_turnTo_47  x3 σ) (RS σ) := by
  unfold f_X0_turnTo_47
  have lt_0 := li_0
  have lt_1 := li_1
  have lFU : ((FU : Nat) : Int) = 100000 := rfl
  refine OK.grd ⟨by omega, by omega⟩ ?_
  exact OK.sret (ia_L hI) (fr_L Fr.rf)

theorem k_X0_isMiss (p0 : Int32) (σ : ST) (hI : IA σ)  : OK (f_X0_isMiss  p0 σ) (RO σ fun v => v.toInt = 0 ∨ v.toInt = 1 ∧ 0 ≤ p0.toInt ∧ p0.toInt < 20) := by
  unfold f_X0_isMiss
  have lt_0 := li_0
  have lt_1 := li_1
  have lt_20 := li_20
  have lFU : ((FU : Nat) : Int) = 100000 := rfl
  refine OK.ilt (fun h1 => ?_) (fun h1 => ?_)
  · skip
    exact OK.roret (by first | trivial | omega | exact hI.flds _ | exact hI.dflds _ | exact hI.recs _ | exact hI.drecs _ | exact hI.droot _ | omega)
  · skip
    refine OK.ile (fun h2 => ?_) (fun h2 => ?_)
    · skip
      exact OK.roret (by first | trivial | omega | exact hI.flds _ | exact hI.dflds _ | exact hI.recs _ | exact hI.drecs _ | exact hI.droot _ | omega)
    · skip
      refine OK.ile (fun h3 => ?_) (fun h3 => ?_)
      · skip
        exact OK.roret (by first | trivial | omega | exact hI.flds _ | exact hI.dflds _ | exact hI.recs _ | exact hI.drecs _ | exact hI.droot _ | omega)
      · skip
        exact OK.roret (by first | trivial | omega | exact hI.flds _ | exact hI.dflds _ | exact hI.recs _ | exact hI.drecs _ | exact hI.droot _ | omega)

theorem k_X0_missKind (p0 : Int32) (σ : ST) (hI : IA σ)  : OK (f_X0_missKind  p0 σ) (RO σ fun v => True) := by
  unfold f_X0_missKind
  have lt_m1 := li_m1
  have lt_0 := li_0
  have lt_1 := li_1
  have lFU : ((FU : Nat) : Int) = 100000 := rfl
  refine OK.bndR (k_X0_isMiss _ _ hI ) (fun v1 h2 => ?_)
  dsimp only
  refine OK.ieq (fun h3 => ?_) (fun h3 => ?_)
  · skip
    exact OK.roret (by first | trivial | omega | exact hI.flds _ | exact hI.dflds _ | exact hI.recs _ | exact hI.drecs _ | exact hI.droot _ | omega)
  · skip
    refine OK.grd ⟨by omega, by omega⟩ ?_
    exact OK.roret (by first | trivial | omega | exact hI.flds _ | exact hI.dflds _ | exact hI.recs _ | exact hI.drecs _ | exact hI.droot _ | omega)

theorem k_X0_missSteps (p0 : Int32) (σ : ST) (hI : IA σ)  : OK (f_X0_missSteps  p0 σ) (RO σ fun v => True) := by
  unfold f_X0_missSteps
  have lt_m1 := li_m1
  have lt_0 := li_0
  have lt_1 := li_1
  have lFU : ((FU : Nat) : Int) = 100000 := rfl
  refine OK.bndR (k_X0_isMiss _ _ hI ) (fun v1 h2 => ?_)
  dsimp only
  refine OK.ieq (fun h3 => ?_) (fun h3 => ?_)
  · skip
    exact OK.roret (by first | trivial | omega | exact hI.flds _ | exact hI.dflds _ | exact hI.recs _ | exact hI.drecs _ | exact hI.droot _ | omega)
  · skip
    refine OK.grd ⟨by omega, by omega⟩ ?_
    exact OK.roret (by first | trivial | omega | exact hI.flds _ | exact hI.dflds _ | exact hI.recs _ | exact hI.drecs _ | exact hI.droot _ | omega)

theorem k_X0_rootsFit (σ : ST) (hI : IA σ)  : OK (f_X0_rootsFit  σ) (RO σ fun v => v.toInt = 0 ∨ v.toInt = 1) := by
  unfold f_X0_rootsFit
  have lt_0 := li_0
  have lt_1 := li_1
  have lFU : ((FU : Nat) : Int) = 100000 := rfl
  refine OK.bndR (k_X0_bitOf _ _ _ hI ) (fun v1 h2 => ?_)
  dsimp only
  refine OK.ieq (fun h3 => ?_) (fun h3 => ?_)
  · skip
    exact OK.roret (by first | trivial | omega | exact hI.flds _ | exact hI.dflds _ | exact hI.recs _ | exact hI.drecs _ | exact hI.droot _ | omega)
  · skip
    exact OK.roret (by first | trivial | omega | exact hI.flds _ | exact hI.dflds _ | exact hI.recs _ | exact hI.drecs _ | exact hI.droot _ | omega)

theorem k_X0_stepOfMiss (p0 : Int32) (p1 : Int32) (σ : ST) (hI : IA σ)  : OK (f_X0_stepOfMiss  p0 p1 σ) (RO σ fun v => True) := by
  unfold f_X0_stepOfMiss
  have lt_m1 := li_m1
  have lt_0 := li_0
  have lt_1 := li_1
  have lt_32 := li_32
  have lFU : ((FU : Nat) : Int) = 100000 := rfl
  refine OK.bndR (k_X0_isMiss _ _ hI ) (fun v1 h2 => ?_)
  dsimp only
  refine OK.ieq (fun h3 => ?_) (fun h3 => ?_)
  · skip
    exact OK.roret (by first | trivial | omega | exact hI.flds _ | exact hI.dflds _ | exact hI.recs _ | exact hI.drecs _ | exact hI.droot _ | omega)
  · skip
    refine OK.ilt (fun h4 => ?_) (fun h4 => ?_)
    · skip
      exact OK.roret (by first | trivial | omega | exact hI.flds _ | exact hI.dflds _ | exact hI.recs _ | exact hI.drecs _ | exact hI.droot _ | omega)
    · skip
      refine OK.grd ⟨by omega, by omega⟩ ?_
      refine OK.ile (fun h5 => ?_) (fun h5 => ?_)
      · skip
        exact OK.roret (by first | trivial | omega | exact hI.flds _ | exact hI.dflds _ | exact hI.recs _ | exact hI.drecs _ | exact hI.droot _ | omega)
      · skip
        refine OK.ile (fun h6 => ?_) (fun h6 => ?_)
        · skip
          exact OK.roret (by first | trivial | omega | exact hI.flds _ | exact hI.dflds _ | exact hI.recs _ | exact hI.drecs _ | exact hI.droot _ | omega)
        · skip
          obtain ⟨a7k, a7, a7l, a7r⟩ := i_mul p0 32
          rw [li_32] at a7
          try (refine k0el (k := a7k) ?_ (fun e0 => ?_); (focus omega); subst e0)
          obtain ⟨a8k, a8, a8l, a8r⟩ := i_add (p0 * 32) p1
          try (refine k0el (k := a8k) ?_ (fun e0 => ?_); (focus omega); subst e0)
          refine OK.grd ⟨by omega, by omega⟩ ?_
          exact OK.roret (by first | trivial | omega | exact hI.flds _ | exact hI.dflds _ | exact hI.recs _ | exact hI.drecs _ | exact hI.droot _ | omega)

theorem k_X0_verdict_61 (x3 : Int32) (σ : ST) (hI : IA σ) (hp0 : 0 ≤ x3.toInt ∧ x3.toInt < 36)  : OK (f_X0_verdict_61  x3 σ) (RO σ fun v => True) := by
  unfold f_X0_verdict_61
  have lt_0 := li_0
  have lt_1 := li_1
  have lFU : ((FU : Nat) : Int) = 100000 := rfl
  refine OK.grd ⟨by omega, by omega⟩ ?_
  exact OK.roret (by first | trivial | omega | exact hI.flds _ | exact hI.dflds _ | exact hI.recs _ | exact hI.drecs _ | exact hI.droot _ | omega)

theorem k_X0_verdict_60 (x3 : Int32) (y0 : Int32) (y1 : Int32) (σ : ST) (hI : IA σ) (hp0 : 0 ≤ x3.toInt ∧ x3.toInt < 36 ∧ 0 ≤ y1.toInt ∧ y1.toInt < 36)  : OK (f_X0_verdict_60  x3 y0 y1 σ) (RW σ fun v => True) := by
  unfold f_X0_verdict_60
  have lt_0 := li_0
  have lt_1 := li_1
  have lFU : ((FU : Nat) : Int) = 100000 := rfl
  refine OK.grd ⟨by omega, by omega⟩ ?_
  exact OK.row (k_X0_verdict_61 _ _ (ia_I_43 hI) (by omega)) (ia_I_43 hI) (fr_I_43 Fr.rf) (fun v hv => by first | trivial | omega | exact hI.flds _ | exact hI.dflds _ | exact hI.recs _ | exact hI.drecs _ | exact hI.droot _ | omega)

theorem k_X0_verdict_40 (x3 : Int32) (y0 : Int32) (σ : ST) (hI : IA σ) (hp0 : 0 ≤ x3.toInt ∧ x3.toInt < 36)  : OK (f_X0_verdict_40  x3 y0 σ) (RW σ fun v => True) := by
  unfold f_X0_verdict_40
  have lt_0 := li_0
  have lt_1 := li_1
  have lt_2 := li_2
  have lFU : ((FU : Nat) : Int) = 100000 := rfl
  refine OK.bndR (k_X0_rootsFit _ hI ) (fun v1 h2 => ?_)
  dsimp only
  refine OK.ieq (fun h3 => ?_) (fun h3 => ?_)
  · skip
    exact OK.trW (k_X0_verdict_60 _ _ _ _ hI (by omega)) Fr.rf (fun v hv => by first | trivial | omega | exact hI.flds _ | exact hI.dflds _ | exact hI.recs _ | exact hI.drecs _ | exact hI.droot _ | omega)
  · skip
    exact OK.trW (k_X0_verdict_60 _ _ _ _ hI (by omega)) Fr.rf (fun v hv => by first | trivial | omega | exact hI.flds _ | exact hI.dflds _ | exact hI.recs _ | exact hI.drecs _ | exact hI.droot _ | omega)

theorem k_X10_isPlan (p0 : Int32) (σ : ST) (hI : IA σ)  : OK (f_X10_isPlan  p0 σ) (RO σ fun v => v.toInt = 0 ∨ v.toInt = 1 ∧ 0 ≤ p0.toInt ∧ p0.toInt < 6) := by
  unfold f_X10_isPlan
  have lt_0 := li_0
  have lt_1 := li_1
  have lFU : ((FU : Nat) : Int) = 100000 := rfl
  have g0 : 0 ≤ (σ.1 4 0).toInt ∧ (σ.1 4 0).toInt ≤ 6 := hI.plans
  refine OK.ilt (fun h1 => ?_) (fun h1 => ?_)
  · skip
    exact OK.roret (by first | trivial | omega | exact hI.flds _ | exact hI.dflds _ | exact hI.recs _ | exact hI.drecs _ | exact hI.droot _ | omega)
  · skip
    refine OK.ile (fun h2 => ?_) (fun h2 => ?_)
    · skip
      exact OK.roret (by first | trivial | omega | exact hI.flds _ | exact hI.dflds _ | exact hI.recs _ | exact hI.drecs _ | exact hI.droot _ | omega)
    · skip
      exact OK.roret (by first | trivial | omega | exact hI.flds _ | exact hI.dflds _ | exact hI.recs _ | exact hI.drecs _ | exact hI.droot _ | omega)

theorem k_X1_isNumber (p0 : Int32) (σ : ST) (hI : IA σ)  : OK (f_X1_isNumber  p0 σ) (RO σ fun v => v.toInt = 0 ∨ v.toInt = 1 ∧ 0 ≤ p0.toInt ∧ p0.toInt < 4) := by
  unfold f_X1_isNumber
  have lt_0 := li_0
  have lt_1 := li_1
  have lt_4 := li_4
  have lFU : ((FU : Nat) : Int) = 100000 := rfl
  refine OK.ilt (fun h1 => ?_) (fun h1 => ?_)
  · skip
    exact OK.roret (by first | trivial | omega | exact hI.flds _ | exact hI.dflds _ | exact hI.recs _ | exact hI.drecs _ | exact hI.droot _ | omega)
  · skip
    refine OK.ile (fun h2 => ?_) (fun h2 => ?_)
    · skip
      exact OK.roret (by first | trivial | omega | exact hI.flds _ | exact hI.dflds _ | exact hI.recs _ | exact hI.drecs _ | exact hI.droot _ | omega)
    · skip
      exact OK.roret (by first | trivial | omega | exact hI.flds _ | exact hI.dflds _ | exact hI.recs _ | exact hI.drecs _ | exact hI.droot _ | omega)

theorem k_X1_isWritten (p0 : Int32) (σ : ST) (hI : IA σ)  : OK (f_X1_isWritten  p0 σ) (RO σ fun v => v.toInt = 0 ∨ v.toInt = 1 ∧ 0 ≤ p0.toInt ∧ p0.toInt < 4) := by
  unfold f_X1_isWritten
  have lt_m1 := li_m1
  have lt_0 := li_0
  have lt_1 := li_1
  have lFU : ((FU : Nat) : Int) = 100000 := rfl
  refine OK.bndR (k_X1_isNumber _ _ hI ) (fun v1 h2 => ?_)
  dsimp only
  refine OK.ieq (fun h3 => ?_) (fun h3 => ?_)
  · skip
    exact OK.roret (by first | trivial | omega | exact hI.flds _ | exact hI.dflds _ | exact hI.recs _ | exact hI.drecs _ | exact hI.droot _ | omega)
  · skip
    refine OK.grd ⟨by omega, by omega⟩ ?_
    refine OK.ieq (fun h4 => ?_) (fun h4 => ?_)
    · skip
      exact OK.roret (by first | trivial | omega | exact hI.flds _ | exact hI.dflds _ | exact hI.recs _ | exact hI.drecs _ | exact hI.droot _ | omega)
    · skip
      exact OK.roret (by first | trivial | omega | exact hI.flds _ | exact hI.dflds _ | exact hI.recs _ | exact hI.drecs _ | exact hI.droot _ | omega)

theorem k_X1_planOf (p0 : Int32) (σ : ST) (hI : IA σ)  : OK (f_X1_planOf  p0 σ) (RO σ fun v => True) := by
  unfold f_X1_planOf
  have lt_m1 := li_m1
  have lt_0 := li_0
  have lt_1 := li_1
  have lFU : ((FU : Nat) : Int) = 100000 := rfl
  refine OK.bndR (k_X1_isNumber _ _ hI ) (fun v1 h2 => ?_)
  dsimp only
  refine OK.ieq (fun h3 => ?_) (fun h3 => ?_)
  · skip
    exact OK.roret (by first | trivial | omega | exact hI.flds _ | exact hI.dflds _ | exact hI.recs _ | exact hI.drecs _ | exact hI.droot _ | omega)
  · skip
    refine OK.grd ⟨by omega, by omega⟩ ?_
    exact OK.roret (by first | trivial | omega | exact hI.flds _ | exact hI.dflds _ | exact hI.recs _ | exact hI.drecs _ | exact hI.droot _ | omega)
