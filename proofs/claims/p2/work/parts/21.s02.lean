theorem k_X1_sizeOf (p0 : Int32) (σ : ST) (hI : IA σ)  : OK (f_X1_sizeOf  p0 σ) (RO σ fun v => True) := by
  unfold f_X1_sizeOf
  have lt_0 := li_0
  have lt_1 := li_1
  have lFU : ((FU : Nat) : Int) = 100000 := rfl
  refine OK.bndR (k_X1_isNumber _ _ hI ) (fun v1 h2 => ?_)
  dsimp only
  refine OK.ieq (fun h3 => ?_) (fun h3 => ?_)
  · skip
    exact OK.roret (by first | trivial | omega | exact hI.flds _ | exact hI.dflds _ | exact hI.recs _ | exact hI.drecs _ | exact hI.droot _ | omega)
  · skip
    refine OK.grd ⟨by omega, by omega⟩ ?_
    exact OK.roret (by first | trivial | omega | exact hI.flds _ | exact hI.dflds _ | exact hI.recs _ | exact hI.drecs _ | exact hI.droot _ | omega)

theorem k_X4_fail_29_89_50 (σ : ST) (hI : IA σ) (hT : σ.2.2.2 89 = 50)  : OK (f_X4_fail_29 89 50 σ) (RS σ) := by
  unfold f_X4_fail_29
  have lt_0 := li_0
  have lt_1 := li_1
  have lFU : ((FU : Nat) : Int) = 100000 := rfl
  exact OK.sret (ia_I_89 hI) (fr_I_89 Fr.rf)

theorem k_X4_fail_29_92_62 (σ : ST) (hI : IA σ) (hT : σ.2.2.2 92 = 62)  : OK (f_X4_fail_29 92 62 σ) (RS σ) := by
  unfold f_X4_fail_29
  have lt_0 := li_0
  have lt_1 := li_1
  have lFU : ((FU : Nat) : Int) = 100000 := rfl
  exact OK.sret (ia_I_92 hI) (fr_I_92 Fr.rf)

theorem k_X4_fail_29_92_74 (σ : ST) (hI : IA σ) (hT : σ.2.2.2 92 = 74)  : OK (f_X4_fail_29 92 74 σ) (RS σ) := by
  unfold f_X4_fail_29
  have lt_0 := li_0
  have lt_1 := li_1
  have lFU : ((FU : Nat) : Int) = 100000 := rfl
  exact OK.sret (ia_I_92 hI) (fr_I_92 Fr.rf)

theorem k_X4_fail_89_50 (p0 : Int32) (p1 : Int32) (σ : ST) (hI : IA σ) (hT : σ.2.2.2 89 = 50)  : OK (f_X4_fail 89 50 p0 p1 σ) (RS σ) := by
  unfold f_X4_fail
  have lt_0 := li_0
  have lt_1 := li_1
  have lt_14 := li_14
  have lt_15 := li_15
  have lFU : ((FU : Nat) : Int) = 100000 := rfl
  refine OK.ieq (fun h1 => ?_) (fun h1 => ?_)
  · skip
    refine OK.ieq (fun h2 => ?_) (fun h2 => ?_)
    · skip
      exact OK.trS (k_X4_fail_29_89_50 _ (ia_I_89 (ia_I_89 hI)) (by first | exact hT | (rw [(fr_I_89 (fr_I_89 Fr.rf)).2.2.2]; exact hT))) (fr_I_89 (fr_I_89 Fr.rf))
    · skip
      refine OK.ieq (fun h3 => ?_) (fun h3 => ?_)
      · skip
        exact OK.trS (k_X4_fail_29_89_50 _ (ia_I_89 (ia_I_89 hI)) (by first | exact hT | (rw [(fr_I_89 (fr_I_89 Fr.rf)).2.2.2]; exact hT))) (fr_I_89 (fr_I_89 Fr.rf))
      · skip
        exact OK.sret (ia_I_89 (ia_I_89 hI)) (fr_I_89 (fr_I_89 Fr.rf))
  · skip
    exact OK.sret hI Fr.rf

theorem k_X4_fail_92_62 (p0 : Int32) (p1 : Int32) (σ : ST) (hI : IA σ) (hT : σ.2.2.2 92 = 62)  : OK (f_X4_fail 92 62 p0 p1 σ) (RS σ) := by
  unfold f_X4_fail
  have lt_0 := li_0
  have lt_1 := li_1
  have lt_14 := li_14
  have lt_15 := li_15
  have lFU : ((FU : Nat) : Int) = 100000 := rfl
  refine OK.ieq (fun h1 => ?_) (fun h1 => ?_)
  · skip
    refine OK.ieq (fun h2 => ?_) (fun h2 => ?_)
    · skip
      exact OK.trS (k_X4_fail_29_92_62 _ (ia_I_92 (ia_I_92 hI)) (by first | exact hT | (rw [(fr_I_92 (fr_I_92 Fr.rf)).2.2.2]; exact hT))) (fr_I_92 (fr_I_92 Fr.rf))
    · skip
      refine OK.ieq (fun h3 => ?_) (fun h3 => ?_)
      · skip
        exact OK.trS (k_X4_fail_29_92_62 _ (ia_I_92 (ia_I_92 hI)) (by first | exact hT | (rw [(fr_I_92 (fr_I_92 Fr.rf)).2.2.2]; exact hT))) (fr_I_92 (fr_I_92 Fr.rf))
      · skip
        exact OK.sret (ia_I_92 (ia_I_92 hI)) (fr_I_92 (fr_I_92 Fr.rf))
  · skip
    exact OK.sret hI Fr.rf

theorem k_X4_fail_92_74 (p0 : Int32) (p1 : Int32) (σ : ST) (hI : IA σ) (hT : σ.2.2.2 92 = 74)  : OK (f_X4_fail 92 74 p0 p1 σ) (RS σ) := by
  unfold f_X4_fail
  have lt_0 := li_0
  have lt_1 := li_1
  have lt_14 := li_14
  have lt_15 := li_15
  have lFU : ((FU : Nat) : Int) = 100000 := rfl
  refine OK.ieq (fun h1 => ?_) (fun h1 => ?_)
  · skip
    refine OK.ieq (fun h2 => ?_) (fun h2 => ?_)
    · skip
      exact OK.trS (k_X4_fail_29_92_74 _ (ia_I_92 (ia_I_92 hI)) (by first | exact hT | (rw [(fr_I_92 (fr_I_92 Fr.rf)).2.2.2]; exact hT))) (fr_I_92 (fr_I_92 Fr.rf))
    · skip
      refine OK.ieq (fun h3 => ?_) (fun h3 => ?_)
      · skip
        exact OK.trS (k_X4_fail_29_92_74 _ (ia_I_92 (ia_I_92 hI)) (by first | exact hT | (rw [(fr_I_92 (fr_I_92 Fr.rf)).2.2.2]; exact hT))) (fr_I_92 (fr_I_92 Fr.rf))
      · skip
        exact OK.sret (ia_I_92 (ia_I_92 hI)) (fr_I_92 (fr_I_92 Fr.rf))
  · skip
    exact OK.sret hI Fr.rf

theorem k_X5_emptyHeight_4 (p0 : Int32) (σ : ST) (hI : IA σ)  : OK (f_X5_emptyHeight 4 p0 σ) (RO σ fun v => True) := by
  unfold f_X5_emptyHeight
  have lt_m1 := li_m1
  have lt_0 := li_0
  have lt_1 := li_1
  have lt_7 := li_7
  have lFU : ((FU : Nat) : Int) = 100000 := rfl
  refine OK.bndR (k_X5_sortOf_4 _ _ hI ) (fun v1 h2 => ?_)
  dsimp only
  refine OK.ieq (fun h3 => ?_) (fun h3 => ?_)
  · skip
    exact OK.roret (by first | trivial | omega | exact hI.flds _ | exact hI.dflds _ | exact hI.recs _ | exact hI.drecs _ | exact hI.droot _ | omega)
  · skip
    refine OK.bndR (k_X5_innerOf_4 _ _ hI ) (fun v4 h5 => ?_)
    dsimp only
    refine OK.bndR (k_X5_sortOf_4 _ _ hI ) (fun v6 h7 => ?_)
    dsimp only
    refine OK.ieq (fun h8 => ?_) (fun h8 => ?_)
    · skip
      refine OK.bndR (k_X5_isRecord _ _ hI ) (fun v9 h10 => ?_)
      dsimp only
      refine OK.ieq (fun h11 => ?_) (fun h11 => ?_)
      · skip
        exact OK.roret (by first | trivial | omega | exact hI.flds _ | exact hI.dflds _ | exact hI.recs _ | exact hI.drecs _ | exact hI.droot _ | omega)
      · skip
        refine OK.grd ⟨by omega, by omega⟩ ?_
        exact OK.roret (by first | trivial | omega | exact hI.flds _ | exact hI.dflds _ | exact hI.recs _ | exact hI.drecs _ | exact hI.droot _ | omega)
    · skip
      exact OK.roret (by first | trivial | omega | exact hI.flds _ | exact hI.dflds _ | exact hI.recs _ | exact hI.drecs _ | exact hI.droot _ | omega)

theorem k_X4_isEmptyThere_89_50 (p0 : Int32) (p1 : Int32) (σ : ST) (hI : IA σ) (hT : σ.2.2.2 89 = 50)  : OK (f_X4_isEmptyThere 89 50 p0 p1 σ) (RO σ fun v => v.toInt = 0 ∨ v.toInt = 1) := by
  unfold f_X4_isEmptyThere
  have lt_m1 := li_m1
  have lt_0 := li_0
  have lt_1 := li_1
  have lt_31 := li_31
  have lFU : ((FU : Nat) : Int) = 100000 := rfl
  refine OK.bndR (k_X5_emptyHeight_4 _ _ hI ) (fun v1 h2 => ?_)
  dsimp only
  refine OK.ieq (fun h3 => ?_) (fun h3 => ?_)
  · skip
    exact OK.roret (by first | trivial | omega | exact hI.flds _ | exact hI.dflds _ | exact hI.recs _ | exact hI.drecs _ | exact hI.droot _ | omega)
  · skip
    obtain ⟨a4k, a4, a4l, a4r⟩ := i_add p1 v1
    try (refine k0el (k := a4k) ?_ (fun e0 => ?_); (focus omega); subst e0)
    refine OK.ile (fun h5 => ?_) (fun h5 => ?_)
    · skip
      exact OK.roret (by first | trivial | omega | exact hI.flds _ | exact hI.dflds _ | exact hI.recs _ | exact hI.drecs _ | exact hI.droot _ | omega)
    · skip
      exact OK.roret (by first | trivial | omega | exact hI.flds _ | exact hI.dflds _ | exact hI.recs _ | exact hI.drecs _ | exact hI.droot _ | omega)

theorem k_X4_isEmptyThere_92_62 (p0 : Int32) (p1 : Int32) (σ : ST) (hI : IA σ) (hT : σ.2.2.2 92 = 62)  : OK (f_X4_isEmptyThere 92 62 p0 p1 σ) (RO σ fun v => v.toInt = 0 ∨ v.toInt = 1) := by
  unfold f_X4_isEmptyThere
  have lt_m1 := li_m1
  have lt_0 := li_0
  have lt_1 := li_1
  have lt_31 := li_31
  have lFU : ((FU : Nat) : Int) = 100000 := rfl
  refine OK.bndR (k_X5_emptyHeight_4 _ _ hI ) (fun v1 h2 => ?_)
  dsimp only
  refine OK.ieq (fun h3 => ?_) (fun h3 => ?_)
  · skip
    exact OK.roret (by first | trivial | omega | exact hI.flds _ | exact hI.dflds _ | exact hI.recs _ | exact hI.drecs _ | exact hI.droot _ | omega)
  · skip
    obtain ⟨a4k, a4, a4l, a4r⟩ := i_add p1 v1
    try (refine k0el (k := a4k) ?_ (fun e0 => ?_); (focus omega); subst e0)
    refine OK.ile (fun h5 => ?_) (fun h5 => ?_)
    · skip
      exact OK.roret (by first | trivial | omega | exact hI.flds _ | exact hI.dflds _ | exact hI.recs _ | exact hI.drecs _ | exact hI.droot _ | omega)
    · skip
      exact OK.roret (by first | trivial | omega | exact hI.flds _ | exact hI.dflds _ | exact hI.recs _ | exact hI.drecs _ | exact hI.droot _ | omega)

theorem k_X4_isEmptyThere_92_74 (p0 : Int32) (p1 : Int32) (σ : ST) (hI : IA σ) (hT : σ.2.2.2 92 = 74)  : OK (f_X4_isEmptyThere 92 74 p0 p1 σ) (RO σ fun v => v.toInt = 0 ∨ v.toInt = 1) := by
  unfold f_X4_isEmptyThere
  have lt_m1 := li_m1
  have lt_0 := li_0
  have lt_1 := li_1
  have lt_31 := li_31
  have lFU : ((FU : Nat) : Int) = 100000 := rfl
  refine OK.bndR (k_X5_emptyHeight_4 _ _ hI ) (fun v1 h2 => ?_)
  dsimp only
  refine OK.ieq (fun h3 => ?_) (fun h3 => ?_)
  · skip
    exact OK.roret (by first | trivial | omega | exact hI.flds _ | exact hI.dflds _ | exact hI.recs _ | exact hI.drecs _ | exact hI.droot _ | omega)
  · skip
    obtain ⟨a4k, a4, a4l, a4r⟩ := i_add p1 v1
    try (refine k0el (k := a4k) ?_ (fun e0 => ?_); (focus omega); subst e0)
    refine OK.ile (fun h5 => ?_) (fun h5 => ?_)
    · skip
      exact OK.roret (by first | trivial | omega | exact hI.flds _ | exact hI.dflds _ | exact hI.recs _ | exact hI.drecs _ | exact hI.droot _ | omega)
    · skip
      exact OK.roret (by first | trivial | omega | exact hI.flds _ | exact hI.dflds _ | exact hI.recs _ | exact hI.drecs _ | exact hI.droot _ | omega)

theorem k_X4_step_26_89_50 (σ : ST) (hI : IA σ) (hT : σ.2.2.2 89 = 50)  : OK (f_X4_step_26 89 50 σ) (RS σ) := by
  unfold f_X4_step_26
  have lt_0 := li_0
  have lt_1 := li_1
  have lFU : ((FU : Nat) : Int) = 100000 := rfl
  exact OK.sret (ia_I_89 hI) (fr_I_89 Fr.rf)

theorem k_X4_step_26_92_62 (σ : ST) (hI : IA σ) (hT : σ.2.2.2 92 = 62)  : OK (f_X4_step_26 92 62 σ) (RS σ) := by
  unfold f_X4_step_26
  have lt_0 := li_0
  have lt_1 := li_1
  have lFU : ((FU : Nat) : Int) = 100000 := rfl
  exact OK.sret (ia_I_92 hI) (fr_I_92 Fr.rf)

theorem k_X4_step_26_92_74 (σ : ST) (hI : IA σ) (hT : σ.2.2.2 92 = 74)  : OK (f_X4_step_26 92 74 σ) (RS σ) := by
  unfold f_X4_step_26
  have lt_0 := li_0
  have lt_1 := li_1
  have lFU : ((FU : Nat) : Int) = 100000 := rfl
  exact OK.sret (ia_I_92 hI) (fr_I_92 Fr.rf)

theorem k_X4_step_89_50 (p0 : Int32) (σ : ST) (hI : IA σ) (hT : σ.2.2.2 89 = 50)  : OK (f_X4_step 89 50 p0 σ) (RS σ) := by
  unfold f_X4_step
  have lt_0 := li_0
  have lt_1 := li_1
  have lt_64 := li_64
  have lFU : ((FU : Nat) : Int) = 100000 := rfl
  refine OK.ilt (fun h1 => ?_) (fun h1 => ?_)
  · skip
    exact OK.trS (k_X4_step_26_89_50 _ hI (by first | exact hT | (rw [Fr.rf.2.2.2]; exact hT))) Fr.rf
  · skip
    refine OK.ile (fun h2 => ?_) (fun h2 => ?_)
    · skip
      exact OK.trS (k_X4_step_26_89_50 _ hI (by first | exact hT | (rw [Fr.rf.2.2.2]; exact hT))) Fr.rf
    · skip
      refine OK.grd ⟨by omega, by omega⟩ ?_
      exact OK.trS (k_X4_step_26_89_50 _ (ia_I_90 hI) (by first | exact hT | (rw [(fr_I_90 Fr.rf).2.2.2]; exact hT))) (fr_I_90 Fr.rf)

theorem k_X4_step_92_62 (p0 : Int32) (σ : ST) (hI : IA σ) (hT : σ.2.2.2 92 = 62)  : OK (f_X4_step 92 62 p0 σ) (RS σ) := by
  unfold f_X4_step
  have lt_0 := li_0
  have lt_1 := li_1
  have lt_64 := li_64
  have lFU : ((FU : Nat) : Int) = 100000 := rfl
  refine OK.ilt (fun h1 => ?_) (fun h1 => ?_)
  · skip
    exact OK.trS (k_X4_step_26_92_62 _ hI (by first | exact hT | (rw [Fr.rf.2.2.2]; exact hT))) Fr.rf
  · skip
    refine OK.ile (fun h2 => ?_) (fun h2 => ?_)
    · skip
      exact OK.trS (k_X4_step_26_92_62 _ hI (by first | exact hT | (rw [Fr.rf.2.2.2]; exact hT))) Fr.rf
    · skip
      refine OK.grd ⟨by omega, by omega⟩ ?_
      exact OK.trS (k_X4_step_26_92_62 _ (ia_I_93 hI) (by first | exact hT | (rw [(fr_I_93 Fr.rf).2.2.2]; exact hT))) (fr_I_93 Fr.rf)

theorem k_X4_step_92_74 (p0 : Int32) (σ : ST) (hI : IA σ) (hT : σ.2.2.2 92 = 74)  : OK (f_X4_step 92 74 p0 σ) (RS σ) := by
  unfold f_X4_step
  have lt_0 := li_0
  have lt_1 := li_1
  have lt_64 := li_64
  have lFU : ((FU : Nat) : Int) = 100000 := rfl
  refine OK.ilt (fun h1 => ?_) (fun h1 => ?_)
  · skip
    exact OK.trS (k_X4_step_26_92_74 _ hI (by first | exact hT | (rw [Fr.rf.2.2.2]; exact hT))) Fr.rf
  · skip
    refine OK.ile (fun h2 => ?_) (fun h2 => ?_)
    · skip
      exact OK.trS (k_X4_step_26_92_74 _ hI (by first | exact hT | (rw [Fr.rf.2.2.2]; exact hT))) Fr.rf
    · skip
      refine OK.grd ⟨by omega, by omega⟩ ?_
      exact OK.trS (k_X4_step_26_92_74 _ (ia_I_93 hI) (by first | exact hT | (rw [(fr_I_93 Fr.rf).2.2.2]; exact hT))) (fr_I_93 Fr.rf)

theorem k_X4_stepBack_89_50 (σ : ST) (hI : IA σ) (hT : σ.2.2.2 89 = 50)  : OK (f_X4_stepBack 89 50 σ) (RS σ) := by
  unfold f_X4_stepBack
  have lt_0 := li_0
  have lt_1 := li_1
  have lFU : ((FU : Nat) : Int) = 100000 := rfl
  refine OK.ieq (fun h1 => ?_) (fun h1 => ?_)
  · skip
    exact OK.sret (ia_I_89 hI) (fr_I_89 Fr.rf)
  · skip
    exact OK.sret hI Fr.rf

theorem k_X4_stepBack_92_62 (σ : ST) (hI : IA σ) (hT : σ.2.2.2 92 = 62)  : OK (f_X4_stepBack 92 62 σ) (RS σ) := by
  unfold f_X4_stepBack
  have lt_0 := li_0
  have lt_1 := li_1
  have lFU : ((FU : Nat) : Int) = 100000 := rfl
  refine OK.ieq (fun h1 => ?_) (fun h1 => ?_)
  · skip
    exact OK.sret (ia_I_92 hI) (fr_I_92 Fr.rf)
  · skip
    exact OK.sret hI Fr.rf

theorem k_X4_stepBack_92_74 (σ : ST) (hI : IA σ) (hT : σ.2.2.2 92 = 74)  : OK (f_X4_stepBack 92 74 σ) (RS σ) := by
  unfold f_X4_stepBack
  have lt_0 := li_0
  have lt_1 := li_1
  have lFU : ((FU : Nat) : Int) = 100000 := rfl
  refine OK.ieq (fun h1 => ?_) (fun h1 => ?_)
  · skip
    exact OK.sret (ia_I_92 hI) (fr_I_92 Fr.rf)
  · skip
    exact OK.sret hI Fr.rf

theorem k_X1_byteOf (p0 : Int32) (p1 : Int32) (σ : ST) (hI : IA σ)  : OK (f_X1_byteOf  p0 p1 σ) (RO σ fun v => True) := by
  unfold f_X1_byteOf
  have lt_0 := li_0
  have lt_1 := li_1
  have lt_255 := li_255
  have lt_400 := li_400
  have lt_1600 := li_1600
  have lFU : ((FU : Nat) : Int) = 100000 := rfl
  obtain ⟨a1k, a1, a1l, a1r⟩ := i_mul p0 400
  rw [li_400] at a1
  try (refine k0el (k := a1k) ?_ (fun e0 => ?_); (focus omega); subst e0)
  obtain ⟨a2k, a2, a2l, a2r⟩ := i_add (p0 * 400) p1
  try (refine k0el (k := a2k) ?_ (fun e0 => ?_); (focus omega); subst e0)
  refine OK.ilt (fun h3 => ?_) (fun h3 => ?_)
  · skip
    exact OK.roret (by first | trivial | omega | exact hI.flds _ | exact hI.dflds _ | exact hI.recs _ | exact hI.drecs _ | exact hI.droot _ | omega)
  · skip
    refine OK.ile (fun h4 => ?_) (fun h4 => ?_)
    · skip
      exact OK.roret (by first | trivial | omega | exact hI.flds _ | exact hI.dflds _ | exact hI.recs _ | exact hI.drecs _ | exact hI.droot _ | omega)
    · skip
      refine OK.grd ⟨by omega, by omega⟩ ?_
      exact OK.roret (by first | trivial | omega | exact hI.flds _ | exact hI.dflds _ | exact hI.recs _ | exact hI.drecs _ | exact hI.droot _ | omega)

theorem k_X4_takeByte_89_50 (σ : ST) (hI : IA σ) (hT : σ.2.2.2 89 = 50)  : OK (f_X4_takeByte 89 50 σ) (RW σ fun v => True) := by
  unfold f_X4_takeByte
  have lt_0 := li_0
  have lt_1 := li_1
  have lFU : ((FU : Nat) : Int) = 100000 := rfl
  refine OK.ieq (fun h1 => ?_) (fun h1 => ?_)
  · skip
    refine OK.ilt (fun h2 => ?_) (fun h2 => ?_)
    · skip
      refine OK.bndR (k_X1_byteOf _ _ _ hI ) (fun v3 h4 => ?_)
      dsimp only
      exact OK.wret (ia_I_89 hI) (fr_I_89 Fr.rf) (by first | trivial | omega | exact hI.flds _ | exact hI.dflds _ | exact hI.recs _ | exact hI.drecs _ | exact hI.droot _ | omega)
    · skip
      refine OK.bndS (k_X4_fail_89_50 _ _ _ hI (by first | exact hT | (rw [Fr.rf.2.2.2]; exact hT))) Fr.rf (fun s5 is5 fs5 => ?_)
      try dsimp only
      exact OK.wret is5 fs5 (by first | trivial | omega | exact hI.flds _ | exact hI.dflds _ | exact hI.recs _ | exact hI.drecs _ | exact hI.droot _ | omega)
  · skip
    exact OK.wret hI Fr.rf (by first | trivial | omega | exact hI.flds _ | exact hI.dflds _ | exact hI.recs _ | exact hI.drecs _ | exact hI.droot _ | omega)

theorem k_X4_takeByte_92_62 (σ : ST) (hI : IA σ) (hT : σ.2.2.2 92 = 62)  : OK (f_X4_takeByte 92 62 σ) (RW σ fun v => True) := by
  unfold f_X4_takeByte
  have lt_0 := li_0
  have lt_1 := li_1
  have lFU : ((FU : Nat) : Int) = 100000 := rfl
  refine OK.ieq (fun h1 => ?_) (fun h1 => ?_)
  · skip
    refine OK.ilt (fun h2 => ?_) (fun h2 => ?_)
    · skip
      refine OK.bndR (k_X1_byteOf _ _ _ hI ) (fun v3 h4 => ?_)
      dsimp only
      exact OK.wret (ia_I_92 hI) (fr_I_92 Fr.rf) (by first | trivial | omega | exact hI.flds _ | exact hI.dflds _ | exact hI.recs _ | exact hI.drecs _ | exact hI.droot _ | omega)
    · skip
      refine OK.bndS (k_X4_fail_92_62 _ _ _ hI (by first | exact hT | (rw [Fr.rf.2.2.2]; exact hT))) Fr.rf (fun s5 is5 fs5 => ?_)
      try dsimp only
      exact OK.wret is5 fs5 (by first | trivial | omega | exact hI.flds _ | exact hI.dflds _ | exact hI.recs _ | exact hI.drecs _ | exact hI.droot _ | omega)
  · skip
    exact OK.wret hI Fr.rf (by first | trivial | omega | exact hI.flds _ | exact hI.dflds _ | exact hI.recs _ | exact hI.drecs _ | exact hI.droot _ | omega)

theorem k_X4_takeByte_92_74 (σ : ST) (hI : IA σ) (hT : σ.2.2.2 92 = 74)  : OK (f_X4_takeByte 92 74 σ) (RW σ fun v => True) := by
  unfold f_X4_takeByte
  have lt_0 := li_0
  have lt_1 := li_1
  have lFU : ((FU : Nat) : Int) = 100000 := rfl
  refine OK.ieq (fun h1 => ?_) (fun h1 => ?_)
  · skip
    refine OK.ilt (fun h2 => ?_) (fun h2 => ?_)
    · skip
      refine OK.bndR (k_X1_byteOf _ _ _ hI ) (fun v3 h4 => ?_)
      dsimp only
      exact OK.wret (ia_I_92 hI) (fr_I_92 Fr.rf) (by first | trivial | omega | exact hI.flds _ | exact hI.dflds _ | exact hI.recs _ | exact hI.drecs _ | exact hI.droot _ | omega)
    · skip
      refine OK.bndS (k_X4_fail_92_74 _ _ _ hI (by first | exact hT | (rw [Fr.rf.2.2.2]; exact hT))) Fr.rf (fun s5 is5 fs5 => ?_)
      try dsimp only
      exact OK.wret is5 fs5 (by first | trivial | omega | exact hI.flds _ | exact hI.dflds _ | exact hI.recs _ | exact hI.drecs _ | exact hI.droot _ | omega)
  · skip
    exact OK.wret hI Fr.rf (by first | trivial | omega | exact hI.flds _ | exact hI.dflds _ | exact hI.recs _ | exact hI.drecs _ | exact hI.droot _ | omega)

theorem k_X4_takeNumber_70_89_50 (x2 : Int64) (σ : ST) (hI : IA σ) (hT : σ.2.2.2 89 = 50)  : OK (f_X4_takeNumber_70 89 50 x2 σ) (RO σ fun v => True) := by
  unfold f_X4_takeNumber_70
  have lt_0 := li_0
  have lt_1 := li_1
  have lFU : ((FU : Nat) : Int) = 100000 := rfl
  refine OK.ieq (fun h1 => ?_) (fun h1 => ?_)
  · skip
    exact OK.roret (by first | trivial | omega | exact hI.flds _ | exact hI.dflds _ | exact hI.recs _ | exact hI.drecs _ | exact hI.droot _ | omega)
  · skip
    exact OK.roret (by first | trivial | omega | exact hI.flds _ | exact hI.dflds _ | exact hI.recs _ | exact hI.drecs _ | exact hI.droot _ | omega)

theorem k_X4_takeNumber_70_92_62 (x2 : Int64) (σ : ST) (hI : IA σ) (hT : σ.2.2.2 92 = 62)  : OK (f_X4_takeNumber_70 92 62 x2 σ) (RO σ fun v => True) := by
  unfold f_X4_takeNumber_70
  have lt_0 := li_0
  have lt_1 := li_1
  have lFU : ((FU : Nat) : Int) = 100000 := rfl
  refine OK.ieq (fun h1 => ?_) (fun h1 => ?_)
  · skip
    exact OK.roret (by first | trivial | omega | exact hI.flds _ | exact hI.dflds _ | exact hI.recs _ | exact hI.drecs _ | exact hI.droot _ | omega)
  · skip
    exact OK.roret (by first | trivial | omega | exact hI.flds _ | exact hI.dflds _ | exact hI.recs _ | exact hI.drecs _ | exact hI.droot _ | omega)

theorem k_X4_takeNumber_70_92_74 (x2 : Int64) (σ : ST) (hI : IA σ) (hT : σ.2.2.2 92 = 74)  : OK (f_X4_takeNumber_70 92 74 x2 σ) (RO σ fun v => True) := by
  unfold f_X4_takeNumber_70
  have lt_0 := li_0
  have lt_1 := li_1
  have lFU : ((FU : Nat) : Int) = 100000 := rfl
  refine OK.ieq (fun h1 => ?_) (fun h1 => ?_)
  · skip
    exact OK.roret (by first | trivial | omega | exact hI.flds _ | exact hI.dflds _ | exact hI.recs _ | exact hI.drecs _ | exact hI.droot _ | omega)
  · skip
    exact OK.roret (by first | trivial | omega | exact hI.flds _ | exact hI.dflds _ | exact hI.recs _ | exact hI.drecs _ | exact hI.droot _ | omega)

theorem k_X4_takeNumber_5_89_50 : ∀ (n : Nat) (x1 : Int32) (x2 : Int64) (x4 : Int32) (σ : ST), IA σ → σ.2.2.2 89 = 50 → (0 ≤ x4.toInt ∧ x4.toInt ≤ 10 ∧ (10 : Int) - x4.toInt < n) → OK (f_X4_takeNumber_5 89 50 n x1 x2 x4 σ) (RW σ fun v => True) := by
  intro n
  induction n with
  | zero =>
    intro x1 x2 x4 σ hI hT hv
    omega
  | succ n ih =>
    intro x1 x2 x4 σ hI hT hv
    rw [f_X4_takeNumber_5]
    have lt_0 := li_0
    have lt_1 := li_1
    have lt_9 := li_9
    have lt_10 := li_10
    have lt_128 := li_128
    have lFU : ((FU : Nat) : Int) = 100000 := rfl
    refine OK.ile (fun h1 => ?_) (fun h1 => ?_)
    · skip
      exact OK.row (k_X4_takeNumber_70_89_50 _ _ hI (by first | exact hT | (rw [Fr.rf.2.2.2]; exact hT))) hI Fr.rf (fun v hv => by first | trivial | omega | exact hI.flds _ | exact hI.dflds _ | exact hI.recs _ | exact hI.drecs _ | exact hI.droot _ | omega)
    · skip
      refine OK.bndW (k_X4_takeByte_89_50 _ hI (by first | exact hT | (rw [Fr.rf.2.2.2]; exact hT))) Fr.rf (fun v2 s4 is4 fs4 h3 => ?_)
      dsimp only
      refine OK.ieq (fun h5 => ?_) (fun h5 => ?_)
      · skip
        refine OK.ile (fun h6 => ?_) (fun h6 => ?_)
        · skip
          unfold f_X4_takeNumber_38
          try dsimp only
          refine OK.ile (fun h7 => ?_) (fun h7 => ?_)
          · skip
            obtain ⟨a8k, a8, a8l, a8r⟩ := i_add x4 1
            try (refine k0el (k := a8k) ?_ (fun e0 => ?_); (focus omega); subst e0)
            exact OK.trW (ih _ _ _ _ is4 (by first | exact hT | (rw [fs4.2.2.2]; exact hT)) (by omega)) fs4 (fun v hv => by first | trivial | omega | exact hI.flds _ | exact hI.dflds _ | exact hI.recs _ | exact hI.drecs _ | exact hI.droot _ | omega)
          · skip
            exact OK.row (k_X4_takeNumber_70_89_50 _ _ is4 (by first | exact hT | (rw [fs4.2.2.2]; exact hT))) is4 fs4 (fun v hv => by first | trivial | omega | exact hI.flds _ | exact hI.dflds _ | exact hI.recs _ | exact hI.drecs _ | exact hI.droot _ | omega)
        · skip
          refine OK.bndS (k_X4_fail_89_50 _ _ _ is4 (by first | exact hT | (rw [fs4.2.2.2]; exact hT))) fs4 (fun s9 is9 fs9 => ?_)
          try dsimp only
          unfold f_X4_takeNumber_38
          try dsimp only
          refine OK.ile (fun h10 => ?_) (fun h10 => ?_)
          · skip
            obtain ⟨a11k, a11, a11l, a11r⟩ := i_add x4 1
            try (refine k0el (k := a11k) ?_ (fun e0 => ?_); (focus omega); subst e0)
            exact OK.trW (ih _ _ _ _ is9 (by first | exact hT | (rw [fs9.2.2.2]; exact hT)) (by omega)) fs9 (fun v hv => by first | trivial | omega | exact hI.flds _ | exact hI.dflds _ | exact hI.recs _ | exact hI.drecs _ | exact hI.droot _ | omega)
          · skip
            exact OK.row (k_X4_takeNumber_70_89_50 _ _ is9 (by first | exact hT | (rw [fs9.2.2.2]; exact hT))) is9 fs9 (fun v hv => by first | trivial | omega | exact hI.flds _ | exact hI.dflds _ | exact hI.recs _ | exact hI.drecs _ | exact hI.droot _ | omega)
      · skip
        unfold f_X4_takeNumber_38
        try dsimp only
        refine OK.ile (fun h12 => ?_) (fun h12 => ?_)
        · skip
          obtain ⟨a13k, a13, a13l, a13r⟩ := i_add x4 1
          try (refine k0el (k := a13k) ?_ (fun e0 => ?_); (focus omega); subst e0)
          exact OK.trW (ih _ _ _ _ is4 (by first | exact hT | (rw [fs4.2.2.2]; exact hT)) (by omega)) fs4 (fun v hv => by first | trivial | omega | exact hI.flds _ | exact hI.dflds _ | exact hI.recs _ | exact hI.drecs _ | exact hI.droot _ | omega)
        · skip
          exact OK.row (k_X4_takeNumber_70_89_50 _ _ is4 (by first | exact hT | (rw [fs4.2.2.2]; exact hT))) is4 fs4 (fun v hv => by first | trivial | omega | exact hI.flds _ | exact hI.dflds _ | exact hI.recs _ | exact hI.drecs _ | exact hI.droot _ | omega)

theorem k_X4_takeNumber_5_92_62 : ∀ (n : Nat) (x1 : Int32) (x2 : Int64) (x4 : Int32) (σ : ST), IA σ → σ.2.2.2 92 = 62 → (0 ≤ x4.toInt ∧ x4.toInt ≤ 10 ∧ (10 : Int) - x4.toInt < n) → OK (f_X4_takeNumber_5 92 62 n x1 x2 x4 σ) (RW σ fun v => True) := by
  intro n
  induction n with
  | zero =>
    intro x1 x2 x4 σ hI hT hv
    omega
  | succ n ih =>
    intro x1 x2 x4 σ hI hT hv
    rw [f_X4_takeNumber_5]
    have lt_0 := li_0
    have lt_1 := li_1
    have lt_9 := li_9
    have lt_10 := li_10
    have lt_128 := li_128
    have lFU : ((FU : Nat) : Int) = 100000 := rfl
    refine OK.ile (fun h1 => ?_) (fun h1 => ?_)
    · skip
      exact OK.row (k_X4_takeNumber_70_92_62 _ _ hI (by first | exact hT | (rw [Fr.rf.2.2.2]; exact hT))) hI Fr.rf (fun v hv => by first | trivial | omega | exact hI.flds _ | exact hI.dflds _ | exact hI.recs _ | exact hI.drecs _ | exact hI.droot _ | omega)
    · skip
      refine OK.bndW (k_X4_takeByte_92_62 _ hI (by first | exact hT | (rw [Fr.rf.2.2.2]; exact hT))) Fr.rf (fun v2 s4 is4 fs4 h3 => ?_)
      dsimp only
      refine OK.ieq (fun h5 => ?_) (fun h5 => ?_)
      · skip
        refine OK.ile (fun h6 => ?_) (fun h6 => ?_)
        · skip
          unfold f_X4_takeNumber_38
          try dsimp only
          refine OK.ile (fun h7 => ?_) (fun h7 => ?_)
          · skip
            obtain ⟨a8k, a8, a8l, a8r⟩ := i_add x4 1
            try (refine k0el (k := a8k) ?_ (fun e0 => ?_); (focus omega); subst e0)
            exact OK.trW (ih _ _ _ _ is4 (by first | exact hT | (rw [fs4.2.2.2]; exact hT)) (by omega)) fs4 (fun v hv => by first | trivial | omega | exact hI.flds _ | exact hI.dflds _ | exact hI.recs _ | exact hI.drecs _ | exact hI.droot _ | omega)
          · skip
            exact OK.row (k_X4_takeNumber_70_92_62 _ _ is4 (by first | exact hT | (rw [fs4.2.2.2]; exact hT))) is4 fs4 (fun v hv => by first | trivial | omega | exact hI.flds _ | exact hI.dflds _ | exact hI.recs _ | exact hI.drecs _ | exact hI.droot _ | omega)
        · skip
          refine OK.bndS (k_X4_fail_92_62 _ _ _ is4 (by first | exact hT | (rw [fs4.2.2.2]; exact hT))) fs4 (fun s9 is9 fs9 => ?_)
          try dsimp only
          unfold f_X4_takeNumber_38
          try dsimp only
          refine OK.ile (fun h10 => ?_) (fun h10 => ?_)
          · skip
            obtain ⟨a11k, a11, a11l, a11r⟩ := i_add x4 1
            try (refine k0el (k := a11k) ?_ (fun e0 => ?_); (focus omega); subst e0)
            exact OK.trW (ih _ _ _ _ is9 (by first | exact hT | (rw [fs9.2.2.2]; exact hT)) (by omega)) fs9 (fun v hv => by first | trivial | omega | exact hI.flds _ | exact hI.dflds _ | exact hI.recs _ | exact hI.drecs _ | exact hI.droot _ | omega)
          · skip
            exact OK.row (k_X4_takeNumber_70_92_62 _ _ is9 (by first | exact hT | (rw [fs9.2.2.2]; exact hT))) is9 fs9 (fun v hv => by first | trivial | omega | exact hI.flds _ | exact hI.dflds _ | exact hI.recs _ | exact hI.drecs _ | exact hI.droot _ | omega)
      · skip
        unfold f_X4_takeNumber_38
        try dsimp only
        refine OK.ile (fun h12 => ?_) (fun h12 => ?_)
        · skip
          obtain ⟨a13k, a13, a13l, a13r⟩ := i_add x4 1
          try (refine k0el (k := a13k) ?_ (fun e0 => ?_); (focus omega); subst e0)
          exact OK.trW (ih _ _ _ _ is4 (by first | exact hT | (rw [fs4.2.2.2]; exact hT)) (by omega)) fs4 (fun v hv => by first | trivial | omega | exact hI.flds _ | exact hI.dflds _ | exact hI.recs _ | exact hI.drecs _ | exact hI.droot _ | omega)
        · skip
          exact OK.row (k_X4_takeNumber_70_92_62 _ _ is4 (by first | exact hT | (rw [fs4.2.2.2]; exact hT))) is4 fs4 (fun v hv => by first | trivial | omega | exact hI.flds _ | exact hI.dflds _ | exact hI.recs _ | exact hI.drecs _ | exact hI.droot _ | omega)

theorem k_X4_takeNumber_5_92_74 : ∀ (n : Nat) (x1 : Int32) (x2 : Int64) (x4 : Int32) (σ : ST), IA σ → σ.2.2.2 92 = 74 → (0 ≤ x4.toInt ∧ x4.toInt ≤ 10 ∧ (10 : Int) - x4.toInt < n) → OK (f_X4_takeNumber_5 92 74 n x1 x2 x4 σ) (RW σ fun v => True) := by
  intro n
  induction n with
  | zero =>
    intro x1 x2 x4 σ hI hT hv
    omega
  | succ n ih =>
    intro x1 x2 x4 σ hI hT hv
    rw [f_X4_takeNumber_5]
    have lt_0 := li_0
    have lt_1 := li_1
    have lt_9 := li_9
    have lt_10 := li_10
    have lt_128 := li_128
    have lFU : ((FU : Nat) : Int) = 100000 := rfl
    refine OK.ile (fun h1 => ?_) (fun h1 => ?_)
    · skip
      exact OK.row (k_X4_takeNumber_70_92_74 _ _ hI (by first | exact hT | (rw [Fr.rf.2.2.2]; exact hT))) hI Fr.rf (fun v hv => by first | trivial | omega | exact hI.flds _ | exact hI.dflds _ | exact hI.recs _ | exact hI.drecs _ | exact hI.droot _ | omega)
    · skip
      refine OK.bndW (k_X4_takeByte_92_74 _ hI (by first | exact hT | (rw [Fr.rf.2.2.2]; exact hT))) Fr.rf (fun v2 s4 is4 fs4 h3 => ?_)
      dsimp only
      refine OK.ieq (fun h5 => ?_) (fun h5 => ?_)
      · skip
        refine OK.ile (fun h6 => ?_) (fun h6 => ?_)
        · skip
          unfold f_X4_takeNumber_38
          try dsimp only
          refine OK.ile (fun h7 => ?_) (fun h7 => ?_)
          · skip
            obtain ⟨a8k, a8, a8l, a8r⟩ := i_add x4 1
            try (refine k0el (k := a8k) ?_ (fun e0 => ?_); (focus omega); subst e0)
            exact OK.trW (ih _ _ _ _ is4 (by first | exact hT | (rw [fs4.2.2.2]; exact hT)) (by omega)) fs4 (fun v hv => by first | trivial | omega | exact hI.flds _ | exact hI.dflds _ | exact hI.recs _ | exact hI.drecs _ | exact hI.droot _ | omega)
          · skip
            exact OK.row (k_X4_takeNumber_70_92_74 _ _ is4 (by first | exact hT | (rw [fs4.2.2.2]; exact hT))) is4 fs4 (fun v hv => by first | trivial | omega | exact hI.flds _ | exact hI.dflds _ | exact hI.recs _ | exact hI.drecs _ | exact hI.droot _ | omega)
        · skip
          refine OK.bndS (k_X4_fail_92_74 _ _ _ is4 (by first | exact hT | (rw [fs4.2.2.2]; exact hT))) fs4 (fun s9 is9 fs9 => ?_)
          try dsimp only
          unfold f_X4_takeNumber_38
          try dsimp only
          refine OK.ile (fun h10 => ?_) (fun h10 => ?_)
          · skip
            obtain ⟨a11k, a11, a11l, a11r⟩ := i_add x4 1
            try (refine k0el (k := a11k) ?_ (fun e0 => ?_); (focus omega); subst e0)
            exact OK.trW (ih _ _ _ _ is9 (by first | exact hT | (rw [fs9.2.2.2]; exact hT)) (by omega)) fs9 (fun v hv => by first | trivial | omega | exact hI.flds _ | exact hI.dflds _ | exact hI.recs _ | exact hI.drecs _ | exact hI.droot _ | omega)
          · skip
            exact OK.row (k_X4_takeNumber_70_92_74 _ _ is9 (by first | exact hT | (rw [fs9.2.2.2]; exact hT))) is9 fs9 (fun v hv => by first | trivial | omega | exact hI.flds _ | exact hI.dflds _ | exact hI.recs _ | exact hI.drecs _ | exact hI.droot _ | omega)
      · skip
        unfold f_X4_takeNumber_38
        try dsimp only
        refine OK.ile (fun h12 => ?_) (fun h12 => ?_)
        · skip
          obtain ⟨a13k, a13, a13l, a13r⟩ := i_add x4 1
          try (refine k0el (k := a13k) ?_ (fun e0 => ?_); (focus omega); subst e0)
          exact OK.trW (ih _ _ _ _ is4 (by first | exact hT | (rw [fs4.2.2.2]; exact hT)) (by omega)) fs4 (fun v hv => by first | trivial | omega | exact hI.flds _ | exact hI.dflds _ | exact hI.recs _ | exact hI.drecs _ | exact hI.droot _ | omega)
        · skip
          exact OK.row (k_X4_takeNumber_70_92_74 _ _ is4 (by first | exact hT | (rw [fs4.2.2.2]; exact hT))) is4 fs4 (fun v hv => by first | trivial | omega | exact hI.flds _ | exact hI.dflds _ | exact hI.recs _ | exact hI.drecs _ | exact hI.droot _ | omega)

theorem k_X4_takeNumber_89_50 (p0 : Int32) (σ : ST) (hI : IA σ) (hT : σ.2.2.2 89 = 50)  : OK (f_X4_takeNumber 89 50 p0 σ) (RW σ fun v => True) := by
  unfold f_X4_takeNumber
  have lt_0 := li_0
  have lt_1 := li_1
  have lFU : ((FU : Nat) : Int) = 100000 := rfl
  exact OK.trW (k_X4_takeNumber_5_89_50 FU _ _ _ _ hI (by first | exact hT | (rw [Fr.rf.2.2.2]; exact hT)) (by omega)) Fr.rf (fun v hv => by first | trivial | omega | exact hI.flds _ | exact hI.dflds _ | exact hI.recs _ | exact hI.drecs _ | exact hI.droot _ | omega)

theorem k_X4_takeNumber_92_62 (p0 : Int32) (σ : ST) (hI : IA σ) (hT : σ.2.2.2 92 = 62)  : OK (f_X4_takeNumber 92 62 p0 σ) (RW σ fun v => True) := by
  unfold f_X4_takeNumber
  have lt_0 := li_0
  have lt_1 := li_1
  have lFU : ((FU : Nat) : Int) = 100000 := rfl
  exact OK.trW (k_X4_takeNumber_5_92_62 FU _ _ _ _ hI (by first | exact hT | (rw [Fr.rf.2.2.2]; exact hT)) (by omega)) Fr.rf (fun v hv => by first | trivial | omega | exact hI.flds _ | exact hI.dflds _ | exact hI.recs _ | exact hI.drecs _ | exact hI.droot _ | omega)

theorem k_X4_takeNumber_92_74 (p0 : Int32) (σ : ST) (hI : IA σ) (hT : σ.2.2.2 92 = 74)  : OK (f_X4_takeNumber 92 74 p0 σ) (RW σ fun v => True) := by
  unfold f_X4_takeNumber
  have lt_0 := li_0
  have lt_1 := li_1
  have lFU : ((FU : Nat) : Int) = 100000 := rfl
  exact OK.trW (k_X4_takeNumber_5_92_74 FU _ _ _ _ hI (by first | exact hT | (rw [Fr.rf.2.2.2]; exact hT)) (by omega)) Fr.rf (fun v hv => by first | trivial | omega | exact hI.flds _ | exact hI.dflds _ | exact hI.recs _ | exact hI.drecs _ | exact hI.droot _ | omega)

theorem k_X4_takeCount_26_89_50 (x3 : Int64) (σ : ST) (hI : IA σ) (hT : σ.2.2.2 89 = 50)  : OK (f_X4_takeCount_26 89 50 x3 σ) (RO σ fun v => True) := by
  unfold f_X4_takeCount_26
  have lt_0 := li_0
  have lt_1 := li_1
  have lFU : ((FU : Nat) : Int) = 100000 := rfl
  refine OK.ieq (fun h1 => ?_) (fun h1 => ?_)
  · skip
    exact OK.roret (by first | trivial | omega | exact hI.flds _ | exact hI.dflds _ | exact hI.recs _ | exact hI.drecs _ | exact hI.droot _ | omega)
  · skip
    exact OK.roret (by first | trivial | omega | exact hI.flds _ | exact hI.dflds _ | exact hI.recs _ | exact hI.drecs _ | exact hI.droot _ | omega)

theorem k_X4_takeCount_26_92_62 (x3 : Int64) (σ : ST) (hI : IA σ) (hT : σ.2.2.2 92 = 62)  : OK (f_X4_takeCount_26 92 62 x3 σ) (RO σ fun v => True) := by
  unfold f_X4_takeCount_26
  have lt_0 := li_0
  have lt_1 := li_1
  have lFU : ((FU : Nat) : Int) = 100000 := rfl
  refine OK.ieq (fun h1 => ?_) (fun h1 => ?_)
  · skip
    exact OK.roret (by first | trivial | omega | exact hI.flds _ | exact hI.dflds _ | exact hI.recs _ | exact hI.drecs _ | exact hI.droot _ | omega)
  · skip
    exact OK.roret (by first | trivial | omega | exact hI.flds _ | exact hI.dflds _ | exact hI.recs _ | exact hI.drecs _ | exact hI.droot _ | omega)

theorem k_X4_takeCount_26_92_74 (x3 : Int64) (σ : ST) (hI : IA σ) (hT : σ.2.2.2 92 = 74)  : OK (f_X4_takeCount_26 92 74 x3 σ) (RO σ fun v => True) := by
  unfold f_X4_takeCount_26
  have lt_0 := li_0
  have lt_1 := li_1
  have lFU : ((FU : Nat) : Int) = 100000 := rfl
  refine OK.ieq (fun h1 => ?_) (fun h1 => ?_)
  · skip
    exact OK.roret (by first | trivial | omega | exact hI.flds _ | exact hI.dflds _ | exact hI.recs _ | exact hI.drecs _ | exact hI.droot _ | omega)
  · skip
    exact OK.roret (by first | trivial | omega | exact hI.flds _ | exact hI.dflds _ | exact hI.recs _ | exact hI.drecs _ | exact hI.droot _ | omega)

theorem k_X4_takeCount_19_89_50 (x1 : Int32) (x3 : Int64) (σ : ST) (hI : IA σ) (hT : σ.2.2.2 89 = 50)  : OK (f_X4_takeCount_19 89 50 x1 x3 σ) (RW σ fun v => True) := by
  unfold f_X4_takeCount_19
  have lt_0 := li_0
  have lt_1 := li_1
  have lFU : ((FU : Nat) : Int) = 100000 := rfl
  refine OK.bndS (k_X4_fail_89_50 _ _ _ hI (by first | exact hT | (rw [Fr.rf.2.2.2]; exact hT))) Fr.rf (fun s1 is1 fs1 => ?_)
  try dsimp only
  exact OK.row (k_X4_takeCount_26_89_50 _ _ is1 (by first | exact hT | (rw [fs1.2.2.2]; exact hT))) is1 fs1 (fun v hv => by first | trivial | omega | exact hI.flds _ | exact hI.dflds _ | exact hI.recs _ | exact hI.drecs _ | exact hI.droot _ | omega)

theorem k_X4_takeCount_19_92_62 (x1 : Int32) (x3 : Int64) (σ : ST) (hI : IA σ) (hT : σ.2.2.2 92 = 62)  : OK (f_X4_takeCount_19 92 62 x1 x3 σ) (RW σ fun v => True) := by
  unfold f_X4_takeCount_19
  have lt_0 := li_0
  have lt_1 := li_1
  have lFU : ((FU : Nat) : Int) = 100000 := rfl
  refine OK.bndS (k_X4_fail_92_62 _ _ _ hI (by first | exact hT | (rw [Fr.rf.2.2.2]; exact hT))) Fr.rf (fun s1 is1 fs1 => ?_)
  try dsimp only
  exact OK.row (k_X4_takeCount_26_92_62 _ _ is1 (by first | exact hT | (rw [fs1.2.2.2]; exact hT))) is1 fs1 (fun v hv => by first | trivial | omega | exact hI.flds _ | exact hI.dflds _ | exact hI.recs _ | exact hI.drecs _ | exact hI.droot _ | omega)

theorem k_X4_takeCount_19_92_74 (x1 : Int32) (x3 : Int64) (σ : ST) (hI : IA σ) (hT : σ.2.2.2 92 = 74)  : OK (f_X4_takeCount_19 92 74 x1 x3 σ) (RW σ fun v => True) := by
  unfold f_X4_takeCount_19
  have lt_0 := li_0
  have lt_1 := li_1
  have lFU : ((FU : Nat) : Int) = 100000 := rfl
  refine OK.bndS (k_X4_fail_92_74 _ _ _ hI (by first | exact hT | (rw [Fr.rf.2.2.2]; exact hT))) Fr.rf (fun s1 is1 fs1 => ?_)
  try dsimp only
  exact OK.row (k_X4_takeCount_26_92_74 _ _ is1 (by first | exact hT | (rw [fs1.2.2.2]; exact hT))) is1 fs1 (fun v hv => by first | trivial | omega | exact hI.flds _ | exact hI.dflds _ | exact hI.recs _ | exact hI.drecs _ | exact hI.droot _ | omega)

theorem k_X4_takeCount_89_50 (p0 : Int32) (p1 : Int32) (σ : ST) (hI : IA σ) (hT : σ.2.2.2 89 = 50)  : OK (f_X4_takeCount 89 50 p0 p1 σ) (RW σ fun v => True) := by
  unfold f_X4_takeCount
  have lt_0 := li_0
  have lt_1 := li_1
  have lFU : ((FU : Nat) : Int) = 100000 := rfl
  refine OK.bndW (k_X4_takeNumber_89_50 _ _ hI (by first | exact hT | (rw [Fr.rf.2.2.2]; exact hT))) Fr.rf (fun v1 s3 is3 fs3 h2 => ?_)
  dsimp only
  refine OK.ilt (fun h4 => ?_) (fun h4 => ?_)
  · skip
    exact OK.trW (k_X4_takeCount_19_89_50 _ _ _ is3 (by first | exact hT | (rw [fs3.2.2.2]; exact hT))) fs3 (fun v hv => by first | trivial | omega | exact hI.flds _ | exact hI.dflds _ | exact hI.recs _ | exact hI.drecs _ | exact hI.droot _ | omega)
  · skip
    refine OK.ile (fun h5 => ?_) (fun h5 => ?_)
    · skip
      exact OK.row (k_X4_takeCount_26_89_50 _ _ is3 (by first | exact hT | (rw [fs3.2.2.2]; exact hT))) is3 fs3 (fun v hv => by first | trivial | omega | exact hI.flds _ | exact hI.dflds _ | exact hI.recs _ | exact hI.drecs _ | exact hI.droot _ | omega)
    · skip
      exact OK.trW (k_X4_takeCount_19_89_50 _ _ _ is3 (by first | exact hT | (rw [fs3.2.2.2]; exact hT))) fs3 (fun v hv => by first | trivial | omega | exact hI.flds _ | exact hI.dflds _ | exact hI.recs _ | exact hI.drecs _ | exact hI.droot _ | omega)

theorem k_X4_takeCount_92_62 (p0 : Int32) (p1 : Int32) (σ : ST) (hI : IA σ) (hT : σ.2.2.2 92 = 62)  : OK (f_X4_takeCount 92 62 p0 p1 σ) (RW σ fun v => True) := by
  unfold f_X4_takeCount
  have lt_0 := li_0
  have lt_1 := li_1
  have lFU : ((FU : Nat) : Int) = 100000 := rfl
  refine OK.bndW (k_X4_takeNumber_92_62 _ _ hI (by first | exact hT | (rw [Fr.rf.2.2.2]; exact hT))) Fr.rf (fun v1 s3 is3 fs3 h2 => ?_)
  dsimp only
  refine OK.ilt (fun h4 => ?_) (fun h4 => ?_)
  · skip
    exact OK.trW (k_X4_takeCount_19_92_62 _ _ _ is3 (by first | exact hT | (rw [fs3.2.2.2]; exact hT))) fs3 (fun v hv => by first | trivial | omega | exact hI.flds _ | exact hI.dflds _ | exact hI.recs _ | exact hI.drecs _ | exact hI.droot _ | omega)
  · skip
    refine OK.ile (fun h5 => ?_) (fun h5 => ?_)
    · skip
      exact OK.row (k_X4_takeCount_26_92_62 _ _ is3 (by first | exact hT | (rw [fs3.2.2.2]; exact hT))) is3 fs3 (fun v hv => by first | trivial | omega | exact hI.flds _ | exact hI.dflds _ | exact hI.recs _ | exact hI.drecs _ | exact hI.droot _ | omega)
    · skip
      exact OK.trW (k_X4_takeCount_19_92_62 _ _ _ is3 (by first | exact hT | (rw [fs3.2.2.2]; exact hT))) fs3 (fun v hv => by first | trivial | omega | exact hI.flds _ | exact hI.dflds _ | exact hI.recs _ | exact hI.drecs _ | exact hI.droot _ | omega)

theorem k_X4_takeCount_92_74 (p0 : Int32) (p1 : Int32) (σ : ST) (hI : IA σ) (hT : σ.2.2.2 92 = 74)  : OK (f_X4_takeCount 92 74 p0 p1 σ) (RW σ fun v => True) := by
  unfold f_X4_takeCount
  have lt_0 := li_0
  have lt_1 := li_1
  have lFU : ((FU : Nat) : Int) = 100000 := rfl
  refine OK.bndW (k_X4_takeNumber_92_74 _ _ hI (by first | exact hT | (rw [Fr.rf.2.2.2]; exact hT))) Fr.rf (fun v1 s3 is3 fs3 h2 => ?_)
  dsimp only
  refine OK.ilt (fun h4 => ?_) (fun h4 => ?_)
  · skip
    exact OK.trW (k_X4_takeCount_19_92_74 _ _ _ is3 (by first | exact hT | (rw [fs3.2.2.2]; exact hT))) fs3 (fun v hv => by first | trivial | omega | exact hI.flds _ | exact hI.dflds _ | exact hI.recs _ | exact hI.drecs _ | exact hI.droot _ | omega)
  · skip
    refine OK.ile (fun h5 => ?_) (fun h5 => ?_)
    · skip
      exact OK.row (k_X4_takeCount_26_92_74 _ _ is3 (by first | exact hT | (rw [fs3.2.2.2]; exact hT))) is3 fs3 (fun v hv => by first | trivial | omega | exact hI.flds _ | exact hI.dflds _ | exact hI.recs _ | exact hI.drecs _ | exact hI.droot _ | omega)
    · skip
      exact OK.trW (k_X4_takeCount_19_92_74 _ _ _ is3 (by first | exact hT | (rw [fs3.2.2.2]; exact hT))) fs3 (fun v hv => by first | trivial | omega | exact hI.flds _ | exact hI.dflds _ | exact hI.recs _ | exact hI.drecs _ | exact hI.droot _ | omega)

theorem k_X7_isRow_50 (p0 : Int32) (σ : ST) (hI : IA σ)  : OK (f_X7_isRow 50 p0 σ) (RO σ fun v => v.toInt = 0 ∧ (p0.toInt < 0 ∨ (σ.1 50 1).toInt ≤ p0.toInt) ∨ v.toInt = 1 ∧ 0 ≤ p0.toInt ∧ p0.toInt < (σ.1 50 1).toInt) := by
  unfold f_X7_isRow
  have lt_0 := li_0
  have lt_1 := li_1
  have lFU : ((FU : Nat) : Int) = 100000 := rfl
  have g50 := (hI.t50).1
  have g50b : 0 ≤ (σ.1 50 1).toInt ∧ (σ.1 50 1).toInt ≤ 400 := (hI.t50).2.1
  have g50n : ((ln7 50 : Nat) : Int) = 400 := rfl
  refine OK.ilt (fun h1 => ?_) (fun h1 => ?_)
  · skip
    exact OK.roret (by first | trivial | omega | exact hI.flds _ | exact hI.dflds _ | exact hI.recs _ | exact hI.drecs _ | exact hI.droot _ | omega)
  · skip
    refine OK.ile (fun h2 => ?_) (fun h2 => ?_)
    · skip
      exact OK.roret (by first | trivial | omega | exact hI.flds _ | exact hI.dflds _ | exact hI.recs _ | exact hI.drecs _ | exact hI.droot _ | omega)
    · skip
      refine OK.ile (fun h3 => ?_) (fun h3 => ?_)
      · skip
        exact OK.roret (by first | trivial | omega | exact hI.flds _ | exact hI.dflds _ | exact hI.recs _ | exact hI.drecs _ | exact hI.droot _ | omega)
      · skip
        exact OK.roret (by first | trivial | omega | exact hI.flds _ | exact hI.dflds _ | exact hI.recs _ | exact hI.drecs _ | exact hI.droot _ | omega)

theorem k_X7_isRow_62 (p0 : Int32) (σ : ST) (hI : IA σ)  : OK (f_X7_isRow 62 p0 σ) (RO σ fun v => v.toInt = 0 ∧ (p0.toInt < 0 ∨ (σ.1 62 1).toInt ≤ p0.toInt) ∨ v.toInt = 1 ∧ 0 ≤ p0.toInt ∧ p0.toInt < (σ.1 62 1).toInt) := by
  unfold f_X7_isRow
  have lt_0 := li_0
  have lt_1 := li_1
  have lFU : ((FU : Nat) : Int) = 100000 := rfl
  have g62 := (hI.t62).1
  have g62b : 0 ≤ (σ.1 62 1).toInt ∧ (σ.1 62 1).toInt ≤ 502 := (hI.t62).2.1
  have g62n : ((ln7 62 : Nat) : Int) = 502 := rfl
  refine OK.ilt (fun h1 => ?_) (fun h1 => ?_)
  · skip
    exact OK.roret (by first | trivial | omega | exact hI.flds _ | exact hI.dflds _ | exact hI.recs _ | exact hI.drecs _ | exact hI.droot _ | omega)
  · skip
    refine OK.ile (fun h2 => ?_) (fun h2 => ?_)
    · skip
      exact OK.roret (by first | trivial | omega | exact hI.flds _ | exact hI.dflds _ | exact hI.recs _ | exact hI.drecs _ | exact hI.droot _ | omega)
    · skip
      refine OK.ile (fun h3 => ?_) (fun h3 => ?_)
      · skip
        exact OK.roret (by first | trivial | omega | exact hI.flds _ | exact hI.dflds _ | exact hI.recs _ | exact hI.drecs _ | exact hI.droot _ | omega)
      · skip
        exact OK.roret (by first | trivial | omega | exact hI.flds _ | exact hI.dflds _ | exact hI.recs _ | exact hI.drecs _ | exact hI.droot _ | omega)

theorem k_X7_isRow_74 (p0 : Int32) (σ : ST) (hI : IA σ)  : OK (f_X7_isRow 74 p0 σ) (RO σ fun v => v.toInt = 0 ∧ (p0.toInt < 0 ∨ (σ.1 74 1).toInt ≤ p0.toInt) ∨ v.toInt = 1 ∧ 0 ≤ p0.toInt ∧ p0.toInt < (σ.1 74 1).toInt) := by
  unfold f_X7_isRow
  have lt_0 := li_0
  have lt_1 := li_1
  have lFU : ((FU : Nat) : Int) = 100000 := rfl
  have g74 := (hI.t74).1
  have g74b : 0 ≤ (σ.1 74 1).toInt ∧ (σ.1 74 1).toInt ≤ 400 := (hI.t74).2.1
  have g74n : ((ln7 74 : Nat) : Int) = 400 := rfl
  refine OK.ilt (fun h1 => ?_) (fun h1 => ?_)
  · skip
    exact OK.roret (by first | trivial | omega | exact hI.flds _ | exact hI.dflds _ | exact hI.recs _ | exact hI.drecs _ | exact hI.droot _ | omega)
  · skip
    refine OK.ile (fun h2 => ?_) (fun h2 => ?_)
    · skip
      exact OK.roret (by first | trivial | omega | exact hI.flds _ | exact hI.dflds _ | exact hI.recs _ | exact hI.drecs _ | exact hI.droot _ | omega)
    · skip
      refine OK.ile (fun h3 => ?_) (fun h3 => ?_)
      · skip
        exact OK.roret (by first | trivial | omega | exact hI.flds _ | exact hI.dflds _ | exact hI.recs _ | exact hI.drecs _ | exact hI.droot _ | omega)
      · skip
        exact OK.roret (by first | trivial | omega | exact hI.flds _ | exact hI.dflds _ | exact hI.recs _ | exact hI.drecs _ | exact hI.droot _ | omega)

theorem k_X7_setWorth_50 (p0 : Int32) (p1 : Int32) (p2 : Int64) (σ : ST) (hI : IA σ)  : OK (f_X7_setWorth 50 p0 p1 p2 σ) (RS σ) := by
  unfold f_X7_setWorth
  have lt_0 := li_0
  have lt_1 := li_1
  have lFU : ((FU : Nat) : Int) = 100000 := rfl
  have g50 := (hI.t50).1
  have g50b : 0 ≤ (σ.1 50 1).toInt ∧ (σ.1 50 1).toInt ≤ 400 := (hI.t50).2.1
  have g50n : ((ln7 50 : Nat) : Int) = 400 := rfl
  refine OK.bndR (k_X7_isRow_50 _ _ hI ) (fun v1 h2 => ?_)
  dsimp only
  refine OK.ieq (fun h3 => ?_) (fun h3 => ?_)
  · skip
    exact OK.sret hI Fr.rf
  · skip
    refine OK.grd ⟨by omega, by omega⟩ ?_
    exact OK.sret (ia_L (ia_I_54 hI)) (fr_L (fr_I_54 Fr.rf))

theorem k_X7_setWorth_62 (p0 : Int32) (p1 : Int32) (p2 : Int64) (σ : ST) (hI : IA σ)  : OK (f_X7_setWorth 62 p0 p1 p2 σ) (RS σ) := by
  unfold f_X7_setWorth
  have lt_0 := li_0
  have lt_1 := li_1
  have lFU : ((FU : Nat) : Int) = 100000 := rfl
  have g62 := (hI.t62).1
  have g62b : 0 ≤ (σ.1 62 1).toInt ∧ (σ.1 62 1).toInt ≤ 502 := (hI.t62).2.1
  have g62n : ((ln7 62 : Nat) : Int) = 502 := rfl
  refine OK.bndR (k_X7_isRow_62 _ _ hI ) (fun v1 h2 => ?_)
  dsimp only
  refine OK.ieq (fun h3 => ?_) (fun h3 => ?_)
  · skip
    exact OK.sret hI Fr.rf
  · skip
    refine OK.grd ⟨by omega, by omega⟩ ?_
    exact OK.sret (ia_L (ia_I_66 hI)) (fr_L (fr_I_66 Fr.rf))

theorem k_X7_setWorth_74 (p0 : Int32) (p1 : Int32) (p2 : Int64) (σ : ST) (hI : IA σ)  : OK (f_X7_setWorth 74 p0 p1 p2 σ) (RS σ) := by
  unfold f_X7_setWorth
  have lt_0 := li_0
  have lt_1 := li_1
  have lFU : ((FU : Nat) : Int) = 100000 := rfl
  have g74 := (hI.t74).1
  have g74b : 0 ≤ (σ.1 74 1).toInt ∧ (σ.1 74 1).toInt ≤ 400 := (hI.t74).2.1
  have g74n : ((ln7 74 : Nat) : Int) = 400 := rfl
  refine OK.bndR (k_X7_isRow_74 _ _ hI ) (fun v1 h2 => ?_)
  dsimp only
  refine OK.ieq (fun h3 => ?_) (fun h3 => ?_)
  · skip
    exact OK.sret hI Fr.rf
  · skip
    refine OK.grd ⟨by omega, by omega⟩ ?_
    exact OK.sret (ia_L (ia_I_78 hI)) (fr_L (fr_I_78 Fr.rf))

theorem k_X10_bitsOfPositive_81 (x2 : UInt64) (x4 : Int32) (σ : ST) (hI : IA σ)  : OK (f_X10_bitsOfPositive_81  x2 x4 σ) (RO σ fun v => True) := by
  unfold f_X10_bitsOfPositive_81
  have lt_0 := li_0
  have lt_1 := li_1
  have lt_52 := li_52
  have lt_63 := li_63
  have lFU : ((FU : Nat) : Int) = 100000 := rfl
  exact OK.roret (by first | trivial | omega | exact hI.flds _ | exact hI.dflds _ | exact hI.recs _ | exact hI.drecs _ | exact hI.droot _ | omega)

theorem k_X10_isInt (p0 : Int64) (σ : ST) (hI : IA σ)  : OK (f_X10_isInt  p0 σ) (RO σ fun v => v.toInt = 0 ∨ v.toInt = 1) := by
  unfold f_X10_isInt
  have lt_0 := li_0
  have lt_1 := li_1
  have lFU : ((FU : Nat) : Int) = 100000 := rfl
  refine OK.ilt (fun h1 => ?_) (fun h1 => ?_)
  · skip
    exact OK.roret (by first | trivial | omega | exact hI.flds _ | exact hI.dflds _ | exact hI.recs _ | exact hI.drecs _ | exact hI.droot _ | omega)
  · skip
    refine OK.ilt (fun h2 => ?_) (fun h2 => ?_)
    · skip
      exact OK.roret (by first | trivial | omega | exact hI.flds _ | exact hI.dflds _ | exact hI.recs _ | exact hI.drecs _ | exact hI.droot _ | omega)
    · skip
      exact OK.roret (by first | trivial | omega | exact hI.flds _ | exact hI.dflds _ | exact hI.recs _ | exact hI.drecs _ | exact hI.droot _ | omega)

theorem k_X4_takeLetters_5_89_50 : ∀ (n : Nat) (x1 : Int32) (x2 : Int32) (x3 : Int64) (x5 : Int32) (σ : ST), IA σ → σ.2.2.2 89 = 50 → (0 ≤ x5.toInt ∧ x5.toInt ≤ 12 ∧ (x2.toInt ≤ 12) ∧ (12 : Int) - x5.toInt < n) → OK (f_X4_takeLetters_5 89 50 n x1 x2 x3 x5 σ) (RW σ fun v => True) := by
  intro n
  induction n with
  | zero =>
    intro x1 x2 x3 x5 σ hI hT hv
    omega
  | succ n ih =>
    intro x1 x2 x3 x5 σ hI hT hv
    rw [f_X4_takeLetters_5]
    have lt_0 := li_0
    have lt_1 := li_1
    have lt_97 := li_97
    have lt_122 := li_122
    have lFU : ((FU : Nat) : Int) = 100000 := rfl
    refine OK.ile (fun h1 => ?_) (fun h1 => ?_)
    · skip
      exact OK.wret hI Fr.rf (by first | trivial | omega | exact hI.flds _ | exact hI.dflds _ | exact hI.recs _ | exact hI.drecs _ | exact hI.droot _ | omega)
    · skip
      refine OK.ieq (fun h2 => ?_) (fun h2 => ?_)
      · skip
        refine OK.bndW (k_X4_takeByte_89_50 _ hI (by first | exact hT | (rw [Fr.rf.2.2.2]; exact hT))) Fr.rf (fun v3 s5 is5 fs5 h4 => ?_)
        dsimp only
        refine OK.ilt (fun h6 => ?_) (fun h6 => ?_)
        · skip
          unfold f_X4_takeLetters_38
          try dsimp only
          refine OK.bndS (k_X4_fail_89_50 _ _ _ is5 (by first | exact hT | (rw [fs5.2.2.2]; exact hT))) fs5 (fun s7 is7 fs7 => ?_)
          try dsimp only
          unfold f_X4_takeLetters_45
          try dsimp only
          refine OK.lt (fun w8 _ => ?_)
          obtain ⟨a9k, a9, a9l, a9r⟩ := i_add x5 1
          try (refine k0el (k := a9k) ?_ (fun e0 => ?_); (focus omega); subst e0)
          exact OK.trW (ih _ _ _ _ _ is7 (by first | exact hT | (rw [fs7.2.2.2]; exact hT)) (by omega)) fs7 (fun v hv => by first | trivial | omega | exact hI.flds _ | exact hI.dflds _ | exact hI.recs _ | exact hI.drecs _ | exact hI.droot _ | omega)
        · skip
          refine OK.ile (fun h10 => ?_) (fun h10 => ?_)
          · skip
            unfold f_X4_takeLetters_45
            try dsimp only
            refine OK.lt (fun w11 _ => ?_)
            obtain ⟨a12k, a12, a12l, a12r⟩ := i_add x5 1
            try (refine k0el (k := a12k) ?_ (fun e0 => ?_); (focus omega); subst e0)
            exact OK.trW (ih _ _ _ _ _ is5 (by first | exact hT | (rw [fs5.2.2.2]; exact hT)) (by omega)) fs5 (fun v hv => by first | trivial | omega | exact hI.flds _ | exact hI.dflds _ | exact hI.recs _ | exact hI.drecs _ | exact hI.droot _ | omega)
          · skip
            unfold f_X4_takeLetters_38
            try dsimp only
            refine OK.bndS (k_X4_fail_89_50 _ _ _ is5 (by first | exact hT | (rw [fs5.2.2.2]; exact hT))) fs5 (fun s13 is13 fs13 => ?_)
            try dsimp only
            unfold f_X4_takeLetters_45
            try dsimp only
            refine OK.lt (fun w14 _ => ?_)
            obtain ⟨a15k, a15, a15l, a15r⟩ := i_add x5 1
            try (refine k0el (k := a15k) ?_ (fun e0 => ?_); (focus omega); subst e0)
            exact OK.trW (ih _ _ _ _ _ is13 (by first | exact hT | (rw [fs13.2.2.2]; exact hT)) (by omega)) fs13 (fun v hv => by first | trivial | omega | exact hI.flds _ | exact hI.dflds _ | exact hI.recs _ | exact hI.drecs _ | exact hI.droot _ | omega)
      · skip
        exact OK.wret hI Fr.rf (by first | trivial | omega | exact hI.flds _ | exact hI.dflds _ | exact hI.recs _ | exact hI.drecs _ | exact hI.droot _ | omega)

theorem k_X4_takeLetters_5_92_62 : ∀ (n : Nat) (x1 : Int32) (x2 : Int32) (x3 : Int64) (x5 : Int32) (σ : ST), IA σ → σ.2.2.2 92 = 62 → (0 ≤ x5.toInt ∧ x5.toInt ≤ 12 ∧ (x2.toInt ≤ 12) ∧ (12 : Int) - x5.toInt < n) → OK (f_X4_takeLetters_5 92 62 n x1 x2 x3 x5 σ) (RW σ fun v => True) := by
  intro n
  induction n with
  | zero =>
    intro x1 x2 x3 x5 σ hI hT hv
    omega
  | succ n ih =>
    intro x1 x2 x3 x5 σ hI hT hv
    rw [f_X4_takeLetters_5]
    have lt_0 := li_0
    have lt_1 := li_1
    have lt_97 := li_97
    have lt_122 := li_122
    have lFU : ((FU : Nat) : Int) = 100000 := rfl
    refine OK.ile (fun h1 => ?_) (fun h1 => ?_)
    · skip
      exact OK.wret hI Fr.rf (by first | trivial | omega | exact hI.flds _ | exact hI.dflds _ | exact hI.recs _ | exact hI.drecs _ | exact hI.droot _ | omega)
    · skip
      refine OK.ieq (fun h2 => ?_) (fun h2 => ?_)
      · skip
        refine OK.bndW (k_X4_takeByte_92_62 _ hI (by first | exact hT | (rw [Fr.rf.2.2.2]; exact hT))) Fr.rf (fun v3 s5 is5 fs5 h4 => ?_)
        dsimp only
        refine OK.ilt (fun h6 => ?_) (fun h6 => ?_)
        · skip
          unfold f_X4_takeLetters_38
          try dsimp only
          refine OK.bndS (k_X4_fail_92_62 _ _ _ is5 (by first | exact hT | (rw [fs5.2.2.2]; exact hT))) fs5 (fun s7 is7 fs7 => ?_)
          try dsimp only
          unfold f_X4_takeLetters_45
          try dsimp only
          refine OK.lt (fun w8 _ => ?_)
          obtain ⟨a9k, a9, a9l, a9r⟩ := i_add x5 1
          try (refine k0el (k := a9k) ?_ (fun e0 => ?_); (focus omega); subst e0)
          exact OK.trW (ih _ _ _ _ _ is7 (by first | exact hT | (rw [fs7.2.2.2]; exact hT)) (by omega)) fs7 (fun v hv => by first | trivial | omega | exact hI.flds _ | exact hI.dflds _ | exact hI.recs _ | exact hI.drecs _ | exact hI.droot _ | omega)
        · skip
          refine OK.ile (fun h10 => ?_) (fun h10 => ?_)
          · skip
            unfold f_X4_takeLetters_45
            try dsimp only
            refine OK.lt (fun w11 _ => ?_)
            obtain ⟨a12k, a12, a12l, a12r⟩ := i_add x5 1
            try (refine k0el (k := a12k) ?_ (fun e0 => ?_); (focus omega); subst e0)
            exact OK.trW (ih _ _ _ _ _ is5 (by first | exact hT | (rw [fs5.2.2.2]; exact hT)) (by omega)) fs5 (fun v hv => by first | trivial | omega | exact hI.flds _ | exact hI.dflds _ | exact hI.recs _ | exact hI.drecs _ | exact hI.droot _ | omega)
          · skip
            unfold f_X4_takeLetters_38
            try dsimp only
            refine OK.bndS (k_X4_fail_92_62 _ _ _ is5 (by first | exact hT | (rw [fs5.2.2.2]; exact hT))) fs5 (fun s13 is13 fs13 => ?_)
            try dsimp only
            unfold f_X4_takeLetters_45
            try dsimp only
            refine OK.lt (fun w14 _ => ?_)
            obtain ⟨a15k, a15, a15l, a15r⟩ := i_add x5 1
            try (refine k0el (k := a15k) ?_ (fun e0 => ?_); (focus omega); subst e0)
            exact OK.trW (ih _ _ _ _ _ is13 (by first | exact hT | (rw [fs13.2.2.2]; exact hT)) (by omega)) fs13 (fun v hv => by first | trivial | omega | exact hI.flds _ | exact hI.dflds _ | exact hI.recs _ | exact hI.drecs _ | exact hI.droot _ | omega)
      · skip
        exact OK.wret hI Fr.rf (by first | trivial | omega | exact hI.flds _ | exact hI.dflds _ | exact hI.recs _ | exact hI.drecs _ | exact hI.droot _ | omega)

theorem k_X4_takeLetters_5_92_74 : ∀ (n : Nat) (x1 : Int32) (x2 : Int32) (x3 : Int64) (x5 : Int32) (σ : ST), IA σ → σ.2.2.2 92 = 74 → (0 ≤ x5.toInt ∧ x5.toInt ≤ 12 ∧ (x2.toInt ≤ 12) ∧ (12 : Int) - x5.toInt < n) → OK (f_X4_takeLetters_5 92 74 n x1 x2 x3 x5 σ) (RW σ fun v => True) := by
  intro n
  induction n with
  | zero =>
    intro x1 x2 x3 x5 σ hI hT hv
    omega
  | succ n ih =>
    intro x1 x2 x3 x5 σ hI hT hv
    rw [f_X4_takeLetters_5]
    have lt_0 := li_0
    have lt_1 := li_1
    have lt_97 := li_97
    have lt_122 := li_122
    have lFU : ((FU : Nat) : Int) = 100000 := rfl
    refine OK.ile (fun h1 => ?_) (fun h1 => ?_)
    · skip
      exact OK.wret hI Fr.rf (by first | trivial | omega | exact hI.flds _ | exact hI.dflds _ | exact hI.recs _ | exact hI.drecs _ | exact hI.droot _ | omega)
    · skip
      refine OK.ieq (fun h2 => ?_) (fun h2 => ?_)
      · skip
        refine OK.bndW (k_X4_takeByte_92_74 _ hI (by first | exact hT | (rw [Fr.rf.2.2.2]; exact hT))) Fr.rf (fun v3 s5 is5 fs5 h4 => ?_)
        dsimp only
        refine OK.ilt (fun h6 => ?_) (fun h6 => ?_)
        · skip
          unfold f_X4_takeLetters_38
          try dsimp only
          refine OK.bndS (k_X4_fail_92_74 _ _ _ is5 (by first | exact hT | (rw [fs5.2.2.2]; exact hT))) fs5 (fun s7 is7 fs7 => ?_)
          try dsimp only
          unfold f_X4_takeLetters_45
          try dsimp only
          refine OK.lt (fun w8 _ => ?_)
          obtain ⟨a9k, a9, a9l, a9r⟩ := i_add x5 1
          try (refine k0el (k := a9k) ?_ (fun e0 => ?_); (focus omega); subst e0)
          exact OK.trW (ih _ _ _ _ _ is7 (by first | exact hT | (rw [fs7.2.2.2]; exact hT)) (by omega)) fs7 (fun v hv => by first | trivial | omega | exact hI.flds _ | exact hI.dflds _ | exact hI.recs _ | exact hI.drecs _ | exact hI.droot _ | omega)
        · skip
          refine OK.ile (fun h10 => ?_) (fun h10 => ?_)
          · skip
            unfold f_X4_takeLetters_45
            try dsimp only
            refine OK.lt (fun w11 _ => ?_)
            obtain ⟨a12k, a12, a12l, a12r⟩ := i_add x5 1
            try (refine k0el (k := a12k) ?_ (fun e0 => ?_); (focus omega); subst e0)
            exact OK.trW (ih _ _ _ _ _ is5 (by first | exact hT | (rw [fs5.2.2.2]; exact hT)) (by omega)) fs5 (fun v hv => by first | trivial | omega | exact hI.flds _ | exact hI.dflds _ | exact hI.recs _ | exact hI.drecs _ | exact hI.droot _ | omega)
          · skip
            unfold f_X4_takeLetters_38
            try dsimp only
            refine OK.bndS (k_X4_fail_92_74 _ _ _ is5 (by first | exact hT | (rw [fs5.2.2.2]; exact hT))) fs5 (fun s13 is13 fs13 => ?_)
            try dsimp only
            unfold f_X4_takeLetters_45
            try dsimp only
            refine OK.lt (fun w14 _ => ?_)
            obtain ⟨a15k, a15, a15l, a15r⟩ := i_add x5 1
            try (refine k0el (k := a15k) ?_ (fun e0 => ?_); (focus omega); subst e0)
            exact OK.trW (ih _ _ _ _ _ is13 (by first | exact hT | (rw [fs13.2.2.2]; exact hT)) (by omega)) fs13 (fun v hv => by first | trivial | omega | exact hI.flds _ | exact hI.dflds _ | exact hI.recs _ | exact hI.drecs _ | exact hI.droot _ | omega)
      · skip
        exact OK.wret hI Fr.rf (by first | trivial | omega | exact hI.flds _ | exact hI.dflds _ | exact hI.recs _ | exact hI.drecs _ | exact hI.droot _ | omega)

theorem k_X4_takeLetters_89_50 (p0 : Int32) (p1 : Int32) (σ : ST) (hI : IA σ) (hT : σ.2.2.2 89 = 50) (hp0 : p1.toInt ≤ 12)  : OK (f_X4_takeLetters 89 50 p0 p1 σ) (RW σ fun v => True) := by
  unfold f_X4_takeLetters
  have lt_0 := li_0
  have lt_1 := li_1
  have lFU : ((FU : Nat) : Int) = 100000 := rfl
  exact OK.trW (k_X4_takeLetters_5_89_50 FU _ _ _ _ _ hI (by first | exact hT | (rw [Fr.rf.2.2.2]; exact hT)) (by omega)) Fr.rf (fun v hv => by first | trivial | omega | exact hI.flds _ | exact hI.dflds _ | exact hI.recs _ | exact hI.drecs _ | exact hI.droot _ | omega)

theorem k_X4_takeLetters_92_62 (p0 : Int32) (p1 : Int32) (σ : ST) (hI : IA σ) (hT : σ.2.2.2 92 = 62) (hp0 : p1.toInt ≤ 12)  : OK (f_X4_takeLetters 92 62 p0 p1 σ) (RW σ fun v => True) := by
  unfold f_X4_takeLetters
  have lt_0 := li_0
  have lt_1 := li_1
  have lFU : ((FU : Nat) : Int) = 100000 := rfl
  exact OK.trW (k_X4_takeLetters_5_92_62 FU _ _ _ _ _ hI (by first | exact hT | (rw [Fr.rf.2.2.2]; exact hT)) (by omega)) Fr.rf (fun v hv => by first | trivial | omega | exact hI.flds _ | exact hI.dflds _ | exact hI.recs _ | exact hI.drecs _ | exact hI.droot _ | omega)

theorem k_X4_takeLetters_92_74 (p0 : Int32) (p1 : Int32) (σ : ST) (hI : IA σ) (hT : σ.2.2.2 92 = 74) (hp0 : p1.toInt ≤ 12)  : OK (f_X4_takeLetters 92 74 p0 p1 σ) (RW σ fun v => True) := by
  unfold f_X4_takeLetters
  have lt_0 := li_0
  have lt_1 := li_1
  have lFU : ((FU : Nat) : Int) = 100000 := rfl
  exact OK.trW (k_X4_takeLetters_5_92_74 FU _ _ _ _ _ hI (by first | exact hT | (rw [Fr.rf.2.2.2]; exact hT)) (by omega)) Fr.rf (fun v hv => by first | trivial | omega | exact hI.flds _ | exact hI.dflds _ | exact hI.recs _ | exact hI.drecs _ | exact hI.droot _ | omega)

theorem k_X4_takeReal_44_89_50 (x1 : Int64) (y0 : Int32) (σ : ST) (hI : IA σ) (hT : σ.2.2.2 89 = 50)  : OK (f_X4_takeReal_44 89 50 x1 y0 σ) (RO σ fun v => True) := by
  unfold f_X4_takeReal_44
  have lt_0 := li_0
  have lt_1 := li_1
  have lFU : ((FU : Nat) : Int) = 100000 := rfl
  refine OK.ieq (fun h1 => ?_) (fun h1 => ?_)
  · skip
    exact OK.roret (by first | trivial | omega | exact hI.flds _ | exact hI.dflds _ | exact hI.recs _ | exact hI.drecs _ | exact hI.droot _ | omega)
  · skip
    exact OK.roret (by first | trivial | omega | exact hI.flds _ | exact hI.dflds _ | exact hI.recs _ | exact hI.drecs _ | exact hI.droot _ | omega)

theorem k_X4_takeReal_44_92_62 (x1 : Int64) (y0 : Int32) (σ : ST) (hI : IA σ) (hT : σ.2.2.2 92 = 62)  : OK (f_X4_takeReal_44 92 62 x1 y0 σ) (RO σ fun v => True) := by
  unfold f_X4_takeReal_44
  have lt_0 := li_0
  have lt_1 := li_1
  have lFU : ((FU : Nat) : Int) = 100000 := rfl
  refine OK.ieq (fun h1 => ?_) (fun h1 => ?_)
  · skip
    exact OK.roret (by first | trivial | omega | exact hI.flds _ | exact hI.dflds _ | exact hI.recs _ | exact hI.drecs _ | exact hI.droot _ | omega)
  · skip
    exact OK.roret (by first | trivial | omega | exact hI.flds _ | exact hI.dflds _ | exact hI.recs _ | exact hI.drecs _ | exact hI.droot _ | omega)

theorem k_X4_takeReal_44_92_74 (x1 : Int64) (y0 : Int32) (σ : ST) (hI : IA σ) (hT : σ.2.2.2 92 = 74)  : OK (f_X4_takeReal_44 92 74 x1 y0 σ) (RO σ fun v => True) := by
  unfold f_X4_takeReal_44
  have lt_0 := li_0
  have lt_1 := li_1
  have lFU : ((FU : Nat) : Int) = 100000 := rfl
  refine OK.ieq (fun h1 => ?_) (fun h1 => ?_)
  · skip
    exact OK.roret (by first | trivial | omega | exact hI.flds _ | exact hI.dflds _ | exact hI.recs _ | exact hI.drecs _ | exact hI.droot _ | omega)
  · skip
    exact OK.roret (by first | trivial | omega | exact hI.flds _ | exact hI.dflds _ | exact hI.recs _ | exact hI.drecs _ | exact hI.droot _ | omega)

theorem k_X4_takeReal_4_89_50 : ∀ (n : Nat) (x1 : Int64) (x3 : Int32) (σ : ST), IA σ → σ.2.2.2 89 = 50 → (0 ≤ x3.toInt ∧ x3.toInt ≤ 8 ∧ (8 : Int) - x3.toInt < n) → OK (f_X4_takeReal_4 89 50 n x1 x3 σ) (RW σ fun v => True) := by
  intro n
  induction n with
  | zero =>
    intro x1 x3 σ hI hT hv
    omega
  | succ n ih =>
    intro x1 x3 σ hI hT hv
    rw [f_X4_takeReal_4]
    have lt_0 := li_0
    have lt_1 := li_1
    have lt_8 := li_8
    have lFU : ((FU : Nat) : Int) = 100000 := rfl
    refine OK.ile (fun h1 => ?_) (fun h1 => ?_)
    · skip
      refine OK.ile (fun h2 => ?_) (fun h2 => ?_)
      · skip
        exact OK.row (k_X4_takeReal_44_89_50 _ _ _ hI (by first | exact hT | (rw [Fr.rf.2.2.2]; exact hT))) hI Fr.rf (fun v hv => by first | trivial | omega | exact hI.flds _ | exact hI.dflds _ | exact hI.recs _ | exact hI.drecs _ | exact hI.droot _ | omega)
      · skip
        exact OK.row (k_X4_takeReal_44_89_50 _ _ _ hI (by first | exact hT | (rw [Fr.rf.2.2.2]; exact hT))) hI Fr.rf (fun v hv => by first | trivial | omega | exact hI.flds _ | exact hI.dflds _ | exact hI.recs _ | exact hI.drecs _ | exact hI.droot _ | omega)
    · skip
      refine OK.bndW (k_X4_takeByte_89_50 _ hI (by first | exact hT | (rw [Fr.rf.2.2.2]; exact hT))) Fr.rf (fun v3 s5 is5 fs5 h4 => ?_)
      dsimp only
      obtain ⟨a6k, a6, a6l, a6r⟩ := i_add x3 1
      try (refine k0el (k := a6k) ?_ (fun e0 => ?_); (focus omega); subst e0)
      exact OK.trW (ih _ _ _ is5 (by first | exact hT | (rw [fs5.2.2.2]; exact hT)) (by omega)) fs5 (fun v hv => by first | trivial | omega | exact hI.flds _ | exact hI.dflds _ | exact hI.recs _ | exact hI.drecs _ | exact hI.droot _ | omega)

theorem k_X4_takeReal_4_92_62 : ∀ (n : Nat) (x1 : Int64) (x3 : Int32) (σ : ST), IA σ → σ.2.2.2 92 = 62 → (0 ≤ x3.toInt ∧ x3.toInt ≤ 8 ∧ (8 : Int) - x3.toInt < n) → OK (f_X4_takeReal_4 92 62 n x1 x3 σ) (RW σ fun v => True) := by
  intro n
  induction n with
  | zero =>
    intro x1 x3 σ hI hT hv
    omega
  | succ n ih =>
    intro x1 x3 σ hI hT hv
    rw [f_X4_takeReal_4]
    have lt_0 := li_0
    have lt_1 := li_1
    have lt_8 := li_8
    have lFU : ((FU : Nat) : Int) = 100000 := rfl
    refine OK.ile (fun h1 => ?_) (fun h1 => ?_)
    · skip
      refine OK.ile (fun h2 => ?_) (fun h2 => ?_)
      · skip
        exact OK.row (k_X4_takeReal_44_92_62 _ _ _ hI (by first | exact hT | (rw [Fr.rf.2.2.2]; exact hT))) hI Fr.rf (fun v hv => by first | trivial | omega | exact hI.flds _ | exact hI.dflds _ | exact hI.recs _ | exact hI.drecs _ | exact hI.droot _ | omega)
      · skip
        exact OK.row (k_X4_takeReal_44_92_62 _ _ _ hI (by first | exact hT | (rw [Fr.rf.2.2.2]; exact hT))) hI Fr.rf (fun v hv => by first | trivial | omega | exact hI.flds _ | exact hI.dflds _ | exact hI.recs _ | exact hI.drecs _ | exact hI.droot _ | omega)
    · skip
      refine OK.bndW (k_X4_takeByte_92_62 _ hI (by first | exact hT | (rw [Fr.rf.2.2.2]; exact hT))) Fr.rf (fun v3 s5 is5 fs5 h4 => ?_)
      dsimp only
      obtain ⟨a6k, a6, a6l, a6r⟩ := i_add x3 1
      try (refine k0el (k := a6k) ?_ (fun e0 => ?_); (focus omega); subst e0)
      exact OK.trW (ih _ _ _ is5 (by first | exact hT | (rw [fs5.2.2.2]; exact hT)) (by omega)) fs5 (fun v hv => by first | trivial | omega | exact hI.flds _ | exact hI.dflds _ | exact hI.recs _ | exact hI.drecs _ | exact hI.droot _ | omega)

theorem k_X4_takeReal_4_92_74 : ∀ (n : Nat) (x1 : Int64) (x3 : Int32) (σ : ST), IA σ → σ.2.2.2 92 = 74 → (0 ≤ x3.toInt ∧ x3.toInt ≤ 8 ∧ (8 : Int) - x3.toInt < n) → OK (f_X4_takeReal_4 92 74 n x1 x3 σ) (RW σ fun v => True) := by
  intro n
  induction n with
  | zero =>
    intro x1 x3 σ hI hT hv
    omega
  | succ n ih =>
    intro x1 x3 σ hI hT hv
    rw [f_X4_takeReal_4]
    have lt_0 := li_0
    have lt_1 := li_1
    have lt_8 := li_8
    have lFU : ((FU : Nat) : Int) = 100000 := rfl
    refine OK.ile (fun h1 => ?_) (fun h1 => ?_)
    · skip
      refine OK.ile (fun h2 => ?_) (fun h2 => ?_)
      · skip
        exact OK.row (k_X4_takeReal_44_92_74 _ _ _ hI (by first | exact hT | (rw [Fr.rf.2.2.2]; exact hT))) hI Fr.rf (fun v hv => by first | trivial | omega | exact hI.flds _ | exact hI.dflds _ | exact hI.recs _ | exact hI.drecs _ | exact hI.droot _ | omega)
      · skip
        exact OK.row (k_X4_takeReal_44_92_74 _ _ _ hI (by first | exact hT | (rw [Fr.rf.2.2.2]; exact hT))) hI Fr.rf (fun v hv => by first | trivial | omega | exact hI.flds _ | exact hI.dflds _ | exact hI.recs _ | exact hI.drecs _ | exact hI.droot _ | omega)
    · skip
      refine OK.bndW (k_X4_takeByte_92_74 _ hI (by first | exact hT | (rw [Fr.rf.2.2.2]; exact hT))) Fr.rf (fun v3 s5 is5 fs5 h4 => ?_)
      dsimp only
      obtain ⟨a6k, a6, a6l, a6r⟩ := i_add x3 1
      try (refine k0el (k := a6k) ?_ (fun e0 => ?_); (focus omega); subst e0)
      exact OK.trW (ih _ _ _ is5 (by first | exact hT | (rw [fs5.2.2.2]; exact hT)) (by omega)) fs5 (fun v hv => by first | trivial | omega | exact hI.flds _ | exact hI.dflds _ | exact hI.recs _ | exact hI.drecs _ | exact hI.droot _ | omega)

theorem k_X4_takeReal_89_50 (σ : ST) (hI : IA σ) (hT : σ.2.2.2 89 = 50)  : OK (f_X4_takeReal 89 50 σ) (RW σ fun v => True) := by
  unfold f_X4_takeReal
  have lt_0 := li_0
  have lt_1 := li_1
  have lFU : ((FU : Nat) : Int) = 100000 := rfl
  exact OK.trW (k_X4_takeReal_4_89_50 FU _ _ _ hI (by first | exact hT | (rw [Fr.rf.2.2.2]; exact hT)) (by omega)) Fr.rf (fun v hv => by first | trivial | omega | exact hI.flds _ | exact hI.dflds _ | exact hI.recs _ | exact hI.drecs _ | exact hI.droot _ | omega)

theorem k_X4_takeReal_92_62 (σ : ST) (hI : IA σ) (hT : σ.2.2.2 92 = 62)  : OK (f_X4_takeReal 92 62 σ) (RW σ fun v => True) := by
  unfold f_X4_takeReal
  have lt_0 := li_0
  have lt_1 := li_1
  have lFU : ((FU : Nat) : Int) = 100000 := rfl
  exact OK.trW (k_X4_takeReal_4_92_62 FU _ _ _ hI (by first | exact hT | (rw [Fr.rf.2.2.2]; exact hT)) (by omega)) Fr.rf (fun v hv => by first | trivial | omega | exact hI.flds _ | exact hI.dflds _ | exact hI.recs _ | exact hI.drecs _ | exact hI.droot _ | omega)

theorem k_X4_takeReal_92_74 (σ : ST) (hI : IA σ) (hT : σ.2.2.2 92 = 74)  : OK (f_X4_takeReal 92 74 σ) (RW σ fun v => True) := by
  unfold f_X4_takeReal
  have lt_0 := li_0
  have lt_1 := li_1
  have lFU : ((FU : Nat) : Int) = 100000 := rfl
  exact OK.trW (k_X4_takeReal_4_92_74 FU _ _ _ hI (by first | exact hT | (rw [Fr.rf.2.2.2]; exact hT)) (by omega)) Fr.rf (fun v hv => by first | trivial | omega | exact hI.flds _ | exact hI.dflds _ | exact hI.recs _ | exact hI.drecs _ | exact hI.droot _ | omega)

theorem k_X10_letterOf_10 (σ : ST) (hI : IA σ)  : OK (f_X10_letterOf_10  σ) (RO σ fun v => v.toInt = 0 ∨ v.toInt = 1) := by
  unfold f_X10_letterOf_10
  have lt_0 := li_0
  have lt_1 := li_1
  have lFU : ((FU : Nat) : Int) = 100000 := rfl
  exact OK.roret (by first | trivial | omega | exact hI.flds _ | exact hI.dflds _ | exact hI.recs _ | exact hI.drecs _ | exact hI.droot _ | omega)

theorem k_X10_letterOf (p0 : Int64) (p1 : Int32) (σ : ST) (hI : IA σ)  : OK (f_X10_letterOf  p0 p1 σ) (RO σ fun v => True) := by
  unfold f_X10_letterOf
  have lt_0 := li_0
  have lt_1 := li_1
  have lt_5 := li_5
  have lt_12 := li_12
  have lt_31 := li_31
  have lt_63 := li_63
  have lFU : ((FU : Nat) : Int) = 100000 := rfl
  refine OK.ilt (fun h1 => ?_) (fun h1 => ?_)
  · skip
    exact OK.roq (k_X10_letterOf_10 _ hI ) (fun v hv => by first | trivial | omega | exact hI.flds _ | exact hI.dflds _ | exact hI.recs _ | exact hI.drecs _ | exact hI.droot _ | omega)
  · skip
    refine OK.ilt (fun h2 => ?_) (fun h2 => ?_)
    · skip
      exact OK.roret (by first | trivial | omega | exact hI.flds _ | exact hI.dflds _ | exact hI.recs _ | exact hI.drecs _ | exact hI.droot _ | omega)
    · skip
      exact OK.roq (k_X10_letterOf_10 _ hI ) (fun v hv => by first | trivial | omega | exact hI.flds _ | exact hI.dflds _ | exact hI.recs _ | exact hI.drecs _ | exact hI.droot _ | omega)

theorem k_X10_lettersIn_2 : ∀ (n : Nat) (x0 : Int64) (x2 : Int32) (σ : ST), IA σ → (0 ≤ x2.toInt ∧ x2.toInt ≤ 12 ∧ (12 : Int) - x2.toInt < n) → OK (f_X10_lettersIn_2  n x0 x2 σ) (RO σ fun v => 0 ≤ v.toInt ∧ v.toInt ≤ 12) := by
  intro n
  induction n with
  | zero =>
    intro x0 x2 σ hI hv
    omega
  | succ n ih =>
    intro x0 x2 σ hI hv
    rw [f_X10_lettersIn_2]
    have lt_0 := li_0
    have lt_1 := li_1
    have lt_12 := li_12
    have lFU : ((FU : Nat) : Int) = 100000 := rfl
    refine OK.ile (fun h1 => ?_) (fun h1 => ?_)
    · skip
      exact OK.roret (by first | trivial | omega | exact hI.flds _ | exact hI.dflds _ | exact hI.recs _ | exact hI.drecs _ | exact hI.droot _ | omega)
    · skip
      refine OK.bndR (k_X10_letterOf _ _ _ hI ) (fun v2 h3 => ?_)
      dsimp only
      refine OK.ieq (fun h4 => ?_) (fun h4 => ?_)
      · skip
        exact OK.roret (by first | trivial | omega | exact hI.flds _ | exact hI.dflds _ | exact hI.recs _ | exact hI.drecs _ | exact hI.droot _ | omega)
      · skip
        obtain ⟨a5k, a5, a5l, a5r⟩ := i_add x2 1
        try (refine k0el (k := a5k) ?_ (fun e0 => ?_); (focus omega); subst e0)
        exact OK.roq (ih _ _ _ hI (by omega)) (fun v hv => by first | trivial | omega | exact hI.flds _ | exact hI.dflds _ | exact hI.recs _ | exact hI.drecs _ | exact hI.droot _ | omega)
