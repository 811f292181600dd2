theorem k_X4_addNode_92_74 (p0 : Int32) (p1 : Int32) (p2 : Int32) (p3 : Int32) (p4 : Int64) (σ : ST) (hI : IA σ) (hT : σ.2.2.2 92 = 74)  : OK (f_X4_addNode 92 74 p0 p1 p2 p3 p4 σ) (RW σ fun v => True) := by
  unfold f_X4_addNode
  have lt_m1 := li_m1
  have lt_0 := li_0
  have lt_1 := li_1
  have lt_15 := li_15
  have lt_400 := li_400
  have lFU : ((FU : Nat) : Int) = 100000 := rfl
  refine OK.ieq (fun h1 => ?_) (fun h1 => ?_)
  · skip
    exact OK.wret hI Fr.rf (by first | trivial | omega | exact hI.flds _ | exact hI.dflds _ | exact hI.recs _ | exact hI.drecs _ | exact hI.droot _ | omega)
  · skip
    refine OK.ieq (fun h2 => ?_) (fun h2 => ?_)
    · skip
      refine OK.grd (by first | exact hT | (rw [Fr.rf.2.2.2]; exact hT)) ?_
      refine OK.ile (fun h3 => ?_) (fun h3 => ?_)
      · skip
        unfold f_X4_addNode_48
        try dsimp only
        refine OK.ieq (fun h4 => ?_) (fun h4 => ?_)
        · skip
          refine OK.bndS (k_X4_fail_92_74 _ _ _ hI (by first | exact hT | exact hI.r89 | (rw [Fr.rf.2.2.2]; exact hT))) Fr.rf (fun s5 is5 fs5 => ?_)
          try dsimp only
          unfold f_X4_addNode_63
          try dsimp only
          refine OK.grd (by first | exact hT | (rw [fs5.2.2.2]; exact hT)) ?_
          refine OK.bndS (k_X7_setWorth_74 _ _ _ _ is5 ) fs5 (fun s6 is6 fs6 => ?_)
          try dsimp only
          exact OK.wret is6 fs6 (by first | trivial | omega | exact hI.flds _ | exact hI.dflds _ | exact hI.recs _ | exact hI.drecs _ | exact hI.droot _ | omega)
        · skip
          unfold f_X4_addNode_63
          try dsimp only
          refine OK.grd (by first | exact hT | (rw [Fr.rf.2.2.2]; exact hT)) ?_
          refine OK.bndS (k_X7_setWorth_74 _ _ _ _ hI ) Fr.rf (fun s7 is7 fs7 => ?_)
          try dsimp only
          exact OK.wret is7 fs7 (by first | trivial | omega | exact hI.flds _ | exact hI.dflds _ | exact hI.recs _ | exact hI.drecs _ | exact hI.droot _ | omega)
      · skip
        refine OK.bndR (k_X5_sortOf_4 _ _ hI ) (fun v8 h9 => ?_)
        dsimp only
        refine OK.bndW (k_X7_grow_74 _ _ _ _ hI ) Fr.rf (fun v10 s12 is12 fs12 h11 => ?_)
        dsimp only
        unfold f_X4_addNode_48
        try dsimp only
        refine OK.ieq (fun h13 => ?_) (fun h13 => ?_)
        · skip
          refine OK.bndS (k_X4_fail_92_74 _ _ _ is12 (by first | exact hT | exact hI.r89 | (rw [fs12.2.2.2]; exact hT))) fs12 (fun s14 is14 fs14 => ?_)
          try dsimp only
          unfold f_X4_addNode_63
          try dsimp only
          refine OK.grd (by first | exact hT | (rw [fs14.2.2.2]; exact hT)) ?_
          refine OK.bndS (k_X7_setWorth_74 _ _ _ _ is14 ) fs14 (fun s15 is15 fs15 => ?_)
          try dsimp only
          exact OK.wret is15 fs15 (by first | trivial | omega | exact hI.flds _ | exact hI.dflds _ | exact hI.recs _ | exact hI.drecs _ | exact hI.droot _ | omega)
        · skip
          unfold f_X4_addNode_63
          try dsimp only
          refine OK.grd (by first | exact hT | (rw [fs12.2.2.2]; exact hT)) ?_
          refine OK.bndS (k_X7_setWorth_74 _ _ _ _ is12 ) fs12 (fun s16 is16 fs16 => ?_)
          try dsimp only
          exact OK.wret is16 fs16 (by first | trivial | omega | exact hI.flds _ | exact hI.dflds _ | exact hI.recs _ | exact hI.drecs _ | exact hI.droot _ | omega)
    · skip
      exact OK.wret hI Fr.rf (by first | trivial | omega | exact hI.flds _ | exact hI.dflds _ | exact hI.recs _ | exact hI.drecs _ | exact hI.droot _ | omega)

theorem k_X10_bitsOfPositive_81 (x2 : UInt64) (x4 : Int32) (σ : ST) (hI : IA σ)  : OK (f_X10_bitsOfPositive_81  x2 x4 σ) (RO σ fun v => True) := by
  unfold f_X10_bitsOfPositive_81
  have lt_0 := li_0
  have lt_1 := li_1
  have lt_52 := li_52
  have lt_63 := li_63
  have lFU : ((FU : Nat) : Int) = 100000 := rfl
  exact OK.roret (by first | trivial | omega | exact hI.flds _ | exact hI.dflds _ | exact hI.recs _ | exact hI.drecs _ | exact hI.droot _ | omega)

theorem fp2_fin : FP.Core.DFin 4611686018427387904 := (FP.Core.fin_bits _).mpr (by decide)
theorem fp2_nz : ¬ FP.Core.DZero 4611686018427387904 := fun h => absurd ((FP.Core.zero_bits2 _).mp h) (by decide)
theorem fp10_fin : FP.Core.DFin 4621819117588971520 := (FP.Core.fin_bits _).mpr (by decide)
theorem fp10_nz : ¬ FP.Core.DZero 4621819117588971520 := fun h => absurd ((FP.Core.zero_bits2 _).mp h) (by decide)
theorem fp0_fin : FP.Core.DFin FP.dconst0 := (FP.Core.fin_bits _).mpr (by decide)
theorem k_X10_bitsOfPositive_51 : ∀ (n : Nat) (x2 : UInt64) (x4 x5 : Int32) (σ : ST), FP.Core.dIsNaN x2 = false → (0 ≤ x5.toInt ∧ x5.toInt ≤ 64 ∧ (64 : Int) - x5.toInt < n) → OK (f_X10_bitsOfPositive_51 n x2 x4 x5 σ) (RO σ fun _ => True) := by
  intro n
  induction n with
  | zero => intro x2 x4 x5 σ hn hv; omega
  | succ n ih =>
    intro x2 x4 x5 σ hn hv
    rw [f_X10_bitsOfPositive_51]
    have lt_1 := li_1
    have lt_64 := li_64
    refine OK.ile (fun h => OK.roret trivial) (fun h => ?_)
    refine OK.ile (fun h => OK.roret trivial) (fun h2 => ?_)
    have hm := FP.Core.dmul_out' hn fp2_fin fp2_nz
    refine OK.grd (fl_num hm) ?_
    obtain ⟨ak, a, al, ar⟩ := i_add x5 1
    try (refine k0el (k := ak) ?_ (fun e0 => ?_); (focus omega); subst e0)
    exact ih _ _ _ _ hm (by omega)


theorem k_X10_bitsOfPositive_48 (x2 : UInt64) (x4 : Int32) (σ : ST) (hn : FP.Core.dIsNaN x2 = false) : OK (f_X10_bitsOfPositive_48 x2 x4 σ) (RO σ fun _ => True) := by
  have lt_0 := li_0
  have lFU : ((FU : Nat) : Int) = 100000 := rfl
  exact k_X10_bitsOfPositive_51 FU _ _ _ _ hn (by omega)


theorem k_X10_bitsOfPositive_18 : ∀ (n : Nat) (x2 : UInt64) (x4 x5 : Int32) (σ : ST), FP.Core.dIsNaN x2 = false → (0 ≤ x5.toInt ∧ x5.toInt ≤ 64 ∧ (64 : Int) - x5.toInt < n) → OK (f_X10_bitsOfPositive_18 n x2 x4 x5 σ) (RO σ fun _ => True) := by
  intro n
  induction n with
  | zero => intro x2 x4 x5 σ hn hv; omega
  | succ n ih =>
    intro x2 x4 x5 σ hn hv
    rw [f_X10_bitsOfPositive_18]
    have lt_1 := li_1
    have lt_64 := li_64
    refine OK.ile (fun h => k_X10_bitsOfPositive_48 _ _ _ hn) (fun h => ?_)
    refine OK.ilt (fun h => k_X10_bitsOfPositive_48 _ _ _ hn) (fun h2 => ?_)
    have hm := FP.Core.ddiv_out hn fp2_fin fp2_nz
    refine OK.grd (fl_num hm) ?_
    obtain ⟨ak, a, al, ar⟩ := i_add x5 1
    try (refine k0el (k := ak) ?_ (fun e0 => ?_); (focus omega); subst e0)
    exact ih _ _ _ _ hm (by omega)


theorem k_X10_bitsOfPositive (p0 : UInt64) (σ : ST) (hn : FP.Core.dIsNaN p0 = false) : OK (f_X10_bitsOfPositive p0 σ) (RO σ fun _ => True) := by
  unfold f_X10_bitsOfPositive
  have lt_0 := li_0
  have lFU : ((FU : Nat) : Int) = 100000 := rfl
  exact OK.ilt (fun h => k_X10_bitsOfPositive_18 FU _ _ _ _ hn (by omega)) (fun h => OK.roret trivial)


theorem k_X10_bitsOfWhole (p0 : Int64) (σ : ST) (hI : IA σ) : OK (f_X10_bitsOfWhole p0 σ) (RO σ fun _ => True) := by
  unfold f_X10_bitsOfWhole
  have hm := FP.Core.dsub_out fp0_fin.notNaN (FP.Core.l2d_fin p0)
  refine OK.ilt (fun h => ?_) (fun h => ?_)
  · refine OK.grd (fl_num hm) ?_
    refine OK.bndR (k_X10_bitsOfPositive _ _ hm) (fun v h1 => ?_)
    exact OK.roret trivial
  · refine OK.bndR (k_X10_bitsOfPositive _ _ (FP.Core.l2d_fin p0).notNaN) (fun v h1 => ?_)
    exact OK.roret trivial


theorem k_X10_isInt (p0 : Int64) (σ : ST) (hI : IA σ)  : OK (f_X10_isInt  p0 σ) (RO σ fun v => v.toInt = 0 ∨ v.toInt = 1) := by
  unfold f_X10_isInt
  have lt_0 := li_0
  have lt_1 := li_1
  have lFU : ((FU : Nat) : Int) = 100000 := rfl
  refine OK.ilt (fun h1 => ?_) (fun h1 => ?_)
  · skip
    exact OK.roret (by first | trivial | omega | exact hI.flds _ | exact hI.dflds _ | exact hI.recs _ | exact hI.drecs _ | exact hI.droot _ | omega)
  · skip
    refine OK.ilt (fun h2 => ?_) (fun h2 => ?_)
    · skip
      exact OK.roret (by first | trivial | omega | exact hI.flds _ | exact hI.dflds _ | exact hI.recs _ | exact hI.drecs _ | exact hI.droot _ | omega)
    · skip
      exact OK.roret (by first | trivial | omega | exact hI.flds _ | exact hI.dflds _ | exact hI.recs _ | exact hI.drecs _ | exact hI.droot _ | omega)

theorem k_X4_takeLetters_5_89_50 : ∀ (n : Nat) (x1 : Int32) (x2 : Int32) (x3 : Int64) (x5 : Int32) (σ : ST), IA σ → σ.2.2.2 89 = 50 → (0 ≤ x5.toInt ∧ x5.toInt ≤ 12 ∧ (x2.toInt ≤ 12) ∧ (12 : Int) - x5.toInt < n) → OK (f_X4_takeLetters_5 89 50 n x1 x2 x3 x5 σ) (RW σ fun v => True) := by
  intro n
  induction n with
  | zero =>
    intro x1 x2 x3 x5 σ hI hT hv
    omega
  | succ n ih =>
    intro x1 x2 x3 x5 σ hI hT hv
    rw [f_X4_takeLetters_5]
    have lt_0 := li_0
    have lt_1 := li_1
    have lt_12 := li_12
    have lt_97 := li_97
    have lt_122 := li_122
    have lFU : ((FU : Nat) : Int) = 100000 := rfl
    refine OK.ile (fun h1 => ?_) (fun h1 => ?_)
    · skip
      exact OK.wret hI Fr.rf (by first | trivial | omega | exact hI.flds _ | exact hI.dflds _ | exact hI.recs _ | exact hI.drecs _ | exact hI.droot _ | omega)
    · skip
      refine OK.ieq (fun h2 => ?_) (fun h2 => ?_)
      · skip
        refine OK.bndW (k_X4_takeByte_89_50 _ hI (by first | exact hT | exact hI.r89 | (rw [Fr.rf.2.2.2]; exact hT))) Fr.rf (fun v3 s5 is5 fs5 h4 => ?_)
        dsimp only
        refine OK.ilt (fun h6 => ?_) (fun h6 => ?_)
        · skip
          unfold f_X4_takeLetters_38
          try dsimp only
          refine OK.bndS (k_X4_fail_89_50 _ _ _ is5 (by first | exact hT | exact hI.r89 | (rw [fs5.2.2.2]; exact hT))) fs5 (fun s7 is7 fs7 => ?_)
          try dsimp only
          unfold f_X4_takeLetters_45
          try dsimp only
          refine OK.lt (fun w8 _ => ?_)
          obtain ⟨a9k, a9, a9l, a9r⟩ := i_add x5 1
          try (refine k0el (k := a9k) ?_ (fun e0 => ?_); (focus omega); subst e0)
          exact OK.trW (ih _ _ _ _ _ is7 (by first | exact hT | (rw [fs7.2.2.2]; exact hT)) (by omega)) fs7 (fun v hv => by first | trivial | omega | exact hI.flds _ | exact hI.dflds _ | exact hI.recs _ | exact hI.drecs _ | exact hI.droot _ | omega)
        · skip
          refine OK.ile (fun h10 => ?_) (fun h10 => ?_)
          · skip
            unfold f_X4_takeLetters_45
            try dsimp only
            refine OK.lt (fun w11 _ => ?_)
            obtain ⟨a12k, a12, a12l, a12r⟩ := i_add x5 1
            try (refine k0el (k := a12k) ?_ (fun e0 => ?_); (focus omega); subst e0)
            exact OK.trW (ih _ _ _ _ _ is5 (by first | exact hT | (rw [fs5.2.2.2]; exact hT)) (by omega)) fs5 (fun v hv => by first | trivial | omega | exact hI.flds _ | exact hI.dflds _ | exact hI.recs _ | exact hI.drecs _ | exact hI.droot _ | omega)
          · skip
            unfold f_X4_takeLetters_38
            try dsimp only
            refine OK.bndS (k_X4_fail_89_50 _ _ _ is5 (by first | exact hT | exact hI.r89 | (rw [fs5.2.2.2]; exact hT))) fs5 (fun s13 is13 fs13 => ?_)
            try dsimp only
            unfold f_X4_takeLetters_45
            try dsimp only
            refine OK.lt (fun w14 _ => ?_)
            obtain ⟨a15k, a15, a15l, a15r⟩ := i_add x5 1
            try (refine k0el (k := a15k) ?_ (fun e0 => ?_); (focus omega); subst e0)
            exact OK.trW (ih _ _ _ _ _ is13 (by first | exact hT | (rw [fs13.2.2.2]; exact hT)) (by omega)) fs13 (fun v hv => by first | trivial | omega | exact hI.flds _ | exact hI.dflds _ | exact hI.recs _ | exact hI.drecs _ | exact hI.droot _ | omega)
      · skip
        exact OK.wret hI Fr.rf (by first | trivial | omega | exact hI.flds _ | exact hI.dflds _ | exact hI.recs _ | exact hI.drecs _ | exact hI.droot _ | omega)

theorem k_X4_takeLetters_5_92_62 : ∀ (n : Nat) (x1 : Int32) (x2 : Int32) (x3 : Int64) (x5 : Int32) (σ : ST), IA σ → σ.2.2.2 92 = 62 → (0 ≤ x5.toInt ∧ x5.toInt ≤ 12 ∧ (x2.toInt ≤ 12) ∧ (12 : Int) - x5.toInt < n) → OK (f_X4_takeLetters_5 92 62 n x1 x2 x3 x5 σ) (RW σ fun v => True) := by
  intro n
  induction n with
  | zero =>
    intro x1 x2 x3 x5 σ hI hT hv
    omega
  | succ n ih =>
    intro x1 x2 x3 x5 σ hI hT hv
    rw [f_X4_takeLetters_5]
    have lt_0 := li_0
    have lt_1 := li_1
    have lt_12 := li_12
    have lt_97 := li_97
    have lt_122 := li_122
    have lFU : ((FU : Nat) : Int) = 100000 := rfl
    refine OK.ile (fun h1 => ?_) (fun h1 => ?_)
    · skip
      exact OK.wret hI Fr.rf (by first | trivial | omega | exact hI.flds _ | exact hI.dflds _ | exact hI.recs _ | exact hI.drecs _ | exact hI.droot _ | omega)
    · skip
      refine OK.ieq (fun h2 => ?_) (fun h2 => ?_)
      · skip
        refine OK.bndW (k_X4_takeByte_92_62 _ hI (by first | exact hT | exact hI.r89 | (rw [Fr.rf.2.2.2]; exact hT))) Fr.rf (fun v3 s5 is5 fs5 h4 => ?_)
        dsimp only
        refine OK.ilt (fun h6 => ?_) (fun h6 => ?_)
        · skip
          unfold f_X4_takeLetters_38
          try dsimp only
          refine OK.bndS (k_X4_fail_92_62 _ _ _ is5 (by first | exact hT | exact hI.r89 | (rw [fs5.2.2.2]; exact hT))) fs5 (fun s7 is7 fs7 => ?_)
          try dsimp only
          unfold f_X4_takeLetters_45
          try dsimp only
          refine OK.lt (fun w8 _ => ?_)
          obtain ⟨a9k, a9, a9l, a9r⟩ := i_add x5 1
          try (refine k0el (k := a9k) ?_ (fun e0 => ?_); (focus omega); subst e0)
          exact OK.trW (ih _ _ _ _ _ is7 (by first | exact hT | (rw [fs7.2.2.2]; exact hT)) (by omega)) fs7 (fun v hv => by first | trivial | omega | exact hI.flds _ | exact hI.dflds _ | exact hI.recs _ | exact hI.drecs _ | exact hI.droot _ | omega)
        · skip
          refine OK.ile (fun h10 => ?_) (fun h10 => ?_)
          · skip
            unfold f_X4_takeLetters_45
            try dsimp only
            refine OK.lt (fun w11 _ => ?_)
            obtain ⟨a12k, a12, a12l, a12r⟩ := i_add x5 1
            try (refine k0el (k := a12k) ?_ (fun e0 => ?_); (focus omega); subst e0)
            exact OK.trW (ih _ _ _ _ _ is5 (by first | exact hT | (rw [fs5.2.2.2]; exact hT)) (by omega)) fs5 (fun v hv => by first | trivial | omega | exact hI.flds _ | exact hI.dflds _ | exact hI.recs _ | exact hI.drecs _ | exact hI.droot _ | omega)
          · skip
            unfold f_X4_takeLetters_38
            try dsimp only
            refine OK.bndS (k_X4_fail_92_62 _ _ _ is5 (by first | exact hT | exact hI.r89 | (rw [fs5.2.2.2]; exact hT))) fs5 (fun s13 is13 fs13 => ?_)
            try dsimp only
            unfold f_X4_takeLetters_45
            try dsimp only
            refine OK.lt (fun w14 _ => ?_)
            obtain ⟨a15k, a15, a15l, a15r⟩ := i_add x5 1
            try (refine k0el (k := a15k) ?_ (fun e0 => ?_); (focus omega); subst e0)
            exact OK.trW (ih _ _ _ _ _ is13 (by first | exact hT | (rw [fs13.2.2.2]; exact hT)) (by omega)) fs13 (fun v hv => by first | trivial | omega | exact hI.flds _ | exact hI.dflds _ | exact hI.recs _ | exact hI.drecs _ | exact hI.droot _ | omega)
      · skip
        exact OK.wret hI Fr.rf (by first | trivial | omega | exact hI.flds _ | exact hI.dflds _ | exact hI.recs _ | exact hI.drecs _ | exact hI.droot _ | omega)

theorem k_X4_takeLetters_5_92_74 : ∀ (n : Nat) (x1 : Int32) (x2 : Int32) (x3 : Int64) (x5 : Int32) (σ : ST), IA σ → σ.2.2.2 92 = 74 → (0 ≤ x5.toInt ∧ x5.toInt ≤ 12 ∧ (x2.toInt ≤ 12) ∧ (12 : Int) - x5.toInt < n) → OK (f_X4_takeLetters_5 92 74 n x1 x2 x3 x5 σ) (RW σ fun v => True) := by
  intro n
  induction n with
  | zero =>
    intro x1 x2 x3 x5 σ hI hT hv
    omega
  | succ n ih =>
    intro x1 x2 x3 x5 σ hI hT hv
    rw [f_X4_takeLetters_5]
    have lt_0 := li_0
    have lt_1 := li_1
    have lt_12 := li_12
    have lt_97 := li_97
    have lt_122 := li_122
    have lFU : ((FU : Nat) : Int) = 100000 := rfl
    refine OK.ile (fun h1 => ?_) (fun h1 => ?_)
    · skip
      exact OK.wret hI Fr.rf (by first | trivial | omega | exact hI.flds _ | exact hI.dflds _ | exact hI.recs _ | exact hI.drecs _ | exact hI.droot _ | omega)
    · skip
      refine OK.ieq (fun h2 => ?_) (fun h2 => ?_)
      · skip
        refine OK.bndW (k_X4_takeByte_92_74 _ hI (by first | exact hT | exact hI.r89 | (rw [Fr.rf.2.2.2]; exact hT))) Fr.rf (fun v3 s5 is5 fs5 h4 => ?_)
        dsimp only
        refine OK.ilt (fun h6 => ?_) (fun h6 => ?_)
        · skip
          unfold f_X4_takeLetters_38
          try dsimp only
          refine OK.bndS (k_X4_fail_92_74 _ _ _ is5 (by first | exact hT | exact hI.r89 | (rw [fs5.2.2.2]; exact hT))) fs5 (fun s7 is7 fs7 => ?_)
          try dsimp only
          unfold f_X4_takeLetters_45
          try dsimp only
          refine OK.lt (fun w8 _ => ?_)
          obtain ⟨a9k, a9, a9l, a9r⟩ := i_add x5 1
          try (refine k0el (k := a9k) ?_ (fun e0 => ?_); (focus omega); subst e0)
          exact OK.trW (ih _ _ _ _ _ is7 (by first | exact hT | (rw [fs7.2.2.2]; exact hT)) (by omega)) fs7 (fun v hv => by first | trivial | omega | exact hI.flds _ | exact hI.dflds _ | exact hI.recs _ | exact hI.drecs _ | exact hI.droot _ | omega)
        · skip
          refine OK.ile (fun h10 => ?_) (fun h10 => ?_)
          · skip
            unfold f_X4_takeLetters_45
            try dsimp only
            refine OK.lt (fun w11 _ => ?_)
            obtain ⟨a12k, a12, a12l, a12r⟩ := i_add x5 1
            try (refine k0el (k := a12k) ?_ (fun e0 => ?_); (focus omega); subst e0)
            exact OK.trW (ih _ _ _ _ _ is5 (by first | exact hT | (rw [fs5.2.2.2]; exact hT)) (by omega)) fs5 (fun v hv => by first | trivial | omega | exact hI.flds _ | exact hI.dflds _ | exact hI.recs _ | exact hI.drecs _ | exact hI.droot _ | omega)
          · skip
            unfold f_X4_takeLetters_38
            try dsimp only
            refine OK.bndS (k_X4_fail_92_74 _ _ _ is5 (by first | exact hT | exact hI.r89 | (rw [fs5.2.2.2]; exact hT))) fs5 (fun s13 is13 fs13 => ?_)
            try dsimp only
            unfold f_X4_takeLetters_45
            try dsimp only
            refine OK.lt (fun w14 _ => ?_)
            obtain ⟨a15k, a15, a15l, a15r⟩ := i_add x5 1
            try (refine k0el (k := a15k) ?_ (fun e0 => ?_); (focus omega); subst e0)
            exact OK.trW (ih _ _ _ _ _ is13 (by first | exact hT | (rw [fs13.2.2.2]; exact hT)) (by omega)) fs13 (fun v hv => by first | trivial | omega | exact hI.flds _ | exact hI.dflds _ | exact hI.recs _ | exact hI.drecs _ | exact hI.droot _ | omega)
      · skip
        exact OK.wret hI Fr.rf (by first | trivial | omega | exact hI.flds _ | exact hI.dflds _ | exact hI.recs _ | exact hI.drecs _ | exact hI.droot _ | omega)

theorem k_X4_takeLetters_89_50 (p0 : Int32) (p1 : Int32) (σ : ST) (hI : IA σ) (hT : σ.2.2.2 89 = 50) (hp0 : p1.toInt ≤ 12)  : OK (f_X4_takeLetters 89 50 p0 p1 σ) (RW σ fun v => True) := by
  unfold f_X4_takeLetters
  have lt_0 := li_0
  have lt_1 := li_1
  have lFU : ((FU : Nat) : Int) = 100000 := rfl
  exact OK.trW (k_X4_takeLetters_5_89_50 FU _ _ _ _ _ hI (by first | exact hT | (rw [Fr.rf.2.2.2]; exact hT)) (by omega)) Fr.rf (fun v hv => by first | trivial | omega | exact hI.flds _ | exact hI.dflds _ | exact hI.recs _ | exact hI.drecs _ | exact hI.droot _ | omega)

theorem k_X4_takeLetters_92_62 (p0 : Int32) (p1 : Int32) (σ : ST) (hI : IA σ) (hT : σ.2.2.2 92 = 62) (hp0 : p1.toInt ≤ 12)  : OK (f_X4_takeLetters 92 62 p0 p1 σ) (RW σ fun v => True) := by
  unfold f_X4_takeLetters
  have lt_0 := li_0
  have lt_1 := li_1
  have lFU : ((FU : Nat) : Int) = 100000 := rfl
  exact OK.trW (k_X4_takeLetters_5_92_62 FU _ _ _ _ _ hI (by first | exact hT | (rw [Fr.rf.2.2.2]; exact hT)) (by omega)) Fr.rf (fun v hv => by first | trivial | omega | exact hI.flds _ | exact hI.dflds _ | exact hI.recs _ | exact hI.drecs _ | exact hI.droot _ | omega)

theorem k_X4_takeLetters_92_74 (p0 : Int32) (p1 : Int32) (σ : ST) (hI : IA σ) (hT : σ.2.2.2 92 = 74) (hp0 : p1.toInt ≤ 12)  : OK (f_X4_takeLetters 92 74 p0 p1 σ) (RW σ fun v => True) := by
  unfold f_X4_takeLetters
  have lt_0 := li_0
  have lt_1 := li_1
  have lFU : ((FU : Nat) : Int) = 100000 := rfl
  exact OK.trW (k_X4_takeLetters_5_92_74 FU _ _ _ _ _ hI (by first | exact hT | (rw [Fr.rf.2.2.2]; exact hT)) (by omega)) Fr.rf (fun v hv => by first | trivial | omega | exact hI.flds _ | exact hI.dflds _ | exact hI.recs _ | exact hI.drecs _ | exact hI.droot _ | omega)

theorem k_X4_takeReal_44_89_50 (x1 : Int64) (y0 : Int32) (σ : ST) (hI : IA σ) (hT : σ.2.2.2 89 = 50)  : OK (f_X4_takeReal_44 89 50 x1 y0 σ) (RO σ fun v => True) := by
  unfold f_X4_takeReal_44
  have lt_0 := li_0
  have lt_1 := li_1
  have lFU : ((FU : Nat) : Int) = 100000 := rfl
  refine OK.ieq (fun h1 => ?_) (fun h1 => ?_)
  · skip
    exact OK.roret (by first | trivial | omega | exact hI.flds _ | exact hI.dflds _ | exact hI.recs _ | exact hI.drecs _ | exact hI.droot _ | omega)
  · skip
    exact OK.roret (by first | trivial | omega | exact hI.flds _ | exact hI.dflds _ | exact hI.recs _ | exact hI.drecs _ | exact hI.droot _ | omega)

theorem k_X4_takeReal_44_92_62 (x1 : Int64) (y0 : Int32) (σ : ST) (hI : IA σ) (hT : σ.2.2.2 92 = 62)  : OK (f_X4_takeReal_44 92 62 x1 y0 σ) (RO σ fun v => True) := by
  unfold f_X4_takeReal_44
  have lt_0 := li_0
  have lt_1 := li_1
  have lFU : ((FU : Nat) : Int) = 100000 := rfl
  refine OK.ieq (fun h1 => ?_) (fun h1 => ?_)
  · skip
    exact OK.roret (by first | trivial | omega | exact hI.flds _ | exact hI.dflds _ | exact hI.recs _ | exact hI.drecs _ | exact hI.droot _ | omega)
  · skip
    exact OK.roret (by first | trivial | omega | exact hI.flds _ | exact hI.dflds _ | exact hI.recs _ | exact hI.drecs _ | exact hI.droot _ | omega)

theorem k_X4_takeReal_44_92_74 (x1 : Int64) (y0 : Int32) (σ : ST) (hI : IA σ) (hT : σ.2.2.2 92 = 74)  : OK (f_X4_takeReal_44 92 74 x1 y0 σ) (RO σ fun v => True) := by
  unfold f_X4_takeReal_44
  have lt_0 := li_0
  have lt_1 := li_1
  have lFU : ((FU : Nat) : Int) = 100000 := rfl
  refine OK.ieq (fun h1 => ?_) (fun h1 => ?_)
  · skip
    exact OK.roret (by first | trivial | omega | exact hI.flds _ | exact hI.dflds _ | exact hI.recs _ | exact hI.drecs _ | exact hI.droot _ | omega)
  · skip
    exact OK.roret (by first | trivial | omega | exact hI.flds _ | exact hI.dflds _ | exact hI.recs _ | exact hI.drecs _ | exact hI.droot _ | omega)

theorem k_X4_takeReal_4_89_50 : ∀ (n : Nat) (x1 : Int64) (x3 : Int32) (σ : ST), IA σ → σ.2.2.2 89 = 50 → (0 ≤ x3.toInt ∧ x3.toInt ≤ 8 ∧ (8 : Int) - x3.toInt < n) → OK (f_X4_takeReal_4 89 50 n x1 x3 σ) (RW σ fun v => True) := by
  intro n
  induction n with
  | zero =>
    intro x1 x3 σ hI hT hv
    omega
  | succ n ih =>
    intro x1 x3 σ hI hT hv
    rw [f_X4_takeReal_4]
    have lt_0 := li_0
    have lt_1 := li_1
    have lt_8 := li_8
    have lFU : ((FU : Nat) : Int) = 100000 := rfl
    refine OK.ile (fun h1 => ?_) (fun h1 => ?_)
    · skip
      refine OK.ile (fun h2 => ?_) (fun h2 => ?_)
      · skip
        exact OK.row (k_X4_takeReal_44_89_50 _ _ _ hI (by first | exact hT | exact hI.r89 | (rw [Fr.rf.2.2.2]; exact hT))) hI Fr.rf (fun v hv => by first | trivial | omega | exact hI.flds _ | exact hI.dflds _ | exact hI.recs _ | exact hI.drecs _ | exact hI.droot _ | omega)
      · skip
        exact OK.row (k_X4_takeReal_44_89_50 _ _ _ hI (by first | exact hT | exact hI.r89 | (rw [Fr.rf.2.2.2]; exact hT))) hI Fr.rf (fun v hv => by first | trivial | omega | exact hI.flds _ | exact hI.dflds _ | exact hI.recs _ | exact hI.drecs _ | exact hI.droot _ | omega)
    · skip
      refine OK.bndW (k_X4_takeByte_89_50 _ hI (by first | exact hT | exact hI.r89 | (rw [Fr.rf.2.2.2]; exact hT))) Fr.rf (fun v3 s5 is5 fs5 h4 => ?_)
      dsimp only
      obtain ⟨a6k, a6, a6l, a6r⟩ := i_add x3 1
      try (refine k0el (k := a6k) ?_ (fun e0 => ?_); (focus omega); subst e0)
      exact OK.trW (ih _ _ _ is5 (by first | exact hT | (rw [fs5.2.2.2]; exact hT)) (by omega)) fs5 (fun v hv => by first | trivial | omega | exact hI.flds _ | exact hI.dflds _ | exact hI.recs _ | exact hI.drecs _ | exact hI.droot _ | omega)

theorem k_X4_takeReal_4_92_62 : ∀ (n : Nat) (x1 : Int64) (x3 : Int32) (σ : ST), IA σ → σ.2.2.2 92 = 62 → (0 ≤ x3.toInt ∧ x3.toInt ≤ 8 ∧ (8 : Int) - x3.toInt < n) → OK (f_X4_takeReal_4 92 62 n x1 x3 σ) (RW σ fun v => True) := by
  intro n
  induction n with
  | zero =>
    intro x1 x3 σ hI hT hv
    omega
  | succ n ih =>
    intro x1 x3 σ hI hT hv
    rw [f_X4_takeReal_4]
    have lt_0 := li_0
    have lt_1 := li_1
    have lt_8 := li_8
    have lFU : ((FU : Nat) : Int) = 100000 := rfl
    refine OK.ile (fun h1 => ?_) (fun h1 => ?_)
    · skip
      refine OK.ile (fun h2 => ?_) (fun h2 => ?_)
      · skip
        exact OK.row (k_X4_takeReal_44_92_62 _ _ _ hI (by first | exact hT | exact hI.r89 | (rw [Fr.rf.2.2.2]; exact hT))) hI Fr.rf (fun v hv => by first | trivial | omega | exact hI.flds _ | exact hI.dflds _ | exact hI.recs _ | exact hI.drecs _ | exact hI.droot _ | omega)
      · skip
        exact OK.row (k_X4_takeReal_44_92_62 _ _ _ hI (by first | exact hT | exact hI.r89 | (rw [Fr.rf.2.2.2]; exact hT))) hI Fr.rf (fun v hv => by first | trivial | omega | exact hI.flds _ | exact hI.dflds _ | exact hI.recs _ | exact hI.drecs _ | exact hI.droot _ | omega)
    · skip
      refine OK.bndW (k_X4_takeByte_92_62 _ hI (by first | exact hT | exact hI.r89 | (rw [Fr.rf.2.2.2]; exact hT))) Fr.rf (fun v3 s5 is5 fs5 h4 => ?_)
      dsimp only
      obtain ⟨a6k, a6, a6l, a6r⟩ := i_add x3 1
      try (refine k0el (k := a6k) ?_ (fun e0 => ?_); (focus omega); subst e0)
      exact OK.trW (ih _ _ _ is5 (by first | exact hT | (rw [fs5.2.2.2]; exact hT)) (by omega)) fs5 (fun v hv => by first | trivial | omega | exact hI.flds _ | exact hI.dflds _ | exact hI.recs _ | exact hI.drecs _ | exact hI.droot _ | omega)

theorem k_X4_takeReal_4_92_74 : ∀ (n : Nat) (x1 : Int64) (x3 : Int32) (σ : ST), IA σ → σ.2.2.2 92 = 74 → (0 ≤ x3.toInt ∧ x3.toInt ≤ 8 ∧ (8 : Int) - x3.toInt < n) → OK (f_X4_takeReal_4 92 74 n x1 x3 σ) (RW σ fun v => True) := by
  intro n
  induction n with
  | zero =>
    intro x1 x3 σ hI hT hv
    omega
  | succ n ih =>
    intro x1 x3 σ hI hT hv
    rw [f_X4_takeReal_4]
    have lt_0 := li_0
    have lt_1 := li_1
    have lt_8 := li_8
    have lFU : ((FU : Nat) : Int) = 100000 := rfl
    refine OK.ile (fun h1 => ?_) (fun h1 => ?_)
    · skip
      refine OK.ile (fun h2 => ?_) (fun h2 => ?_)
      · skip
        exact OK.row (k_X4_takeReal_44_92_74 _ _ _ hI (by first | exact hT | exact hI.r89 | (rw [Fr.rf.2.2.2]; exact hT))) hI Fr.rf (fun v hv => by first | trivial | omega | exact hI.flds _ | exact hI.dflds _ | exact hI.recs _ | exact hI.drecs _ | exact hI.droot _ | omega)
      · skip
        exact OK.row (k_X4_takeReal_44_92_74 _ _ _ hI (by first | exact hT | exact hI.r89 | (rw [Fr.rf.2.2.2]; exact hT))) hI Fr.rf (fun v hv => by first | trivial | omega | exact hI.flds _ | exact hI.dflds _ | exact hI.recs _ | exact hI.drecs _ | exact hI.droot _ | omega)
    · skip
      refine OK.bndW (k_X4_takeByte_92_74 _ hI (by first | exact hT | exact hI.r89 | (rw [Fr.rf.2.2.2]; exact hT))) Fr.rf (fun v3 s5 is5 fs5 h4 => ?_)
      dsimp only
      obtain ⟨a6k, a6, a6l, a6r⟩ := i_add x3 1
      try (refine k0el (k := a6k) ?_ (fun e0 => ?_); (focus omega); subst e0)
      exact OK.trW (ih _ _ _ is5 (by first | exact hT | (rw [fs5.2.2.2]; exact hT)) (by omega)) fs5 (fun v hv => by first | trivial | omega | exact hI.flds _ | exact hI.dflds _ | exact hI.recs _ | exact hI.drecs _ | exact hI.droot _ | omega)

theorem k_X4_takeReal_89_50 (σ : ST) (hI : IA σ) (hT : σ.2.2.2 89 = 50)  : OK (f_X4_takeReal 89 50 σ) (RW σ fun v => True) := by
  unfold f_X4_takeReal
  have lt_0 := li_0
  have lt_1 := li_1
  have lFU : ((FU : Nat) : Int) = 100000 := rfl
  exact OK.trW (k_X4_takeReal_4_89_50 FU _ _ _ hI (by first | exact hT | (rw [Fr.rf.2.2.2]; exact hT)) (by omega)) Fr.rf (fun v hv => by first | trivial | omega | exact hI.flds _ | exact hI.dflds _ | exact hI.recs _ | exact hI.drecs _ | exact hI.droot _ | omega)

theorem k_X4_takeReal_92_62 (σ : ST) (hI : IA σ) (hT : σ.2.2.2 92 = 62)  : OK (f_X4_takeReal 92 62 σ) (RW σ fun v => True) := by
  unfold f_X4_takeReal
  have lt_0 := li_0
  have lt_1 := li_1
  have lFU : ((FU : Nat) : Int) = 100000 := rfl
  exact OK.trW (k_X4_takeReal_4_92_62 FU _ _ _ hI (by first | exact hT | (rw [Fr.rf.2.2.2]; exact hT)) (by omega)) Fr.rf (fun v hv => by first | trivial | omega | exact hI.flds _ | exact hI.dflds _ | exact hI.recs _ | exact hI.drecs _ | exact hI.droot _ | omega)

theorem k_X4_takeReal_92_74 (σ : ST) (hI : IA σ) (hT : σ.2.2.2 92 = 74)  : OK (f_X4_takeReal 92 74 σ) (RW σ fun v => True) := by
  unfold f_X4_takeReal
  have lt_0 := li_0
  have lt_1 := li_1
  have lFU : ((FU : Nat) : Int) = 100000 := rfl
  exact OK.trW (k_X4_takeReal_4_92_74 FU _ _ _ hI (by first | exact hT | (rw [Fr.rf.2.2.2]; exact hT)) (by omega)) Fr.rf (fun v hv => by first | trivial | omega | exact hI.flds _ | exact hI.dflds _ | exact hI.recs _ | exact hI.drecs _ | exact hI.droot _ | omega)

theorem k_X4_takePlain_183_89_50 (y0 : Int64) (y1 : Int32) (y2 : Int32) (y3 : Int32) (y4 : Int32) (σ : ST) (hI : IA σ) (hT : σ.2.2.2 89 = 50)  : OK (f_X4_takePlain_183 89 50 y0 y1 y2 y3 y4 σ) (RS σ) := by
  unfold f_X4_takePlain_183
  have lt_0 := li_0
  have lt_1 := li_1
  have lFU : ((FU : Nat) : Int) = 100000 := rfl
  refine OK.bndW (k_X4_addNode_89_50 _ _ _ _ _ _ hI (by first | exact hT | exact hI.r89 | (rw [Fr.rf.2.2.2]; exact hT))) Fr.rf (fun v1 s3 is3 fs3 h2 => ?_)
  dsimp only
  exact OK.sret is3 fs3

theorem k_X4_takePlain_183_92_62 (y0 : Int64) (y1 : Int32) (y2 : Int32) (y3 : Int32) (y4 : Int32) (σ : ST) (hI : IA σ) (hT : σ.2.2.2 92 = 62)  : OK (f_X4_takePlain_183 92 62 y0 y1 y2 y3 y4 σ) (RS σ) := by
  unfold f_X4_takePlain_183
  have lt_0 := li_0
  have lt_1 := li_1
  have lFU : ((FU : Nat) : Int) = 100000 := rfl
  refine OK.bndW (k_X4_addNode_92_62 _ _ _ _ _ _ hI (by first | exact hT | exact hI.r89 | (rw [Fr.rf.2.2.2]; exact hT))) Fr.rf (fun v1 s3 is3 fs3 h2 => ?_)
  dsimp only
  exact OK.sret is3 fs3

theorem k_X4_takePlain_183_92_74 (y0 : Int64) (y1 : Int32) (y2 : Int32) (y3 : Int32) (y4 : Int32) (σ : ST) (hI : IA σ) (hT : σ.2.2.2 92 = 74)  : OK (f_X4_takePlain_183 92 74 y0 y1 y2 y3 y4 σ) (RS σ) := by
  unfold f_X4_takePlain_183
  have lt_0 := li_0
  have lt_1 := li_1
  have lFU : ((FU : Nat) : Int) = 100000 := rfl
  refine OK.bndW (k_X4_addNode_92_74 _ _ _ _ _ _ hI (by first | exact hT | exact hI.r89 | (rw [Fr.rf.2.2.2]; exact hT))) Fr.rf (fun v1 s3 is3 fs3 h2 => ?_)
  dsimp only
  exact OK.sret is3 fs3

theorem k_X4_takePlain_159_89_50 (x2 : Int32) (x3 : Int32) (x4 : Int32) (x6 : Int32) (x7 : Int64) (y0 : Int32) (σ : ST) (hI : IA σ) (hT : σ.2.2.2 89 = 50)  : OK (f_X4_takePlain_159 89 50 x2 x3 x4 x6 x7 y0 σ) (RS σ) := by
  unfold f_X4_takePlain_159
  have lt_0 := li_0
  have lt_1 := li_1
  have lFU : ((FU : Nat) : Int) = 100000 := rfl
  refine OK.ieq (fun h1 => ?_) (fun h1 => ?_)
  · skip
    exact OK.trS (k_X4_takePlain_183_89_50 _ _ _ _ _ _ hI (by first | exact hT | exact hI.r89 | (rw [Fr.rf.2.2.2]; exact hT))) Fr.rf
  · skip
    refine OK.bndR (k_X10_bitsOfWhole _ _ hI ) (fun v2 h3 => ?_)
    dsimp only
    exact OK.trS (k_X4_takePlain_183_89_50 _ _ _ _ _ _ hI (by first | exact hT | exact hI.r89 | (rw [Fr.rf.2.2.2]; exact hT))) Fr.rf

theorem k_X4_takePlain_159_92_62 (x2 : Int32) (x3 : Int32) (x4 : Int32) (x6 : Int32) (x7 : Int64) (y0 : Int32) (σ : ST) (hI : IA σ) (hT : σ.2.2.2 92 = 62)  : OK (f_X4_takePlain_159 92 62 x2 x3 x4 x6 x7 y0 σ) (RS σ) := by
  unfold f_X4_takePlain_159
  have lt_0 := li_0
  have lt_1 := li_1
  have lFU : ((FU : Nat) : Int) = 100000 := rfl
  refine OK.ieq (fun h1 => ?_) (fun h1 => ?_)
  · skip
    exact OK.trS (k_X4_takePlain_183_92_62 _ _ _ _ _ _ hI (by first | exact hT | exact hI.r89 | (rw [Fr.rf.2.2.2]; exact hT))) Fr.rf
  · skip
    refine OK.bndR (k_X10_bitsOfWhole _ _ hI ) (fun v2 h3 => ?_)
    dsimp only
    exact OK.trS (k_X4_takePlain_183_92_62 _ _ _ _ _ _ hI (by first | exact hT | exact hI.r89 | (rw [Fr.rf.2.2.2]; exact hT))) Fr.rf

theorem k_X4_takePlain_159_92_74 (x2 : Int32) (x3 : Int32) (x4 : Int32) (x6 : Int32) (x7 : Int64) (y0 : Int32) (σ : ST) (hI : IA σ) (hT : σ.2.2.2 92 = 74)  : OK (f_X4_takePlain_159 92 74 x2 x3 x4 x6 x7 y0 σ) (RS σ) := by
  unfold f_X4_takePlain_159
  have lt_0 := li_0
  have lt_1 := li_1
  have lFU : ((FU : Nat) : Int) = 100000 := rfl
  refine OK.ieq (fun h1 => ?_) (fun h1 => ?_)
  · skip
    exact OK.trS (k_X4_takePlain_183_92_74 _ _ _ _ _ _ hI (by first | exact hT | exact hI.r89 | (rw [Fr.rf.2.2.2]; exact hT))) Fr.rf
  · skip
    refine OK.bndR (k_X10_bitsOfWhole _ _ hI ) (fun v2 h3 => ?_)
    dsimp only
    exact OK.trS (k_X4_takePlain_183_92_74 _ _ _ _ _ _ hI (by first | exact hT | exact hI.r89 | (rw [Fr.rf.2.2.2]; exact hT))) Fr.rf

theorem k_X4_takePlain_158_89_50 (x2 : Int32) (x3 : Int32) (x4 : Int32) (x6 : Int32) (x7 : Int64) (σ : ST) (hI : IA σ) (hT : σ.2.2.2 89 = 50)  : OK (f_X4_takePlain_158 89 50 x2 x3 x4 x6 x7 σ) (RS σ) := by
  unfold f_X4_takePlain_158
  have lt_0 := li_0
  have lt_1 := li_1
  have lFU : ((FU : Nat) : Int) = 100000 := rfl
  exact OK.trS (k_X4_takePlain_159_89_50 _ _ _ _ _ _ _ hI (by first | exact hT | exact hI.r89 | (rw [Fr.rf.2.2.2]; exact hT))) Fr.rf

theorem k_X4_takePlain_158_92_62 (x2 : Int32) (x3 : Int32) (x4 : Int32) (x6 : Int32) (x7 : Int64) (σ : ST) (hI : IA σ) (hT : σ.2.2.2 92 = 62)  : OK (f_X4_takePlain_158 92 62 x2 x3 x4 x6 x7 σ) (RS σ) := by
  unfold f_X4_takePlain_158
  have lt_0 := li_0
  have lt_1 := li_1
  have lFU : ((FU : Nat) : Int) = 100000 := rfl
  exact OK.trS (k_X4_takePlain_159_92_62 _ _ _ _ _ _ _ hI (by first | exact hT | exact hI.r89 | (rw [Fr.rf.2.2.2]; exact hT))) Fr.rf

theorem k_X4_takePlain_158_92_74 (x2 : Int32) (x3 : Int32) (x4 : Int32) (x6 : Int32) (x7 : Int64) (σ : ST) (hI : IA σ) (hT : σ.2.2.2 92 = 74)  : OK (f_X4_takePlain_158 92 74 x2 x3 x4 x6 x7 σ) (RS σ) := by
  unfold f_X4_takePlain_158
  have lt_0 := li_0
  have lt_1 := li_1
  have lFU : ((FU : Nat) : Int) = 100000 := rfl
  exact OK.trS (k_X4_takePlain_159_92_74 _ _ _ _ _ _ _ hI (by first | exact hT | exact hI.r89 | (rw [Fr.rf.2.2.2]; exact hT))) Fr.rf

theorem k_X4_takePlain_137_89_50 (x1 : Int32) (x2 : Int32) (x3 : Int32) (x4 : Int32) (x6 : Int32) (x7 : Int64) (σ : ST) (hI : IA σ) (hT : σ.2.2.2 89 = 50)  : OK (f_X4_takePlain_137 89 50 x1 x2 x3 x4 x6 x7 σ) (RS σ) := by
  unfold f_X4_takePlain_137
  have lt_0 := li_0
  have lt_1 := li_1
  have lt_4 := li_4
  have lFU : ((FU : Nat) : Int) = 100000 := rfl
  refine OK.ieq (fun h1 => ?_) (fun h1 => ?_)
  · skip
    exact OK.trS (k_X4_takePlain_158_89_50 _ _ _ _ _ _ hI (by first | exact hT | exact hI.r89 | (rw [Fr.rf.2.2.2]; exact hT))) Fr.rf
  · skip
    refine OK.bndR (k_X5_sortOf_4 _ _ hI ) (fun v2 h3 => ?_)
    dsimp only
    refine OK.ieq (fun h4 => ?_) (fun h4 => ?_)
    · skip
      exact OK.trS (k_X4_takePlain_159_89_50 _ _ _ _ _ _ _ hI (by first | exact hT | exact hI.r89 | (rw [Fr.rf.2.2.2]; exact hT))) Fr.rf
    · skip
      exact OK.trS (k_X4_takePlain_158_89_50 _ _ _ _ _ _ hI (by first | exact hT | exact hI.r89 | (rw [Fr.rf.2.2.2]; exact hT))) Fr.rf

theorem k_X4_takePlain_137_92_62 (x1 : Int32) (x2 : Int32) (x3 : Int32) (x4 : Int32) (x6 : Int32) (x7 : Int64) (σ : ST) (hI : IA σ) (hT : σ.2.2.2 92 = 62)  : OK (f_X4_takePlain_137 92 62 x1 x2 x3 x4 x6 x7 σ) (RS σ) := by
  unfold f_X4_takePlain_137
  have lt_0 := li_0
  have lt_1 := li_1
  have lt_4 := li_4
  have lFU : ((FU : Nat) : Int) = 100000 := rfl
  refine OK.ieq (fun h1 => ?_) (fun h1 => ?_)
  · skip
    exact OK.trS (k_X4_takePlain_158_92_62 _ _ _ _ _ _ hI (by first | exact hT | exact hI.r89 | (rw [Fr.rf.2.2.2]; exact hT))) Fr.rf
  · skip
    refine OK.bndR (k_X5_sortOf_4 _ _ hI ) (fun v2 h3 => ?_)
    dsimp only
    refine OK.ieq (fun h4 => ?_) (fun h4 => ?_)
    · skip
      exact OK.trS (k_X4_takePlain_159_92_62 _ _ _ _ _ _ _ hI (by first | exact hT | exact hI.r89 | (rw [Fr.rf.2.2.2]; exact hT))) Fr.rf
    · skip
      exact OK.trS (k_X4_takePlain_158_92_62 _ _ _ _ _ _ hI (by first | exact hT | exact hI.r89 | (rw [Fr.rf.2.2.2]; exact hT))) Fr.rf

theorem k_X4_takePlain_137_92_74 (x1 : Int32) (x2 : Int32) (x3 : Int32) (x4 : Int32) (x6 : Int32) (x7 : Int64) (σ : ST) (hI : IA σ) (hT : σ.2.2.2 92 = 74)  : OK (f_X4_takePlain_137 92 74 x1 x2 x3 x4 x6 x7 σ) (RS σ) := by
  unfold f_X4_takePlain_137
  have lt_0 := li_0
  have lt_1 := li_1
  have lt_4 := li_4
  have lFU : ((FU : Nat) : Int) = 100000 := rfl
  refine OK.ieq (fun h1 => ?_) (fun h1 => ?_)
  · skip
    exact OK.trS (k_X4_takePlain_158_92_74 _ _ _ _ _ _ hI (by first | exact hT | exact hI.r89 | (rw [Fr.rf.2.2.2]; exact hT))) Fr.rf
  · skip
    refine OK.bndR (k_X5_sortOf_4 _ _ hI ) (fun v2 h3 => ?_)
    dsimp only
    refine OK.ieq (fun h4 => ?_) (fun h4 => ?_)
    · skip
      exact OK.trS (k_X4_takePlain_159_92_74 _ _ _ _ _ _ _ hI (by first | exact hT | exact hI.r89 | (rw [Fr.rf.2.2.2]; exact hT))) Fr.rf
    · skip
      exact OK.trS (k_X4_takePlain_158_92_74 _ _ _ _ _ _ hI (by first | exact hT | exact hI.r89 | (rw [Fr.rf.2.2.2]; exact hT))) Fr.rf

theorem k_X4_takePlain_89_50 (p0 : Int32) (p1 : Int32) (p2 : Int32) (p3 : Int32) (σ : ST) (hI : IA σ) (hT : σ.2.2.2 89 = 50)  : OK (f_X4_takePlain 89 50 p0 p1 p2 p3 σ) (RS σ) := by
  unfold f_X4_takePlain
  have lt_0 := li_0
  have lt_1 := li_1
  have lt_2 := li_2
  have lt_3 := li_3
  have lt_4 := li_4
  have lt_5 := li_5
  have lt_12 := li_12
  have lFU : ((FU : Nat) : Int) = 100000 := rfl
  refine OK.ieq (fun h1 => ?_) (fun h1 => ?_)
  · skip
    refine OK.bndW (k_X4_takeByte_89_50 _ hI (by first | exact hT | exact hI.r89 | (rw [Fr.rf.2.2.2]; exact hT))) Fr.rf (fun v2 s4 is4 fs4 h3 => ?_)
    dsimp only
    refine OK.ile (fun h5 => ?_) (fun h5 => ?_)
    · skip
      exact OK.trS (k_X4_takePlain_137_89_50 _ _ _ _ _ _ _ is4 (by first | exact hT | exact hI.r89 | (rw [fs4.2.2.2]; exact hT))) fs4
    · skip
      refine OK.bndS (k_X4_fail_89_50 _ _ _ is4 (by first | exact hT | exact hI.r89 | (rw [fs4.2.2.2]; exact hT))) fs4 (fun s6 is6 fs6 => ?_)
      try dsimp only
      exact OK.trS (k_X4_takePlain_137_89_50 _ _ _ _ _ _ _ is6 (by first | exact hT | exact hI.r89 | (rw [fs6.2.2.2]; exact hT))) fs6
  · skip
    refine OK.ieq (fun h7 => ?_) (fun h7 => ?_)
    · skip
      refine OK.bndW (k_X4_takeNumber_89_50 _ _ hI (by first | exact hT | exact hI.r89 | (rw [Fr.rf.2.2.2]; exact hT))) Fr.rf (fun v8 s10 is10 fs10 h9 => ?_)
      dsimp only
      refine OK.ieq (fun h11 => ?_) (fun h11 => ?_)
      · skip
        refine OK.bndR (k_X10_isInt _ _ is10 ) (fun v12 h13 => ?_)
        dsimp only
        refine OK.ieq (fun h14 => ?_) (fun h14 => ?_)
        · skip
          refine OK.bndS (k_X4_fail_89_50 _ _ _ is10 (by first | exact hT | exact hI.r89 | (rw [fs10.2.2.2]; exact hT))) fs10 (fun s15 is15 fs15 => ?_)
          try dsimp only
          exact OK.trS (k_X4_takePlain_137_89_50 _ _ _ _ _ _ _ is15 (by first | exact hT | exact hI.r89 | (rw [fs15.2.2.2]; exact hT))) fs15
        · skip
          exact OK.trS (k_X4_takePlain_137_89_50 _ _ _ _ _ _ _ is10 (by first | exact hT | exact hI.r89 | (rw [fs10.2.2.2]; exact hT))) fs10
      · skip
        exact OK.trS (k_X4_takePlain_137_89_50 _ _ _ _ _ _ _ is10 (by first | exact hT | exact hI.r89 | (rw [fs10.2.2.2]; exact hT))) fs10
    · skip
      refine OK.ieq (fun h16 => ?_) (fun h16 => ?_)
      · skip
        refine OK.bndW (k_X4_takeNumber_89_50 _ _ hI (by first | exact hT | exact hI.r89 | (rw [Fr.rf.2.2.2]; exact hT))) Fr.rf (fun v17 s19 is19 fs19 h18 => ?_)
        dsimp only
        refine OK.ieq (fun h20 => ?_) (fun h20 => ?_)
        · skip
          refine OK.bndR (k_X10_isInt _ _ is19 ) (fun v21 h22 => ?_)
          dsimp only
          refine OK.ieq (fun h23 => ?_) (fun h23 => ?_)
          · skip
            refine OK.bndS (k_X4_fail_89_50 _ _ _ is19 (by first | exact hT | exact hI.r89 | (rw [fs19.2.2.2]; exact hT))) fs19 (fun s24 is24 fs24 => ?_)
            try dsimp only
            exact OK.trS (k_X4_takePlain_137_89_50 _ _ _ _ _ _ _ is24 (by first | exact hT | exact hI.r89 | (rw [fs24.2.2.2]; exact hT))) fs24
          · skip
            exact OK.trS (k_X4_takePlain_137_89_50 _ _ _ _ _ _ _ is19 (by first | exact hT | exact hI.r89 | (rw [fs19.2.2.2]; exact hT))) fs19
        · skip
          exact OK.trS (k_X4_takePlain_137_89_50 _ _ _ _ _ _ _ is19 (by first | exact hT | exact hI.r89 | (rw [fs19.2.2.2]; exact hT))) fs19
      · skip
        refine OK.ieq (fun h25 => ?_) (fun h25 => ?_)
        · skip
          refine OK.bndW (k_X4_takeReal_89_50 _ hI (by first | exact hT | exact hI.r89 | (rw [Fr.rf.2.2.2]; exact hT))) Fr.rf (fun v26 s28 is28 fs28 h27 => ?_)
          dsimp only
          exact OK.trS (k_X4_takePlain_137_89_50 _ _ _ _ _ _ _ is28 (by first | exact hT | exact hI.r89 | (rw [fs28.2.2.2]; exact hT))) fs28
        · skip
          refine OK.ieq (fun h29 => ?_) (fun h29 => ?_)
          · skip
            refine OK.bndW (k_X4_takeCount_89_50 _ _ _ hI (by first | exact hT | exact hI.r89 | (rw [Fr.rf.2.2.2]; exact hT))) Fr.rf (fun v30 s32 is32 fs32 h31 => ?_)
            dsimp only
            refine OK.bndW (k_X4_takeLetters_89_50 _ _ _ is32 (by first | exact hT | exact hI.r89 | (rw [fs32.2.2.2]; exact hT)) (show v30.toInt ≤ 12 from by omega)) fs32 (fun v33 s35 is35 fs35 h34 => ?_)
            dsimp only
            exact OK.trS (k_X4_takePlain_137_89_50 _ _ _ _ _ _ _ is35 (by first | exact hT | exact hI.r89 | (rw [fs35.2.2.2]; exact hT))) fs35
          · skip
            exact OK.trS (k_X4_takePlain_137_89_50 _ _ _ _ _ _ _ hI (by first | exact hT | exact hI.r89 | (rw [Fr.rf.2.2.2]; exact hT))) Fr.rf

theorem k_X4_takePlain_92_62 (p0 : Int32) (p1 : Int32) (p2 : Int32) (p3 : Int32) (σ : ST) (hI : IA σ) (hT : σ.2.2.2 92 = 62)  : OK (f_X4_takePlain 92 62 p0 p1 p2 p3 σ) (RS σ) := by
  unfold f_X4_takePlain
  have lt_0 := li_0
  have lt_1 := li_1
  have lt_2 := li_2
  have lt_3 := li_3
  have lt_4 := li_4
  have lt_5 := li_5
  have lt_12 := li_12
  have lFU : ((FU : Nat) : Int) = 100000 := rfl
  refine OK.ieq (fun h1 => ?_) (fun h1 => ?_)
  · skip
    refine OK.bndW (k_X4_takeByte_92_62 _ hI (by first | exact hT | exact hI.r89 | (rw [Fr.rf.2.2.2]; exact hT))) Fr.rf (fun v2 s4 is4 fs4 h3 => ?_)
    dsimp only
    refine OK.ile (fun h5 => ?_) (fun h5 => ?_)
    · skip
      exact OK.trS (k_X4_takePlain_137_92_62 _ _ _ _ _ _ _ is4 (by first | exact hT | exact hI.r89 | (rw [fs4.2.2.2]; exact hT))) fs4
    · skip
      refine OK.bndS (k_X4_fail_92_62 _ _ _ is4 (by first | exact hT | exact hI.r89 | (rw [fs4.2.2.2]; exact hT))) fs4 (fun s6 is6 fs6 => ?_)
      try dsimp only
      exact OK.trS (k_X4_takePlain_137_92_62 _ _ _ _ _ _ _ is6 (by first | exact hT | exact hI.r89 | (rw [fs6.2.2.2]; exact hT))) fs6
  · skip
    refine OK.ieq (fun h7 => ?_) (fun h7 => ?_)
    · skip
      refine OK.bndW (k_X4_takeNumber_92_62 _ _ hI (by first | exact hT | exact hI.r89 | (rw [Fr.rf.2.2.2]; exact hT))) Fr.rf (fun v8 s10 is10 fs10 h9 => ?_)
      dsimp only
      refine OK.ieq (fun h11 => ?_) (fun h11 => ?_)
      · skip
        refine OK.bndR (k_X10_isInt _ _ is10 ) (fun v12 h13 => ?_)
        dsimp only
        refine OK.ieq (fun h14 => ?_) (fun h14 => ?_)
        · skip
          refine OK.bndS (k_X4_fail_92_62 _ _ _ is10 (by first | exact hT | exact hI.r89 | (rw [fs10.2.2.2]; exact hT))) fs10 (fun s15 is15 fs15 => ?_)
          try dsimp only
          exact OK.trS (k_X4_takePlain_137_92_62 _ _ _ _ _ _ _ is15 (by first | exact hT | exact hI.r89 | (rw [fs15.2.2.2]; exact hT))) fs15
        · skip
          exact OK.trS (k_X4_takePlain_137_92_62 _ _ _ _ _ _ _ is10 (by first | exact hT | exact hI.r89 | (rw [fs10.2.2.2]; exact hT))) fs10
      · skip
        exact OK.trS (k_X4_takePlain_137_92_62 _ _ _ _ _ _ _ is10 (by first | exact hT | exact hI.r89 | (rw [fs10.2.2.2]; exact hT))) fs10
    · skip
      refine OK.ieq (fun h16 => ?_) (fun h16 => ?_)
      · skip
        refine OK.bndW (k_X4_takeNumber_92_62 _ _ hI (by first | exact hT | exact hI.r89 | (rw [Fr.rf.2.2.2]; exact hT))) Fr.rf (fun v17 s19 is19 fs19 h18 => ?_)
        dsimp only
        refine OK.ieq (fun h20 => ?_) (fun h20 => ?_)
        · skip
          refine OK.bndR (k_X10_isInt _ _ is19 ) (fun v21 h22 => ?_)
          dsimp only
          refine OK.ieq (fun h23 => ?_) (fun h23 => ?_)
          · skip
            refine OK.bndS (k_X4_fail_92_62 _ _ _ is19 (by first | exact hT | exact hI.r89 | (rw [fs19.2.2.2]; exact hT))) fs19 (fun s24 is24 fs24 => ?_)
            try dsimp only
            exact OK.trS (k_X4_takePlain_137_92_62 _ _ _ _ _ _ _ is24 (by first | exact hT | exact hI.r89 | (rw [fs24.2.2.2]; exact hT))) fs24
          · skip
            exact OK.trS (k_X4_takePlain_137_92_62 _ _ _ _ _ _ _ is19 (by first | exact hT | exact hI.r89 | (rw [fs19.2.2.2]; exact hT))) fs19
        · skip
          exact OK.trS (k_X4_takePlain_137_92_62 _ _ _ _ _ _ _ is19 (by first | exact hT | exact hI.r89 | (rw [fs19.2.2.2]; exact hT))) fs19
      · skip
        refine OK.ieq (fun h25 => ?_) (fun h25 => ?_)
        · skip
          refine OK.bndW (k_X4_takeReal_92_62 _ hI (by first | exact hT | exact hI.r89 | (rw [Fr.rf.2.2.2]; exact hT))) Fr.rf (fun v26 s28 is28 fs28 h27 => ?_)
          dsimp only
          exact OK.trS (k_X4_takePlain_137_92_62 _ _ _ _ _ _ _ is28 (by first | exact hT | exact hI.r89 | (rw [fs28.2.2.2]; exact hT))) fs28
        · skip
          refine OK.ieq (fun h29 => ?_) (fun h29 => ?_)
          · skip
            refine OK.bndW (k_X4_takeCount_92_62 _ _ _ hI (by first | exact hT | exact hI.r89 | (rw [Fr.rf.2.2.2]; exact hT))) Fr.rf (fun v30 s32 is32 fs32 h31 => ?_)
            dsimp only
            refine OK.bndW (k_X4_takeLetters_92_62 _ _ _ is32 (by first | exact hT | exact hI.r89 | (rw [fs32.2.2.2]; exact hT)) (show v30.toInt ≤ 12 from by omega)) fs32 (fun v33 s35 is35 fs35 h34 => ?_)
            dsimp only
            exact OK.trS (k_X4_takePlain_137_92_62 _ _ _ _ _ _ _ is35 (by first | exact hT | exact hI.r89 | (rw [fs35.2.2.2]; exact hT))) fs35
          · skip
            exact OK.trS (k_X4_takePlain_137_92_62 _ _ _ _ _ _ _ hI (by first | exact hT | exact hI.r89 | (rw [Fr.rf.2.2.2]; exact hT))) Fr.rf

theorem k_X4_takePlain_92_74 (p0 : Int32) (p1 : Int32) (p2 : Int32) (p3 : Int32) (σ : ST) (hI : IA σ) (hT : σ.2.2.2 92 = 74)  : OK (f_X4_takePlain 92 74 p0 p1 p2 p3 σ) (RS σ) := by
  unfold f_X4_takePlain
  have lt_0 := li_0
  have lt_1 := li_1
  have lt_2 := li_2
  have lt_3 := li_3
  have lt_4 := li_4
  have lt_5 := li_5
  have lt_12 := li_12
  have lFU : ((FU : Nat) : Int) = 100000 := rfl
  refine OK.ieq (fun h1 => ?_) (fun h1 => ?_)
  · skip
    refine OK.bndW (k_X4_takeByte_92_74 _ hI (by first | exact hT | exact hI.r89 | (rw [Fr.rf.2.2.2]; exact hT))) Fr.rf (fun v2 s4 is4 fs4 h3 => ?_)
    dsimp only
    refine OK.ile (fun h5 => ?_) (fun h5 => ?_)
    · skip
      exact OK.trS (k_X4_takePlain_137_92_74 _ _ _ _ _ _ _ is4 (by first | exact hT | exact hI.r89 | (rw [fs4.2.2.2]; exact hT))) fs4
    · skip
      refine OK.bndS (k_X4_fail_92_74 _ _ _ is4 (by first | exact hT | exact hI.r89 | (rw [fs4.2.2.2]; exact hT))) fs4 (fun s6 is6 fs6 => ?_)
      try dsimp only
      exact OK.trS (k_X4_takePlain_137_92_74 _ _ _ _ _ _ _ is6 (by first | exact hT | exact hI.r89 | (rw [fs6.2.2.2]; exact hT))) fs6
  · skip
    refine OK.ieq (fun h7 => ?_) (fun h7 => ?_)
    · skip
      refine OK.bndW (k_X4_takeNumber_92_74 _ _ hI (by first | exact hT | exact hI.r89 | (rw [Fr.rf.2.2.2]; exact hT))) Fr.rf (fun v8 s10 is10 fs10 h9 => ?_)
      dsimp only
      refine OK.ieq (fun h11 => ?_) (fun h11 => ?_)
      · skip
        refine OK.bndR (k_X10_isInt _ _ is10 ) (fun v12 h13 => ?_)
        dsimp only
        refine OK.ieq (fun h14 => ?_) (fun h14 => ?_)
        · skip
          refine OK.bndS (k_X4_fail_92_74 _ _ _ is10 (by first | exact hT | exact hI.r89 | (rw [fs10.2.2.2]; exact hT))) fs10 (fun s15 is15 fs15 => ?_)
          try dsimp only
          exact OK.trS (k_X4_takePlain_137_92_74 _ _ _ _ _ _ _ is15 (by first | exact hT | exact hI.r89 | (rw [fs15.2.2.2]; exact hT))) fs15
        · skip
          exact OK.trS (k_X4_takePlain_137_92_74 _ _ _ _ _ _ _ is10 (by first | exact hT | exact hI.r89 | (rw [fs10.2.2.2]; exact hT))) fs10
      · skip
        exact OK.trS (k_X4_takePlain_137_92_74 _ _ _ _ _ _ _ is10 (by first | exact hT | exact hI.r89 | (rw [fs10.2.2.2]; exact hT))) fs10
    · skip
      refine OK.ieq (fun h16 => ?_) (fun h16 => ?_)
      · skip
        refine OK.bndW (k_X4_takeNumber_92_74 _ _ hI (by first | exact hT | exact hI.r89 | (rw [Fr.rf.2.2.2]; exact hT))) Fr.rf (fun v17 s19 is19 fs19 h18 => ?_)
        dsimp only
        refine OK.ieq (fun h20 => ?_) (fun h20 => ?_)
        · skip
          refine OK.bndR (k_X10_isInt _ _ is19 ) (fun v21 h22 => ?_)
          dsimp only
          refine OK.ieq (fun h23 => ?_) (fun h23 => ?_)
          · skip
            refine OK.bndS (k_X4_fail_92_74 _ _ _ is19 (by first | exact hT | exact hI.r89 | (rw [fs19.2.2.2]; exact hT))) fs19 (fun s24 is24 fs24 => ?_)
            try dsimp only
            exact OK.trS (k_X4_takePlain_137_92_74 _ _ _ _ _ _ _ is24 (by first | exact hT | exact hI.r89 | (rw [fs24.2.2.2]; exact hT))) fs24
          · skip
            exact OK.trS (k_X4_takePlain_137_92_74 _ _ _ _ _ _ _ is19 (by first | exact hT | exact hI.r89 | (rw [fs19.2.2.2]; exact hT))) fs19
        · skip
          exact OK.trS (k_X4_takePlain_137_92_74 _ _ _ _ _ _ _ is19 (by first | exact hT | exact hI.r89 | (rw [fs19.2.2.2]; exact hT))) fs19
      · skip
        refine OK.ieq (fun h25 => ?_) (fun h25 => ?_)
        · skip
          refine OK.bndW (k_X4_takeReal_92_74 _ hI (by first | exact hT | exact hI.r89 | (rw [Fr.rf.2.2.2]; exact hT))) Fr.rf (fun v26 s28 is28 fs28 h27 => ?_)
          dsimp only
          exact OK.trS (k_X4_takePlain_137_92_74 _ _ _ _ _ _ _ is28 (by first | exact hT | exact hI.r89 | (rw [fs28.2.2.2]; exact hT))) fs28
        · skip
          refine OK.ieq (fun h29 => ?_) (fun h29 => ?_)
          · skip
            refine OK.bndW (k_X4_takeCount_92_74 _ _ _ hI (by first | exact hT | exact hI.r89 | (rw [Fr.rf.2.2.2]; exact hT))) Fr.rf (fun v30 s32 is32 fs32 h31 => ?_)
            dsimp only
            refine OK.bndW (k_X4_takeLetters_92_74 _ _ _ is32 (by first | exact hT | exact hI.r89 | (rw [fs32.2.2.2]; exact hT)) (show v30.toInt ≤ 12 from by omega)) fs32 (fun v33 s35 is35 fs35 h34 => ?_)
            dsimp only
            exact OK.trS (k_X4_takePlain_137_92_74 _ _ _ _ _ _ _ is35 (by first | exact hT | exact hI.r89 | (rw [fs35.2.2.2]; exact hT))) fs35
          · skip
            exact OK.trS (k_X4_takePlain_137_92_74 _ _ _ _ _ _ _ hI (by first | exact hT | exact hI.r89 | (rw [Fr.rf.2.2.2]; exact hT))) Fr.rf

theorem k_X10_letterOf_10 (σ : ST) (hI : IA σ)  : OK (f_X10_letterOf_10  σ) (RO σ fun v => v.toInt = 0 ∨ v.toInt = 1) := by
  unfold f_X10_letterOf_10
  have lt_0 := li_0
  have lt_1 := li_1
  have lFU : ((FU : Nat) : Int) = 100000 := rfl
  exact OK.roret (by first | trivial | omega | exact hI.flds _ | exact hI.dflds _ | exact hI.recs _ | exact hI.drecs _ | exact hI.droot _ | omega)

theorem k_X10_letterOf (p0 : Int64) (p1 : Int32) (σ : ST) (hI : IA σ)  : OK (f_X10_letterOf  p0 p1 σ) (RO σ fun v => True) := by
  unfold f_X10_letterOf
  have lt_0 := li_0
  have lt_1 := li_1
  have lt_5 := li_5
  have lt_12 := li_12
  have lt_31 := li_31
  have lt_63 := li_63
  have lFU : ((FU : Nat) : Int) = 100000 := rfl
  refine OK.ilt (fun h1 => ?_) (fun h1 => ?_)
  · skip
    exact OK.roq (k_X10_letterOf_10 _ hI ) (fun v hv => by first | trivial | omega | exact hI.flds _ | exact hI.dflds _ | exact hI.recs _ | exact hI.drecs _ | exact hI.droot _ | omega)
  · skip
    refine OK.ilt (fun h2 => ?_) (fun h2 => ?_)
    · skip
      exact OK.roret (by first | trivial | omega | exact hI.flds _ | exact hI.dflds _ | exact hI.recs _ | exact hI.drecs _ | exact hI.droot _ | omega)
    · skip
      exact OK.roq (k_X10_letterOf_10 _ hI ) (fun v hv => by first | trivial | omega | exact hI.flds _ | exact hI.dflds _ | exact hI.recs _ | exact hI.drecs _ | exact hI.droot _ | omega)

theorem k_X10_lettersIn_2 : ∀ (n : Nat) (x0 : Int64) (x2 : Int32) (σ : ST), IA σ → (0 ≤ x2.toInt ∧ x2.toInt ≤ 12 ∧ (12 : Int) - x2.toInt < n) → OK (f_X10_lettersIn_2  n x0 x2 σ) (RO σ fun v => 0 ≤ v.toInt ∧ v.toInt ≤ 12) := by
  intro n
  induction n with
  | zero =>
    intro x0 x2 σ hI hv
    omega
  | succ n ih =>
    intro x0 x2 σ hI hv
    rw [f_X10_lettersIn_2]
    have lt_0 := li_0
    have lt_1 := li_1
    have lt_12 := li_12
    have lFU : ((FU : Nat) : Int) = 100000 := rfl
    refine OK.ile (fun h1 => ?_) (fun h1 => ?_)
    · skip
      exact OK.roret (by first | trivial | omega | exact hI.flds _ | exact hI.dflds _ | exact hI.recs _ | exact hI.drecs _ | exact hI.droot _ | omega)
    · skip
      refine OK.bndR (k_X10_letterOf _ _ _ hI ) (fun v2 h3 => ?_)
      dsimp only
      refine OK.ieq (fun h4 => ?_) (fun h4 => ?_)
      · skip
        exact OK.roret (by first | trivial | omega | exact hI.flds _ | exact hI.dflds _ | exact hI.recs _ | exact hI.drecs _ | exact hI.droot _ | omega)
      · skip
        obtain ⟨a5k, a5, a5l, a5r⟩ := i_add x2 1
        try (refine k0el (k := a5k) ?_ (fun e0 => ?_); (focus omega); subst e0)
        exact OK.roq (ih _ _ _ hI (by omega)) (fun v hv => by first | trivial | omega | exact hI.flds _ | exact hI.dflds _ | exact hI.recs _ | exact hI.drecs _ | exact hI.droot _ | omega)

theorem k_X10_lettersIn (p0 : Int64) (σ : ST) (hI : IA σ)  : OK (f_X10_lettersIn  p0 σ) (RO σ fun v => 0 ≤ v.toInt ∧ v.toInt ≤ 12) := by
  unfold f_X10_lettersIn
  have lt_0 := li_0
  have lt_1 := li_1
  have lFU : ((FU : Nat) : Int) = 100000 := rfl
  exact OK.roq (k_X10_lettersIn_2 FU _ _ _ hI (by omega)) (fun v hv => by first | trivial | omega | exact hI.flds _ | exact hI.dflds _ | exact hI.recs _ | exact hI.drecs _ | exact hI.droot _ | omega)

theorem k_X5_elseWorth_4 (p0 : Int32) (p1 : Int32) (σ : ST) (hI : IA σ)  : OK (f_X5_elseWorth 4 p0 p1 σ) (RO σ fun v => True) := by
  unfold f_X5_elseWorth
  have lt_0 := li_0
  have lt_1 := li_1
  have lt_8 := li_8
  have lFU : ((FU : Nat) : Int) = 100000 := rfl
  refine OK.bndR (k_X5_isFieldOf _ _ _ hI ) (fun v1 h2 => ?_)
  dsimp only
  refine OK.ieq (fun h3 => ?_) (fun h3 => ?_)
  · skip
    exact OK.roret (by first | trivial | omega | exact hI.flds _ | exact hI.dflds _ | exact hI.recs _ | exact hI.drecs _ | exact hI.droot _ | omega)
  · skip
    obtain ⟨a4k, a4, a4l, a4r⟩ := i_mul p0 8
    rw [li_8] at a4
    try (refine k0el (k := a4k) ?_ (fun e0 => ?_); (focus omega); subst e0)
    obtain ⟨a5k, a5, a5l, a5r⟩ := i_add (p0 * 8) p1
    try (refine k0el (k := a5k) ?_ (fun e0 => ?_); (focus omega); subst e0)
    refine OK.grd ⟨by omega, by omega⟩ ?_
    exact OK.roret (by first | trivial | omega | exact hI.flds _ | exact hI.dflds _ | exact hI.recs _ | exact hI.drecs _ | exact hI.droot _ | omega)

theorem k_X5_firstChoice_4 (p0 : Int32) (σ : ST) (hI : IA σ)  : OK (f_X5_firstChoice 4 p0 σ) (RO σ fun v => True) := by
  unfold f_X5_firstChoice
  have lt_0 := li_0
  have lt_1 := li_1
  have lt_8 := li_8
  have lFU : ((FU : Nat) : Int) = 100000 := rfl
  refine OK.bndR (k_X5_sortOf_4 _ _ hI ) (fun v1 h2 => ?_)
  dsimp only
  refine OK.ieq (fun h3 => ?_) (fun h3 => ?_)
  · skip
    refine OK.bndR (k_X5_innerOf_4 _ _ hI ) (fun v4 h5 => ?_)
    dsimp only
    exact OK.roret (by first | trivial | omega | exact hI.flds _ | exact hI.dflds _ | exact hI.recs _ | exact hI.drecs _ | exact hI.droot _ | omega)
  · skip
    exact OK.roret (by first | trivial | omega | exact hI.flds _ | exact hI.dflds _ | exact hI.recs _ | exact hI.drecs _ | exact hI.droot _ | omega)

theorem k_X5_firstChoice_20 (p0 : Int32) (σ : ST) (hI : IA σ)  : OK (f_X5_firstChoice 20 p0 σ) (RO σ fun v => True) := by
  unfold f_X5_firstChoice
  have lt_0 := li_0
  have lt_1 := li_1
  have lt_8 := li_8
  have lFU : ((FU : Nat) : Int) = 100000 := rfl
  refine OK.bndR (k_X5_sortOf_20 _ _ hI ) (fun v1 h2 => ?_)
  dsimp only
  refine OK.ieq (fun h3 => ?_) (fun h3 => ?_)
  · skip
    refine OK.bndR (k_X5_innerOf_20 _ _ hI ) (fun v4 h5 => ?_)
    dsimp only
    exact OK.roret (by first | trivial | omega | exact hI.flds _ | exact hI.dflds _ | exact hI.recs _ | exact hI.drecs _ | exact hI.droot _ | omega)
  · skip
    exact OK.roret (by first | trivial | omega | exact hI.flds _ | exact hI.dflds _ | exact hI.recs _ | exact hI.drecs _ | exact hI.droot _ | omega)

theorem k_X7_setFilled_50 (p0 : Int32) (σ : ST) (hI : IA σ)  : OK (f_X7_setFilled 50 p0 σ) (RS σ) := by
  unfold f_X7_setFilled
  have lt_0 := li_0
  have lt_1 := li_1
  have lFU : ((FU : Nat) : Int) = 100000 := rfl
  have g50 := (hI.t50).1
  have g50b : 0 ≤ (σ.1 50 1).toInt ∧ (σ.1 50 1).toInt ≤ 400 := (hI.t50).2.1
  have g50n : ((ln7 50 : Nat) : Int) = 400 := rfl
  refine OK.bndR (k_X7_isRow_50 _ _ hI ) (fun v1 h2 => ?_)
  dsimp only
  refine OK.ieq (fun h3 => ?_) (fun h3 => ?_)
  · skip
    exact OK.sret hI Fr.rf
  · skip
    refine OK.grd ⟨by omega, by omega⟩ ?_
    exact OK.sret (ia_I_55 hI) (fr_I_55 Fr.rf)

theorem k_X7_setFilled_62 (p0 : Int32) (σ : ST) (hI : IA σ)  : OK (f_X7_setFilled 62 p0 σ) (RS σ) := by
  unfold f_X7_setFilled
  have lt_0 := li_0
  have lt_1 := li_1
  have lFU : ((FU : Nat) : Int) = 100000 := rfl
  have g62 := (hI.t62).1
  have g62b : 0 ≤ (σ.1 62 1).toInt ∧ (σ.1 62 1).toInt ≤ 502 := (hI.t62).2.1
  have g62n : ((ln7 62 : Nat) : Int) = 502 := rfl
  refine OK.bndR (k_X7_isRow_62 _ _ hI ) (fun v1 h2 => ?_)
  dsimp only
  refine OK.ieq (fun h3 => ?_) (fun h3 => ?_)
  · skip
    exact OK.sret hI Fr.rf
  · skip
    refine OK.grd ⟨by omega, by omega⟩ ?_
    exact OK.sret (ia_I_67 hI) (fr_I_67 Fr.rf)

theorem k_X7_setFilled_74 (p0 : Int32) (σ : ST) (hI : IA σ)  : OK (f_X7_setFilled 74 p0 σ) (RS σ) := by
  unfold f_X7_setFilled
  have lt_0 := li_0
  have lt_1 := li_1
  have lFU : ((FU : Nat) : Int) = 100000 := rfl
  have g74 := (hI.t74).1
  have g74b : 0 ≤ (σ.1 74 1).toInt ∧ (σ.1 74 1).toInt ≤ 400 := (hI.t74).2.1
  have g74n : ((ln7 74 : Nat) : Int) = 400 := rfl
  refine OK.bndR (k_X7_isRow_74 _ _ hI ) (fun v1 h2 => ?_)
  dsimp only
  refine OK.ieq (fun h3 => ?_) (fun h3 => ?_)
  · skip
    exact OK.sret hI Fr.rf
  · skip
    refine OK.grd ⟨by omega, by omega⟩ ?_
    exact OK.sret (ia_I_79 hI) (fr_I_79 Fr.rf)

theorem k_X4_fillIn_89_50 (p0 : Int32) (p1 : Int32) (p2 : Int32) (σ : ST) (hI : IA σ) (hT : σ.2.2.2 89 = 50)  : OK (f_X4_fillIn 89 50 p0 p1 p2 σ) (RS σ) := by
  unfold f_X4_fillIn
  have lt_0 := li_0
  have lt_1 := li_1
  have lt_5 := li_5
  have lFU : ((FU : Nat) : Int) = 100000 := rfl
  refine OK.bndR (k_X5_typeOf_4 _ _ _ hI ) (fun v1 h2 => ?_)
  dsimp only
  refine OK.bndR (k_X5_firstChoice_4 _ _ hI ) (fun v3 h4 => ?_)
  dsimp only
  refine OK.bndR (k_X5_elseWorth_4 _ _ _ hI ) (fun v5 h6 => ?_)
  dsimp only
  refine OK.bndR (k_X5_sortOf_4 _ _ hI ) (fun v7 h8 => ?_)
  dsimp only
  refine OK.ieq (fun h9 => ?_) (fun h9 => ?_)
  · skip
    refine OK.bndR (k_X10_lettersIn _ _ hI ) (fun v10 h11 => ?_)
    dsimp only
    unfold f_X4_fillIn_51
    try dsimp only
    refine OK.grd (by first | exact hT | (rw [Fr.rf.2.2.2]; exact hT)) ?_
    refine OK.bndW (k_X4_addNode_89_50 _ _ _ _ _ _ hI (by first | exact hT | exact hI.r89 | (rw [Fr.rf.2.2.2]; exact hT))) Fr.rf (fun v12 s14 is14 fs14 h13 => ?_)
    dsimp only
    refine OK.bndS (k_X7_setFilled_50 _ _ is14 ) fs14 (fun s15 is15 fs15 => ?_)
    try dsimp only
    exact OK.sret is15 fs15
  · skip
    unfold f_X4_fillIn_51
    try dsimp only
    refine OK.grd (by first | exact hT | (rw [Fr.rf.2.2.2]; exact hT)) ?_
    refine OK.bndW (k_X4_addNode_89_50 _ _ _ _ _ _ hI (by first | exact hT | exact hI.r89 | (rw [Fr.rf.2.2.2]; exact hT))) Fr.rf (fun v16 s18 is18 fs18 h17 => ?_)
    dsimp only
    refine OK.bndS (k_X7_setFilled_50 _ _ is18 ) fs18 (fun s19 is19 fs19 => ?_)
    try dsimp only
    exact OK.sret is19 fs19

theorem k_X4_fillIn_92_62 (p0 : Int32) (p1 : Int32) (p2 : Int32) (σ : ST) (hI : IA σ) (hT : σ.2.2.2 92 = 62)  : OK (f_X4_fillIn 92 62 p0 p1 p2 σ) (RS σ) := by
  unfold f_X4_fillIn
  have lt_0 := li_0
  have lt_1 := li_1
  have lt_5 := li_5
  have lFU : ((FU : Nat) : Int) = 100000 := rfl
  refine OK.bndR (k_X5_typeOf_4 _ _ _ hI ) (fun v1 h2 => ?_)
  dsimp only
  refine OK.bndR (k_X5_firstChoice_4 _ _ hI ) (fun v3 h4 => ?_)
  dsimp only
  refine OK.bndR (k_X5_elseWorth_4 _ _ _ hI ) (fun v5 h6 => ?_)
  dsimp only
  refine OK.bndR (k_X5_sortOf_4 _ _ hI ) (fun v7 h8 => ?_)
  dsimp only
  refine OK.ieq (fun h9 => ?_) (fun h9 => ?_)
  · skip
    refine OK.bndR (k_X10_lettersIn _ _ hI ) (fun v10 h11 => ?_)
    dsimp only
    unfold f_X4_fillIn_51
    try dsimp only
    refine OK.grd (by first | exact hT | (rw [Fr.rf.2.2.2]; exact hT)) ?_
    refine OK.bndW (k_X4_addNode_92_62 _ _ _ _ _ _ hI (by first | exact hT | exact hI.r89 | (rw [Fr.rf.2.2.2]; exact hT))) Fr.rf (fun v12 s14 is14 fs14 h13 => ?_)
    dsimp only
    refine OK.bndS (k_X7_setFilled_62 _ _ is14 ) fs14 (fun s15 is15 fs15 => ?_)
    try dsimp only
    exact OK.sret is15 fs15
  · skip
    unfold f_X4_fillIn_51
    try dsimp only
    refine OK.grd (by first | exact hT | (rw [Fr.rf.2.2.2]; exact hT)) ?_
    refine OK.bndW (k_X4_addNode_92_62 _ _ _ _ _ _ hI (by first | exact hT | exact hI.r89 | (rw [Fr.rf.2.2.2]; exact hT))) Fr.rf (fun v16 s18 is18 fs18 h17 => ?_)
    dsimp only
    refine OK.bndS (k_X7_setFilled_62 _ _ is18 ) fs18 (fun s19 is19 fs19 => ?_)
    try dsimp only
    exact OK.sret is19 fs19

theorem k_X4_fillIn_92_74 (p0 : Int32) (p1 : Int32) (p2 : Int32) (σ : ST) (hI : IA σ) (hT : σ.2.2.2 92 = 74)  : OK (f_X4_fillIn 92 74 p0 p1 p2 σ) (RS σ) := by
  unfold f_X4_fillIn
  have lt_0 := li_0
  have lt_1 := li_1
  have lt_5 := li_5
  have lFU : ((FU : Nat) : Int) = 100000 := rfl
  refine OK.bndR (k_X5_typeOf_4 _ _ _ hI ) (fun v1 h2 => ?_)
  dsimp only
  refine OK.bndR (k_X5_firstChoice_4 _ _ hI ) (fun v3 h4 => ?_)
  dsimp only
  refine OK.bndR (k_X5_elseWorth_4 _ _ _ hI ) (fun v5 h6 => ?_)
  dsimp only
  refine OK.bndR (k_X5_sortOf_4 _ _ hI ) (fun v7 h8 => ?_)
  dsimp only
  refine OK.ieq (fun h9 => ?_) (fun h9 => ?_)
  · skip
    refine OK.bndR (k_X10_lettersIn _ _ hI ) (fun v10 h11 => ?_)
    dsimp only
    unfold f_X4_fillIn_51
    try dsimp only
    refine OK.grd (by first | exact hT | (rw [Fr.rf.2.2.2]; exact hT)) ?_
    refine OK.bndW (k_X4_addNode_92_74 _ _ _ _ _ _ hI (by first | exact hT | exact hI.r89 | (rw [Fr.rf.2.2.2]; exact hT))) Fr.rf (fun v12 s14 is14 fs14 h13 => ?_)
    dsimp only
    refine OK.bndS (k_X7_setFilled_74 _ _ is14 ) fs14 (fun s15 is15 fs15 => ?_)
    try dsimp only
    exact OK.sret is15 fs15
  · skip
    unfold f_X4_fillIn_51
    try dsimp only
    refine OK.grd (by first | exact hT | (rw [Fr.rf.2.2.2]; exact hT)) ?_
    refine OK.bndW (k_X4_addNode_92_74 _ _ _ _ _ _ hI (by first | exact hT | exact hI.r89 | (rw [Fr.rf.2.2.2]; exact hT))) Fr.rf (fun v16 s18 is18 fs18 h17 => ?_)
    dsimp only
    refine OK.bndS (k_X7_setFilled_74 _ _ is18 ) fs18 (fun s19 is19 fs19 => ?_)
    try dsimp only
    exact OK.sret is19 fs19

theorem k_X4_findSources_3_89_50 : ∀ (n : Nat) (x1 : Int32) (x2 : Int32) (x3 : Int32) (x4 : Int32) (σ : ST), IA σ → σ.2.2.2 89 = 50 → (0 ≤ x4.toInt ∧ x4.toInt ≤ 8 ∧ (8 : Int) - x4.toInt < n) → OK (f_X4_findSources_3 89 50 n x1 x2 x3 x4 σ) (RS σ) := by
  intro n
  induction n with
  | zero =>
    intro x1 x2 x3 x4 σ hI hT hv
    omega
  | succ n ih =>
    intro x1 x2 x3 x4 σ hI hT hv
    rw [f_X4_findSources_3]
    have lt_0 := li_0
    have lt_1 := li_1
    have lt_8 := li_8
    have lt_31 := li_31
    have lFU : ((FU : Nat) : Int) = 100000 := rfl
    refine OK.bndR (k_X5_fieldsOf_4 _ _ hI ) (fun v1 h2 => ?_)
    dsimp only
    refine OK.ile (fun h3 => ?_) (fun h3 => ?_)
    · skip
      exact OK.sret hI Fr.rf
    · skip
      refine OK.ilt (fun h4 => ?_) (fun h4 => ?_)
      · skip
        unfold f_X4_findSources_56
        try dsimp only
        obtain ⟨a5k, a5, a5l, a5r⟩ := i_add x4 1
        try (refine k0el (k := a5k) ?_ (fun e0 => ?_); (focus omega); subst e0)
        exact OK.trS (ih _ _ _ _ _ hI (by first | exact hT | (rw [Fr.rf.2.2.2]; exact hT)) (by omega)) Fr.rf
      · skip
        refine OK.ile (fun h6 => ?_) (fun h6 => ?_)
        · skip
          unfold f_X4_findSources_56
          try dsimp only
          obtain ⟨a7k, a7, a7l, a7r⟩ := i_add x4 1
          try (refine k0el (k := a7k) ?_ (fun e0 => ?_); (focus omega); subst e0)
          exact OK.trS (ih _ _ _ _ _ hI (by first | exact hT | (rw [Fr.rf.2.2.2]; exact hT)) (by omega)) Fr.rf
        · skip
          refine OK.ile (fun h8 => ?_) (fun h8 => ?_)
          · skip
            unfold f_X4_findSources_56
            try dsimp only
            obtain ⟨a9k, a9, a9l, a9r⟩ := i_add x4 1
            try (refine k0el (k := a9k) ?_ (fun e0 => ?_); (focus omega); subst e0)
            exact OK.trS (ih _ _ _ _ _ hI (by first | exact hT | (rw [Fr.rf.2.2.2]; exact hT)) (by omega)) Fr.rf
          · skip
            refine OK.bndR (k_X5_sourceOf_4 _ _ _ _ hI ) (fun v10 h11 => ?_)
            dsimp only
            obtain ⟨a12k, a12, a12l, a12r⟩ := i_mul x3 8
            rw [li_8] at a12
            try (refine k0el (k := a12k) ?_ (fun e0 => ?_); (focus omega); subst e0)
            obtain ⟨a13k, a13, a13l, a13r⟩ := i_add (x3 * 8) x4
            try (refine k0el (k := a13k) ?_ (fun e0 => ?_); (focus omega); subst e0)
            refine OK.grd ⟨by omega, by omega⟩ ?_
            unfold f_X4_findSources_56
            try dsimp only
            obtain ⟨a14k, a14, a14l, a14r⟩ := i_add x4 1
            try (refine k0el (k := a14k) ?_ (fun e0 => ?_); (focus omega); subst e0)
            exact OK.trS (ih _ _ _ _ _ (ia_I_91 hI) (by first | exact hT | (rw [(fr_I_91 Fr.rf).2.2.2]; exact hT)) (by omega)) (fr_I_91 Fr.rf)

theorem k_X4_findSources_3_92_62 : ∀ (n : Nat) (x1 : Int32) (x2 : Int32) (x3 : Int32) (x4 : Int32) (σ : ST), IA σ → σ.2.2.2 92 = 62 → (0 ≤ x4.toInt ∧ x4.toInt ≤ 8 ∧ (8 : Int) - x4.toInt < n) → OK (f_X4_findSources_3 92 62 n x1 x2 x3 x4 σ) (RS σ) := by
  intro n
  induction n with
  | zero =>
    intro x1 x2 x3 x4 σ hI hT hv
    omega
  | succ n ih =>
    intro x1 x2 x3 x4 σ hI hT hv
    rw [f_X4_findSources_3]
    have lt_0 := li_0
    have lt_1 := li_1
    have lt_8 := li_8
    have lt_31 := li_31
    have lFU : ((FU : Nat) : Int) = 100000 := rfl
    refine OK.bndR (k_X5_fieldsOf_4 _ _ hI ) (fun v1 h2 => ?_)
    dsimp only
    refine OK.ile (fun h3 => ?_) (fun h3 => ?_)
    · skip
      exact OK.sret hI Fr.rf
    · skip
      refine OK.ilt (fun h4 => ?_) (fun h4 => ?_)
      · skip
        unfold f_X4_findSources_56
        try dsimp only
        obtain ⟨a5k, a5, a5l, a5r⟩ := i_add x4 1
        try (refine k0el (k := a5k) ?_ (fun e0 => ?_); (focus omega); subst e0)
        exact OK.trS (ih _ _ _ _ _ hI (by first | exact hT | (rw [Fr.rf.2.2.2]; exact hT)) (by omega)) Fr.rf
      · skip
        refine OK.ile (fun h6 => ?_) (fun h6 => ?_)
        · skip
          unfold f_X4_findSources_56
          try dsimp only
          obtain ⟨a7k, a7, a7l, a7r⟩ := i_add x4 1
          try (refine k0el (k := a7k) ?_ (fun e0 => ?_); (focus omega); subst e0)
          exact OK.trS (ih _ _ _ _ _ hI (by first | exact hT | (rw [Fr.rf.2.2.2]; exact hT)) (by omega)) Fr.rf
        · skip
          refine OK.ile (fun h8 => ?_) (fun h8 => ?_)
          · skip
            unfold f_X4_findSources_56
            try dsimp only
            obtain ⟨a9k, a9, a9l, a9r⟩ := i_add x4 1
            try (refine k0el (k := a9k) ?_ (fun e0 => ?_); (focus omega); subst e0)
            exact OK.trS (ih _ _ _ _ _ hI (by first | exact hT | (rw [Fr.rf.2.2.2]; exact hT)) (by omega)) Fr.rf
          · skip
            refine OK.bndR (k_X5_sourceOf_4 _ _ _ _ hI ) (fun v10 h11 => ?_)
            dsimp only
            obtain ⟨a12k, a12, a12l, a12r⟩ := i_mul x3 8
            rw [li_8] at a12
            try (refine k0el (k := a12k) ?_ (fun e0 => ?_); (focus omega); subst e0)
            obtain ⟨a13k, a13, a13l, a13r⟩ := i_add (x3 * 8) x4
            try (refine k0el (k := a13k) ?_ (fun e0 => ?_); (focus omega); subst e0)
            refine OK.grd ⟨by omega, by omega⟩ ?_
            unfold f_X4_findSources_56
            try dsimp only
            obtain ⟨a14k, a14, a14l, a14r⟩ := i_add x4 1
            try (refine k0el (k := a14k) ?_ (fun e0 => ?_); (focus omega); subst e0)
            exact OK.trS (ih _ _ _ _ _ (ia_I_94 hI) (by first | exact hT | (rw [(fr_I_94 Fr.rf).2.2.2]; exact hT)) (by omega)) (fr_I_94 Fr.rf)

theorem k_X4_findSources_3_92_74 : ∀ (n : Nat) (x1 : Int32) (x2 : Int32) (x3 : Int32) (x4 : Int32) (σ : ST), IA σ → σ.2.2.2 92 = 74 → (0 ≤ x4.toInt ∧ x4.toInt ≤ 8 ∧ (8 : Int) - x4.toInt < n) → OK (f_X4_findSources_3 92 74 n x1 x2 x3 x4 σ) (RS σ) := by
  intro n
  induction n with
  | zero =>
    intro x1 x2 x3 x4 σ hI hT hv
    omega
  | succ n ih =>
    intro x1 x2 x3 x4 σ hI hT hv
    rw [f_X4_findSources_3]
    have lt_0 := li_0
    have lt_1 := li_1
    have lt_8 := li_8
    have lt_31 := li_31
    have lFU : ((FU : Nat) : Int) = 100000 := rfl
    refine OK.bndR (k_X5_fieldsOf_4 _ _ hI ) (fun v1 h2 => ?_)
    dsimp only
    refine OK.ile (fun h3 => ?_) (fun h3 => ?_)
    · skip
      exact OK.sret hI Fr.rf
    · skip
      refine OK.ilt (fun h4 => ?_) (fun h4 => ?_)
      · skip
        unfold f_X4_findSources_56
        try dsimp only
        obtain ⟨a5k, a5, a5l, a5r⟩ := i_add x4 1
        try (refine k0el (k := a5k) ?_ (fun e0 => ?_); (focus omega); subst e0)
        exact OK.trS (ih _ _ _ _ _ hI (by first | exact hT | (rw [Fr.rf.2.2.2]; exact hT)) (by omega)) Fr.rf
      · skip
        refine OK.ile (fun h6 => ?_) (fun h6 => ?_)
        · skip
          unfold f_X4_findSources_56
          try dsimp only
          obtain ⟨a7k, a7, a7l, a7r⟩ := i_add x4 1
          try (refine k0el (k := a7k) ?_ (fun e0 => ?_); (focus omega); subst e0)
          exact OK.trS (ih _ _ _ _ _ hI (by first | exact hT | (rw [Fr.rf.2.2.2]; exact hT)) (by omega)) Fr.rf
        · skip
          refine OK.ile (fun h8 => ?_) (fun h8 => ?_)
          · skip
            unfold f_X4_findSources_56
            try dsimp only
            obtain ⟨a9k, a9, a9l, a9r⟩ := i_add x4 1
            try (refine k0el (k := a9k) ?_ (fun e0 => ?_); (focus omega); subst e0)
            exact OK.trS (ih _ _ _ _ _ hI (by first | exact hT | (rw [Fr.rf.2.2.2]; exact hT)) (by omega)) Fr.rf
          · skip
            refine OK.bndR (k_X5_sourceOf_4 _ _ _ _ hI ) (fun v10 h11 => ?_)
            dsimp only
            obtain ⟨a12k, a12, a12l, a12r⟩ := i_mul x3 8
            rw [li_8] at a12
            try (refine k0el (k := a12k) ?_ (fun e0 => ?_); (focus omega); subst e0)
            obtain ⟨a13k, a13, a13l, a13r⟩ := i_add (x3 * 8) x4
            try (refine k0el (k := a13k) ?_ (fun e0 => ?_); (focus omega); subst e0)
            refine OK.grd ⟨by omega, by omega⟩ ?_
            unfold f_X4_findSources_56
            try dsimp only
            obtain ⟨a14k, a14, a14l, a14r⟩ := i_add x4 1
            try (refine k0el (k := a14k) ?_ (fun e0 => ?_); (focus omega); subst e0)
            exact OK.trS (ih _ _ _ _ _ (ia_I_94 hI) (by first | exact hT | (rw [(fr_I_94 Fr.rf).2.2.2]; exact hT)) (by omega)) (fr_I_94 Fr.rf)
