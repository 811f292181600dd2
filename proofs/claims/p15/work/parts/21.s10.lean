theorem k_X3_parse (σ : ST) (hI : IA σ)  : OK (f_X3_parse  σ) (RW σ fun v => v.toInt = 0 ∨ v.toInt = 1) := by
  unfold f_X3_parse
  have lt_m1 := li_m1
  have lt_0 := li_0
  have lt_1 := li_1
  have lFU : ((FU : Nat) : Int) = 100000 := rfl
  refine OK.bndS (k_X5_clear_20 _ hI ) Fr.rf (fun s1 is1 fs1 => ?_)
  try dsimp only
  exact OK.trW (k_X3_parse_11 FU _ _ _ is1 (by omega)) fs1 (fun v hv => by first | trivial | omega | exact hI.flds _ | exact hI.dflds _ | exact hI.recs _ | exact hI.drecs _ | exact hI.droot _ | omega)

theorem cpy_all {P : Int32 → Prop} {f g : Nat → Int32} {a b n : Nat} (hf : ∀ j, P (f j)) (hg : ∀ j, P (g j)) : ∀ j, P (va_cpy f g a b n j) := by
  intro j
  unfold va_cpy
  split
  · exact hf _
  · exact hg j
theorem ia_F_5 {σ : ST} {f : Nat → Int32} (h : IA σ) (hv : ∀ i, bI (f i) 0 36) : IA (stF σ 5 f) := ⟨h.1, h.2.1, h.2.2.1, h.2.2.2.1, h.2.2.2.2.1, h.2.2.2.2.2.1, h.2.2.2.2.2.2.1, hv, h.2.2.2.2.2.2.2.2⟩
theorem ia_F_7 {σ : ST} {f : Nat → Int32} (h : IA σ) (hv : ∀ i, bI (f i) 0 8) : IA (stF σ 7 f) := ⟨h.1, h.2.1, h.2.2.1, h.2.2.2.1, h.2.2.2.2.1, h.2.2.2.2.2.1, h.2.2.2.2.2.2.1, h.2.2.2.2.2.2.2.1, h.2.2.2.2.2.2.2.2.1, hv, h.2.2.2.2.2.2.2.2.2.2⟩
theorem ia_F_6 {σ : ST} {f : Nat → Int32} (h : IA σ) : IA (stF σ 6 f) := h
theorem ia_F_9 {σ : ST} {f : Nat → Int32} (h : IA σ) : IA (stF σ 9 f) := h
theorem ia_F_13 {σ : ST} {f : Nat → Int32} (h : IA σ) : IA (stF σ 13 f) := h
theorem ia_F_15 {σ : ST} {f : Nat → Int32} (h : IA σ) : IA (stF σ 15 f) := h
theorem ia_F_16 {σ : ST} {f : Nat → Int32} (h : IA σ) : IA (stF σ 16 f) := h
theorem ia_F_17 {σ : ST} {f : Nat → Int32} (h : IA σ) : IA (stF σ 17 f) := h
/-- the frame of the plans' copy -/
def CF (σ τ : ST) : Prop := IA τ ∧ τ.1 0 = σ.1 0 ∧ τ.1 1 = σ.1 1 ∧ τ.1 4 0 = σ.1 20 0 ∧ τ.2.2.2 = σ.2.2.2 ∧ τ.2.1 3 = σ.2.1 3
theorem k_X5_copyFrom_4 (σ : ST) (hI : IA σ) : OK (f_X5_copyFrom 4 σ) (CF σ) := by
  unfold f_X5_copyFrom
  refine OK.lt (fun z1 h1 => ?_)
  have c1 : CF σ z1 := by
    rw [h1]
    exact ⟨ia_I_4_1 (ia_J_4_0 hI hI.dplans), rfl, rfl, rfl, rfl, rfl⟩
  clear h1
  refine OK.grd (by decide) ?_
  refine OK.lt (fun z2 h2 => ?_)
  have c2 : CF σ z2 := by
    rw [h2]
    exact ⟨ia_F_5 c1.1 (cpy_all (P := fun x => bI x 0 36) c1.1.drecs c1.1.recs), c1.2⟩
  clear h2 c1
  refine OK.grd (by decide) ?_
  refine OK.lt (fun z3 h3 => ?_)
  have c3 : CF σ z3 := by
    rw [h3]
    exact ⟨ia_F_6 c2.1, c2.2⟩
  clear h3 c2
  refine OK.grd (by decide) ?_
  refine OK.lt (fun z4 h4 => ?_)
  have c4 : CF σ z4 := by
    rw [h4]
    exact ⟨ia_F_7 c3.1 (cpy_all (P := fun x => bI x 0 8) c3.1.dflds c3.1.flds), c3.2⟩
  clear h4 c3
  refine OK.grd (by decide) ?_
  refine OK.lt (fun z5 h5 => ?_)
  have c5 : CF σ z5 := by
    rw [h5]
    exact ⟨ia_FL c4.1, c4.2⟩
  clear h5 c4
  refine OK.grd (by decide) ?_
  refine OK.lt (fun z6 h6 => ?_)
  have c6 : CF σ z6 := by
    rw [h6]
    exact ⟨ia_F_9 c5.1, c5.2⟩
  clear h6 c5
  refine OK.grd (by decide) ?_
  refine OK.lt (fun z7 h7 => ?_)
  have c7 : CF σ z7 := by
    rw [h7]
    exact ⟨ia_FL c6.1, c6.2⟩
  clear h7 c6
  refine OK.grd (by decide) ?_
  refine OK.lt (fun z8 h8 => ?_)
  have c8 : CF σ z8 := by
    rw [h8]
    exact ⟨ia_FL c7.1, c7.2⟩
  clear h8 c7
  refine OK.grd (by decide) ?_
  refine OK.lt (fun z9 h9 => ?_)
  have c9 : CF σ z9 := by
    rw [h9]
    exact ⟨ia_F_13 c8.1, c8.2⟩
  clear h9 c8
  refine OK.grd (by decide) ?_
  refine OK.lt (fun z10 h10 => ?_)
  have c10 : CF σ z10 := by
    rw [h10]
    exact ⟨ia_FL c9.1, c9.2⟩
  clear h10 c9
  refine OK.grd (by decide) ?_
  refine OK.lt (fun z11 h11 => ?_)
  have c11 : CF σ z11 := by
    rw [h11]
    exact ⟨ia_F_15 c10.1, c10.2⟩
  clear h11 c10
  refine OK.grd (by decide) ?_
  refine OK.lt (fun z12 h12 => ?_)
  have c12 : CF σ z12 := by
    rw [h12]
    exact ⟨ia_F_16 c11.1, c11.2⟩
  clear h12 c11
  refine OK.grd (by decide) ?_
  refine OK.lt (fun z13 h13 => ?_)
  have c13 : CF σ z13 := by
    rw [h13]
    exact ⟨ia_F_17 c12.1, c12.2⟩
  clear h13 c12
  exact OK.ret c13


theorem k_X5_heightOfFields_4_4 : ∀ (n : Nat) (x1 : Int32) (x2 : Int32) (x3 : Int32) (σ : ST), IA σ → (0 ≤ x3.toInt ∧ x3.toInt ≤ 8 ∧ (8 : Int) - x3.toInt < n) → OK (f_X5_heightOfFields_4 4 n x1 x2 x3 σ) (RO σ fun v => True) := by
  intro n
  induction n with
  | zero =>
    intro x1 x2 x3 σ hI hv
    omega
  | succ n ih =>
    intro x1 x2 x3 σ hI hv
    rw [f_X5_heightOfFields_4]
    have lt_m1 := li_m1
    have lt_0 := li_0
    have lt_1 := li_1
    have lFU : ((FU : Nat) : Int) = 100000 := rfl
    refine OK.bndR (k_X5_fieldsOf_4 _ _ hI ) (fun v1 h2 => ?_)
    dsimp only
    refine OK.ile (fun h3 => ?_) (fun h3 => ?_)
    · skip
      exact OK.roret (by first | trivial | omega | exact hI.flds _ | exact hI.dflds _ | exact hI.recs _ | exact hI.drecs _ | exact hI.droot _ | omega)
    · skip
      refine OK.bndR (k_X5_typeOf_4 _ _ _ hI ) (fun v4 h5 => ?_)
      dsimp only
      refine OK.bndR (k_X5_emptyHeight_4 _ _ hI ) (fun v6 h7 => ?_)
      dsimp only
      refine OK.ieq (fun h8 => ?_) (fun h8 => ?_)
      · skip
        exact OK.roret (by first | trivial | omega | exact hI.flds _ | exact hI.dflds _ | exact hI.recs _ | exact hI.drecs _ | exact hI.droot _ | omega)
      · skip
        obtain ⟨a9k, a9, a9l, a9r⟩ := i_add x3 1
        try (refine k0el (k := a9k) ?_ (fun e0 => ?_); (focus omega); subst e0)
        exact OK.roq (ih _ _ _ _ hI (by omega)) (fun v hv => by first | trivial | omega | exact hI.flds _ | exact hI.dflds _ | exact hI.recs _ | exact hI.drecs _ | exact hI.droot _ | omega)

theorem k_X5_heightOfFields_4 (p0 : Int32) (σ : ST) (hI : IA σ)  : OK (f_X5_heightOfFields 4 p0 σ) (RO σ fun v => True) := by
  unfold f_X5_heightOfFields
  have lt_0 := li_0
  have lt_1 := li_1
  have lFU : ((FU : Nat) : Int) = 100000 := rfl
  exact OK.roq (k_X5_heightOfFields_4_4 FU _ _ _ _ hI (by omega)) (fun v hv => by first | trivial | omega | exact hI.flds _ | exact hI.dflds _ | exact hI.recs _ | exact hI.drecs _ | exact hI.droot _ | omega)

theorem k_X5_findEmptyRecords_28_4 {k10 : Int32 → ST → Option (ST)} {k18 : Int32 → Int32 → ST → Option (ST)} {P : ST → Prop} : ∀ (n : Nat) (x1 : Int32) (x2 : Int32) (x3 : Int32) (σ : ST), IA σ → (∀ s9 : ST, IA s9 → Fr σ s9 → OK (k18 x1 (x2 + 1) s9) P) → (0 ≤ x3.toInt ∧ x3.toInt ≤ 36 ∧ (36 : Int) - x3.toInt < n) → OK (f_X5_findEmptyRecords_28 k10 k18 4 n x1 x2 x3 σ) P := by
  intro n
  induction n with
  | zero =>
    intro x1 x2 x3 σ hI hk hv
    omega
  | succ n ih =>
    intro x1 x2 x3 σ hI hk hv
    rw [f_X5_findEmptyRecords_28]
    have lt_m1 := li_m1
    have lt_0 := li_0
    have lt_1 := li_1
    have lt_6 := li_6
    have lFU : ((FU : Nat) : Int) = 100000 := rfl
    refine OK.bndR (k_X5_recordsOf_4 _ _ hI ) (fun v1 h2 => ?_)
    dsimp only
    refine OK.ile (fun h3 => ?_) (fun h3 => ?_)
    · skip
      obtain ⟨a4k, a4, a4l, a4r⟩ := i_add x2 1
      try (refine k0el (k := a4k) ?_ (fun e0 => ?_); (focus omega); subst e0)
      exact (hk _ hI Fr.rf)
    · skip
      refine OK.bndR (k_X5_isRecord _ _ hI ) (fun v5 h6 => ?_)
      dsimp only
      refine OK.ieq (fun h7 => ?_) (fun h7 => ?_)
      · skip
        unfold f_X5_findEmptyRecords_77
        try dsimp only
        obtain ⟨a8k, a8, a8l, a8r⟩ := i_add x3 1
        try (refine k0el (k := a8k) ?_ (fun e0 => ?_); (focus omega); subst e0)
        exact (ih _ _ _ _ hI (fun s9 i9 f9 => hk s9 i9 (Fr.trans Fr.rf f9)) (by omega))
      · skip
        obtain ⟨a9k, a9, a9l, a9r⟩ := i_mul x2 6
        rw [li_6] at a9
        try (refine k0el (k := a9k) ?_ (fun e0 => ?_); (focus omega); subst e0)
        obtain ⟨a10k, a10, a10l, a10r⟩ := i_add (x2 * 6) x3
        try (refine k0el (k := a10k) ?_ (fun e0 => ?_); (focus omega); subst e0)
        refine OK.grd ⟨by omega, by omega⟩ ?_
        refine OK.ieq (fun h11 => ?_) (fun h11 => ?_)
        · skip
          refine OK.bndR (k_X5_heightOfFields_4 _ _ hI ) (fun v12 h13 => ?_)
          dsimp only
          unfold f_X5_findEmptyRecords_77
          try dsimp only
          obtain ⟨a14k, a14, a14l, a14r⟩ := i_add x3 1
          try (refine k0el (k := a14k) ?_ (fun e0 => ?_); (focus omega); subst e0)
          exact (ih _ _ _ _ (ia_I_10 hI) (fun s9 i9 f9 => hk s9 i9 (Fr.trans (fr_I_10 Fr.rf) f9)) (by omega))
        · skip
          unfold f_X5_findEmptyRecords_77
          try dsimp only
          obtain ⟨a15k, a15, a15l, a15r⟩ := i_add x3 1
          try (refine k0el (k := a15k) ?_ (fun e0 => ?_); (focus omega); subst e0)
          exact (ih _ _ _ _ hI (fun s9 i9 f9 => hk s9 i9 (Fr.trans Fr.rf f9)) (by omega))

theorem k_X5_findEmptyRecords_18_4 {k10 : Int32 → ST → Option (ST)} {P : ST → Prop} : ∀ (n : Nat) (x1 : Int32) (x2 : Int32) (σ : ST), IA σ → (∀ s9 : ST, IA s9 → Fr σ s9 → OK (k10 (x1 + 1) s9) P) → (0 ≤ x2.toInt ∧ x2.toInt ≤ 6 ∧ (6 : Int) - x2.toInt < n) → OK (f_X5_findEmptyRecords_18 k10 4 n x1 x2 σ) P := by
  intro n
  induction n with
  | zero =>
    intro x1 x2 σ hI hk hv
    omega
  | succ n ih =>
    intro x1 x2 σ hI hk hv
    rw [f_X5_findEmptyRecords_18]
    have lt_0 := li_0
    have lt_1 := li_1
    have lFU : ((FU : Nat) : Int) = 100000 := rfl
    have g0 : 0 ≤ (σ.1 4 0).toInt ∧ (σ.1 4 0).toInt ≤ 6 := hI.plans
    have g1 : 0 ≤ (σ.1 4 0).toInt ∧ (σ.1 4 0).toInt ≤ 6 := hI.plans
    refine OK.ile (fun h2 => ?_) (fun h2 => ?_)
    · skip
      obtain ⟨a3k, a3, a3l, a3r⟩ := i_add x1 1
      try (refine k0el (k := a3k) ?_ (fun e0 => ?_); (focus omega); subst e0)
      exact (hk _ hI Fr.rf)
    · skip
      obtain ⟨a4k, a4, a4l, a4r⟩ := i_add x2 1
      try (refine k0el (k := a4k) ?_ (fun e0 => ?_); (focus omega); subst e0)
      exact (k_X5_findEmptyRecords_28_4 FU _ _ _ _ hI (fun s9 i9 f9 => ih _ _ _ i9 (fun s8 i8 f8 => hk s8 i8 (Fr.trans (Fr.trans Fr.rf f9) f8)) (by omega)) (by omega))

theorem k_X5_findEmptyRecords_10_4 : ∀ (n : Nat) (x1 : Int32) (σ : ST), IA σ → (0 ≤ x1.toInt ∧ x1.toInt ≤ 6 ∧ (6 : Int) - x1.toInt < n) → OK (f_X5_findEmptyRecords_10 4 n x1 σ) (RS σ) := by
  intro n
  induction n with
  | zero =>
    intro x1 σ hI hv
    omega
  | succ n ih =>
    intro x1 σ hI hv
    rw [f_X5_findEmptyRecords_10]
    have lt_0 := li_0
    have lt_1 := li_1
    have lt_6 := li_6
    have lFU : ((FU : Nat) : Int) = 100000 := rfl
    refine OK.ile (fun h1 => ?_) (fun h1 => ?_)
    · skip
      exact OK.sret hI Fr.rf
    · skip
      obtain ⟨a2k, a2, a2l, a2r⟩ := i_add x1 1
      try (refine k0el (k := a2k) ?_ (fun e0 => ?_); (focus omega); subst e0)
      exact (k_X5_findEmptyRecords_18_4 FU _ _ _ hI (fun s9 i9 f9 => OK.trS (ih _ _ i9 (by omega)) (Fr.trans Fr.rf f9)) (by omega))

theorem k_X5_findEmptyRecords_4 (σ : ST) (hI : IA σ)  : OK (f_X5_findEmptyRecords 4 σ) (RS σ) := by
  unfold f_X5_findEmptyRecords
  have lt_m1 := li_m1
  have lt_0 := li_0
  have lt_1 := li_1
  have lFU : ((FU : Nat) : Int) = 100000 := rfl
  refine OK.bndS (k_J7_fill_53178_10 _ _ hI ) Fr.rf (fun s1 is1 fs1 => ?_)
  try dsimp only
  exact OK.trS (k_X5_findEmptyRecords_10_4 FU _ _ is1 (by omega)) fs1

theorem k_X6_begin (p0 : Int32) (σ : ST) (hI : IA σ) (hp0 : 0 ≤ p0.toInt ∧ p0.toInt ≤ 1000)  : OK (f_X6_begin  p0 σ) (RS σ) := by
  unfold f_X6_begin
  have lt_0 := li_0
  have lt_1 := li_1
  have lFU : ((FU : Nat) : Int) = 100000 := rfl
  refine OK.bndS (k_X6_advance _ (ia_I_2_13 (ia_I_2_12 (ia_J_2_3 (ia_J_2_2 hI (show bI p0 0 1000 from ⟨by omega, by omega⟩)) (show bI 0 0 1030 from ⟨by omega, by omega⟩)))) ) (fr_I_2 (fr_I_2 (fr_I_2 (fr_I_2 Fr.rf)))) (fun s1 is1 fs1 => ?_)
  try dsimp only
  exact OK.sret is1 fs1

theorem k_X6_faultAnswer (σ : ST) (hI : IA σ)  : OK (f_X6_faultAnswer  σ) (RO σ fun v => True) := by
  unfold f_X6_faultAnswer
  have lt_0 := li_0
  have lt_1 := li_1
  have lt_2 := li_2
  have lt_8 := li_8
  have lFU : ((FU : Nat) : Int) = 100000 := rfl
  exact OK.roret (by first | trivial | omega | exact hI.flds _ | exact hI.dflds _ | exact hI.recs _ | exact hI.drecs _ | exact hI.droot _ | omega)

theorem k_X9_clear (σ : ST) (hI : IA σ)  : OK (f_X9_clear  σ) (RS σ) := by
  unfold f_X9_clear
  have lt_0 := li_0
  have lt_1 := li_1
  have lFU : ((FU : Nat) : Int) = 100000 := rfl
  exact OK.sret (ia_I_48_3 (ia_I_48_2 (ia_J_48_1 hI (show bI 0 0 4 from ⟨by omega, by omega⟩)))) (fr_I_48 (fr_I_48 (fr_I_48 Fr.rf)))

theorem k_X10_readers_24 : ∀ (n : Nat) (x1 : Int32) (x2 : Int32) (x3 : Int32) (x4 : Int32) (σ : ST), IA σ → (0 ≤ x4.toInt ∧ x4.toInt ≤ 6 ∧ (6 : Int) - x4.toInt < n) → OK (f_X10_readers_24  n x1 x2 x3 x4 σ) (RW σ fun v => True) := by
  intro n
  induction n with
  | zero =>
    intro x1 x2 x3 x4 σ hI hv
    omega
  | succ n ih =>
    intro x1 x2 x3 x4 σ hI hv
    rw [f_X10_readers_24]
    have lt_0 := li_0
    have lt_1 := li_1
    have lFU : ((FU : Nat) : Int) = 100000 := rfl
    have g0 : 0 ≤ (σ.1 4 0).toInt ∧ (σ.1 4 0).toInt ≤ 6 := hI.plans
    have g1 : 0 ≤ (σ.1 4 0).toInt ∧ (σ.1 4 0).toInt ≤ 6 := hI.plans
    refine OK.ile (fun h2 => ?_) (fun h2 => ?_)
    · skip
      exact OK.wret hI Fr.rf (by first | trivial | omega | exact hI.flds _ | exact hI.dflds _ | exact hI.recs _ | exact hI.drecs _ | exact hI.droot _ | omega)
    · skip
      refine OK.bndW (k_X0_verdict _ _ _ hI ) Fr.rf (fun v3 s5 is5 fs5 h4 => ?_)
      dsimp only
      refine OK.ilt (fun h6 => ?_) (fun h6 => ?_)
      · skip
        unfold f_X10_readers_57
        try dsimp only
        obtain ⟨a7k, a7, a7l, a7r⟩ := i_add x4 1
        try (refine k0el (k := a7k) ?_ (fun e0 => ?_); (focus omega); subst e0)
        exact OK.trW (ih _ _ _ _ _ is5 (by omega)) fs5 (fun v hv => by first | trivial | omega | exact hI.flds _ | exact hI.dflds _ | exact hI.recs _ | exact hI.drecs _ | exact hI.droot _ | omega)
      · skip
        unfold f_X10_readers_57
        try dsimp only
        obtain ⟨a8k, a8, a8l, a8r⟩ := i_add x4 1
        try (refine k0el (k := a8k) ?_ (fun e0 => ?_); (focus omega); subst e0)
        exact OK.trW (ih _ _ _ _ _ is5 (by omega)) fs5 (fun v hv => by first | trivial | omega | exact hI.flds _ | exact hI.dflds _ | exact hI.recs _ | exact hI.drecs _ | exact hI.droot _ | omega)

theorem k_X10_readers (p0 : Int32) (p1 : Int32) (σ : ST) (hI : IA σ)  : OK (f_X10_readers  p0 p1 σ) (RW σ fun v => True) := by
  unfold f_X10_readers
  have lt_m1 := li_m1
  have lt_0 := li_0
  have lt_1 := li_1
  have lFU : ((FU : Nat) : Int) = 100000 := rfl
  refine OK.bndR (k_X10_isPlan _ _ hI ) (fun v1 h2 => ?_)
  dsimp only
  refine OK.ieq (fun h3 => ?_) (fun h3 => ?_)
  · skip
    exact OK.wret hI Fr.rf (by first | trivial | omega | exact hI.flds _ | exact hI.dflds _ | exact hI.recs _ | exact hI.drecs _ | exact hI.droot _ | omega)
  · skip
    refine OK.ilt (fun h4 => ?_) (fun h4 => ?_)
    · skip
      exact OK.wret hI Fr.rf (by first | trivial | omega | exact hI.flds _ | exact hI.dflds _ | exact hI.recs _ | exact hI.drecs _ | exact hI.droot _ | omega)
    · skip
      refine OK.ile (fun h5 => ?_) (fun h5 => ?_)
      · skip
        exact OK.trW (k_X10_readers_24 FU _ _ _ _ _ hI (by omega)) Fr.rf (fun v hv => by first | trivial | omega | exact hI.flds _ | exact hI.dflds _ | exact hI.recs _ | exact hI.drecs _ | exact hI.droot _ | omega)
      · skip
        exact OK.wret hI Fr.rf (by first | trivial | omega | exact hI.flds _ | exact hI.dflds _ | exact hI.recs _ | exact hI.drecs _ | exact hI.droot _ | omega)

theorem k_X10_record (p0 : Int32) (p1 : Int32) (p2 : Int32) (σ : ST) (hI : IA σ)  : OK (f_X10_record  p0 p1 p2 σ) (RO σ fun v => True) := by
  unfold f_X10_record
  have lt_m1 := li_m1
  have lt_0 := li_0
  have lt_1 := li_1
  have lt_6 := li_6
  have lFU : ((FU : Nat) : Int) = 100000 := rfl
  refine OK.bndR (k_X10_isPlan _ _ hI ) (fun v1 h2 => ?_)
  dsimp only
  refine OK.ieq (fun h3 => ?_) (fun h3 => ?_)
  · skip
    exact OK.roret (by first | trivial | omega | exact hI.flds _ | exact hI.dflds _ | exact hI.recs _ | exact hI.drecs _ | exact hI.droot _ | omega)
  · skip
    refine OK.bndR (k_X5_recordsOf_4 _ _ hI ) (fun v4 h5 => ?_)
    dsimp only
    refine OK.ieq (fun h6 => ?_) (fun h6 => ?_)
    · skip
      exact OK.roret (by first | trivial | omega | exact hI.flds _ | exact hI.dflds _ | exact hI.recs _ | exact hI.drecs _ | exact hI.droot _ | omega)
    · skip
      refine OK.ilt (fun h7 => ?_) (fun h7 => ?_)
      · skip
        exact OK.roret (by first | trivial | omega | exact hI.flds _ | exact hI.dflds _ | exact hI.recs _ | exact hI.drecs _ | exact hI.droot _ | omega)
      · skip
        refine OK.ilt (fun h8 => ?_) (fun h8 => ?_)
        · skip
          refine OK.ieq (fun h9 => ?_) (fun h9 => ?_)
          · skip
            refine OK.bndR (k_X5_fieldsOf_4 _ _ hI ) (fun v10 h11 => ?_)
            dsimp only
            exact OK.roret (by first | trivial | omega | exact hI.flds _ | exact hI.dflds _ | exact hI.recs _ | exact hI.drecs _ | exact hI.droot _ | omega)
          · skip
            refine OK.ieq (fun h12 => ?_) (fun h12 => ?_)
            · skip
              refine OK.bndR (k_X5_recordName_4 _ _ hI ) (fun v13 h14 => ?_)
              dsimp only
              refine OK.bndR (k_X10_lettersIn _ _ hI ) (fun v15 h16 => ?_)
              dsimp only
              exact OK.roret (by first | trivial | omega | exact hI.flds _ | exact hI.dflds _ | exact hI.recs _ | exact hI.drecs _ | exact hI.droot _ | omega)
            · skip
              exact OK.roret (by first | trivial | omega | exact hI.flds _ | exact hI.dflds _ | exact hI.recs _ | exact hI.drecs _ | exact hI.droot _ | omega)
        · skip
          exact OK.roret (by first | trivial | omega | exact hI.flds _ | exact hI.dflds _ | exact hI.recs _ | exact hI.drecs _ | exact hI.droot _ | omega)

theorem k_X1_change (p0 : Int32) (p1 : Int32) (p2 : Int32) (σ : ST) (hI : IA σ)  : OK (f_X1_change  p0 p1 p2 σ) (RW σ fun v => True) := by
  unfold f_X1_change
  have lt_0 := li_0
  have lt_1 := li_1
  have lt_400 := li_400
  have lFU : ((FU : Nat) : Int) = 100000 := rfl
  refine OK.bndR (k_X1_byteOf _ _ _ hI ) (fun v1 h2 => ?_)
  dsimp only
  refine OK.bndR (k_X1_hasByte _ _ _ hI ) (fun v3 h4 => ?_)
  dsimp only
  refine OK.ieq (fun h5 => ?_) (fun h5 => ?_)
  · skip
    exact OK.wret hI Fr.rf (by first | trivial | omega | exact hI.flds _ | exact hI.dflds _ | exact hI.recs _ | exact hI.drecs _ | exact hI.droot _ | omega)
  · skip
    obtain ⟨a6k, a6, a6l, a6r⟩ := i_mul p0 400
    rw [li_400] at a6
    try (refine k0el (k := a6k) ?_ (fun e0 => ?_); (focus omega); subst e0)
    obtain ⟨a7k, a7, a7l, a7r⟩ := i_add (p0 * 400) p1
    try (refine k0el (k := a7k) ?_ (fun e0 => ?_); (focus omega); subst e0)
    refine OK.grd ⟨by omega, by omega⟩ ?_
    refine OK.lt (fun z8 h9 => ?_)
    have iz8 : IA z8 := by rw [h9]; exact (ia_I_38 hI)
    have fz8 : Fr σ z8 := by rw [h9]; exact (fr_I_38 Fr.rf)
    exact OK.wret iz8 fz8 (by first | trivial | omega | exact hI.flds _ | exact hI.dflds _ | exact hI.recs _ | exact hI.drecs _ | exact hI.droot _ | omega)

theorem k_X10_spoil (p0 : Int32) (p1 : Int32) (p2 : Int32) (σ : ST) (hI : IA σ)  : OK (f_X10_spoil  p0 p1 p2 σ) (RW σ fun v => True) := by
  unfold f_X10_spoil
  have lt_m1 := li_m1
  have lt_0 := li_0
  have lt_1 := li_1
  have lFU : ((FU : Nat) : Int) = 100000 := rfl
  refine OK.bndR (k_X1_hasByte _ _ _ hI ) (fun v1 h2 => ?_)
  dsimp only
  refine OK.ieq (fun h3 => ?_) (fun h3 => ?_)
  · skip
    exact OK.wret hI Fr.rf (by first | trivial | omega | exact hI.flds _ | exact hI.dflds _ | exact hI.recs _ | exact hI.drecs _ | exact hI.droot _ | omega)
  · skip
    refine OK.bndW (k_X1_change _ _ _ _ hI ) Fr.rf (fun v4 s6 is6 fs6 h5 => ?_)
    dsimp only
    exact OK.wret is6 fs6 (by first | trivial | omega | exact hI.flds _ | exact hI.dflds _ | exact hI.recs _ | exact hI.drecs _ | exact hI.droot _ | omega)

theorem k_X10_value (p0 : Int32) (σ : ST) (hI : IA σ)  : OK (f_X10_value  p0 σ) (RO σ fun v => True) := by
  unfold f_X10_value
  have lt_m1 := li_m1
  have lt_0 := li_0
  have lt_1 := li_1
  have lt_5 := li_5
  have lFU : ((FU : Nat) : Int) = 100000 := rfl
  refine OK.bndR (k_X7_rowAt_50 _ _ hI ) (fun v1 h2 => ?_)
  dsimp only
  refine OK.ieq (fun h3 => ?_) (fun h3 => ?_)
  · skip
    exact OK.roret (by first | trivial | omega | exact hI.flds _ | exact hI.dflds _ | exact hI.recs _ | exact hI.drecs _ | exact hI.droot _ | omega)
  · skip
    refine OK.bndR (k_X7_sortAt_50 _ _ hI ) (fun v4 h5 => ?_)
    dsimp only
    refine OK.ieq (fun h6 => ?_) (fun h6 => ?_)
    · skip
      exact OK.roret (by first | trivial | omega | exact hI.flds _ | exact hI.dflds _ | exact hI.recs _ | exact hI.drecs _ | exact hI.droot _ | omega)
    · skip
      refine OK.bndR (k_X7_worthOf_50 _ _ hI ) (fun v7 h8 => ?_)
      dsimp only
      exact OK.roret (by first | trivial | omega | exact hI.flds _ | exact hI.dflds _ | exact hI.recs _ | exact hI.drecs _ | exact hI.droot _ | omega)

theorem k_X8_fittingType_48 : ∀ (n : Nat) (x2 : Int32) (x3 : Int32) (σ : ST), IA σ → (0 ≤ x3.toInt ∧ x3.toInt ≤ 4 ∧ (4 : Int) - x3.toInt < n) → OK (f_X8_fittingType_48  n x2 x3 σ) (RO σ fun v => True) := by
  intro n
  induction n with
  | zero =>
    intro x2 x3 σ hI hv
    omega
  | succ n ih =>
    intro x2 x3 σ hI hv
    rw [f_X8_fittingType_48]
    have lt_m1 := li_m1
    have lt_0 := li_0
    have lt_1 := li_1
    have lt_4 := li_4
    have lFU : ((FU : Nat) : Int) = 100000 := rfl
    refine OK.ile (fun h1 => ?_) (fun h1 => ?_)
    · skip
      exact OK.roret (by first | trivial | omega | exact hI.flds _ | exact hI.dflds _ | exact hI.recs _ | exact hI.drecs _ | exact hI.droot _ | omega)
    · skip
      refine OK.ieq (fun h2 => ?_) (fun h2 => ?_)
      · skip
        exact OK.roret (by first | trivial | omega | exact hI.flds _ | exact hI.dflds _ | exact hI.recs _ | exact hI.drecs _ | exact hI.droot _ | omega)
      · skip
        refine OK.bndR (k_X5_sortOf_4 _ _ hI ) (fun v3 h4 => ?_)
        dsimp only
        refine OK.bndR (k_X6_fits _ _ hI ) (fun v5 h6 => ?_)
        dsimp only
        refine OK.ieq (fun h7 => ?_) (fun h7 => ?_)
        · skip
          refine OK.bndR (k_X5_branchAfter_4 _ _ hI ) (fun v8 h9 => ?_)
          dsimp only
          obtain ⟨a10k, a10, a10l, a10r⟩ := i_add x3 1
          try (refine k0el (k := a10k) ?_ (fun e0 => ?_); (focus omega); subst e0)
          exact OK.roq (ih _ _ _ hI (by omega)) (fun v hv => by first | trivial | omega | exact hI.flds _ | exact hI.dflds _ | exact hI.recs _ | exact hI.drecs _ | exact hI.droot _ | omega)
        · skip
          exact OK.roret (by first | trivial | omega | exact hI.flds _ | exact hI.dflds _ | exact hI.recs _ | exact hI.drecs _ | exact hI.droot _ | omega)

theorem k_X8_fittingType (p0 : Int32) (σ : ST) (hI : IA σ)  : OK (f_X8_fittingType  p0 σ) (RO σ fun v => True) := by
  unfold f_X8_fittingType
  have lt_m1 := li_m1
  have lt_0 := li_0
  have lt_1 := li_1
  have lt_8 := li_8
  have lFU : ((FU : Nat) : Int) = 100000 := rfl
  refine OK.bndR (k_X5_sortOf_4 _ _ hI ) (fun v1 h2 => ?_)
  dsimp only
  refine OK.ieq (fun h3 => ?_) (fun h3 => ?_)
  · skip
    refine OK.bndR (k_X5_innerOf_4 _ _ hI ) (fun v4 h5 => ?_)
    dsimp only
    exact OK.roq (k_X8_fittingType_48 FU _ _ _ hI (by omega)) (fun v hv => by first | trivial | omega | exact hI.flds _ | exact hI.dflds _ | exact hI.recs _ | exact hI.drecs _ | exact hI.droot _ | omega)
  · skip
    refine OK.bndR (k_X5_sortOf_4 _ _ hI ) (fun v6 h7 => ?_)
    dsimp only
    refine OK.bndR (k_X6_fits _ _ hI ) (fun v8 h9 => ?_)
    dsimp only
    refine OK.ieq (fun h10 => ?_) (fun h10 => ?_)
    · skip
      exact OK.roret (by first | trivial | omega | exact hI.flds _ | exact hI.dflds _ | exact hI.recs _ | exact hI.drecs _ | exact hI.droot _ | omega)
    · skip
      exact OK.roret (by first | trivial | omega | exact hI.flds _ | exact hI.dflds _ | exact hI.recs _ | exact hI.drecs _ | exact hI.droot _ | omega)

theorem k_X8_closeRecord_2 : ∀ (n : Nat) (x1 : Int32) (x2 : Int32) (x3 : Int32) (σ : ST), IA σ → (0 ≤ x3.toInt ∧ x3.toInt ≤ 8 ∧ (8 : Int) - x3.toInt < n) → OK (f_X8_closeRecord_2  n x1 x2 x3 σ) (RW σ fun v => v.toInt = 0 ∨ v.toInt = 1) := by
  intro n
  induction n with
  | zero =>
    intro x1 x2 x3 σ hI hv
    omega
  | succ n ih =>
    intro x1 x2 x3 σ hI hv
    rw [f_X8_closeRecord_2]
    have lt_0 := li_0
    have lt_1 := li_1
    have lt_6 := li_6
    have lt_31 := li_31
    have lFU : ((FU : Nat) : Int) = 100000 := rfl
    refine OK.bndR (k_X5_fieldsOf_4 _ _ hI ) (fun v1 h2 => ?_)
    dsimp only
    refine OK.ile (fun h3 => ?_) (fun h3 => ?_)
    · skip
      refine OK.bndS (k_X6_advance _ hI ) Fr.rf (fun s4 is4 fs4 => ?_)
      try dsimp only
      exact OK.wret is4 fs4 (by first | trivial | omega | exact hI.flds _ | exact hI.dflds _ | exact hI.recs _ | exact hI.drecs _ | exact hI.droot _ | omega)
    · skip
      refine OK.ieq (fun h5 => ?_) (fun h5 => ?_)
      · skip
        refine OK.bndR (k_X5_hasElse_4 _ _ _ hI ) (fun v6 h7 => ?_)
        dsimp only
        refine OK.ieq (fun h8 => ?_) (fun h8 => ?_)
        · skip
          refine OK.bndW (k_X6_refuse _ _ hI ) Fr.rf (fun v9 s11 is11 fs11 h10 => ?_)
          dsimp only
          refine OK.grd (b01 (by omega)) ?_
          exact OK.wret is11 fs11 (by first | trivial | omega | exact hI.flds _ | exact hI.dflds _ | exact hI.recs _ | exact hI.drecs _ | exact hI.droot _ | omega)
        · skip
          unfold f_X8_closeRecord_44
          try dsimp only
          obtain ⟨a12k, a12, a12l, a12r⟩ := i_add x3 1
          try (refine k0el (k := a12k) ?_ (fun e0 => ?_); (focus omega); subst e0)
          exact OK.trW (ih _ _ _ _ hI (by omega)) Fr.rf (fun v hv => by first | trivial | omega | exact hI.flds _ | exact hI.dflds _ | exact hI.recs _ | exact hI.drecs _ | exact hI.droot _ | omega)
      · skip
        unfold f_X8_closeRecord_44
        try dsimp only
        obtain ⟨a13k, a13, a13l, a13r⟩ := i_add x3 1
        try (refine k0el (k := a13k) ?_ (fun e0 => ?_); (focus omega); subst e0)
        exact OK.trW (ih _ _ _ _ hI (by omega)) Fr.rf (fun v hv => by first | trivial | omega | exact hI.flds _ | exact hI.dflds _ | exact hI.recs _ | exact hI.drecs _ | exact hI.droot _ | omega)

theorem k_X8_closeRecord (p0 : Int32) (p1 : Int32) (σ : ST) (hI : IA σ)  : OK (f_X8_closeRecord  p0 p1 σ) (RW σ fun v => v.toInt = 0 ∨ v.toInt = 1) := by
  unfold f_X8_closeRecord
  have lt_0 := li_0
  have lt_1 := li_1
  have lFU : ((FU : Nat) : Int) = 100000 := rfl
  exact OK.trW (k_X8_closeRecord_2 FU _ _ _ _ hI (by omega)) Fr.rf (fun v hv => by first | trivial | omega | exact hI.flds _ | exact hI.dflds _ | exact hI.recs _ | exact hI.drecs _ | exact hI.droot _ | omega)

theorem k_X8_parseFields_25 {N0 : Nat} {r_X8_parseFields : Int32 → Int32 → Int32 → ST → Option (Int32 × ST)} (hr_X8_parseFields : ∀ (p0 : Int32) (p1 : Int32) (p2 : Int32) (σ : ST), IA σ → 0 ≤ p2.toInt ∧ p2.toInt ≤ 30 ∧ (63 : Int) ≤ (N0 : Nat) + 2 * p2.toInt → OK (r_X8_parseFields p0 p1 p2 σ) (RW σ fun v => v.toInt = 0 ∨ v.toInt = 1)) {r_X8_parseItems : Int32 → Int32 → Int32 → ST → Option (Int32 × ST)} (hr_X8_parseItems : ∀ (p0 : Int32) (p1 : Int32) (p2 : Int32) (σ : ST), IA σ → 0 ≤ p2.toInt ∧ p2.toInt ≤ 30 ∧ (63 : Int) ≤ (N0 : Nat) + 2 * p2.toInt → OK (r_X8_parseItems p0 p1 p2 σ) (RW σ fun v => v.toInt = 0 ∨ v.toInt = 1)) {r_X8_parseValue : Int32 → Int32 → Int32 → Int32 → ST → Option (Int32 × ST)} (hr_X8_parseValue : ∀ (p0 : Int32) (p1 : Int32) (p2 : Int32) (p3 : Int32) (σ : ST), IA σ → 0 ≤ p3.toInt ∧ p3.toInt ≤ 31 ∧ (64 : Int) ≤ (N0 : Nat) + 2 * p3.toInt → OK (r_X8_parseValue p0 p1 p2 p3 σ) (RW σ fun v => v.toInt = 0 ∨ v.toInt = 1)) : ∀ (n : Nat) (x1 : Int32) (x2 : Int32) (x3 : Int32) (x4 : Int32) (x5 : Int32) (x6 : Int32) (σ : ST), IA σ → ((0 ≤ x3.toInt ∧ x3.toInt ≤ 30 ∧ (63 : Int) ≤ (N0 + 1 : Nat) + 2 * x3.toInt) ∧ 0 ≤ x6.toInt ∧ x6.toInt ≤ 9 ∧ (9 : Int) - x6.toInt < n) → OK (f_X8_parseFields_25 r_X8_parseFields r_X8_parseItems r_X8_parseValue  n x1 x2 x3 x4 x5 x6 σ) (RW σ fun v => v.toInt = 0 ∨ v.toInt = 1) := by
  intro n
  induction n with
  | zero =>
    intro x1 x2 x3 x4 x5 x6 σ hI hv
    omega
  | succ n ih =>
    intro x1 x2 x3 x4 x5 x6 σ hI hv
    rw [f_X8_parseFields_25]
    have lt_m1 := li_m1
    have lt_0 := li_0
    have lt_1 := li_1
    have lt_3 := li_3
    have lt_8 := li_8
    have lt_31 := li_31
    have lt_44 := li_44
    have lt_125 := li_125
    have lFU : ((FU : Nat) : Int) = 100000 := rfl
    have lFR : ((FR : Nat) : Int) = 160 := rfl
    refine OK.ilt (fun h1 => ?_) (fun h1 => ?_)
    · skip
      unfold f_X8_parseFields_210
      try dsimp only
      refine OK.bndW (k_X8_closeRecord _ _ _ hI ) Fr.rf (fun v2 s4 is4 fs4 h3 => ?_)
      dsimp only
      refine OK.grd (b01 (by omega)) ?_
      exact OK.wret is4 fs4 (by first | trivial | omega | exact hI.flds _ | exact hI.dflds _ | exact hI.recs _ | exact hI.drecs _ | exact hI.droot _ | omega)
    · skip
      refine OK.ieq (fun h5 => ?_) (fun h5 => ?_)
      · skip
        unfold f_X8_parseFields_210
        try dsimp only
        refine OK.bndW (k_X8_closeRecord _ _ _ hI ) Fr.rf (fun v6 s8 is8 fs8 h7 => ?_)
        dsimp only
        refine OK.grd (b01 (by omega)) ?_
        exact OK.wret is8 fs8 (by first | trivial | omega | exact hI.flds _ | exact hI.dflds _ | exact hI.recs _ | exact hI.drecs _ | exact hI.droot _ | omega)
      · skip
        refine OK.ieq (fun h9 => ?_) (fun h9 => ?_)
        · skip
          refine OK.bndR (k_X5_fieldNamed_4 _ _ _ hI ) (fun v10 h11 => ?_)
          dsimp only
          refine OK.ieq (fun h12 => ?_) (fun h12 => ?_)
          · skip
            unfold f_X8_parseFields_90
            try dsimp only
            refine OK.bndW (k_X6_refuse _ _ hI ) Fr.rf (fun v13 s15 is15 fs15 h14 => ?_)
            dsimp only
            refine OK.grd (b01 (by omega)) ?_
            exact OK.wret is15 fs15 (by first | trivial | omega | exact hI.flds _ | exact hI.dflds _ | exact hI.recs _ | exact hI.drecs _ | exact hI.droot _ | omega)
          · skip
            refine OK.ieq (fun h16 => ?_) (fun h16 => ?_)
            · skip
              refine OK.bndS (k_X6_advance _ hI ) Fr.rf (fun s17 is17 fs17 => ?_)
              try dsimp only
              refine OK.bndR (k_X5_typeOf_4 _ _ _ is17 ) (fun v18 h19 => ?_)
              dsimp only
              obtain ⟨a20k, a20, a20l, a20r⟩ := i_add x3 1
              try (refine k0el (k := a20k) ?_ (fun e0 => ?_); (focus omega); subst e0)
              refine OK.bndW (hr_X8_parseValue _ _ _ _ _ is17 (by omega)) fs17 (fun v21 s23 is23 fs23 h22 => ?_)
              dsimp only
              refine OK.ieq (fun h24 => ?_) (fun h24 => ?_)
              · skip
                exact OK.wret is23 fs23 (by first | trivial | omega | exact hI.flds _ | exact hI.dflds _ | exact hI.recs _ | exact hI.drecs _ | exact hI.droot _ | omega)
              · skip
                refine OK.ieq (fun h25 => ?_) (fun h25 => ?_)
                · skip
                  unfold f_X8_parseFields_173
                  try dsimp only
                  refine OK.ieq (fun h26 => ?_) (fun h26 => ?_)
                  · skip
                    unfold f_X8_parseFields_190
                    try dsimp only
                    refine OK.ieq (fun h27 => ?_) (fun h27 => ?_)
                    · skip
                      unfold f_X8_parseFields_204
                      try dsimp only
                      obtain ⟨a28k, a28, a28l, a28r⟩ := i_add x6 1
                      try (refine k0el (k := a28k) ?_ (fun e0 => ?_); (focus omega); subst e0)
                      exact OK.trW (ih _ _ _ _ _ _ _ is23 (by omega)) fs23 (fun v hv => by first | trivial | omega | exact hI.flds _ | exact hI.dflds _ | exact hI.recs _ | exact hI.drecs _ | exact hI.droot _ | omega)
                    · skip
                      refine OK.bndS (k_X6_advance _ is23 ) fs23 (fun s29 is29 fs29 => ?_)
                      try dsimp only
                      unfold f_X8_parseFields_204
                      try dsimp only
                      obtain ⟨a30k, a30, a30l, a30r⟩ := i_add x6 1
                      try (refine k0el (k := a30k) ?_ (fun e0 => ?_); (focus omega); subst e0)
                      exact OK.trW (ih _ _ _ _ _ _ _ is29 (by omega)) fs29 (fun v hv => by first | trivial | omega | exact hI.flds _ | exact hI.dflds _ | exact hI.recs _ | exact hI.drecs _ | exact hI.droot _ | omega)
                  · skip
                    unfold f_X8_parseFields_190
                    try dsimp only
                    refine OK.ieq (fun h31 => ?_) (fun h31 => ?_)
                    · skip
                      unfold f_X8_parseFields_204
                      try dsimp only
                      obtain ⟨a32k, a32, a32l, a32r⟩ := i_add x6 1
                      try (refine k0el (k := a32k) ?_ (fun e0 => ?_); (focus omega); subst e0)
                      exact OK.trW (ih _ _ _ _ _ _ _ is23 (by omega)) fs23 (fun v hv => by first | trivial | omega | exact hI.flds _ | exact hI.dflds _ | exact hI.recs _ | exact hI.drecs _ | exact hI.droot _ | omega)
                    · skip
                      refine OK.bndS (k_X6_advance _ is23 ) fs23 (fun s33 is33 fs33 => ?_)
                      try dsimp only
                      unfold f_X8_parseFields_204
                      try dsimp only
                      obtain ⟨a34k, a34, a34l, a34r⟩ := i_add x6 1
                      try (refine k0el (k := a34k) ?_ (fun e0 => ?_); (focus omega); subst e0)
                      exact OK.trW (ih _ _ _ _ _ _ _ is33 (by omega)) fs33 (fun v hv => by first | trivial | omega | exact hI.flds _ | exact hI.dflds _ | exact hI.recs _ | exact hI.drecs _ | exact hI.droot _ | omega)
                · skip
                  refine OK.ieq (fun h35 => ?_) (fun h35 => ?_)
                  · skip
                    unfold f_X8_parseFields_173
                    try dsimp only
                    refine OK.ieq (fun h36 => ?_) (fun h36 => ?_)
                    · skip
                      unfold f_X8_parseFields_190
                      try dsimp only
                      refine OK.ieq (fun h37 => ?_) (fun h37 => ?_)
                      · skip
                        unfold f_X8_parseFields_204
                        try dsimp only
                        obtain ⟨a38k, a38, a38l, a38r⟩ := i_add x6 1
                        try (refine k0el (k := a38k) ?_ (fun e0 => ?_); (focus omega); subst e0)
                        exact OK.trW (ih _ _ _ _ _ _ _ is23 (by omega)) fs23 (fun v hv => by first | trivial | omega | exact hI.flds _ | exact hI.dflds _ | exact hI.recs _ | exact hI.drecs _ | exact hI.droot _ | omega)
                      · skip
                        refine OK.bndS (k_X6_advance _ is23 ) fs23 (fun s39 is39 fs39 => ?_)
                        try dsimp only
                        unfold f_X8_parseFields_204
                        try dsimp only
                        obtain ⟨a40k, a40, a40l, a40r⟩ := i_add x6 1
                        try (refine k0el (k := a40k) ?_ (fun e0 => ?_); (focus omega); subst e0)
                        exact OK.trW (ih _ _ _ _ _ _ _ is39 (by omega)) fs39 (fun v hv => by first | trivial | omega | exact hI.flds _ | exact hI.dflds _ | exact hI.recs _ | exact hI.drecs _ | exact hI.droot _ | omega)
                    · skip
                      unfold f_X8_parseFields_190
                      try dsimp only
                      refine OK.ieq (fun h41 => ?_) (fun h41 => ?_)
                      · skip
                        unfold f_X8_parseFields_204
                        try dsimp only
                        obtain ⟨a42k, a42, a42l, a42r⟩ := i_add x6 1
                        try (refine k0el (k := a42k) ?_ (fun e0 => ?_); (focus omega); subst e0)
                        exact OK.trW (ih _ _ _ _ _ _ _ is23 (by omega)) fs23 (fun v hv => by first | trivial | omega | exact hI.flds _ | exact hI.dflds _ | exact hI.recs _ | exact hI.drecs _ | exact hI.droot _ | omega)
                      · skip
                        refine OK.bndS (k_X6_advance _ is23 ) fs23 (fun s43 is43 fs43 => ?_)
                        try dsimp only
                        unfold f_X8_parseFields_204
                        try dsimp only
                        obtain ⟨a44k, a44, a44l, a44r⟩ := i_add x6 1
                        try (refine k0el (k := a44k) ?_ (fun e0 => ?_); (focus omega); subst e0)
                        exact OK.trW (ih _ _ _ _ _ _ _ is43 (by omega)) fs43 (fun v hv => by first | trivial | omega | exact hI.flds _ | exact hI.dflds _ | exact hI.recs _ | exact hI.drecs _ | exact hI.droot _ | omega)
                  · skip
                    refine OK.bndW (k_X6_refuse _ _ is23 ) fs23 (fun v45 s47 is47 fs47 h46 => ?_)
                    dsimp only
                    refine OK.grd (b01 (by omega)) ?_
                    exact OK.wret is47 fs47 (by first | trivial | omega | exact hI.flds _ | exact hI.dflds _ | exact hI.recs _ | exact hI.drecs _ | exact hI.droot _ | omega)
            · skip
              unfold f_X8_parseFields_90
              try dsimp only
              refine OK.bndW (k_X6_refuse _ _ hI ) Fr.rf (fun v48 s50 is50 fs50 h49 => ?_)
              dsimp only
              refine OK.grd (b01 (by omega)) ?_
              exact OK.wret is50 fs50 (by first | trivial | omega | exact hI.flds _ | exact hI.dflds _ | exact hI.recs _ | exact hI.drecs _ | exact hI.droot _ | omega)
        · skip
          refine OK.bndW (k_X6_refuse _ _ hI ) Fr.rf (fun v51 s53 is53 fs53 h52 => ?_)
          dsimp only
          refine OK.grd (b01 (by omega)) ?_
          exact OK.wret is53 fs53 (by first | trivial | omega | exact hI.flds _ | exact hI.dflds _ | exact hI.recs _ | exact hI.drecs _ | exact hI.droot _ | omega)

theorem k_X8_parseFields {N0 : Nat} {r_X8_parseFields : Int32 → Int32 → Int32 → ST → Option (Int32 × ST)} (hr_X8_parseFields : ∀ (p0 : Int32) (p1 : Int32) (p2 : Int32) (σ : ST), IA σ → 0 ≤ p2.toInt ∧ p2.toInt ≤ 30 ∧ (63 : Int) ≤ (N0 : Nat) + 2 * p2.toInt → OK (r_X8_parseFields p0 p1 p2 σ) (RW σ fun v => v.toInt = 0 ∨ v.toInt = 1)) {r_X8_parseItems : Int32 → Int32 → Int32 → ST → Option (Int32 × ST)} (hr_X8_parseItems : ∀ (p0 : Int32) (p1 : Int32) (p2 : Int32) (σ : ST), IA σ → 0 ≤ p2.toInt ∧ p2.toInt ≤ 30 ∧ (63 : Int) ≤ (N0 : Nat) + 2 * p2.toInt → OK (r_X8_parseItems p0 p1 p2 σ) (RW σ fun v => v.toInt = 0 ∨ v.toInt = 1)) {r_X8_parseValue : Int32 → Int32 → Int32 → Int32 → ST → Option (Int32 × ST)} (hr_X8_parseValue : ∀ (p0 : Int32) (p1 : Int32) (p2 : Int32) (p3 : Int32) (σ : ST), IA σ → 0 ≤ p3.toInt ∧ p3.toInt ≤ 31 ∧ (64 : Int) ≤ (N0 : Nat) + 2 * p3.toInt → OK (r_X8_parseValue p0 p1 p2 p3 σ) (RW σ fun v => v.toInt = 0 ∨ v.toInt = 1)) (p0 : Int32) (p1 : Int32) (p2 : Int32) (σ : ST) (hI : IA σ) (hv : 0 ≤ p2.toInt ∧ p2.toInt ≤ 30 ∧ (63 : Int) ≤ (N0 + 1 : Nat) + 2 * p2.toInt)  : OK (f_X8_parseFields r_X8_parseFields r_X8_parseItems r_X8_parseValue  p0 p1 p2 σ) (RW σ fun v => v.toInt = 0 ∨ v.toInt = 1) := by
  unfold f_X8_parseFields
  have lt_0 := li_0
  have lt_1 := li_1
  have lt_125 := li_125
  have lFU : ((FU : Nat) : Int) = 100000 := rfl
  have lFR : ((FR : Nat) : Int) = 160 := rfl
  refine OK.ieq (fun h1 => ?_) (fun h1 => ?_)
  · skip
    unfold f_X8_parseFields_20
    try dsimp only
    exact OK.trW (k_X8_parseFields_25 hr_X8_parseFields hr_X8_parseItems hr_X8_parseValue FU _ _ _ _ _ _ _ hI (by omega)) Fr.rf (fun v hv => by first | trivial | omega | exact hI.flds _ | exact hI.dflds _ | exact hI.recs _ | exact hI.drecs _ | exact hI.droot _ | omega)
  · skip
    unfold f_X8_parseFields_20
    try dsimp only
    exact OK.trW (k_X8_parseFields_25 hr_X8_parseFields hr_X8_parseItems hr_X8_parseValue FU _ _ _ _ _ _ _ hI (by omega)) Fr.rf (fun v hv => by first | trivial | omega | exact hI.flds _ | exact hI.dflds _ | exact hI.recs _ | exact hI.drecs _ | exact hI.droot _ | omega)

theorem k_X8_parseItems_24 {N0 : Nat} {r_X8_parseFields : Int32 → Int32 → Int32 → ST → Option (Int32 × ST)} (hr_X8_parseFields : ∀ (p0 : Int32) (p1 : Int32) (p2 : Int32) (σ : ST), IA σ → 0 ≤ p2.toInt ∧ p2.toInt ≤ 30 ∧ (63 : Int) ≤ (N0 : Nat) + 2 * p2.toInt → OK (r_X8_parseFields p0 p1 p2 σ) (RW σ fun v => v.toInt = 0 ∨ v.toInt = 1)) {r_X8_parseItems : Int32 → Int32 → Int32 → ST → Option (Int32 × ST)} (hr_X8_parseItems : ∀ (p0 : Int32) (p1 : Int32) (p2 : Int32) (σ : ST), IA σ → 0 ≤ p2.toInt ∧ p2.toInt ≤ 30 ∧ (63 : Int) ≤ (N0 : Nat) + 2 * p2.toInt → OK (r_X8_parseItems p0 p1 p2 σ) (RW σ fun v => v.toInt = 0 ∨ v.toInt = 1)) {r_X8_parseValue : Int32 → Int32 → Int32 → Int32 → ST → Option (Int32 × ST)} (hr_X8_parseValue : ∀ (p0 : Int32) (p1 : Int32) (p2 : Int32) (p3 : Int32) (σ : ST), IA σ → 0 ≤ p3.toInt ∧ p3.toInt ≤ 31 ∧ (64 : Int) ≤ (N0 : Nat) + 2 * p3.toInt → OK (r_X8_parseValue p0 p1 p2 p3 σ) (RW σ fun v => v.toInt = 0 ∨ v.toInt = 1)) : ∀ (n : Nat) (x1 : Int32) (x2 : Int32) (x3 : Int32) (x4 : Int32) (σ : ST), IA σ → ((0 ≤ x3.toInt ∧ x3.toInt ≤ 30 ∧ (63 : Int) ≤ (N0 + 1 : Nat) + 2 * x3.toInt) ∧ 0 ≤ x4.toInt ∧ x4.toInt ≤ 201 ∧ (201 : Int) - x4.toInt < n) → OK (f_X8_parseItems_24 r_X8_parseFields r_X8_parseItems r_X8_parseValue  n x1 x2 x3 x4 σ) (RW σ fun v => v.toInt = 0 ∨ v.toInt = 1) := by
  intro n
  induction n with
  | zero =>
    intro x1 x2 x3 x4 σ hI hv
    omega
  | succ n ih =>
    intro x1 x2 x3 x4 σ hI hv
    rw [f_X8_parseItems_24]
    have lt_0 := li_0
    have lt_1 := li_1
    have lt_44 := li_44
    have lt_93 := li_93
    have lt_200 := li_200
    have lFU : ((FU : Nat) : Int) = 100000 := rfl
    have lFR : ((FR : Nat) : Int) = 160 := rfl
    refine OK.ilt (fun h1 => ?_) (fun h1 => ?_)
    · skip
      exact OK.wret hI Fr.rf (by first | trivial | omega | exact hI.flds _ | exact hI.dflds _ | exact hI.recs _ | exact hI.drecs _ | exact hI.droot _ | omega)
    · skip
      obtain ⟨a2k, a2, a2l, a2r⟩ := i_add x3 1
      try (refine k0el (k := a2k) ?_ (fun e0 => ?_); (focus omega); subst e0)
      refine OK.bndW (hr_X8_parseValue _ _ _ _ _ hI (by omega)) Fr.rf (fun v3 s5 is5 fs5 h4 => ?_)
      dsimp only
      refine OK.ieq (fun h6 => ?_) (fun h6 => ?_)
      · skip
        exact OK.wret is5 fs5 (by first | trivial | omega | exact hI.flds _ | exact hI.dflds _ | exact hI.recs _ | exact hI.drecs _ | exact hI.droot _ | omega)
      · skip
        refine OK.ieq (fun h7 => ?_) (fun h7 => ?_)
        · skip
          refine OK.bndS (k_X7_setWorth_62 _ _ _ _ is5 ) fs5 (fun s8 is8 fs8 => ?_)
          try dsimp only
          refine OK.bndS (k_X6_advance _ is8 ) fs8 (fun s9 is9 fs9 => ?_)
          try dsimp only
          exact OK.wret is9 fs9 (by first | trivial | omega | exact hI.flds _ | exact hI.dflds _ | exact hI.recs _ | exact hI.drecs _ | exact hI.droot _ | omega)
        · skip
          refine OK.ieq (fun h10 => ?_) (fun h10 => ?_)
          · skip
            refine OK.bndS (k_X6_advance _ is5 ) fs5 (fun s11 is11 fs11 => ?_)
            try dsimp only
            obtain ⟨a12k, a12, a12l, a12r⟩ := i_add x4 1
            try (refine k0el (k := a12k) ?_ (fun e0 => ?_); (focus omega); subst e0)
            exact OK.trW (ih _ _ _ _ _ is11 (by omega)) fs11 (fun v hv => by first | trivial | omega | exact hI.flds _ | exact hI.dflds _ | exact hI.recs _ | exact hI.drecs _ | exact hI.droot _ | omega)
          · skip
            refine OK.bndW (k_X6_refuse _ _ is5 ) fs5 (fun v13 s15 is15 fs15 h14 => ?_)
            dsimp only
            refine OK.grd (b01 (by omega)) ?_
            exact OK.wret is15 fs15 (by first | trivial | omega | exact hI.flds _ | exact hI.dflds _ | exact hI.recs _ | exact hI.drecs _ | exact hI.droot _ | omega)

theorem k_X8_parseItems {N0 : Nat} {r_X8_parseFields : Int32 → Int32 → Int32 → ST → Option (Int32 × ST)} (hr_X8_parseFields : ∀ (p0 : Int32) (p1 : Int32) (p2 : Int32) (σ : ST), IA σ → 0 ≤ p2.toInt ∧ p2.toInt ≤ 30 ∧ (63 : Int) ≤ (N0 : Nat) + 2 * p2.toInt → OK (r_X8_parseFields p0 p1 p2 σ) (RW σ fun v => v.toInt = 0 ∨ v.toInt = 1)) {r_X8_parseItems : Int32 → Int32 → Int32 → ST → Option (Int32 × ST)} (hr_X8_parseItems : ∀ (p0 : Int32) (p1 : Int32) (p2 : Int32) (σ : ST), IA σ → 0 ≤ p2.toInt ∧ p2.toInt ≤ 30 ∧ (63 : Int) ≤ (N0 : Nat) + 2 * p2.toInt → OK (r_X8_parseItems p0 p1 p2 σ) (RW σ fun v => v.toInt = 0 ∨ v.toInt = 1)) {r_X8_parseValue : Int32 → Int32 → Int32 → Int32 → ST → Option (Int32 × ST)} (hr_X8_parseValue : ∀ (p0 : Int32) (p1 : Int32) (p2 : Int32) (p3 : Int32) (σ : ST), IA σ → 0 ≤ p3.toInt ∧ p3.toInt ≤ 31 ∧ (64 : Int) ≤ (N0 : Nat) + 2 * p3.toInt → OK (r_X8_parseValue p0 p1 p2 p3 σ) (RW σ fun v => v.toInt = 0 ∨ v.toInt = 1)) (p0 : Int32) (p1 : Int32) (p2 : Int32) (σ : ST) (hI : IA σ) (hv : 0 ≤ p2.toInt ∧ p2.toInt ≤ 30 ∧ (63 : Int) ≤ (N0 + 1 : Nat) + 2 * p2.toInt)  : OK (f_X8_parseItems r_X8_parseFields r_X8_parseItems r_X8_parseValue  p0 p1 p2 σ) (RW σ fun v => v.toInt = 0 ∨ v.toInt = 1) := by
  unfold f_X8_parseItems
  have lt_0 := li_0
  have lt_1 := li_1
  have lt_93 := li_93
  have lFU : ((FU : Nat) : Int) = 100000 := rfl
  have lFR : ((FR : Nat) : Int) = 160 := rfl
  refine OK.ieq (fun h1 => ?_) (fun h1 => ?_)
  · skip
    refine OK.bndS (k_X6_advance _ hI ) Fr.rf (fun s2 is2 fs2 => ?_)
    try dsimp only
    exact OK.wret is2 fs2 (by first | trivial | omega | exact hI.flds _ | exact hI.dflds _ | exact hI.recs _ | exact hI.drecs _ | exact hI.droot _ | omega)
  · skip
    exact OK.trW (k_X8_parseItems_24 hr_X8_parseFields hr_X8_parseItems hr_X8_parseValue FU _ _ _ _ _ hI (by omega)) Fr.rf (fun v hv => by first | trivial | omega | exact hI.flds _ | exact hI.dflds _ | exact hI.recs _ | exact hI.drecs _ | exact hI.droot _ | omega)

theorem k_X8_parseValue {N0 : Nat} {r_X8_parseFields : Int32 → Int32 → Int32 → ST → Option (Int32 × ST)} (hr_X8_parseFields : ∀ (p0 : Int32) (p1 : Int32) (p2 : Int32) (σ : ST), IA σ → 0 ≤ p2.toInt ∧ p2.toInt ≤ 30 ∧ (63 : Int) ≤ (N0 : Nat) + 2 * p2.toInt → OK (r_X8_parseFields p0 p1 p2 σ) (RW σ fun v => v.toInt = 0 ∨ v.toInt = 1)) {r_X8_parseItems : Int32 → Int32 → Int32 → ST → Option (Int32 × ST)} (hr_X8_parseItems : ∀ (p0 : Int32) (p1 : Int32) (p2 : Int32) (σ : ST), IA σ → 0 ≤ p2.toInt ∧ p2.toInt ≤ 30 ∧ (63 : Int) ≤ (N0 : Nat) + 2 * p2.toInt → OK (r_X8_parseItems p0 p1 p2 σ) (RW σ fun v => v.toInt = 0 ∨ v.toInt = 1)) {r_X8_parseValue : Int32 → Int32 → Int32 → Int32 → ST → Option (Int32 × ST)} (hr_X8_parseValue : ∀ (p0 : Int32) (p1 : Int32) (p2 : Int32) (p3 : Int32) (σ : ST), IA σ → 0 ≤ p3.toInt ∧ p3.toInt ≤ 31 ∧ (64 : Int) ≤ (N0 : Nat) + 2 * p3.toInt → OK (r_X8_parseValue p0 p1 p2 p3 σ) (RW σ fun v => v.toInt = 0 ∨ v.toInt = 1)) (p0 : Int32) (p1 : Int32) (p2 : Int32) (p3 : Int32) (σ : ST) (hI : IA σ) (hv : 0 ≤ p3.toInt ∧ p3.toInt ≤ 31 ∧ (64 : Int) ≤ (N0 + 1 : Nat) + 2 * p3.toInt)  : OK (f_X8_parseValue r_X8_parseFields r_X8_parseItems r_X8_parseValue  p0 p1 p2 p3 σ) (RW σ fun v => v.toInt = 0 ∨ v.toInt = 1) := by
  unfold f_X8_parseValue
  have lt_m1 := li_m1
  have lt_0 := li_0
  have lt_1 := li_1
  have lt_2 := li_2
  have lt_4 := li_4
  have lt_5 := li_5
  have lt_6 := li_6
  have lt_7 := li_7
  have lt_31 := li_31
  have lt_123 := li_123
  have lt_200 := li_200
  have lFU : ((FU : Nat) : Int) = 100000 := rfl
  have lFR : ((FR : Nat) : Int) = 160 := rfl
  refine OK.bndR (k_X6_beginsLiteral _ hI ) (fun v1 h2 => ?_)
  dsimp only
  refine OK.ieq (fun h3 => ?_) (fun h3 => ?_)
  · skip
    refine OK.ieq (fun h4 => ?_) (fun h4 => ?_)
    · skip
      unfold f_X8_parseValue_31
      try dsimp only
      refine OK.bndR (k_X8_fittingType _ _ hI ) (fun v5 h6 => ?_)
      dsimp only
      refine OK.ieq (fun h7 => ?_) (fun h7 => ?_)
      · skip
        refine OK.bndW (k_X6_refuse _ _ hI ) Fr.rf (fun v8 s10 is10 fs10 h9 => ?_)
        dsimp only
        refine OK.grd (b01 (by omega)) ?_
        exact OK.wret is10 fs10 (by first | trivial | omega | exact hI.flds _ | exact hI.dflds _ | exact hI.recs _ | exact hI.drecs _ | exact hI.droot _ | omega)
      · skip
        refine OK.bndR (k_X5_sortOf_4 _ _ hI ) (fun v11 h12 => ?_)
        dsimp only
        refine OK.ile (fun h13 => ?_) (fun h13 => ?_)
        · skip
          unfold f_X8_parseValue_78
          try dsimp only
          unfold f_X8_parseValue_93
          try dsimp only
          refine OK.ieq (fun h14 => ?_) (fun h14 => ?_)
          · skip
            refine OK.bndW (k_X6_refuse _ _ hI ) Fr.rf (fun v15 s17 is17 fs17 h16 => ?_)
            dsimp only
            refine OK.grd (b01 (by omega)) ?_
            exact OK.wret is17 fs17 (by first | trivial | omega | exact hI.flds _ | exact hI.dflds _ | exact hI.recs _ | exact hI.drecs _ | exact hI.droot _ | omega)
          · skip
            refine OK.bndR (k_X6_worth _ _ hI ) (fun v18 h19 => ?_)
            dsimp only
            refine OK.ieq (fun h20 => ?_) (fun h20 => ?_)
            · skip
              refine OK.bndR (k_X10_lettersIn _ _ hI ) (fun v21 h22 => ?_)
              dsimp only
              unfold f_X8_parseValue_142
              try dsimp only
              refine OK.bndS (k_X7_setWorth_62 _ _ _ _ hI ) Fr.rf (fun s23 is23 fs23 => ?_)
              try dsimp only
              refine OK.bndS (k_X6_advance _ is23 ) fs23 (fun s24 is24 fs24 => ?_)
              try dsimp only
              refine OK.ieq (fun h25 => ?_) (fun h25 => ?_)
              · skip
                refine OK.bndR (k_X5_innerOf_4 _ _ is24 ) (fun v26 h27 => ?_)
                dsimp only
                refine OK.bndW (hr_X8_parseItems _ _ _ _ is24 (by omega)) fs24 (fun v28 s30 is30 fs30 h29 => ?_)
                dsimp only
                refine OK.grd (b01 (by omega)) ?_
                exact OK.wret is30 fs30 (by first | trivial | omega | exact hI.flds _ | exact hI.dflds _ | exact hI.recs _ | exact hI.drecs _ | exact hI.droot _ | omega)
              · skip
                refine OK.ieq (fun h31 => ?_) (fun h31 => ?_)
                · skip
                  refine OK.bndR (k_X5_innerOf_4 _ _ is24 ) (fun v32 h33 => ?_)
                  dsimp only
                  refine OK.bndW (hr_X8_parseFields _ _ _ _ is24 (by omega)) fs24 (fun v34 s36 is36 fs36 h35 => ?_)
                  dsimp only
                  refine OK.grd (b01 (by omega)) ?_
                  exact OK.wret is36 fs36 (by first | trivial | omega | exact hI.flds _ | exact hI.dflds _ | exact hI.recs _ | exact hI.drecs _ | exact hI.droot _ | omega)
                · skip
                  exact OK.wret is24 fs24 (by first | trivial | omega | exact hI.flds _ | exact hI.dflds _ | exact hI.recs _ | exact hI.drecs _ | exact hI.droot _ | omega)
            · skip
              unfold f_X8_parseValue_142
              try dsimp only
              refine OK.bndS (k_X7_setWorth_62 _ _ _ _ hI ) Fr.rf (fun s37 is37 fs37 => ?_)
              try dsimp only
              refine OK.bndS (k_X6_advance _ is37 ) fs37 (fun s38 is38 fs38 => ?_)
              try dsimp only
              refine OK.ieq (fun h39 => ?_) (fun h39 => ?_)
              · skip
                refine OK.bndR (k_X5_innerOf_4 _ _ is38 ) (fun v40 h41 => ?_)
                dsimp only
                refine OK.bndW (hr_X8_parseItems _ _ _ _ is38 (by omega)) fs38 (fun v42 s44 is44 fs44 h43 => ?_)
                dsimp only
                refine OK.grd (b01 (by omega)) ?_
                exact OK.wret is44 fs44 (by first | trivial | omega | exact hI.flds _ | exact hI.dflds _ | exact hI.recs _ | exact hI.drecs _ | exact hI.droot _ | omega)
              · skip
                refine OK.ieq (fun h45 => ?_) (fun h45 => ?_)
                · skip
                  refine OK.bndR (k_X5_innerOf_4 _ _ is38 ) (fun v46 h47 => ?_)
                  dsimp only
                  refine OK.bndW (hr_X8_parseFields _ _ _ _ is38 (by omega)) fs38 (fun v48 s50 is50 fs50 h49 => ?_)
                  dsimp only
                  refine OK.grd (b01 (by omega)) ?_
                  exact OK.wret is50 fs50 (by first | trivial | omega | exact hI.flds _ | exact hI.dflds _ | exact hI.recs _ | exact hI.drecs _ | exact hI.droot _ | omega)
                · skip
                  exact OK.wret is38 fs38 (by first | trivial | omega | exact hI.flds _ | exact hI.dflds _ | exact hI.recs _ | exact hI.drecs _ | exact hI.droot _ | omega)
        · skip
          refine OK.ilt (fun h51 => ?_) (fun h51 => ?_)
          · skip
            refine OK.bndW (k_X7_grow_62 _ _ _ _ hI ) Fr.rf (fun v52 s54 is54 fs54 h53 => ?_)
            dsimp only
            unfold f_X8_parseValue_93
            try dsimp only
            refine OK.ieq (fun h55 => ?_) (fun h55 => ?_)
            · skip
              refine OK.bndW (k_X6_refuse _ _ is54 ) fs54 (fun v56 s58 is58 fs58 h57 => ?_)
              dsimp only
              refine OK.grd (b01 (by omega)) ?_
              exact OK.wret is58 fs58 (by first | trivial | omega | exact hI.flds _ | exact hI.dflds _ | exact hI.recs _ | exact hI.drecs _ | exact hI.droot _ | omega)
            · skip
              refine OK.bndR (k_X6_worth _ _ is54 ) (fun v59 h60 => ?_)
              dsimp only
              refine OK.ieq (fun h61 => ?_) (fun h61 => ?_)
              · skip
                refine OK.bndR (k_X10_lettersIn _ _ is54 ) (fun v62 h63 => ?_)
                dsimp only
                unfold f_X8_parseValue_142
                try dsimp only
                refine OK.bndS (k_X7_setWorth_62 _ _ _ _ is54 ) fs54 (fun s64 is64 fs64 => ?_)
                try dsimp only
                refine OK.bndS (k_X6_advance _ is64 ) fs64 (fun s65 is65 fs65 => ?_)
                try dsimp only
                refine OK.ieq (fun h66 => ?_) (fun h66 => ?_)
                · skip
                  refine OK.bndR (k_X5_innerOf_4 _ _ is65 ) (fun v67 h68 => ?_)
                  dsimp only
                  refine OK.bndW (hr_X8_parseItems _ _ _ _ is65 (by omega)) fs65 (fun v69 s71 is71 fs71 h70 => ?_)
                  dsimp only
                  refine OK.grd (b01 (by omega)) ?_
                  exact OK.wret is71 fs71 (by first | trivial | omega | exact hI.flds _ | exact hI.dflds _ | exact hI.recs _ | exact hI.drecs _ | exact hI.droot _ | omega)
                · skip
                  refine OK.ieq (fun h72 => ?_) (fun h72 => ?_)
                  · skip
                    refine OK.bndR (k_X5_innerOf_4 _ _ is65 ) (fun v73 h74 => ?_)
                    dsimp only
                    refine OK.bndW (hr_X8_parseFields _ _ _ _ is65 (by omega)) fs65 (fun v75 s77 is77 fs77 h76 => ?_)
                    dsimp only
                    refine OK.grd (b01 (by omega)) ?_
                    exact OK.wret is77 fs77 (by first | trivial | omega | exact hI.flds _ | exact hI.dflds _ | exact hI.recs _ | exact hI.drecs _ | exact hI.droot _ | omega)
                  · skip
                    exact OK.wret is65 fs65 (by first | trivial | omega | exact hI.flds _ | exact hI.dflds _ | exact hI.recs _ | exact hI.drecs _ | exact hI.droot _ | omega)
              · skip
                unfold f_X8_parseValue_142
                try dsimp only
                refine OK.bndS (k_X7_setWorth_62 _ _ _ _ is54 ) fs54 (fun s78 is78 fs78 => ?_)
                try dsimp only
                refine OK.bndS (k_X6_advance _ is78 ) fs78 (fun s79 is79 fs79 => ?_)
                try dsimp only
                refine OK.ieq (fun h80 => ?_) (fun h80 => ?_)
                · skip
                  refine OK.bndR (k_X5_innerOf_4 _ _ is79 ) (fun v81 h82 => ?_)
                  dsimp only
                  refine OK.bndW (hr_X8_parseItems _ _ _ _ is79 (by omega)) fs79 (fun v83 s85 is85 fs85 h84 => ?_)
                  dsimp only
                  refine OK.grd (b01 (by omega)) ?_
                  exact OK.wret is85 fs85 (by first | trivial | omega | exact hI.flds _ | exact hI.dflds _ | exact hI.recs _ | exact hI.drecs _ | exact hI.droot _ | omega)
                · skip
                  refine OK.ieq (fun h86 => ?_) (fun h86 => ?_)
                  · skip
                    refine OK.bndR (k_X5_innerOf_4 _ _ is79 ) (fun v87 h88 => ?_)
                    dsimp only
                    refine OK.bndW (hr_X8_parseFields _ _ _ _ is79 (by omega)) fs79 (fun v89 s91 is91 fs91 h90 => ?_)
                    dsimp only
                    refine OK.grd (b01 (by omega)) ?_
                    exact OK.wret is91 fs91 (by first | trivial | omega | exact hI.flds _ | exact hI.dflds _ | exact hI.recs _ | exact hI.drecs _ | exact hI.droot _ | omega)
                  · skip
                    exact OK.wret is79 fs79 (by first | trivial | omega | exact hI.flds _ | exact hI.dflds _ | exact hI.recs _ | exact hI.drecs _ | exact hI.droot _ | omega)
          · skip
            unfold f_X8_parseValue_78
            try dsimp only
            unfold f_X8_parseValue_93
            try dsimp only
            refine OK.ieq (fun h92 => ?_) (fun h92 => ?_)
            · skip
              refine OK.bndW (k_X6_refuse _ _ hI ) Fr.rf (fun v93 s95 is95 fs95 h94 => ?_)
              dsimp only
              refine OK.grd (b01 (by omega)) ?_
              exact OK.wret is95 fs95 (by first | trivial | omega | exact hI.flds _ | exact hI.dflds _ | exact hI.recs _ | exact hI.drecs _ | exact hI.droot _ | omega)
            · skip
              refine OK.bndR (k_X6_worth _ _ hI ) (fun v96 h97 => ?_)
              dsimp only
              refine OK.ieq (fun h98 => ?_) (fun h98 => ?_)
              · skip
                refine OK.bndR (k_X10_lettersIn _ _ hI ) (fun v99 h100 => ?_)
                dsimp only
                unfold f_X8_parseValue_142
                try dsimp only
                refine OK.bndS (k_X7_setWorth_62 _ _ _ _ hI ) Fr.rf (fun s101 is101 fs101 => ?_)
                try dsimp only
                refine OK.bndS (k_X6_advance _ is101 ) fs101 (fun s102 is102 fs102 => ?_)
                try dsimp only
                refine OK.ieq (fun h103 => ?_) (fun h103 => ?_)
                · skip
                  refine OK.bndR (k_X5_innerOf_4 _ _ is102 ) (fun v104 h105 => ?_)
                  dsimp only
                  refine OK.bndW (hr_X8_parseItems _ _ _ _ is102 (by omega)) fs102 (fun v106 s108 is108 fs108 h107 => ?_)
                  dsimp only
                  refine OK.grd (b01 (by omega)) ?_
                  exact OK.wret is108 fs108 (by first | trivial | omega | exact hI.flds _ | exact hI.dflds _ | exact hI.recs _ | exact hI.drecs _ | exact hI.droot _ | omega)
                · skip
                  refine OK.ieq (fun h109 => ?_) (fun h109 => ?_)
                  · skip
                    refine OK.bndR (k_X5_innerOf_4 _ _ is102 ) (fun v110 h111 => ?_)
                    dsimp only
                    refine OK.bndW (hr_X8_parseFields _ _ _ _ is102 (by omega)) fs102 (fun v112 s114 is114 fs114 h113 => ?_)
                    dsimp only
                    refine OK.grd (b01 (by omega)) ?_
                    exact OK.wret is114 fs114 (by first | trivial | omega | exact hI.flds _ | exact hI.dflds _ | exact hI.recs _ | exact hI.drecs _ | exact hI.droot _ | omega)
                  · skip
                    exact OK.wret is102 fs102 (by first | trivial | omega | exact hI.flds _ | exact hI.dflds _ | exact hI.recs _ | exact hI.drecs _ | exact hI.droot _ | omega)
              · skip
                unfold f_X8_parseValue_142
                try dsimp only
                refine OK.bndS (k_X7_setWorth_62 _ _ _ _ hI ) Fr.rf (fun s115 is115 fs115 => ?_)
                try dsimp only
                refine OK.bndS (k_X6_advance _ is115 ) fs115 (fun s116 is116 fs116 => ?_)
                try dsimp only
                refine OK.ieq (fun h117 => ?_) (fun h117 => ?_)
                · skip
                  refine OK.bndR (k_X5_innerOf_4 _ _ is116 ) (fun v118 h119 => ?_)
                  dsimp only
                  refine OK.bndW (hr_X8_parseItems _ _ _ _ is116 (by omega)) fs116 (fun v120 s122 is122 fs122 h121 => ?_)
                  dsimp only
                  refine OK.grd (b01 (by omega)) ?_
                  exact OK.wret is122 fs122 (by first | trivial | omega | exact hI.flds _ | exact hI.dflds _ | exact hI.recs _ | exact hI.drecs _ | exact hI.droot _ | omega)
                · skip
                  refine OK.ieq (fun h123 => ?_) (fun h123 => ?_)
                  · skip
                    refine OK.bndR (k_X5_innerOf_4 _ _ is116 ) (fun v124 h125 => ?_)
                    dsimp only
                    refine OK.bndW (hr_X8_parseFields _ _ _ _ is116 (by omega)) fs116 (fun v126 s128 is128 fs128 h127 => ?_)
                    dsimp only
                    refine OK.grd (b01 (by omega)) ?_
                    exact OK.wret is128 fs128 (by first | trivial | omega | exact hI.flds _ | exact hI.dflds _ | exact hI.recs _ | exact hI.drecs _ | exact hI.droot _ | omega)
                  · skip
                    exact OK.wret is116 fs116 (by first | trivial | omega | exact hI.flds _ | exact hI.dflds _ | exact hI.recs _ | exact hI.drecs _ | exact hI.droot _ | omega)
    · skip
      refine OK.bndW (k_X6_refuse _ _ hI ) Fr.rf (fun v129 s131 is131 fs131 h130 => ?_)
      dsimp only
      refine OK.grd (b01 (by omega)) ?_
      exact OK.wret is131 fs131 (by first | trivial | omega | exact hI.flds _ | exact hI.dflds _ | exact hI.recs _ | exact hI.drecs _ | exact hI.droot _ | omega)
  · skip
    unfold f_X8_parseValue_31
    try dsimp only
    refine OK.bndR (k_X8_fittingType _ _ hI ) (fun v132 h133 => ?_)
    dsimp only
    refine OK.ieq (fun h134 => ?_) (fun h134 => ?_)
    · skip
      refine OK.bndW (k_X6_refuse _ _ hI ) Fr.rf (fun v135 s137 is137 fs137 h136 => ?_)
      dsimp only
      refine OK.grd (b01 (by omega)) ?_
      exact OK.wret is137 fs137 (by first | trivial | omega | exact hI.flds _ | exact hI.dflds _ | exact hI.recs _ | exact hI.drecs _ | exact hI.droot _ | omega)
    · skip
      refine OK.bndR (k_X5_sortOf_4 _ _ hI ) (fun v138 h139 => ?_)
      dsimp only
      refine OK.ile (fun h140 => ?_) (fun h140 => ?_)
      · skip
        unfold f_X8_parseValue_78
        try dsimp only
        unfold f_X8_parseValue_93
        try dsimp only
        refine OK.ieq (fun h141 => ?_) (fun h141 => ?_)
        · skip
          refine OK.bndW (k_X6_refuse _ _ hI ) Fr.rf (fun v142 s144 is144 fs144 h143 => ?_)
          dsimp only
          refine OK.grd (b01 (by omega)) ?_
          exact OK.wret is144 fs144 (by first | trivial | omega | exact hI.flds _ | exact hI.dflds _ | exact hI.recs _ | exact hI.drecs _ | exact hI.droot _ | omega)
        · skip
          refine OK.bndR (k_X6_worth _ _ hI ) (fun v145 h146 => ?_)
          dsimp only
          refine OK.ieq (fun h147 => ?_) (fun h147 => ?_)
          · skip
            refine OK.bndR (k_X10_lettersIn _ _ hI ) (fun v148 h149 => ?_)
            dsimp only
            unfold f_X8_parseValue_142
            try dsimp only
            refine OK.bndS (k_X7_setWorth_62 _ _ _ _ hI ) Fr.rf (fun s150 is150 fs150 => ?_)
            try dsimp only
            refine OK.bndS (k_X6_advance _ is150 ) fs150 (fun s151 is151 fs151 => ?_)
            try dsimp only
            refine OK.ieq (fun h152 => ?_) (fun h152 => ?_)
            · skip
              refine OK.bndR (k_X5_innerOf_4 _ _ is151 ) (fun v153 h154 => ?_)
              dsimp only
              refine OK.bndW (hr_X8_parseItems _ _ _ _ is151 (by omega)) fs151 (fun v155 s157 is157 fs157 h156 => ?_)
              dsimp only
              refine OK.grd (b01 (by omega)) ?_
              exact OK.wret is157 fs157 (by first | trivial | omega | exact hI.flds _ | exact hI.dflds _ | exact hI.recs _ | exact hI.drecs _ | exact hI.droot _ | omega)
            · skip
              refine OK.ieq (fun h158 => ?_) (fun h158 => ?_)
              · skip
                refine OK.bndR (k_X5_innerOf_4 _ _ is151 ) (fun v159 h160 => ?_)
                dsimp only
                refine OK.bndW (hr_X8_parseFields _ _ _ _ is151 (by omega)) fs151 (fun v161 s163 is163 fs163 h162 => ?_)
                dsimp only
                refine OK.grd (b01 (by omega)) ?_
                exact OK.wret is163 fs163 (by first | trivial | omega | exact hI.flds _ | exact hI.dflds _ | exact hI.recs _ | exact hI.drecs _ | exact hI.droot _ | omega)
              · skip
                exact OK.wret is151 fs151 (by first | trivial | omega | exact hI.flds _ | exact hI.dflds _ | exact hI.recs _ | exact hI.drecs _ | exact hI.droot _ | omega)
          · skip
            unfold f_X8_parseValue_142
            try dsimp only
            refine OK.bndS (k_X7_setWorth_62 _ _ _ _ hI ) Fr.rf (fun s164 is164 fs164 => ?_)
            try dsimp only
            refine OK.bndS (k_X6_advance _ is164 ) fs164 (fun s165 is165 fs165 => ?_)
            try dsimp only
            refine OK.ieq (fun h166 => ?_) (fun h166 => ?_)
            · skip
              refine OK.bndR (k_X5_innerOf_4 _ _ is165 ) (fun v167 h168 => ?_)
              dsimp only
              refine OK.bndW (hr_X8_parseItems _ _ _ _ is165 (by omega)) fs165 (fun v169 s171 is171 fs171 h170 => ?_)
              dsimp only
              refine OK.grd (b01 (by omega)) ?_
              exact OK.wret is171 fs171 (by first | trivial | omega | exact hI.flds _ | exact hI.dflds _ | exact hI.recs _ | exact hI.drecs _ | exact hI.droot _ | omega)
            · skip
              refine OK.ieq (fun h172 => ?_) (fun h172 => ?_)
              · skip
                refine OK.bndR (k_X5_innerOf_4 _ _ is165 ) (fun v173 h174 => ?_)
                dsimp only
                refine OK.bndW (hr_X8_parseFields _ _ _ _ is165 (by omega)) fs165 (fun v175 s177 is177 fs177 h176 => ?_)
                dsimp only
                refine OK.grd (b01 (by omega)) ?_
                exact OK.wret is177 fs177 (by first | trivial | omega | exact hI.flds _ | exact hI.dflds _ | exact hI.recs _ | exact hI.drecs _ | exact hI.droot _ | omega)
              · skip
                exact OK.wret is165 fs165 (by first | trivial | omega | exact hI.flds _ | exact hI.dflds _ | exact hI.recs _ | exact hI.drecs _ | exact hI.droot _ | omega)
      · skip
        refine OK.ilt (fun h178 => ?_) (fun h178 => ?_)
        · skip
          refine OK.bndW (k_X7_grow_62 _ _ _ _ hI ) Fr.rf (fun v179 s181 is181 fs181 h180 => ?_)
          dsimp only
          unfold f_X8_parseValue_93
          try dsimp only
          refine OK.ieq (fun h182 => ?_) (fun h182 => ?_)
          · skip
            refine OK.bndW (k_X6_refuse _ _ is181 ) fs181 (fun v183 s185 is185 fs185 h184 => ?_)
            dsimp only
            refine OK.grd (b01 (by omega)) ?_
            exact OK.wret is185 fs185 (by first | trivial | omega | exact hI.flds _ | exact hI.dflds _ | exact hI.recs _ | exact hI.drecs _ | exact hI.droot _ | omega)
          · skip
            refine OK.bndR (k_X6_worth _ _ is181 ) (fun v186 h187 => ?_)
            dsimp only
            refine OK.ieq (fun h188 => ?_) (fun h188 => ?_)
            · skip
              refine OK.bndR (k_X10_lettersIn _ _ is181 ) (fun v189 h190 => ?_)
              dsimp only
              unfold f_X8_parseValue_142
              try dsimp only
              refine OK.bndS (k_X7_setWorth_62 _ _ _ _ is181 ) fs181 (fun s191 is191 fs191 => ?_)
              try dsimp only
              refine OK.bndS (k_X6_advance _ is191 ) fs191 (fun s192 is192 fs192 => ?_)
              try dsimp only
              refine OK.ieq (fun h193 => ?_) (fun h193 => ?_)
              · skip
                refine OK.bndR (k_X5_innerOf_4 _ _ is192 ) (fun v194 h195 => ?_)
                dsimp only
                refine OK.bndW (hr_X8_parseItems _ _ _ _ is192 (by omega)) fs192 (fun v196 s198 is198 fs198 h197 => ?_)
                dsimp only
                refine OK.grd (b01 (by omega)) ?_
                exact OK.wret is198 fs198 (by first | trivial | omega | exact hI.flds _ | exact hI.dflds _ | exact hI.recs _ | exact hI.drecs _ | exact hI.droot _ | omega)
              · skip
                refine OK.ieq (fun h199 => ?_) (fun h199 => ?_)
                · skip
                  refine OK.bndR (k_X5_innerOf_4 _ _ is192 ) (fun v200 h201 => ?_)
                  dsimp only
                  refine OK.bndW (hr_X8_parseFields _ _ _ _ is192 (by omega)) fs192 (fun v202 s204 is204 fs204 h203 => ?_)
                  dsimp only
                  refine OK.grd (b01 (by omega)) ?_
                  exact OK.wret is204 fs204 (by first | trivial | omega | exact hI.flds _ | exact hI.dflds _ | exact hI.recs _ | exact hI.drecs _ | exact hI.droot _ | omega)
                · skip
                  exact OK.wret is192 fs192 (by first | trivial | omega | exact hI.flds _ | exact hI.dflds _ | exact hI.recs _ | exact hI.drecs _ | exact hI.droot _ | omega)
            · skip
              unfold f_X8_parseValue_142
              try dsimp only
              refine OK.bndS (k_X7_setWorth_62 _ _ _ _ is181 ) fs181 (fun s205 is205 fs205 => ?_)
              try dsimp only
              refine OK.bndS (k_X6_advance _ is205 ) fs205 (fun s206 is206 fs206 => ?_)
              try dsimp only
              refine OK.ieq (fun h207 => ?_) (fun h207 => ?_)
              · skip
                refine OK.bndR (k_X5_innerOf_4 _ _ is206 ) (fun v208 h209 => ?_)
                dsimp only
                refine OK.bndW (hr_X8_parseItems _ _ _ _ is206 (by omega)) fs206 (fun v210 s212 is212 fs212 h211 => ?_)
                dsimp only
                refine OK.grd (b01 (by omega)) ?_
                exact OK.wret is212 fs212 (by first | trivial | omega | exact hI.flds _ | exact hI.dflds _ | exact hI.recs _ | exact hI.drecs _ | exact hI.droot _ | omega)
              · skip
                refine OK.ieq (fun h213 => ?_) (fun h213 => ?_)
                · skip
                  refine OK.bndR (k_X5_innerOf_4 _ _ is206 ) (fun v214 h215 => ?_)
                  dsimp only
                  refine OK.bndW (hr_X8_parseFields _ _ _ _ is206 (by omega)) fs206 (fun v216 s218 is218 fs218 h217 => ?_)
                  dsimp only
                  refine OK.grd (b01 (by omega)) ?_
                  exact OK.wret is218 fs218 (by first | trivial | omega | exact hI.flds _ | exact hI.dflds _ | exact hI.recs _ | exact hI.drecs _ | exact hI.droot _ | omega)
                · skip
                  exact OK.wret is206 fs206 (by first | trivial | omega | exact hI.flds _ | exact hI.dflds _ | exact hI.recs _ | exact hI.drecs _ | exact hI.droot _ | omega)
        · skip
          unfold f_X8_parseValue_78
          try dsimp only
          unfold f_X8_parseValue_93
          try dsimp only
          refine OK.ieq (fun h219 => ?_) (fun h219 => ?_)
          · skip
            refine OK.bndW (k_X6_refuse _ _ hI ) Fr.rf (fun v220 s222 is222 fs222 h221 => ?_)
            dsimp only
            refine OK.grd (b01 (by omega)) ?_
            exact OK.wret is222 fs222 (by first | trivial | omega | exact hI.flds _ | exact hI.dflds _ | exact hI.recs _ | exact hI.drecs _ | exact hI.droot _ | omega)
          · skip
            refine OK.bndR (k_X6_worth _ _ hI ) (fun v223 h224 => ?_)
            dsimp only
            refine OK.ieq (fun h225 => ?_) (fun h225 => ?_)
            · skip
              refine OK.bndR (k_X10_lettersIn _ _ hI ) (fun v226 h227 => ?_)
              dsimp only
              unfold f_X8_parseValue_142
              try dsimp only
              refine OK.bndS (k_X7_setWorth_62 _ _ _ _ hI ) Fr.rf (fun s228 is228 fs228 => ?_)
              try dsimp only
              refine OK.bndS (k_X6_advance _ is228 ) fs228 (fun s229 is229 fs229 => ?_)
              try dsimp only
              refine OK.ieq (fun h230 => ?_) (fun h230 => ?_)
              · skip
                refine OK.bndR (k_X5_innerOf_4 _ _ is229 ) (fun v231 h232 => ?_)
                dsimp only
                refine OK.bndW (hr_X8_parseItems _ _ _ _ is229 (by omega)) fs229 (fun v233 s235 is235 fs235 h234 => ?_)
                dsimp only
                refine OK.grd (b01 (by omega)) ?_
                exact OK.wret is235 fs235 (by first | trivial | omega | exact hI.flds _ | exact hI.dflds _ | exact hI.recs _ | exact hI.drecs _ | exact hI.droot _ | omega)
              · skip
                refine OK.ieq (fun h236 => ?_) (fun h236 => ?_)
                · skip
                  refine OK.bndR (k_X5_innerOf_4 _ _ is229 ) (fun v237 h238 => ?_)
                  dsimp only
                  refine OK.bndW (hr_X8_parseFields _ _ _ _ is229 (by omega)) fs229 (fun v239 s241 is241 fs241 h240 => ?_)
                  dsimp only
                  refine OK.grd (b01 (by omega)) ?_
                  exact OK.wret is241 fs241 (by first | trivial | omega | exact hI.flds _ | exact hI.dflds _ | exact hI.recs _ | exact hI.drecs _ | exact hI.droot _ | omega)
                · skip
                  exact OK.wret is229 fs229 (by first | trivial | omega | exact hI.flds _ | exact hI.dflds _ | exact hI.recs _ | exact hI.drecs _ | exact hI.droot _ | omega)
            · skip
              unfold f_X8_parseValue_142
              try dsimp only
              refine OK.bndS (k_X7_setWorth_62 _ _ _ _ hI ) Fr.rf (fun s242 is242 fs242 => ?_)
              try dsimp only
              refine OK.bndS (k_X6_advance _ is242 ) fs242 (fun s243 is243 fs243 => ?_)
              try dsimp only
              refine OK.ieq (fun h244 => ?_) (fun h244 => ?_)
              · skip
                refine OK.bndR (k_X5_innerOf_4 _ _ is243 ) (fun v245 h246 => ?_)
                dsimp only
                refine OK.bndW (hr_X8_parseItems _ _ _ _ is243 (by omega)) fs243 (fun v247 s249 is249 fs249 h248 => ?_)
                dsimp only
                refine OK.grd (b01 (by omega)) ?_
                exact OK.wret is249 fs249 (by first | trivial | omega | exact hI.flds _ | exact hI.dflds _ | exact hI.recs _ | exact hI.drecs _ | exact hI.droot _ | omega)
              · skip
                refine OK.ieq (fun h250 => ?_) (fun h250 => ?_)
                · skip
                  refine OK.bndR (k_X5_innerOf_4 _ _ is243 ) (fun v251 h252 => ?_)
                  dsimp only
                  refine OK.bndW (hr_X8_parseFields _ _ _ _ is243 (by omega)) fs243 (fun v253 s255 is255 fs255 h254 => ?_)
                  dsimp only
                  refine OK.grd (b01 (by omega)) ?_
                  exact OK.wret is255 fs255 (by first | trivial | omega | exact hI.flds _ | exact hI.dflds _ | exact hI.recs _ | exact hI.drecs _ | exact hI.droot _ | omega)
                · skip
                  exact OK.wret is243 fs243 (by first | trivial | omega | exact hI.flds _ | exact hI.dflds _ | exact hI.recs _ | exact hI.drecs _ | exact hI.droot _ | omega)
