theorem k_X3_parse (σ : ST) (hI : IA σ)  : OK (f_X3_parse  σ) (RW σ fun v => v.toInt = 0 ∨ v.toInt = 1) := by
  unfold f_X3_parse
  have lt_m1 := li_m1
  have lt_0 := li_0
  have lt_1 := li_1
  have lFU : ((FU : Nat) : Int) = 100000 := rfl
  refine OK.bndS (k_X5_clear_20 _ hI ) Fr.rf (fun s1 is1 fs1 => ?_)
  try dsimp only
  exact OK.trW (k_X3_parse_11 FU _ _ _ is1 (by omega)) fs1 (fun v hv => by first | trivial | omega | exact hI.flds _ | exact hI.dflds _ | exact hI.recs _ | exact hI.drecs _ | exact hI.droot _ | omega)

theorem cpy_all {P : Int32 → Prop} {f g : Nat → Int32} {a b n : Nat} (hf : ∀ j, P (f j)) (hg : ∀ j, P (g j)) : ∀ j, P (va_cpy f g a b n j) := by
  intro j
  unfold va_cpy
  split
  · exact hf _
  · exact hg j
theorem ia_F_5 {σ : ST} {f : Nat → Int32} (h : IA σ) (hv : ∀ i, bI (f i) 0 36) : IA (stF σ 5 f) := ⟨h.1, h.2.1, h.2.2.1, h.2.2.2.1, h.2.2.2.2.1, h.2.2.2.2.2.1, h.2.2.2.2.2.2.1, hv, h.2.2.2.2.2.2.2.2⟩
theorem ia_F_7 {σ : ST} {f : Nat → Int32} (h : IA σ) (hv : ∀ i, bI (f i) 0 8) : IA (stF σ 7 f) := ⟨h.1, h.2.1, h.2.2.1, h.2.2.2.1, h.2.2.2.2.1, h.2.2.2.2.2.1, h.2.2.2.2.2.2.1, h.2.2.2.2.2.2.2.1, h.2.2.2.2.2.2.2.2.1, hv, h.2.2.2.2.2.2.2.2.2.2⟩
theorem ia_F_6 {σ : ST} {f : Nat → Int32} (h : IA σ) : IA (stF σ 6 f) := h
theorem ia_F_9 {σ : ST} {f : Nat → Int32} (h : IA σ) : IA (stF σ 9 f) := h
theorem ia_F_13 {σ : ST} {f : Nat → Int32} (h : IA σ) : IA (stF σ 13 f) := h
theorem ia_F_15 {σ : ST} {f : Nat → Int32} (h : IA σ) : IA (stF σ 15 f) := h
theorem ia_F_16 {σ : ST} {f : Nat → Int32} (h : IA σ) : IA (stF σ 16 f) := h
theorem ia_F_17 {σ : ST} {f : Nat → Int32} (h : IA σ) : IA (stF σ 17 f) := h
/-- the frame of the plans' copy -/
def CF (σ τ : ST) : Prop := IA τ ∧ τ.1 0 = σ.1 0 ∧ τ.1 1 = σ.1 1 ∧ τ.1 4 0 = σ.1 20 0 ∧ τ.2.2.2 = σ.2.2.2 ∧ τ.2.1 3 = σ.2.1 3
theorem k_X5_copyFrom_4 (σ : ST) (hI : IA σ) : OK (f_X5_copyFrom 4 σ) (CF σ) := by
  unfold f_X5_copyFrom
  refine OK.lt (fun z1 h1 => ?_)
  have c1 : CF σ z1 := by
    rw [h1]
    exact ⟨ia_I_4_1 (ia_J_4_0 hI hI.dplans), rfl, rfl, rfl, rfl, rfl⟩
  clear h1
  refine OK.grd (by decide) ?_
  refine OK.lt (fun z2 h2 => ?_)
  have c2 : CF σ z2 := by
    rw [h2]
    exact ⟨ia_F_5 c1.1 (cpy_all (P := fun x => bI x 0 36) c1.1.drecs c1.1.recs), c1.2⟩
  clear h2 c1
  refine OK.grd (by decide) ?_
  refine OK.lt (fun z3 h3 => ?_)
  have c3 : CF σ z3 := by
    rw [h3]
    exact ⟨ia_F_6 c2.1, c2.2⟩
  clear h3 c2
  refine OK.grd (by decide) ?_
  refine OK.lt (fun z4 h4 => ?_)
  have c4 : CF σ z4 := by
    rw [h4]
    exact ⟨ia_F_7 c3.1 (cpy_all (P := fun x => bI x 0 8) c3.1.dflds c3.1.flds), c3.2⟩
  clear h4 c3
  refine OK.grd (by decide) ?_
  refine OK.lt (fun z5 h5 => ?_)
  have c5 : CF σ z5 := by
    rw [h5]
    exact ⟨ia_FL c4.1, c4.2⟩
  clear h5 c4
  refine OK.grd (by decide) ?_
  refine OK.lt (fun z6 h6 => ?_)
  have c6 : CF σ z6 := by
    rw [h6]
    exact ⟨ia_F_9 c5.1, c5.2⟩
  clear h6 c5
  refine OK.grd (by decide) ?_
  refine OK.lt (fun z7 h7 => ?_)
  have c7 : CF σ z7 := by
    rw [h7]
    exact ⟨ia_FL c6.1, c6.2⟩
  clear h7 c6
  refine OK.grd (by decide) ?_
  refine OK.lt (fun z8 h8 => ?_)
  have c8 : CF σ z8 := by
    rw [h8]
    exact ⟨ia_FL c7.1, c7.2⟩
  clear h8 c7
  refine OK.grd (by decide) ?_
  refine OK.lt (fun z9 h9 => ?_)
  have c9 : CF σ z9 := by
    rw [h9]
    exact ⟨ia_F_13 c8.1, c8.2⟩
  clear h9 c8
  refine OK.grd (by decide) ?_
  refine OK.lt (fun z10 h10 => ?_)
  have c10 : CF σ z10 := by
    rw [h10]
    exact ⟨ia_FL c9.1, c9.2⟩
  clear h10 c9
  refine OK.grd (by decide) ?_
  refine OK.lt (fun z11 h11 => ?_)
  have c11 : CF σ z11 := by
    rw [h11]
    exact ⟨ia_F_15 c10.1, c10.2⟩
  clear h11 c10
  refine OK.grd (by decide) ?_
  refine OK.lt (fun z12 h12 => ?_)
  have c12 : CF σ z12 := by
    rw [h12]
    exact ⟨ia_F_16 c11.1, c11.2⟩
  clear h12 c11
  refine OK.grd (by decide) ?_
  refine OK.lt (fun z13 h13 => ?_)
  have c13 : CF σ z13 := by
    rw [h13]
    exact ⟨ia_F_17 c12.1, c12.2⟩
  clear h13 c12
  exact OK.ret c13


theorem k_X5_heightOfFields_4_4 : ∀ (n : Nat) (x1 : Int32) (x2 : Int32) (x3 : Int32) (σ : ST), IA σ → (0 ≤ x3.toInt ∧ x3.toInt ≤ 8 ∧ (8 : Int) - x3.toInt < n) → OK (f_X5_heightOfFields_4 4 n x1 x2 x3 σ) (RO σ fun v => True) := by
  intro n
  induction n with
  | zero =>
    intro x1 x2 x3 σ hI hv
    omega
  | succ n ih =>
    intro x1 x2 x3 σ hI hv
    rw [f_X5_heightOfFields_4]
    have lt_m1 := li_m1
    have lt_0 := li_0
    have lt_1 := li_1
    have lFU : ((FU : Nat) : Int) = 100000 := rfl
    refine OK.bndR (k_X5_fieldsOf_4 _ _ hI ) (fun v1 h2 => ?_)
    dsimp only
    refine OK.ile (fun h3 => ?_) (fun h3 => ?_)
    · skip
      exact OK.roret (by first | trivial | omega | exact hI.flds _ | exact hI.dflds _ | exact hI.recs _ | exact hI.drecs _ | exact hI.droot _ | omega)
    · skip
      refine OK.bndR (k_X5_typeOf_4 _ _ _ hI ) (fun v4 h5 => ?_)
      dsimp only
      refine OK.bndR (k_X5_emptyHeight_4 _ _ hI ) (fun v6 h7 => ?_)
      dsimp only
      refine OK.ieq (fun h8 => ?_) (fun h8 => ?_)
      · skip
        exact OK.roret (by first | trivial | omega | exact hI.flds _ | exact hI.dflds _ | exact hI.recs _ | exact hI.drecs _ | exact hI.droot _ | omega)
      · skip
        obtain ⟨a9k, a9, a9l, a9r⟩ := i_add x3 1
        try (refine k0el (k := a9k) ?_ (fun e0 => ?_); (focus omega); subst e0)
        exact OK.roq (ih _ _ _ _ hI (by omega)) (fun v hv => by first | trivial | omega | exact hI.flds _ | exact hI.dflds _ | exact hI.recs _ | exact hI.drecs _ | exact hI.droot _ | omega)

theorem k_X5_heightOfFields_4 (p0 : Int32) (σ : ST) (hI : IA σ)  : OK (f_X5_heightOfFields 4 p0 σ) (RO σ fun v => True) := by
  unfold f_X5_heightOfFields
  have lt_0 := li_0
  have lt_1 := li_1
  have lFU : ((FU : Nat) : Int) = 100000 := rfl
  exact OK.roq (k_X5_heightOfFields_4_4 FU _ _ _ _ hI (by omega)) (fun v hv => by first | trivial | omega | exact hI.flds _ | exact hI.dflds _ | exact hI.recs _ | exact hI.drecs _ | exact hI.droot _ | omega)

theorem k_X5_findEmptyRecords_28_4 {k10 : Int32 → ST → Option (ST)} {k18 : Int32 → Int32 → ST → Option (ST)} {P : ST → Prop} : ∀ (n : Nat) (x1 : Int32) (x2 : Int32) (x3 : Int32) (σ : ST), IA σ → (∀ s9 : ST, IA s9 → Fr σ s9 → OK (k18 x1 (x2 + 1) s9) P) → (0 ≤ x3.toInt ∧ x3.toInt ≤ 36 ∧ (36 : Int) - x3.toInt < n) → OK (f_X5_findEmptyRecords_28 k10 k18 4 n x1 x2 x3 σ) P := by
  intro n
  induction n with
  | zero =>
    intro x1 x2 x3 σ hI hk hv
    omega
  | succ n ih =>
    intro x1 x2 x3 σ hI hk hv
    rw [f_X5_findEmptyRecords_28]
    have lt_m1 := li_m1
    have lt_0 := li_0
    have lt_1 := li_1
    have lt_6 := li_6
    have lFU : ((FU : Nat) : Int) = 100000 := rfl
    refine OK.bndR (k_X5_recordsOf_4 _ _ hI ) (fun v1 h2 => ?_)
    dsimp only
    refine OK.ile (fun h3 => ?_) (fun h3 => ?_)
    · skip
      obtain ⟨a4k, a4, a4l, a4r⟩ := i_add x2 1
      try (refine k0el (k := a4k) ?_ (fun e0 => ?_); (focus omega); subst e0)
      exact (hk _ hI Fr.rf)
    · skip
      refine OK.bndR (k_X5_isRecord _ _ hI ) (fun v5 h6 => ?_)
      dsimp only
      refine OK.ieq (fun h7 => ?_) (fun h7 => ?_)
      · skip
        unfold f_X5_findEmptyRecords_77
        try dsimp only
        obtain ⟨a8k, a8, a8l, a8r⟩ := i_add x3 1
        try (refine k0el (k := a8k) ?_ (fun e0 => ?_); (focus omega); subst e0)
        exact (ih _ _ _ _ hI (fun s9 i9 f9 => hk s9 i9 (Fr.trans Fr.rf f9)) (by omega))
      · skip
        obtain ⟨a9k, a9, a9l, a9r⟩ := i_mul x2 6
        rw [li_6] at a9
        try (refine k0el (k := a9k) ?_ (fun e0 => ?_); (focus omega); subst e0)
        obtain ⟨a10k, a10, a10l, a10r⟩ := i_add (x2 * 6) x3
        try (refine k0el (k := a10k) ?_ (fun e0 => ?_); (focus omega); subst e0)
        refine OK.grd ⟨by omega, by omega⟩ ?_
        refine OK.ieq (fun h11 => ?_) (fun h11 => ?_)
        · skip
          refine OK.bndR (k_X5_heightOfFields_4 _ _ hI ) (fun v12 h13 => ?_)
          dsimp only
          unfold f_X5_findEmptyRecords_77
          try dsimp only
          obtain ⟨a14k, a14, a14l, a14r⟩ := i_add x3 1
          try (refine k0el (k := a14k) ?_ (fun e0 => ?_); (focus omega); subst e0)
          exact (ih _ _ _ _ (ia_I_10 hI) (fun s9 i9 f9 => hk s9 i9 (Fr.trans (fr_I_10 Fr.rf) f9)) (by omega))
        · skip
          unfold f_X5_findEmptyRecords_77
          try dsimp only
          obtain ⟨a15k, a15, a15l, a15r⟩ := i_add x3 1
          try (refine k0el (k := a15k) ?_ (fun e0 => ?_); (focus omega); subst e0)
          exact (ih _ _ _ _ hI (fun s9 i9 f9 => hk s9 i9 (Fr.trans Fr.rf f9)) (by omega))

theorem k_X5_findEmptyRecords_18_4 {k10 : Int32 → ST → Option (ST)} {P : ST → Prop} : ∀ (n : Nat) (x1 : Int32) (x2 : Int32) (σ : ST), IA σ → (∀ s9 : ST, IA s9 → Fr σ s9 → OK (k10 (x1 + 1) s9) P) → (0 ≤ x2.toInt ∧ x2.toInt ≤ 6 ∧ (6 : Int) - x2.toInt < n) → OK (f_X5_findEmptyRecords_18 k10 4 n x1 x2 σ) P := by
  intro n
  induction n with
  | zero =>
    intro x1 x2 σ hI hk hv
    omega
  | succ n ih =>
    intro x1 x2 σ hI hk hv
    rw [f_X5_findEmptyRecords_18]
    have lt_0 := li_0
    have lt_1 := li_1
    have lFU : ((FU : Nat) : Int) = 100000 := rfl
    have g0 : 0 ≤ (σ.1 4 0).toInt ∧ (σ.1 4 0).toInt ≤ 6 := hI.plans
    have g1 : 0 ≤ (σ.1 4 0).toInt ∧ (σ.1 4 0).toInt ≤ 6 := hI.plans
    refine OK.ile (fun h2 => ?_) (fun h2 => ?_)
    · skip
      obtain ⟨a3k, a3, a3l, a3r⟩ := i_add x1 1
      try (refine k0el (k := a3k) ?_ (fun e0 => ?_); (focus omega); subst e0)
      exact (hk _ hI Fr.rf)
    · skip
      obtain ⟨a4k, a4, a4l, a4r⟩ := i_add x2 1
      try (refine k0el (k := a4k) ?_ (fun e0 => ?_); (focus omega); subst e0)
      exact (k_X5_findEmptyRecords_28_4 FU _ _ _ _ hI (fun s9 i9 f9 => ih _ _ _ i9 (fun s8 i8 f8 => hk s8 i8 (Fr.trans (Fr.trans Fr.rf f9) f8)) (by omega)) (by omega))

theorem k_X5_findEmptyRecords_10_4 : ∀ (n : Nat) (x1 : Int32) (σ : ST), IA σ → (0 ≤ x1.toInt ∧ x1.toInt ≤ 6 ∧ (6 : Int) - x1.toInt < n) → OK (f_X5_findEmptyRecords_10 4 n x1 σ) (RS σ) := by
  intro n
  induction n with
  | zero =>
    intro x1 σ hI hv
    omega
  | succ n ih =>
    intro x1 σ hI hv
    rw [f_X5_findEmptyRecords_10]
    have lt_0 := li_0
    have lt_1 := li_1
    have lt_6 := li_6
    have lFU : ((FU : Nat) : Int) = 100000 := rfl
    refine OK.ile (fun h1 => ?_) (fun h1 => ?_)
    · skip
      exact OK.sret hI Fr.rf
    · skip
      obtain ⟨a2k, a2, a2l, a2r⟩ := i_add x1 1
      try (refine k0el (k := a2k) ?_ (fun e0 => ?_); (focus omega); subst e0)
      exact (k_X5_findEmptyRecords_18_4 FU _ _ _ hI (fun s9 i9 f9 => OK.trS (ih _ _ i9 (by omega)) (Fr.trans Fr.rf f9)) (by omega))

theorem k_X5_findEmptyRecords_4 (σ : ST) (hI : IA σ)  : OK (f_X5_findEmptyRecords 4 σ) (RS σ) := by
  unfold f_X5_findEmptyRecords
  have lt_m1 := li_m1
  have lt_0 := li_0
  have lt_1 := li_1
  have lFU : ((FU : Nat) : Int) = 100000 := rfl
  refine OK.bndS (k_J7_fill_53178_10 _ _ hI ) Fr.rf (fun s1 is1 fs1 => ?_)
  try dsimp only
  exact OK.trS (k_X5_findEmptyRecords_10_4 FU _ _ is1 (by omega)) fs1

theorem k_X6_begin (p0 : Int32) (σ : ST) (hI : IA σ) (hp0 : 0 ≤ p0.toInt ∧ p0.toInt ≤ 1000)  : OK (f_X6_begin  p0 σ) (RS σ) := by
  unfold f_X6_begin
  have lt_0 := li_0
  have lt_1 := li_1
  have lFU : ((FU : Nat) : Int) = 100000 := rfl
  refine OK.bndS (k_X6_advance _ (ia_I_2_13 (ia_I_2_12 (ia_J_2_3 (ia_J_2_2 hI (show bI p0 0 1000 from ⟨by omega, by omega⟩)) (show bI 0 0 1030 from ⟨by omega, by omega⟩)))) ) (fr_I_2 (fr_I_2 (fr_I_2 (fr_I_2 Fr.rf)))) (fun s1 is1 fs1 => ?_)
  try dsimp only
  exact OK.sret is1 fs1

theorem k_X6_faultAnswer (σ : ST) (hI : IA σ)  : OK (f_X6_faultAnswer  σ) (RO σ fun v => True) := by
  unfold f_X6_faultAnswer
  have lt_0 := li_0
  have lt_1 := li_1
  have lt_2 := li_2
  have lt_8 := li_8
  have lFU : ((FU : Nat) : Int) = 100000 := rfl
  exact OK.roret (by first | trivial | omega | exact hI.flds _ | exact hI.dflds _ | exact hI.recs _ | exact hI.drecs _ | exact hI.droot _ | omega)

theorem k_X9_clear (σ : ST) (hI : IA σ)  : OK (f_X9_clear  σ) (RS σ) := by
  unfold f_X9_clear
  have lt_0 := li_0
  have lt_1 := li_1
  have lFU : ((FU : Nat) : Int) = 100000 := rfl
  exact OK.sret (ia_I_48_3 (ia_I_48_2 (ia_J_48_1 hI (show bI 0 0 4 from ⟨by omega, by omega⟩)))) (fr_I_48 (fr_I_48 (fr_I_48 Fr.rf)))

theorem k_X10_readers_24 : ∀ (n : Nat) (x1 : Int32) (x2 : Int32) (x3 : Int32) (x4 : Int32) (σ : ST), IA σ → (0 ≤ x4.toInt ∧ x4.toInt ≤ 6 ∧ (6 : Int) - x4.toInt < n) → OK (f_X10_readers_24  n x1 x2 x3 x4 σ) (RW σ fun v => True) := by
  intro n
  induction n with
  | zero =>
    intro x1 x2 x3 x4 σ hI hv
    omega
  | succ n ih =>
    intro x1 x2 x3 x4 σ hI hv
    rw [f_X10_readers_24]
    have lt_0 := li_0
    have lt_1 := li_1
    have lFU : ((FU : Nat) : Int) = 100000 := rfl
    have g0 : 0 ≤ (σ.1 4 0).toInt ∧ (σ.1 4 0).toInt ≤ 6 := hI.plans
    have g1 : 0 ≤ (σ.1 4 0).toInt ∧ (σ.1 4 0).toInt ≤ 6 := hI.plans
    refine OK.ile (fun h2 => ?_) (fun h2 => ?_)
    · skip
      exact OK.wret hI Fr.rf (by first | trivial | omega | exact hI.flds _ | exact hI.dflds _ | exact hI.recs _ | exact hI.drecs _ | exact hI.droot _ | omega)
    · skip
      refine OK.bndW (k_X0_verdict _ _ _ hI ) Fr.rf (fun v3 s5 is5 fs5 h4 => ?_)
      dsimp only
      refine OK.ilt (fun h6 => ?_) (fun h6 => ?_)
      · skip
        unfold f_X10_readers_57
        try dsimp only
        obtain ⟨a7k, a7, a7l, a7r⟩ := i_add x4 1
        try (refine k0el (k := a7k) ?_ (fun e0 => ?_); (focus omega); subst e0)
        exact OK.trW (ih _ _ _ _ _ is5 (by omega)) fs5 (fun v hv => by first | trivial | omega | exact hI.flds _ | exact hI.dflds _ | exact hI.recs _ | exact hI.drecs _ | exact hI.droot _ | omega)
      · skip
        unfold f_X10_readers_57
        try dsimp only
        obtain ⟨a8k, a8, a8l, a8r⟩ := i_add x4 1
        try (refine k0el (k := a8k) ?_ (fun e0 => ?_); (focus omega); subst e0)
        exact OK.trW (ih _ _ _ _ _ is5 (by omega)) fs5 (fun v hv => by first | trivial | omega | exact hI.flds _ | exact hI.dflds _ | exact hI.recs _ | exact hI.drecs _ | exact hI.droot _ | omega)

theorem k_X10_readers (p0 : Int32) (p1 : Int32) (σ : ST) (hI : IA σ)  : OK (f_X10_readers  p0 p1 σ) (RW σ fun v => True) := by
  unfold f_X10_readers
  have lt_m1 := li_m1
  have lt_0 := li_0
  have lt_1 := li_1
  have lFU : ((FU : Nat) : Int) = 100000 := rfl
  refine OK.bndR (k_X10_isPlan _ _ hI ) (fun v1 h2 => ?_)
  dsimp only
  refine OK.ieq (fun h3 => ?_) (fun h3 => ?_)
  · skip
    exact OK.wret hI Fr.rf (by first | trivial | omega | exact hI.flds _ | exact hI.dflds _ | exact hI.recs _ | exact hI.drecs _ | exact hI.droot _ | omega)
  · skip
    refine OK.ilt (fun h4 => ?_) (fun h4 => ?_)
    · skip
      exact OK.wret hI Fr.rf (by first | trivial | omega | exact hI.flds _ | exact hI.dflds _ | exact hI.recs _ | exact hI.drecs _ | exact hI.droot _ | omega)
    · skip
      refine OK.ile (fun h5 => ?_) (fun h5 => ?_)
      · skip
        exact OK.trW (k_X10_readers_24 FU _ _ _ _ _ hI (by omega)) Fr.rf (fun v hv => by first | trivial | omega | exact hI.flds _ | exact hI.dflds _ | exact hI.recs _ | exact hI.drecs _ | exact hI.droot _ | omega)
      · skip
        exact OK.wret hI Fr.rf (by first | trivial | omega | exact hI.flds _ | exact hI.dflds _ | exact hI.recs _ | exact hI.drecs _ | exact hI.droot _ | omega)

theorem k_X10_record (p0 : Int32) (p1 : Int32) (p2 : Int32) (σ : ST) (hI : IA σ)  : OK (f_X10_record  p0 p1 p2 σ) (RO σ fun v => True) := by
  unfold f_X10_record
  have lt_m1 := li_m1
  have lt_0 := li_0
  have lt_1 := li_1
  have lt_6 := li_6
  have lFU : ((FU : Nat) : Int) = 100000 := rfl
  refine OK.bndR (k_X10_isPlan _ _ hI ) (fun v1 h2 => ?_)
  dsimp only
  refine OK.ieq (fun h3 => ?_) (fun h3 => ?_)
  · skip
    exact OK.roret (by first | trivial | omega | exact hI.flds _ | exact hI.dflds _ | exact hI.recs _ | exact hI.drecs _ | exact hI.droot _ | omega)
  · skip
    refine OK.bndR (k_X5_recordsOf_4 _ _ hI ) (fun v4 h5 => ?_)
    dsimp only
    refine OK.ieq (fun h6 => ?_) (fun h6 => ?_)
    · skip
      exact OK.roret (by first | trivial | omega | exact hI.flds _ | exact hI.dflds _ | exact hI.recs _ | exact hI.drecs _ | exact hI.droot _ | omega)
    · skip
      refine OK.ilt (fun h7 => ?_) (fun h7 => ?_)
      · skip
        exact OK.roret (by first | trivial | omega | exact hI.flds _ | exact hI.dflds _ | exact hI.recs _ | exact hI.drecs _ | exact hI.droot _ | omega)
      · skip
        refine OK.ilt (fun h8 => ?_) (fun h8 => ?_)
        · skip
          refine OK.ieq (fun h9 => ?_) (fun h9 => ?_)
          · skip
            refine OK.bndR (k_X5_fieldsOf_4 _ _ hI ) (fun v10 h11 => ?_)
            dsimp only
            exact OK.roret (by first | trivial | omega | exact hI.flds _ | exact hI.dflds _ | exact hI.recs _ | exact hI.drecs _ | exact hI.droot _ | omega)
          · skip
            refine OK.ieq (fun h12 => ?_) (fun h12 => ?_)
            · skip
              refine OK.bndR (k_X5_recordName_4 _ _ hI ) (fun v13 h14 => ?_)
              dsimp only
              refine OK.bndR (k_X10_lettersIn _ _ hI ) (fun v15 h16 => ?_)
              dsimp only
              exact OK.roret (by first | trivial | omega | exact hI.flds _ | exact hI.dflds _ | exact hI.recs _ | exact hI.drecs _ | exact hI.droot _ | omega)
            · skip
              exact OK.roret (by first | trivial | omega | exact hI.flds _ | exact hI.dflds _ | exact hI.recs _ | exact hI.drecs _ | exact hI.droot _ | omega)
        · skip
          exact OK.roret (by first | trivial | omega | exact hI.flds _ | exact hI.dflds _ | exact hI.recs _ | exact hI.drecs _ | exact hI.droot _ | omega)

theorem k_X1_change (p0 : Int32) (p1 : Int32) (p2 : Int32) (σ : ST) (hI : IA σ)  : OK (f_X1_change  p0 p1 p2 σ) (RW σ fun v => True) := by
  unfold f_X1_change
  have lt_0 := li_0
  have lt_1 := li_1
  have lt_400 := li_400
  have lFU : ((FU : Nat) : Int) = 100000 := rfl
  refine OK.bndR (k_X1_byteOf _ _ _ hI ) (fun v1 h2 => ?_)
  dsimp only
  refine OK.bndR (k_X1_hasByte _ _ _ hI ) (fun v3 h4 => ?_)
  dsimp only
  refine OK.ieq (fun h5 => ?_) (fun h5 => ?_)
  · skip
    exact OK.wret hI Fr.rf (by first | trivial | omega | exact hI.flds _ | exact hI.dflds _ | exact hI.recs _ | exact hI.drecs _ | exact hI.droot _ | omega)
  · skip
    obtain ⟨a6k, a6, a6l, a6r⟩ := i_mul p0 400
    rw [li_400] at a6
    try (refine k0el (k := a6k) ?_ (fun e0 => ?_); (focus omega); subst e0)
    obtain ⟨a7k, a7, a7l, a7r⟩ := i_add (p0 * 400) p1
    try (refine k0el (k := a7k) ?_ (fun e0 => ?_); (focus omega); subst e0)
    refine OK.grd ⟨by omega, by omega⟩ ?_
    refine OK.lt (fun z8 h9 => ?_)
    have iz8 : IA z8 := by rw [h9]; exact (ia_I_38 hI)
    have fz8 : Fr σ z8 := by rw [h9]; exact (fr_I_38 Fr.rf)
    exact OK.wret iz8 fz8 (by first | trivial | omega | exact hI.flds _ | exact hI.dflds _ | exact hI.recs _ | exact hI.drecs _ | exact hI.droot _ | omega)

theorem k_X10_spoil (p0 : Int32) (p1 : Int32) (p2 : Int32) (σ : ST) (hI : IA σ)  : OK (f_X10_spoil  p0 p1 p2 σ) (RW σ fun v => True) := by
  unfold f_X10_spoil
  have lt_m1 := li_m1
  have lt_0 := li_0
  have lt_1 := li_1
  have lFU : ((FU : Nat) : Int) = 100000 := rfl
  refine OK.bndR (k_X1_hasByte _ _ _ hI ) (fun v1 h2 => ?_)
  dsimp only
  refine OK.ieq (fun h3 => ?_) (fun h3 => ?_)
  · skip
    exact OK.wret hI Fr.rf (by first | trivial | omega | exact hI.flds _ | exact hI.dflds _ | exact hI.recs _ | exact hI.drecs _ | exact hI.droot _ | omega)
  · skip
    refine OK.bndW (k_X1_change _ _ _ _ hI ) Fr.rf (fun v4 s6 is6 fs6 h5 => ?_)
    dsimp only
    exact OK.wret is6 fs6 (by first | trivial | omega | exact hI.flds _ | exact hI.dflds _ | exact hI.recs _ | exact hI.drecs _ | exact hI.droot _ | omega)

theorem k_X10_value (p0 : Int32) (σ : ST) (hI : IA σ)  : OK (f_X10_value  p0 σ) (RO σ fun v => True) := by
  unfold f_X10_value
  have lt_m1 := li_m1
  have lt_0 := li_0
  have lt_1 := li_1
  have lt_5 := li_5
  have lFU : ((FU : Nat) : Int) = 100000 := rfl
  refine OK.bndR (k_X7_rowAt_50 _ _ hI ) (fun v1 h2 => ?_)
  dsimp only
  refine OK.ieq (fun h3 => ?_) (fun h3 => ?_)
  · skip
    exact OK.roret (by first | trivial | omega | exact hI.flds _ | exact hI.dflds _ | exact hI.recs _ | exact hI.drecs _ | exact hI.droot _ | omega)
  · skip
    refine OK.bndR (k_X7_sortAt_50 _ _ hI ) (fun v4 h5 => ?_)
    dsimp only
    refine OK.ieq (fun h6 => ?_) (fun h6 => ?_)
    · skip
      exact OK.roret (by first | trivial | omega | exact hI.flds _ | exact hI.dflds _ | exact hI.recs _ | exact hI.drecs _ | exact hI.droot _ | omega)
    · skip
      refine OK.bndR (k_X7_worthOf_50 _ _ hI ) (fun v7 h8 => ?_)
      dsimp only
      exact OK.roret (by first | trivial | omega | exact hI.flds _ | exact hI.dflds _ | exact hI.recs _ | exact hI.drecs _ | exact hI.droot _ | omega)

theorem k_X8_fittingType_48 : ∀ (n : Nat) (x2 : Int32) (x3 : Int32) (σ : ST), IA σ → (0 ≤ x3.toInt ∧ x3.toInt ≤ 4 ∧ (4 : Int) - x3.toInt < n) → OK (f_X8_fittingType_48  n x2 x3 σ) (RO σ fun v => True) := by
  intro n
  induction n with
  | zero =>
    intro x2 x3 σ hI hv
    omega
  | succ n ih =>
    intro x2 x3 σ hI hv
    rw [f_X8_fittingType_48]
    have lt_m1 := li_m1
    have lt_0 := li_0
    have lt_1 := li_1
    have lt_4 := li_4
    have lFU : ((FU : Nat) : Int) = 100000 := rfl
    refine OK.ile (fun h1 => ?_) (fun h1 => ?_)
    · skip
      exact OK.roret (by first | trivial | omega | exact hI.flds _ | exact hI.dflds _ | exact hI.recs _ | exact hI.drecs _ | exact hI.droot _ | omega)
    · skip
      refine OK.ieq (fun h2 => ?_) (fun h2 => ?_)
      · skip
        exact OK.roret (by first | trivial | omega | exact hI.flds _ | exact hI.dflds _ | exact hI.recs _ | exact hI.drecs _ | exact hI.droot _ | omega)
      · skip
        refine OK.bndR (k_X5_sortOf_4 _ _ hI ) (fun v3 h4 => ?_)
        dsimp only
        refine OK.bndR (k_X6_fits _ _ hI ) (fun v5 h6 => ?_)
        dsimp only
        refine OK.ieq (fun h7 => ?_) (fun h7 => ?_)
        · skip
          refine OK.bndR (k_X5_branchAfter_4 _ _ hI ) (fun v8 h9 => ?_)
          dsimp only
          obtain ⟨a10k, a10, a10l, a10r⟩ := i_add x3 1
          try (refine k0el (k := a10k) ?_ (fun e0 => ?_); (focus omega); subst e0)
          exact OK.roq (ih _ _ _ hI (by omega)) (fun v hv => by first | trivial | omega | exact hI.flds _ | exact hI.dflds _ | exact hI.recs _ | exact hI.drecs _ | exact hI.droot _ | omega)
        · skip
          exact OK.roret (by first | trivial | omega | exact hI.flds _ | exact hI.dflds _ | exact hI.recs _ | exact hI.drecs _ | exact hI.droot _ | omega)

theorem k_X8_fittingType (p0 : Int32) (σ : ST) (hI : IA σ)  : OK (f_X8_fittingType  p0 σ) (RO σ fun v => True) := by
  unfold f_X8_fittingType
  have lt_m1 := li_m1
  have lt_0 := li_0
  have lt_1 := li_1
  have lt_8 := li_8
  have lFU : ((FU : Nat) : Int) = 100000 := rfl
  refine OK.bndR (k_X5_sortOf_4 _ _ hI ) (fun v1 h2 => ?_)
  dsimp only
  refine OK.ieq (fun h3 => ?_) (fun h3 => ?_)
  · skip
    refine OK.bndR (k_X5_innerOf_4 _ _ hI ) (fun v4 h5 => ?_)
    dsimp only
    exact OK.roq (k_X8_fittingType_48 FU _ _ _ hI (by omega)) (fun v hv => by first | trivial | omega | exact hI.flds _ | exact hI.dflds _ | exact hI.recs _ | exact hI.drecs _ | exact hI.droot _ | omega)
  · skip
    refine OK.bndR (k_X5_sortOf_4 _ _ hI ) (fun v6 h7 => ?_)
    dsimp only
    refine OK.bndR (k_X6_fits _ _ hI ) (fun v8 h9 => ?_)
    dsimp only
    refine OK.ieq (fun h10 => ?_) (fun h10 => ?_)
    · skip
      exact OK.roret (by first | trivial | omega | exact hI.flds _ | exact hI.dflds _ | exact hI.recs _ | exact hI.drecs _ | exact hI.droot _ | omega)
    · skip
      exact OK.roret (by first | trivial | omega | exact hI.flds _ | exact hI.dflds _ | exact hI.recs _ | exact hI.drecs _ | exact hI.droot _ | omega)

theorem k_X8_closeRecord_2 : ∀ (n : Nat) (x1 : Int32) (x2 : Int32) (x3 : Int32) (σ : ST), IA σ → (0 ≤ x3.toInt ∧ x3.toInt ≤ 8 ∧ (8 : Int) - x3.toInt < n) → OK (f_X8_closeRecord_2  n x1 x2 x3 σ) (RW σ fun v => v.toInt = 0 ∨ v.toInt = 1) := by
  intro n
  induction n with
  | zero =>
    intro x1 x2 x3 σ hI hv
    omega
  | succ n ih =>
    intro x1 x2 x3 σ hI hv
    rw [f_X8_closeRecord_2]
    have lt_0 := li_0
    have lt_1 := li_1
    have lt_6 := li_6
    have lt_31 := li_31
    have lFU : ((FU : Nat) : Int) = 100000 := rfl
    refine OK.bndR (k_X5_fieldsOf_4 _ _ hI ) (fun v1 h2 => ?_)
    dsimp only
    refine OK.ile (fun h3 => ?_) (fun h3 => ?_)
    · skip
      refine OK.bndS (k_X6_advance _ hI ) Fr.rf (fun s4 is4 fs4 => ?_)
      try dsimp only
      exact OK.wret is4 fs4 (by first | trivial | omega | exact hI.flds _ | exact hI.dflds _ | exact hI.recs _ | exact hI.drecs _ | exact hI.droot _ | omega)
    · skip
      refine OK.ieq (fun h5 => ?_) (fun h5 => ?_)
      · skip
        refine OK.bndR (k_X5_hasElse_4 _ _ _ hI ) (fun v6 h7 => ?_)
        dsimp only
        refine OK.ieq (fun h8 => ?_) (fun h8 => ?_)
        · skip
          refine OK.bndW (k_X6_refuse _ _ hI ) Fr.rf (fun v9 s11 is11 fs11 h10 => ?_)
          dsimp only
          refine OK.grd (b01 (by omega)) ?_
          exact OK.wret is11 fs11 (by first | trivial | omega | exact hI.flds _ | exact hI.dflds _ | exact hI.recs _ | exact hI.drecs _ | exact hI.droot _ | omega)
        · skip
          unfold f_X8_closeRecord_44
          try dsimp only
          obtain ⟨a12k, a12, a12l, a12r⟩ := i_add x3 1
          try (refine k0el (k := a12k) ?_ (fun e0 => ?_); (focus omega); subst e0)
          exact OK.trW (ih _ _ _ _ hI (by omega)) Fr.rf (fun v hv => by first | trivial | omega | exact hI.flds _ | exact hI.dflds _ | exact hI.recs _ | exact hI.drecs _ | exact hI.droot _ | omega)
      · skip
        unfold f_X8_closeRecord_44
        try dsimp only
        obtain ⟨a13k, a13, a13l, a13r⟩ := i_add x3 1
        try (refine k0el (k := a13k) ?_ (fun e0 => ?_); (focus omega); subst e0)
        exact OK.trW (ih _ _ _ _ hI (by omega)) Fr.rf (fun v hv => by first | trivial | omega | exact hI.flds _ | exact hI.dflds _ | exact hI.recs _ | exact hI.drecs _ | exact hI.droot _ | omega)

theorem k_X8_closeRecord (p0 : Int32) (p1 : Int32) (σ : ST) (hI : IA σ)  : OK (f_X8_closeRecord  p0 p1 σ) (RW σ fun v => v.toInt = 0 ∨ v.toInt = 1) := by
  unfold f_X8_closeRecord
  have lt_0 := li_0
  have lt_1 := li_1
  have lFU : ((FU : Nat) : Int) = 100000 := rfl
  exact OK.trW (k_X8_closeRecord_2 FU _ _ _ _ hI (by omega)) Fr.rf (fun v hv => by first | trivial | omega | exact hI.flds _ | exact hI.dflds _ | exact hI.recs _ | exact hI.drecs _ | exact hI.droot _ | omega)

theorem k_X8_parseFields_25 {N0 : Nat} {r_X8_parseFields : Int32 → Int32 → Int32 → ST → Option (Int32 × ST)} (hr_X8_parseFields : ∀ (p0 : Int32) (p1 : Int32) (p2 : Int32) (σ : ST), IA σ → 0 ≤ p2.toInt ∧ p2.toInt ≤ 30 ∧ (63 : Int) ≤ (N0 : Nat) + 2 * p2.toInt → OK (r_X8_parseFields p0 p1 p2 σ) (RW σ fun v => v.toInt = 0 ∨ v.toInt = 1)) {r_X8_parseItems : Int32 → Int32 → Int32 → ST → Option (Int32 × ST)} (hr_X8_parseItems : ∀ (p0 : Int32) (p1 : Int32) (p2 : Int32) (σ : ST), IA σ → 0 ≤ p2.toInt ∧ p2.toInt ≤ 30 ∧ (63 : Int) ≤ (N0 : Nat) + 2 * p2.toInt → OK (r_X8_parseItems p0 p1 p2 σ) (RW σ fun v => v.toInt = 0 ∨ v.toInt = 1)) {r_X8_parseValue : Int32 → Int32 → Int32 → Int32 → ST → Option (Int32 × ST)} (hr_X8_parseValue : ∀ (p0 : Int32) (p1 : Int32) (p2 : Int32) (p3 : Int32) (σ : ST), IA σ → 0 ≤ p3.toInt ∧ p3.toInt ≤ 31 ∧ (64 : Int) ≤ (N0 : Nat) + 2 * p3.toInt → OK (r_X8_parseValue p0 p1 p2 p3 σ) (RW σ fun v => v.toInt = 0 ∨ v.toInt = 1)) : ∀ (n : Nat) (x1 : Int32) (x2 : Int32) (x3 : Int32) (x4 : Int32) (x5 : Int32) (x6 : Int32) (σ : ST), IA σ → ((0 ≤ x3.toInt ∧ x3.toInt ≤ 30 ∧ (63 : Int) ≤ (N0 + 1 : Nat) + 2 * x3.toInt) ∧ 0 ≤ x6.toInt ∧ x6.toInt ≤ 9 ∧ (9 : Int) - x6.toInt < n) → OK (f_X8_parseFields_25 r_X8_parseFields r_X8_parseItems r_X8_parseValue  n x1 x2 x3 x4 x5 x6 σ) (RW σ fun v => v.toInt = 0 ∨ v.toInt = 1) := by
  intro n
  induction n with
  | zero =>
    intro x1 x2 x3 x4 x5 x6 σ hI hv
    omega
  | succ n ih =>
    intro x1 x2 x3 x4 x5 x6 σ hI hv
    rw [f_X8_parseFields_25]
    have lt_m1 := li_m1
    have lt_0 := li_0
    have lt_1 := li_1
    have lt_3 := li_3
    have lt_8 := li_8
    have lt_31 := li_31
    have lt_44 := li_44
    have lt_125 := li_125
    have lFU : ((FU : Nat) : Int) = 100000 := rfl
    have lFR : ((FR : Nat) : Int) = 160 := rfl
    refine OK.ilt (fun h1 => ?_) (fun h1 => ?_)
    · skip
      unfold f_X8_parseFields_210
      try dsimp only
      refine OK.bndW (k_X8_closeRecord _ _ _ hI ) Fr.rf (fun v2 s4 is4 fs4 h3 => ?_)
      dsimp only
      refine OK.grd (b01 (by omega)) ?_
      exact OK.wret is4 fs4 (by first | trivial | omega | exact hI.flds _ | exact hI.dflds _ | exact hI.recs _ | exact hI.drecs _ | exact hI.droot _ | omega)
    · skip
      refine OK.ieq (fun h5 => ?_) (fun h5 => ?_)
      · skip
        unfold f_X8_parseFields_210
        try dsimp only
        refine OK.bndW (k_X8_closeRecord _ _ _ hI ) Fr.rf (fun v6 s8 is8 fs8 h7 => ?_)
        dsimp only
        refine OK.grd (b01 (by omega)) ?_
        exact OK.wret is8 fs8 (by first | trivial | omega | exact hI.flds _ | exact hI.dflds _ | exact hI.recs _ | exact hI.drecs _ | exact hI.droot _ | omega)
      · skip
        refine OK.ieq (fun h9 => ?_) (fun h9 => ?_)
        · skip
          refine OK.bndR (k_X5_fieldNamed_4 _ _ _ hI ) (fun v10 h11 => ?_)
          dsimp only
          refine OK.ieq (fun h12 => ?_) (fun h12 => ?_)
          · skip
            unfold f_X8_parseFields_90
            try dsimp only
            refine OK.bndW (k_X6_refuse _ _ hI ) Fr.rf (fun v13 s15 is15 fs15 h14 => ?_)
            dsimp only
            refine OK.grd (b01 (by omega)) ?_
            exact OK.wret is15 fs15 (by first | trivial | omega | exact hI.flds _ | exact hI.dflds _ | exact hI.recs _ | exact hI.drecs _ | exact hI.droot _ | omega)
          · skip
            refine OK.ieq (fun h16 => ?_) (fun h16 => ?_)
            · skip
              refine OK.bndS (k_X6_advance _ hI ) Fr.rf (fun s17 is17 fs17 => ?_)
              try dsimp only
              refine OK.bndR (k_X5_typeOf_4 _ _ _ is17 ) (fun v18 h19 => ?_)
              dsimp only
              obtain ⟨a20k, a20, a20l, a20r⟩ := i_add x3 1
              try (refine k0el (k := a20k) ?_ (fun e0 => ?_); (focus omega); subst e0)
              refine OK.bndW (hr_X8_parseValue _ _ _ _ _ is17 (by omega)) fs17 (fun v21 s23 is23 fs23 h22 => ?_)
              dsimp only
              refine OK.ieq (fun h24 => ?_) (fun h24 => ?_)
              · skip
                exact OK.wret is23 fs23 (by first | trivial | omega | exact hI.flds _ | exact hI.dflds _ | exact hI.recs _ | exact hI.drecs _ | exact hI.droot _ | omega)
              · skip
                refine OK.ieq (fun h25 => ?_) (fun h25 => ?_)
                · skip
                  unfold f_X8_parseFields_173
                  try dsimp only
                  refine OK.ieq (fun h26 => ?_) (fun h26 => ?_)
                  · skip
                    unfold f_X8_parseFields_190
                    try dsimp only
                    refine OK.ieq (fun h27 => ?_) (fun h27 => ?_)
                    · skip
                      unfold f_X8_parseFields_204
                      try dsimp only
                      obtain ⟨a28k, a28, a28l, a28r⟩ := i_add x6 1
                      try (refine k0el (k := a28k) ?_ (fun e0 => ?_); (focus omega); subst e0)
                      exact OK.trW (ih _ _ _ _ _ _ _ is23 (by omega)) fs23 (fun v hv => by first | trivial | omega | exact hI.flds _ | exact hI.dflds _ | exact hI.recs _ | exact hI.drecs _ | exact hI.droot _ | omega)
                    · skip
                      refine OK.bndS (k_X6_advance _ is23 ) fs23 (fun s29 is29 fs29 => ?_)
                      try dsimp only
                      unfold f_X8_parseFields_204
                      try dsimp only
                      obtain ⟨a30k, a30, a30l, a30r⟩ := i_add x6 1
                      try (refine k0el (k := a30k) ?_ (fun e0 => ?_); (focus omega); subst e0)
                      exact OK.trW (ih _ _ _ _ _ _ _ is29 (by omega)) fs29 (fun v hv => by first | trivial | omega | exact hI.flds _ | exact hI.dflds _ | exact hI.recs _ | exact hI.drecs _ | exact hI.droot _ | omega)
                  · skip
                    unfold f_X8_parseFields_190
                    try dsimp only
                    refine OK.ieq (fun h31 => ?_) (fun h31 => ?_)
                    · skip
                      unfold f_X8_parseFields_204
                      try dsimp only
                      obtain ⟨a32k, a32, a32l, a32r⟩ := i_add x6 1
                      try (refine k0el (k := a32k) ?_ (fun e0 => ?_); (focus omega); subst e0)
                      exact OK.trW (ih _ _ _ _ _ _ _ is23 (by omega)) fs23 (fun v hv => by first | trivial | omega | exact hI.flds _ | exact hI.dflds _ | exact hI.recs _ | exact hI.drecs _ | exact hI.droot _ | omega)
                    · skip
                      refine OK.bndS (k_X6_advance _ is23 ) fs23 (fun s33 is33 fs33 => ?_)
                      try dsimp only
                      unfold f_X8_parseFields_204
                      try dsimp only
                      obtain ⟨a34k, a34, a34l, a34r⟩ := i_add x6 1
                      try (refine k0el (k := a34k) ?_ (fun e0 => ?_); (focus omega); subst e0)
                      exact OK.trW (ih _ _ _ _ _ _ _ is33 (by omega)) fs33 (fun v hv => by first | trivial | omega | exact hI.flds _ | exact hI.dflds _ | exact hI.recs _ | exact hI.drecs _ | exact hI.droot _ | omega)
                · skip
                  refine OK.ieq (fun h35 => ?_) (fun h35 => ?_)
                  · skip
                    unfold f_X8_parseFields_173
                    try dsimp only
                    refine OK.ieq (fun h36 => ?_) (fun h36 => ?_)
                    · skip
                      unfold f_X8_parseFields_190
                      try dsimp only
                      refine OK.ieq (fun h37 => ?_) (fun h37 => ?_)
                      · skip
                        unfold f_X8_parseFields_204
                        try dsimp only
                        obtain ⟨a38k, a38, a38l, a38r⟩ := i_add x6 1
                        try (refine k0el (k := a38k) ?_ (fun e0 => ?_); (focus omega); subst e0)
                        exact OK.trW (ih _ _ _ _ _ _ _ is23 (by omega)) fs23 (fun v hv => by first | trivial | omega | exact hI.flds _ | exact hI.dflds _ | exact hI.recs _ | exact hI.drecs _ | exact hI.droot _ | omega)
                      · skip
                        refine OK.bndS (k_X6_advance _ is23 ) fs23 (fun s39 is39 fs39 => ?_)
                        try dsimp only
                        unfold f_X8_parseFields_204
                        try dsimp only
                        obtain ⟨a40k, a40, a40l, a40r⟩ := i_add x6 1
                        try (refine k0el (k := a40k) ?_ (fun e0 => ?_); (focus omega); subst e0)
                        exact OK.trW (ih _ _ _ _ _ _ _ is39 (by omega)) fs39 (fun v hv => by first | trivial | omega | exact hI.flds _ | exact hI.dflds _ | exact hI.recs _ | exact hI.drecs _ | exact hI.droot _ | omega)
                    · skip
                      unfold f_X8_parseFields_190
                      try dsimp only
                      refine OK.ieq (fun h41 => ?_) (fun h41 => ?_)
                      · skip
                        unfold f_X8_parseFields_204
                        try dsimp only
                        obtain ⟨a42k, a42, a42l, a42r⟩ := i_add x6 1
                        try (refine k0el (k := a42k) ?_ (fun e0 => ?_); (focus omega); subst e0)
                        exact OK.trW (ih _ _ _ _ _ _ _ is23 (by omega)) fs23 (fun v hv => by first | trivial | omega | exact hI.flds _ | exact hI.dflds _ | exact hI.recs _ | exact hI.drecs _ | exact hI.droot _ | omega)
                      · skip
                        refine OK.bndS (k_X6_advance _ is23 ) fs23 (fun s43 is43 fs43 => ?_)
                        try dsimp only
                        unfold f_X8_parseFields_204
                        try dsimp only
                        obtain ⟨a44k, a44, a44l, a44r⟩ := i_add x6 1
                        try (refine k0el (k := a44k) ?_ (fun e0 => ?_); (focus omega); subst e0)
                        exact OK.trW (ih _ _ _ _ _ _ _ is43 (by omega)) fs43 (fun v hv => by first | trivial | omega | exact hI.flds _ | exact hI.dflds _ | exact hI.recs _ | exact hI.drecs _ | exact hI.droot _ | omega)
                  · skip
                    refine OK.bndW (k_X6_refuse _ _ is23 ) fs23 (fun v45 s47 is47 fs47 h46 => ?_)
                    dsimp only
                    refine OK.grd (b01 (by omega)) ?_
                    exact OK.wret is47 fs47 (by first | trivial | omega | exact hI.flds _ | exact hI.dflds _ | exact hI.recs _ | exact hI.drecs _ | exact hI.droot _ | omega)
            · skip
              unfold f_X8_parseFields_90
              try dsimp only
              refine OK.bndW (k_X6_refuse _ _ hI ) Fr.rf (fun v48 s50 is50 fs50 h49 => ?_)
              dsimp only
              refine OK.grd (b01 (by omega)) ?_
              exact OK.wret is50 fs50 (by first | trivial | omega | exact hI.flds _ | exact hI.dflds _ | exact hI.recs _ | exact hI.drecs _ | exact hI.droot _ | omega)
        · skip
          refine OK.bndW (k_X6_refuse _ _ hI ) Fr.rf (fun v51 s53 is53 fs53 h52 => ?_)
          dsimp only
          refine OK.grd (b01 (by omega)) ?_
          exact OK.wret is53 fs53 (by first | trivial | omega | exact hI.flds _ | exact hI.dflds _ | exact hI.recs _ | exact hI.drecs _ | exact hI.droot _ | omega)

theorem k_X8_parseFields {N0 : Nat} {r_X8_parseFields : Int32 → Int32 → Int32 → ST → Option (Int32 × ST)} (hr_X8_parseFields : ∀ (p0 : Int32) (p1 : Int32) (p2 : Int32) (σ : ST), IA σ → 0 ≤ p2.toInt ∧ p2.toInt ≤ 30 ∧ (63 : Int) ≤ (N0 : Nat) + 2 * p2.toInt → OK (r_X8_parseFields p0 p1 p2 σ) (RW σ fun v => v.toInt = 0 ∨ v.toInt = 1)) {r_X8_parseItems : Int32 → Int32 → Int32 → ST → Option (Int32 × ST)} (hr_X8_parseItems : ∀ (p0 : Int32) (p1 : Int32) (p2 : Int32) (σ : ST), IA σ → 0 ≤ p2.toInt ∧ p2.toInt ≤ 30 ∧ (63 : Int) ≤ (N0 : Nat) + 2 * p2.toInt → OK (r_X8_parseItems p0 p1 p2 σ) (RW σ fun v => v.toInt = 0 ∨ v.toInt = 1)) {r_X8_parseValue : Int32 → Int32 → Int32 → Int32 → ST → Option (Int32 × ST)} (hr_X8_parseValue : ∀ (p0 : Int32) (p1 : Int32) (p2 : Int32) (p3 : Int32) (σ : ST), IA σ → 0 ≤ p3.toInt ∧ p3.toInt ≤ 31 ∧ (64 : Int) ≤ (N0 : Nat) + 2 * p3.toInt → OK (r_X8_parseValue p0 p1 p2 p3 σ) (RW σ fun v => v.toInt = 0 ∨ v.toInt = 1)) (p0 : Int32) (p1 : Int32) (p2 : Int32) (σ : ST) (hI : IA σ) (hv : 0 ≤ p2.toInt ∧ p2.toInt ≤ 30 ∧ (63 : Int) ≤ (N0 + 1 : Nat) + 2 * p2.toInt)  : OK (f_X8_parseFields r_X8_parseFields r_X8_parseItems r_X8_parseValue  p0 p1 p2 σ) (RW σ fun v => v.toInt = 0 ∨ v.toInt = 1) := by
  unfold f_X8_parseFields
  have lt_0 := li_0
  have lt_1 := li_1
  have lt_125 := li_125
  have lFU : ((FU : Nat) : Int) = 100000 := rfl
  have lFR : ((FR : Nat) : Int) = 160 := rfl
  refine OK.ieq (fun h1 => ?_) (fun h1 => ?_)
  · skip
    unfold f_X8_parseFields_20
    try dsimp only
    exact OK.trW (k_X8_parseFields_25 hr_X8_parseFields hr_X8_parseItems hr_X8_parseValue FU _ _ _ _ _ _ _ hI (by omega)) Fr.rf (fun v hv => by first | trivial | omega | exact hI.flds _ | exact hI.dflds _ | exact hI.recs _ | exact hI.drecs _ | exact hI.droot _ | omega)
  · skip
    unfold f_X8_parseFields_20
    try dsimp only
    exact OK.trW (k_X8_parseFields_25 hr_X8_parseFields hr_X8_parseItems hr_X8_parseValue FU _ _ _ _ _ _ _ hI (by omega)) Fr.rf (fun v hv => by first | trivial | omega | exact hI.flds _ | exact hI.dflds _ | exact hI.recs _ | exact hI.drecs _ | exact hI.droot _ | omega)

theorem k_X8_parseItems_24 {N0 : Nat} {r_X8_parseFields : Int32 → Int32 → Int32 → ST → Option (Int32 × ST)} (hr_X8_parseFields : ∀ (p0 : Int32) (p1 : Int32) (p2 : Int32) (σ : ST), IA σ → 0 ≤ p2.toInt ∧ p2.toInt ≤ 30 ∧ (63 : Int) ≤ (N0 : Nat) + 2 * p2.toInt → OK (r_X8_parseFields p0 p1 p2 σ) (RW σ fun v => v.toInt = 0 ∨ v.toInt = 1)) {r_X8_parseItems : Int32 → Int32 → Int32 → ST → Option (Int32 × ST)} (hr_X8_parseItems : ∀ (p0 : Int32) (p1 : Int32) (p2 : Int32) (σ : ST), IA σ → 0 ≤ p2.toInt ∧ p2.toInt ≤ 30 ∧ (63 : Int) ≤ (N0 : Nat) + 2 * p2.toInt → OK (r_X8_parseItems p0 p1 p2 σ) (RW σ fun v => v.toInt = 0 ∨ v.toInt = 1)) {r_X8_parseValue : Int32 → Int32 → Int32 → Int32 → ST → Option (Int32 × ST)} (hr_X8_parseValue : ∀ (p0 : Int32) (p1 : Int32) (p2 : Int32) (p3 : Int32) (σ : ST), IA σ → 0 ≤ p3.toInt ∧ p3.toInt ≤ 31 ∧ (64 : Int) ≤ (N0 : Nat) + 2 * p3.toInt → OK (r_X8_parseValue p0 p1 p2 p3 σ) (RW σ fun v => v.toInt = 0 ∨ v.toInt = 1)) : ∀ (n : Nat) (x1 : Int32) (x2 : Int32) (x3 : Int32) (x4 : Int32) (σ : ST), IA σ → ((0 ≤ x3.toInt ∧ x3.toInt ≤ 30 ∧ (63 : Int) ≤ (N0 + 1 : Nat) + 2 * x3.toInt) ∧ 0 ≤ x4.toInt ∧ x4.toInt ≤ 201 ∧ (201 : Int) - x4.toInt < n) → OK (f_X8_parseItems_24 r_X8_parseFields r_X8_parseItems r_X8_parseValue  n x1 x2 x3 x4 σ) (RW σ fun v => v.toInt = 0 ∨ v.toInt = 1) := by
  intro n
  induction n with
  | zero =>
    intro x1 x2 x3 x4 σ hI hv
    omega
  | succ n ih =>
    intro x1 x2 x3 x4 σ hI hv
    rw [f_X8_parseItems_24]
    have lt_0 := li_0
    have lt_1 := li_1
    have lt_44 := li_44
    have lt_93 := li_93
    have lt_200 := li_200
    have lFU : ((FU : Nat) : Int) = 100000 := rfl
    have lFR : ((FR : Nat) : Int) = 160 := rfl
    refine OK.ilt (fun h1 => ?_) (fun h1 => ?_)
    · skip
      exact OK.wret hI Fr.rf (by first | trivial | omega | exact hI.flds _ | exact hI.dflds _ | exact hI.recs _ | exact hI.drecs _ | exact hI.droot _ | omega)
    · skip
      obtain ⟨a2k, a2, a2l, a2r⟩ := i_add x3 1
      try (refine k0el (k := a2k) ?_ (fun e0 => ?_); (focus omega); subst e0)
      refine OK.bndW (hr_X8_parseValue _ _ _ _ _ hI (by omega)) Fr.rf (fun v3 s5 is5 fs5 h4 => ?_)
      dsimp only
      refine OK.ieq (fun h6 => ?_) (fun h6 => ?_)
      · skip
        exact OK.wret is5 fs5 (by first | trivial | omega | exact hI.flds _ | exact hI.dflds _ | exact hI.recs _ | exact hI.drecs _ | exact hI.droot _ | omega)
      · skip
        refine OK.ieq (fun h7 => ?_) (fun h7 => ?_)
        · skip
          refine OK.bndS (k_X7_setWorth_62 _ _ _ _ is5 ) fs5 (fun s8 is8 fs8 => ?_)
          try dsimp only
          refine OK.bndS (k_X6_advance _ is8 ) fs8 (fun s9 is9 fs9 => ?_)
          try dsimp only
          exact OK.wret is9 fs9 (by first | trivial | omega | exact hI.flds _ | exact hI.dflds _ | exact hI.recs _ | exact hI.drecs _ | exact hI.droot _ | omega)
        · skip
          refine OK.ieq (fun h10 => ?_) (fun h10 => ?_)
          · skip
            refine OK.bndS (k_X6_advance _ is5 ) fs5 (fun s11 is11 fs11 => ?_)
            try dsimp only
            obtain ⟨a12k, a12, a12l, a12r⟩ := i_add x4 1
            try (refine k0el (k := a12k) ?_ (fun e0 => ?_); (focus omega); subst e0)
            exact OK.trW (ih _ _ _ _ _ is11 (by omega)) fs11 (fun v hv => by first | trivial | omega | exact hI.flds _ | exact hI.dflds _ | exact hI.recs _ | exact hI.drecs _ | exact hI.droot _ | omega)
          · skip
            refine OK.bndW (k_X6_refuse _ _ is5 ) fs5 (fun v13 s15 is15 fs15 h14 => ?_)
            dsimp only
            refine OK.grd (b01 (by omega)) ?_
            exact OK.wret is15 fs15 (by first | trivial | omega | exact hI.flds _ | exact hI.dflds _ | exact hI.recs _ | exact hI.drecs _ | exact hI.droot _ | omega)

theorem k_X8_parseItems {N0 : Nat} {r_X8_parseFields : Int32 → Int32 → Int32 → ST → Option (Int32 × ST)} (hr_X8_parseFields : ∀ (p0 : Int32) (p1 : Int32) (p2 : Int32) (σ : ST), IA σ → 0 ≤ p2.toInt ∧ p2.toInt ≤ 30 ∧ (63 : Int) ≤ (N0 : Nat) + 2 * p2.toInt → OK (r_X8_parseFields p0 p1 p2 σ) (RW σ fun v => v.toInt = 0 ∨ v.toInt = 1)) {r_X8_parseItems : Int32 → Int32 → Int32 → ST → Option (Int32 × ST)} (hr_X8_parseItems : ∀ (p0 : Int32) (p1 : Int32) (p2 : Int32) (σ : ST), IA σ → 0 ≤ p2.toInt ∧ p2.toInt ≤ 30 ∧ (63 : Int) ≤ (N0 : Nat) + 2 * p2.toInt → OK (r_X8_parseItems p0 p1 p2 σ) (RW σ fun v => v.toInt = 0 ∨ v.toInt = 1)) {r_X8_parseValue : Int32 → Int32 → Int32 → Int32 → ST → Option (Int32 × ST)} (hr_X8_parseValue : ∀ (p0 : Int32) (p1 : Int32) (p2 : Int32) (p3 : Int32) (σ : ST), IA σ → 0 ≤ p3.toInt ∧ p3.toInt ≤ 31 ∧ (64 : Int) ≤ (N0 : Nat) + 2 * p3.toInt → OK (r_X8_parseValue p0 p1 p2 p3 σ) (RW σ fun v => v.toInt = 0 ∨ v.toInt = 1)) (p0 : Int32) (p1 : Int32) (p2 : Int32) (σ : ST) (hI : IA σ) (hv : 0 ≤ p2.toInt ∧ p2.toInt ≤ 30 ∧ (63 : Int) ≤ (N0 + 1 : Nat) + 2 * p2.toInt)  : OK (f_X8_parseItems r_X8_parseFields r_X8_parseItems r_X8_parseValue  p0 p1 p2 σ) (RW σ fun v => v.toInt = 0 ∨ v.toInt = 1) := by
  unfold f_X8_parseItems
  have lt_0 := li_0
  have lt_1 := li_1
  have lt_93 := li_93
  have lFU : ((FU : Nat) : Int) = 100000 := rfl
  have lFR : ((FR : Nat) : Int) = 160 := rfl
  refine OK.ieq (fun h1 => ?_) (fun h1 => ?_)
  · skip
    refine OK.bndS (k_X6_advance _ hI ) Fr.rf (fun s2 is2 fs2 => ?_)
    try dsimp only
    exact OK.wret is2 fs2 (by first | trivial | omega | exact hI.flds _ | exact hI.dflds _ | exact hI.recs _ | exact hI.drecs _ | exact hI.droot _ | omega)
  · skip
    exact OK.trW (k_X8_parseItems_24 hr_X8_parseFields hr_X8_parseItems hr_X8_parseValue FU _ _ _ _ _ hI (by omega)) Fr.rf (fun v hv => by first | trivial | omega | exact hI.flds _ | exact hI.dflds _ | exact hI.recs _ | exact hI.drecs _ | exact hI.droot _ | omega)

theorem k_X8_parseValue {N0 : Nat} {r_X8_parseFields : Int32 → Int32 → Int32 → ST → Option (Int32 × ST)} (hr_X8_parseFields : ∀ (p0 : Int32) (p1 : Int32) (p2 : Int32) (σ : ST), IA σ → 0 ≤ p2.toInt ∧ p2.toInt ≤ 30 ∧ (63 : Int) ≤ (N0 : Nat) + 2 * p2.toInt → OK (r_X8_parseFields p0 p1 p2 σ) (RW σ fun v => v.toInt = 0 ∨ v.toInt = 1)) {r_X8_parseItems : Int32 → Int32 → Int32 → ST → Option (Int32 × ST)} (hr_X8_parseItems : ∀ (p0 : Int32) (p1 : Int32) (p2 : Int32) (σ : ST), IA σ → 0 ≤ p2.toInt ∧ p2.toInt ≤ 30 ∧ (63 : Int) ≤ (N0 : Nat) + 2 * p2.toInt → OK (r_X8_parseItems p0 p1 p2 σ) (RW σ fun v => v.toInt = 0 ∨ v.toInt = 1)) {r_X8_parseValue : Int32 → Int32 → Int32 → Int32 → ST → Option (Int32 × ST)} (hr_X8_parseValue : ∀ (p0 : Int32) (p1 : Int32) (p2 : Int32) (p3 : Int32) (σ : ST), IA σ → 0 ≤ p3.toInt ∧ p3.toInt ≤ 31 ∧ (64 : Int) ≤ (N0 : Nat) + 2 * p3.toInt → OK (r_X8_parseValue p0 p1 p2 p3 σ) (RW σ fun v => v.toInt = 0 ∨ v.toInt = 1)) (p0 : Int32) (p1 : Int32) (p2 : Int32) (p3 : Int32) (σ : ST) (hI : IA σ) (hv : 0 ≤ p3.toInt ∧ p3.toInt ≤ 31 ∧ (64 : Int) ≤ (N0 + 1 : Nat) + 2 * p3.toInt)  : OK (f_X8_parseValue r_X8_parseFields r_X8_parseItems r_X8_parseValue  p0 p1 p2 p3 σ) (RW σ fun v => v.toInt = 0 ∨ v.toInt = 1) := by
  unfold f_X8_parseValue
  have lt_m1 := li_m1
  have lt_0 := li_0
  have lt_1 := li_1
  have lt_2 := li_2
  have lt_4 := li_4
  have lt_5 := li_5
  have lt_6 := li_6
  have lt_7 := li_7
  have lt_31 := li_31
  have lt_123 := li_123
  have lt_200 := li_200
  have lFU : ((FU : Nat) : Int) = 100000 := rfl
  have lFR : ((FR : Nat) : Int) = 160 := rfl
  refine OK.bndR (k_X6_beginsLiteral _ hI ) (fun v1 h2 => ?_)
  dsimp only
  refine OK.ieq (fun h3 => ?_) (fun h3 => ?_)
  · skip
    refine OK.ieq (fun h4 => ?_) (fun h4 => ?_)
    · skip
      unfold f_X8_parseValue_31
      try dsimp only
      refine OK.bndR (k_X8_fittingType _ _ hI ) (fun v5 h6 => ?_)
      dsimp only
      refine OK.ieq (fun h7 => ?_) (fun h7 => ?_)
      · skip
        refine OK.bndW (k_X6_refuse _ _ hI ) Fr.rf (fun v8 s10 is10 fs10 h9 => ?_)
        dsimp only
        refine OK.grd (b01 (by omega)) ?_
        exact OK.wret is10 fs10 (by first | trivial | omega | exact hI.flds _ | exact hI.dflds _ | exact hI.recs _ | exact hI.drecs _ | exact hI.droot _ | omega)
      · skip
        refine OK.bndR (k_X5_sortOf_4 _ _ hI ) (fun v11 h12 => ?_)
        dsimp only
        refine OK.ile (fun h13 => ?_) (fun h13 => ?_)
        · skip
          unfold f_X8_parseValue_78
          try dsimp only
          unfold f_X8_parseValue_93
          try dsimp only
          refine OK.ieq (fun h14 => ?_) (fun h14 => ?_)
          · skip
            refine OK.bndW (k_X6_refuse _ _ hI ) Fr.rf (fun v15 s17 is17 fs17 h16 => ?_)
            dsimp only
            refine OK.grd (b01 (by omega)) ?_
            exact OK.wret is17 fs17 (by first | trivial | omega | exact hI.flds _ | exact hI.dflds _ | exact hI.recs _ | exact hI.drecs _ | exact hI.droot _ | omega)
          · skip
            refine OK.bndR (k_X6_worth _ _ hI ) (fun v18 h19 => ?_)
            dsimp only
            refine OK.ieq (fun h20 => ?_) (fun h20 => ?_)
            · skip
              refine OK.bndR (k_X10_lettersIn _ _ hI ) (fun v21 h22 => ?_)
              dsimp only
              unfold f_X8_parseValue_142
              try dsimp only
              refine OK.bndS (k_X7_setWorth_62 _ _ _ _ hI ) Fr.rf (fun s23 is23 fs23 => ?_)
              try dsimp only
              refine OK.bndS (k_X6_advance _ is23 ) fs23 (fun s24 is24 fs24 => ?_)
              try dsimp only
              refine OK.ieq (fun h25 => ?_) (fun h25 => ?_)
              · skip
                refine OK.bndR (k_X5_innerOf_4 _ _ is24 ) (fun v26 h27 => ?_)
                dsimp only
                refine OK.bndW (hr_X8_parseItems _ _ _ _ is24 (by omega)) fs24 (fun v28 s30 is30 fs30 h29 => ?_)
                dsimp only
                refine OK.grd (b01 (by omega)) ?_
                exact OK.wret is30 fs30 (by first | trivial | omega | exact hI.flds _ | exact hI.dflds _ | exact hI.recs _ | exact hI.drecs _ | exact hI.droot _ | omega)
              · skip
                refine OK.ieq (fun h31 => ?_) (fun h31 => ?_)
                · skip
                  refine OK.bndR (k_X5_innerOf_4 _ _ is24 ) (fun v32 h33 => ?_)
                  dsimp only
                  refine OK.bndW (hr_X8_parseFields _ _ _ _ is24 (by omega)) fs24 (fun v34 s36 is36 fs36 h35 => ?_)
                  dsimp only
                  refine OK.grd (b01 (by omega)) ?_
                  exact OK.wret is36 fs36 (by first | trivial | omega | exact hI.flds _ | exact hI.dflds _ | exact hI.recs _ | exact hI.drecs _ | exact hI.droot _ | omega)
                · skip
                  exact OK.wret is24 fs24 (by first | trivial | omega | exact hI.flds _ | exact hI.dflds _ | exact hI.recs _ | exact hI.drecs _ | exact hI.droot _ | omega)
            · skip
              unfold f_X8_parseValue_142
              try dsimp only
              refine OK.bndS (k_X7_setWorth_62 _ _ _ _ hI ) Fr.rf (fun s37 is37 fs37 => ?_)
              try dsimp only
              refine OK.bndS (k_X6_advance _ is37 ) fs37 (fun s38 is38 fs38 => ?_)
              try dsimp only
              refine OK.ieq (fun h39 => ?_) (fun h39 => ?_)
              · skip
                refine OK.bndR (k_X5_innerOf_4 _ _ is38 ) (fun v40 h41 => ?_)
                dsimp only
                refine OK.bndW (hr_X8_parseItems _ _ _ _ is38 (by omega)) fs38 (fun v42 s44 is44 fs44 h43 => ?_)
                dsimp only
                refine OK.grd (b01 (by omega)) ?_
                exact OK.wret is44 fs44 (by first | trivial | omega | exact hI.flds _ | exact hI.dflds _ | exact hI.recs _ | exact hI.drecs _ | exact hI.droot _ | omega)
              · skip
                refine OK.ieq (fun h45 => ?_) (fun h45 => ?_)
                · skip
                  refine OK.bndR (k_X5_innerOf_4 _ _ is38 ) (fun v46 h47 => ?_)
                  dsimp only
                  refine OK.bndW (hr_X8_parseFields _ _ _ _ is38 (by omega)) fs38 (fun v48 s50 is50 fs50 h49 => ?_)
                  dsimp only
                  refine OK.grd (b01 (by omega)) ?_
                  exact OK.wret is50 fs50 (by first | trivial | omega | exact hI.flds _ | exact hI.dflds _ | exact hI.recs _ | exact hI.drecs _ | exact hI.droot _ | omega)
                · skip
                  exact OK.wret is38 fs38 (by first | trivial | omega | exact hI.flds _ | exact hI.dflds _ | exact hI.recs _ | exact hI.drecs _ | exact hI.droot _ | omega)
        · skip
          refine OK.ilt (fun h51 => ?_) (fun h51 => ?_)
          · skip
            refine OK.bndW (k_X7_grow_62 _ _ _ _ hI ) Fr.rf (fun v52 s54 is54 fs54 h53 => ?_)
            dsimp only
            unfold f_X8_parseValue_93
            try dsimp only
            refine OK.ieq (fun h55 => ?_) (fun h55 => ?_)
            · skip
              refine OK.bndW (k_X6_refuse _ _ is54 ) fs54 (fun v56 s58 is58 fs58 h57 => ?_)
              dsimp only
              refine OK.grd (b01 (by omega)) ?_
              exact OK.wret is58 fs58 (by first | trivial | omega | exact hI.flds _ | exact hI.dflds _ | exact hI.recs _ | exact hI.drecs _ | exact hI.droot _ | omega)
            · skip
              refine OK.bndR (k_X6_worth _ _ is54 ) (fun v59 h60 => ?_)
              dsimp only
              refine OK.ieq (fun h61 => ?_) (fun h61 => ?_)
              · skip
                refine OK.bndR (k_X10_lettersIn _ _ is54 ) (fun v62 h63 => ?_)
                dsimp only
                unfold f_X8_parseValue_142
                try dsimp only
                refine OK.bndS (k_X7_setWorth_62 _ _ _ _ is54 ) fs54 (fun s64 is64 fs64 => ?_)
                try dsimp only
                refine OK.bndS (k_X6_advance _ is64 ) fs64 (fun s65 is65 fs65 => ?_)
                try dsimp only
                refine OK.ieq (fun h66 => ?_) (fun h66 => ?_)
                · skip
                  refine OK.bndR (k_X5_innerOf_4 _ _ is65 ) (fun v67 h68 => ?_)
                  dsimp only
                  refine OK.bndW (hr_X8_parseItems _ _ _ _ is65 (by omega)) fs65 (fun v69 s71 is71 fs71 h70 => ?_)
                  dsimp only
                  refine OK.grd (b01 (by omega)) ?_
                  exact OK.wret is71 fs71 (by first | trivial | omega | exact hI.flds _ | exact hI.dflds _ | exact hI.recs _ | exact hI.drecs _ | exact hI.droot _ | omega)
                · skip
                  refine OK.ieq (fun h72 => ?_) (fun h72 => ?_)
                  · skip
                    refine OK.bndR (k_X5_innerOf_4 _ _ is65 ) (fun v73 h74 => ?_)
                    dsimp only
                    refine OK.bndW (hr_X8_parseFields _ _ _ _ is65 (by omega)) fs65 (fun v75 s77 is77 fs77 h76 => ?_)
                    dsimp only
                    refine OK.grd (b01 (by omega)) ?_
                    exact OK.wret is77 fs77 (by first | trivial | omega | exact hI.flds _ | exact hI.dflds _ | exact hI.recs _ | exact hI.drecs _ | exact hI.droot _ | omega)
                  · skip
                    exact OK.wret is65 fs65 (by first | trivial | omega | exact hI.flds _ | exact hI.dflds _ | exact hI.recs _ | exact hI.drecs _ | exact hI.droot _ | omega)
              · skip
                unfold f_X8_parseValue_142
                try dsimp only
                refine OK.bndS (k_X7_setWorth_62 _ _ _ _ is54 ) fs54 (fun s78 is78 fs78 => ?_)
                try dsimp only
                refine OK.bndS (k_X6_advance _ is78 ) fs78 (fun s79 is79 fs79 => ?_)
                try dsimp only
                refine OK.ieq (fun h80 => ?_) (fun h80 => ?_)
                · skip
                  refine OK.bndR (k_X5_innerOf_4 _ _ is79 ) (fun v81 h82 => ?_)
                  dsimp only
                  refine OK.bndW (hr_X8_parseItems _ _ _ _ is79 (by omega)) fs79 (fun v83 s85 is85 fs85 h84 => ?_)
                  dsimp only
                  refine OK.grd (b01 (by omega)) ?_
                  exact OK.wret is85 fs85 (by first | trivial | omega | exact hI.flds _ | exact hI.dflds _ | exact hI.recs _ | exact hI.drecs _ | exact hI.droot _ | omega)
                · skip
                  refine OK.ieq (fun h86 => ?_) (fun h86 => ?_)
                  · skip
                    refine OK.bndR (k_X5_innerOf_4 _ _ is79 ) (fun v87 h88 => ?_)
                    dsimp only
                    refine OK.bndW (hr_X8_parseFields _ _ _ _ is79 (by omega)) fs79 (fun v89 s91 is91 fs91 h90 => ?_)
                    dsimp only
                    refine OK.grd (b01 (by omega)) ?_
                    exact OK.wret is91 fs91 (by first | trivial | omega | exact hI.flds _ | exact hI.dflds _ | exact hI.recs _ | exact hI.drecs _ | exact hI.droot _ | omega)
                  · skip
                    exact OK.wret is79 fs79 (by first | trivial | omega | exact hI.flds _ | exact hI.dflds _ | exact hI.recs _ | exact hI.drecs _ | exact hI.droot _ | omega)
          · skip
            unfold f_X8_parseValue_78
            try dsimp only
            unfold f_X8_parseValue_93
            try dsimp only
            refine OK.ieq (fun h92 => ?_) (fun h92 => ?_)
            · skip
              refine OK.bndW (k_X6_refuse _ _ hI ) Fr.rf (fun v93 s95 is95 fs95 h94 => ?_)
              dsimp only
              refine OK.grd (b01 (by omega)) ?_
              exact OK.wret is95 fs95 (by first | trivial | omega | exact hI.flds _ | exact hI.dflds _ | exact hI.recs _ | exact hI.drecs _ | exact hI.droot _ | omega)
            · skip
              refine OK.bndR (k_X6_worth _ _ hI ) (fun v96 h97 => ?_)
              dsimp only
              refine OK.ieq (fun h98 => ?_) (fun h98 => ?_)
              · skip
                refine OK.bndR (k_X10_lettersIn _ _ hI ) (fun v99 h100 => ?_)
                dsimp only
                unfold f_X8_parseValue_142
                try dsimp only
                refine OK.bndS (k_X7_setWorth_62 _ _ _ _ hI ) Fr.rf (fun s101 is101 fs101 => ?_)
                try dsimp only
                refine OK.bndS (k_X6_advance _ is101 ) fs101 (fun s102 is102 fs102 => ?_)
                try dsimp only
                refine OK.ieq (fun h103 => ?_) (fun h103 => ?_)
                · skip
                  refine OK.bndR (k_X5_innerOf_4 _ _ is102 ) (fun v104 h105 => ?_)
                  dsimp only
                  refine OK.bndW (hr_X8_parseItems _ _ _ _ is102 (by omega)) fs102 (fun v106 s108 is108 fs108 h107 => ?_)
                  dsimp only
                  refine OK.grd (b01 (by omega)) ?_
                  exact OK.wret is108 fs108 (by first | trivial | omega | exact hI.flds _ | exact hI.dflds _ | exact hI.recs _ | exact hI.drecs _ | exact hI.droot _ | omega)
                · skip
                  refine OK.ieq (fun h109 => ?_) (fun h109 => ?_)
                  · skip
                    refine OK.bndR (k_X5_innerOf_4 _ _ is102 ) (fun v110 h111 => ?_)
                    dsimp only
                    refine OK.bndW (hr_X8_parseFields _ _ _ _ is102 (by omega)) fs102 (fun v112 s114 is114 fs114 h113 => ?_)
                    dsimp only
                    refine OK.grd (b01 (by omega)) ?_
                    exact OK.wret is114 fs114 (by first | trivial | omega | exact hI.flds _ | exact hI.dflds _ | exact hI.recs _ | exact hI.drecs _ | exact hI.droot _ | omega)
                  · skip
                    exact OK.wret is102 fs102 (by first | trivial | omega | exact hI.flds _ | exact hI.dflds _ | exact hI.recs _ | exact hI.drecs _ | exact hI.droot _ | omega)
              · skip
                unfold f_X8_parseValue_142
                try dsimp only
                refine OK.bndS (k_X7_setWorth_62 _ _ _ _ hI ) Fr.rf (fun s115 is115 fs115 => ?_)
                try dsimp only
                refine OK.bndS (k_X6_advance _ is115 ) fs115 (fun s116 is116 fs116 => ?_)
                try dsimp only
                refine OK.ieq (fun h117 => ?_) (fun h117 => ?_)
                · skip
                  refine OK.bndR (k_X5_innerOf_4 _ _ is116 ) (fun v118 h119 => ?_)
                  dsimp only
                  refine OK.bndW (hr_X8_parseItems _ _ _ _ is116 (by omega)) fs116 (fun v120 s122 is122 fs122 h121 => ?_)
                  dsimp only
                  refine OK.grd (b01 (by omega)) ?_
                  exact OK.wret is122 fs122 (by first | trivial | omega | exact hI.flds _ | exact hI.dflds _ | exact hI.recs _ | exact hI.drecs _ | exact hI.droot _ | omega)
                · skip
                  refine OK.ieq (fun h123 => ?_) (fun h123 => ?_)
                  · skip
                    refine OK.bndR (k_X5_innerOf_4 _ _ is116 ) (fun v124 h125 => ?_)
                    dsimp only
                    refine OK.bndW (hr_X8_parseFields _ _ _ _ is116 (by omega)) fs116 (fun v126 s128 is128 fs128 h127 => ?_)
                    dsimp only
                    refine OK.grd (b01 (by omega)) ?_
                    exact OK.wret is128 fs128 (by first | trivial | omega | exact hI.flds _ | exact hI.dflds _ | exact hI.recs _ | exact hI.drecs _ | exact hI.droot _ | omega)
                  · skip
                    exact OK.wret is116 fs116 (by first | trivial | omega | exact hI.flds _ | exact hI.dflds _ | exact hI.recs _ | exact hI.drecs _ | exact hI.droot _ | omega)
    · skip
      refine OK.bndW (k_X6_refuse _ _ hI ) Fr.rf (fun v129 s131 is131 fs131 h130 => ?_)
      dsimp only
      refine OK.grd (b01 (by omega)) ?_
      exact OK.wret is131 fs131 (by first | trivial | omega | exact hI.flds _ | exact hI.dflds _ | exact hI.recs _ | exact hI.drecs _ | exact hI.droot _ | omega)
  · skip
    unfold f_X8_parseValue_31
    try dsimp only
    refine OK.bndR (k_X8_fittingType _ _ hI ) (fun v132 h133 => ?_)
    dsimp only
    refine OK.ieq (fun h134 => ?_) (fun h134 => ?_)
    · skip
      refine OK.bndW (k_X6_refuse _ _ hI ) Fr.rf (fun v135 s137 is137 fs137 h136 => ?_)
      dsimp only
      refine OK.grd (b01 (by omega)) ?_
      exact OK.wret is137 fs137 (by first | trivial | omega | exact hI.flds _ | exact hI.dflds _ | exact hI.recs _ | exact hI.drecs _ | exact hI.droot _ | omega)
    · skip
      refine OK.bndR (k_X5_sortOf_4 _ _ hI ) (fun v138 h139 => ?_)
      dsimp only
      refine OK.ile (fun h140 => ?_) (fun h140 => ?_)
      · skip
        unfold f_X8_parseValue_78
        try dsimp only
        unfold f_X8_parseValue_93
        try dsimp only
        refine OK.ieq (fun h141 => ?_) (fun h141 => ?_)
        · skip
          refine OK.bndW (k_X6_refuse _ _ hI ) Fr.rf (fun v142 s144 is144 fs144 h143 => ?_)
          dsimp only
          refine OK.grd (b01 (by omega)) ?_
          exact OK.wret is144 fs144 (by first | trivial | omega | exact hI.flds _ | exact hI.dflds _ | exact hI.recs _ | exact hI.drecs _ | exact hI.droot _ | omega)
        · skip
          refine OK.bndR (k_X6_worth _ _ hI ) (fun v145 h146 => ?_)
          dsimp only
          refine OK.ieq (fun h147 => ?_) (fun h147 => ?_)
          · skip
            refine OK.bndR (k_X10_lettersIn _ _ hI ) (fun v148 h149 => ?_)
            dsimp only
            unfold f_X8_parseValue_142
            try dsimp only
            refine OK.bndS (k_X7_setWorth_62 _ _ _ _ hI ) Fr.rf (fun s150 is150 fs150 => ?_)
            try dsimp only
            refine OK.bndS (k_X6_advance _ is150 ) fs150 (fun s151 is151 fs151 => ?_)
            try dsimp only
            refine OK.ieq (fun h152 => ?_) (fun h152 => ?_)
            · skip
              refine OK.bndR (k_X5_innerOf_4 _ _ is151 ) (fun v153 h154 => ?_)
              dsimp only
              refine OK.bndW (hr_X8_parseItems _ _ _ _ is151 (by omega)) fs151 (fun v155 s157 is157 fs157 h156 => ?_)
              dsimp only
              refine OK.grd (b01 (by omega)) ?_
              exact OK.wret is157 fs157 (by first | trivial | omega | exact hI.flds _ | exact hI.dflds _ | exact hI.recs _ | exact hI.drecs _ | exact hI.droot _ | omega)
            · skip
              refine OK.ieq (fun h158 => ?_) (fun h158 => ?_)
              · skip
                refine OK.bndR (k_X5_innerOf_4 _ _ is151 ) (fun v159 h160 => ?_)
                dsimp only
                refine OK.bndW (hr_X8_parseFields _ _ _ _ is151 (by omega)) fs151 (fun v161 s163 is163 fs163 h162 => ?_)
                dsimp only
                refine OK.grd (b01 (by omega)) ?_
                exact OK.wret is163 fs163 (by first | trivial | omega | exact hI.flds _ | exact hI.dflds _ | exact hI.recs _ | exact hI.drecs _ | exact hI.droot _ | omega)
              · skip
                exact OK.wret is151 fs151 (by first | trivial | omega | exact hI.flds _ | exact hI.dflds _ | exact hI.recs _ | exact hI.drecs _ | exact hI.droot _ | omega)
          · skip
            unfold f_X8_parseValue_142
            try dsimp only
            refine OK.bndS (k_X7_setWorth_62 _ _ _ _ hI ) Fr.rf (fun s164 is164 fs164 => ?_)
            try dsimp only
            refine OK.bndS (k_X6_advance _ is164 ) fs164 (fun s165 is165 fs165 => ?_)
            try dsimp only
            refine OK.ieq (fun h166 => ?_) (fun h166 => ?_)
            · skip
              refine OK.bndR (k_X5_innerOf_4 _ _ is165 ) (fun v167 h168 => ?_)
              dsimp only
              refine OK.bndW (hr_X8_parseItems _ _ _ _ is165 (by omega)) fs165 (fun v169 s171 is171 fs171 h170 => ?_)
              dsimp only
              refine OK.grd (b01 (by omega)) ?_
              exact OK.wret is171 fs171 (by first | trivial | omega | exact hI.flds _ | exact hI.dflds _ | exact hI.recs _ | exact hI.drecs _ | exact hI.droot _ | omega)
            · skip
              refine OK.ieq (fun h172 => ?_) (fun h172 => ?_)
              · skip
                refine OK.bndR (k_X5_innerOf_4 _ _ is165 ) (fun v173 h174 => ?_)
                dsimp only
                refine OK.bndW (hr_X8_parseFields _ _ _ _ is165 (by omega)) fs165 (fun v175 s177 is177 fs177 h176 => ?_)
                dsimp only
                refine OK.grd (b01 (by omega)) ?_
                exact OK.wret is177 fs177 (by first | trivial | omega | exact hI.flds _ | exact hI.dflds _ | exact hI.recs _ | exact hI.drecs _ | exact hI.droot _ | omega)
              · skip
                exact OK.wret is165 fs165 (by first | trivial | omega | exact hI.flds _ | exact hI.dflds _ | exact hI.recs _ | exact hI.drecs _ | exact hI.droot _ | omega)
      · skip
        refine OK.ilt (fun h178 => ?_) (fun h178 => ?_)
        · skip
          refine OK.bndW (k_X7_grow_62 _ _ _ _ hI ) Fr.rf (fun v179 s181 is181 fs181 h180 => ?_)
          dsimp only
          unfold f_X8_parseValue_93
          try dsimp only
          refine OK.ieq (fun h182 => ?_) (fun h182 => ?_)
          · skip
            refine OK.bndW (k_X6_refuse _ _ is181 ) fs181 (fun v183 s185 is185 fs185 h184 => ?_)
            dsimp only
            refine OK.grd (b01 (by omega)) ?_
            exact OK.wret is185 fs185 (by first | trivial | omega | exact hI.flds _ | exact hI.dflds _ | exact hI.recs _ | exact hI.drecs _ | exact hI.droot _ | omega)
          · skip
            refine OK.bndR (k_X6_worth _ _ is181 ) (fun v186 h187 => ?_)
            dsimp only
            refine OK.ieq (fun h188 => ?_) (fun h188 => ?_)
            · skip
              refine OK.bndR (k_X10_lettersIn _ _ is181 ) (fun v189 h190 => ?_)
              dsimp only
              unfold f_X8_parseValue_142
              try dsimp only
              refine OK.bndS (k_X7_setWorth_62 _ _ _ _ is181 ) fs181 (fun s191 is191 fs191 => ?_)
              try dsimp only
              refine OK.bndS (k_X6_advance _ is191 ) fs191 (fun s192 is192 fs192 => ?_)
              try dsimp only
              refine OK.ieq (fun h193 => ?_) (fun h193 => ?_)
              · skip
                refine OK.bndR (k_X5_innerOf_4 _ _ is192 ) (fun v194 h195 => ?_)
                dsimp only
                refine OK.bndW (hr_X8_parseItems _ _ _ _ is192 (by omega)) fs192 (fun v196 s198 is198 fs198 h197 => ?_)
                dsimp only
                refine OK.grd (b01 (by omega)) ?_
                exact OK.wret is198 fs198 (by first | trivial | omega | exact hI.flds _ | exact hI.dflds _ | exact hI.recs _ | exact hI.drecs _ | exact hI.droot _ | omega)
              · skip
                refine OK.ieq (fun h199 => ?_) (fun h199 => ?_)
                · skip
                  refine OK.bndR (k_X5_innerOf_4 _ _ is192 ) (fun v200 h201 => ?_)
                  dsimp only
                  refine OK.bndW (hr_X8_parseFields _ _ _ _ is192 (by omega)) fs192 (fun v202 s204 is204 fs204 h203 => ?_)
                  dsimp only
                  refine OK.grd (b01 (by omega)) ?_
                  exact OK.wret is204 fs204 (by first | trivial | omega | exact hI.flds _ | exact hI.dflds _ | exact hI.recs _ | exact hI.drecs _ | exact hI.droot _ | omega)
                · skip
                  exact OK.wret is192 fs192 (by first | trivial | omega | exact hI.flds _ | exact hI.dflds _ | exact hI.recs _ | exact hI.drecs _ | exact hI.droot _ | omega)
            · skip
              unfold f_X8_parseValue_142
              try dsimp only
              refine OK.bndS (k_X7_setWorth_62 _ _ _ _ is181 ) fs181 (fun s205 is205 fs205 => ?_)
              try dsimp only
              refine OK.bndS (k_X6_advance _ is205 ) fs205 (fun s206 is206 fs206 => ?_)
              try dsimp only
              refine OK.ieq (fun h207 => ?_) (fun h207 => ?_)
              · skip
                refine OK.bndR (k_X5_innerOf_4 _ _ is206 ) (fun v208 h209 => ?_)
                dsimp only
                refine OK.bndW (hr_X8_parseItems _ _ _ _ is206 (by omega)) fs206 (fun v210 s212 is212 fs212 h211 => ?_)
                dsimp only
                refine OK.grd (b01 (by omega)) ?_
                exact OK.wret is212 fs212 (by first | trivial | omega | exact hI.flds _ | exact hI.dflds _ | exact hI.recs _ | exact hI.drecs _ | exact hI.droot _ | omega)
              · skip
                refine OK.ieq (fun h213 => ?_) (fun h213 => ?_)
                · skip
                  refine OK.bndR (k_X5_innerOf_4 _ _ is206 ) (fun v214 h215 => ?_)
                  dsimp only
                  refine OK.bndW (hr_X8_parseFields _ _ _ _ is206 (by omega)) fs206 (fun v216 s218 is218 fs218 h217 => ?_)
                  dsimp only
                  refine OK.grd (b01 (by omega)) ?_
                  exact OK.wret is218 fs218 (by first | trivial | omega | exact hI.flds _ | exact hI.dflds _ | exact hI.recs _ | exact hI.drecs _ | exact hI.droot _ | omega)
                · skip
                  exact OK.wret is206 fs206 (by first | trivial | omega | exact hI.flds _ | exact hI.dflds _ | exact hI.recs _ | exact hI.drecs _ | exact hI.droot _ | omega)
        · skip
          unfold f_X8_parseValue_78
          try dsimp only
          unfold f_X8_parseValue_93
          try dsimp only
          refine OK.ieq (fun h219 => ?_) (fun h219 => ?_)
          · skip
            refine OK.bndW (k_X6_refuse _ _ hI ) Fr.rf (fun v220 s222 is222 fs222 h221 => ?_)
            dsimp only
            refine OK.grd (b01 (by omega)) ?_
            exact OK.wret is222 fs222 (by first | trivial | omega | exact hI.flds _ | exact hI.dflds _ | exact hI.recs _ | exact hI.drecs _ | exact hI.droot _ | omega)
          · skip
            refine OK.bndR (k_X6_worth _ _ hI ) (fun v223 h224 => ?_)
            dsimp only
            refine OK.ieq (fun h225 => ?_) (fun h225 => ?_)
            · skip
              refine OK.bndR (k_X10_lettersIn _ _ hI ) (fun v226 h227 => ?_)
              dsimp only
              unfold f_X8_parseValue_142
              try dsimp only
              refine OK.bndS (k_X7_setWorth_62 _ _ _ _ hI ) Fr.rf (fun s228 is228 fs228 => ?_)
              try dsimp only
              refine OK.bndS (k_X6_advance _ is228 ) fs228 (fun s229 is229 fs229 => ?_)
              try dsimp only
              refine OK.ieq (fun h230 => ?_) (fun h230 => ?_)
              · skip
                refine OK.bndR (k_X5_innerOf_4 _ _ is229 ) (fun v231 h232 => ?_)
                dsimp only
                refine OK.bndW (hr_X8_parseItems _ _ _ _ is229 (by omega)) fs229 (fun v233 s235 is235 fs235 h234 => ?_)
                dsimp only
                refine OK.grd (b01 (by omega)) ?_
                exact OK.wret is235 fs235 (by first | trivial | omega | exact hI.flds _ | exact hI.dflds _ | exact hI.recs _ | exact hI.drecs _ | exact hI.droot _ | omega)
              · skip
                refine OK.ieq (fun h236 => ?_) (fun h236 => ?_)
                · skip
                  refine OK.bndR (k_X5_innerOf_4 _ _ is229 ) (fun v237 h238 => ?_)
                  dsimp only
                  refine OK.bndW (hr_X8_parseFields _ _ _ _ is229 (by omega)) fs229 (fun v239 s241 is241 fs241 h240 => ?_)
                  dsimp only
                  refine OK.grd (b01 (by omega)) ?_
                  exact OK.wret is241 fs241 (by first | trivial | omega | exact hI.flds _ | exact hI.dflds _ | exact hI.recs _ | exact hI.drecs _ | exact hI.droot _ | omega)
                · skip
                  exact OK.wret is229 fs229 (by first | trivial | omega | exact hI.flds _ | exact hI.dflds _ | exact hI.recs _ | exact hI.drecs _ | exact hI.droot _ | omega)
            · skip
              unfold f_X8_parseValue_142
              try dsimp only
              refine OK.bndS (k_X7_setWorth_62 _ _ _ _ hI ) Fr.rf (fun s242 is242 fs242 => ?_)
              try dsimp only
              refine OK.bndS (k_X6_advance _ is242 ) fs242 (fun s243 is243 fs243 => ?_)
              try dsimp only
              refine OK.ieq (fun h244 => ?_) (fun h244 => ?_)
              · skip
                refine OK.bndR (k_X5_innerOf_4 _ _ is243 ) (fun v245 h246 => ?_)
                dsimp only
                refine OK.bndW (hr_X8_parseItems _ _ _ _ is243 (by omega)) fs243 (fun v247 s249 is249 fs249 h248 => ?_)
                dsimp only
                refine OK.grd (b01 (by omega)) ?_
                exact OK.wret is249 fs249 (by first | trivial | omega | exact hI.flds _ | exact hI.dflds _ | exact hI.recs _ | exact hI.drecs _ | exact hI.droot _ | omega)
              · skip
                refine OK.ieq (fun h250 => ?_) (fun h250 => ?_)
                · skip
                  refine OK.bndR (k_X5_innerOf_4 _ _ is243 ) (fun v251 h252 => ?_)
                  dsimp only
                  refine OK.bndW (hr_X8_parseFields _ _ _ _ is243 (by omega)) fs243 (fun v253 s255 is255 fs255 h254 => ?_)
                  dsimp only
                  refine OK.grd (b01 (by omega)) ?_
                  exact OK.wret is255 fs255 (by first | trivial | omega | exact hI.flds _ | exact hI.dflds _ | exact hI.recs _ | exact hI.drecs _ | exact hI.droot _ | omega)
                · skip
                  exact OK.wret is243 fs243 (by first | trivial | omega | exact hI.flds _ | exact hI.dflds _ | exact hI.recs _ | exact hI.drecs _ | exact hI.droot _ | omega)
theorem kR_X8_parseFields : ∀ n : Nat, (∀ (p0 : Int32) (p1 : Int32) (p2 : Int32) (σ : ST), IA σ → 0 ≤ p2.toInt ∧ p2.toInt ≤ 30 ∧ (63 : Int) ≤ (n : Nat) + 2 * p2.toInt → OK ((R_X8_parseFields n).1 p0 p1 p2 σ) (RW σ fun v => v.toInt = 0 ∨ v.toInt = 1)) ∧ (∀ (p0 : Int32) (p1 : Int32) (p2 : Int32) (σ : ST), IA σ → 0 ≤ p2.toInt ∧ p2.toInt ≤ 30 ∧ (63 : Int) ≤ (n : Nat) + 2 * p2.toInt → OK ((R_X8_parseFields n).2.1 p0 p1 p2 σ) (RW σ fun v => v.toInt = 0 ∨ v.toInt = 1)) ∧ (∀ (p0 : Int32) (p1 : Int32) (p2 : Int32) (p3 : Int32) (σ : ST), IA σ → 0 ≤ p3.toInt ∧ p3.toInt ≤ 31 ∧ (64 : Int) ≤ (n : Nat) + 2 * p3.toInt → OK ((R_X8_parseFields n).2.2 p0 p1 p2 p3 σ) (RW σ fun v => v.toInt = 0 ∨ v.toInt = 1)) := by
  intro n
  induction n with
  | zero =>
    refine ⟨?_, ?_, ?_⟩
    · intro p0 p1 p2 σ hI hv; omega
    · intro p0 p1 p2 σ hI hv; omega
    · intro p0 p1 p2 p3 σ hI hv; omega
  | succ n ih =>
    obtain ⟨ih0, ih1, ih2⟩ := ih
    refine ⟨?_, ?_, ?_⟩
    · intro p0 p1 p2 σ hI hv; exact k_X8_parseFields (N0 := n) ih0 ih1 ih2 p0 p1 p2 σ hI (by omega)
    · intro p0 p1 p2 σ hI hv; exact k_X8_parseItems (N0 := n) ih0 ih1 ih2 p0 p1 p2 σ hI (by omega)
    · intro p0 p1 p2 p3 σ hI hv; exact k_X8_parseValue (N0 := n) ih0 ih1 ih2 p0 p1 p2 p3 σ hI (by omega)
theorem kT_X8_parseFields (p0 : Int32) (p1 : Int32) (p2 : Int32) (σ : ST) (hI : IA σ) (hv : 0 ≤ p2.toInt ∧ p2.toInt ≤ 30 ∧ (63 : Int) ≤ (FR : Nat) + 2 * p2.toInt) : OK (f_T_X8_parseFields p0 p1 p2 σ) (RW σ fun v => v.toInt = 0 ∨ v.toInt = 1) := (kR_X8_parseFields FR).1 p0 p1 p2 σ hI hv
theorem kT_X8_parseItems (p0 : Int32) (p1 : Int32) (p2 : Int32) (σ : ST) (hI : IA σ) (hv : 0 ≤ p2.toInt ∧ p2.toInt ≤ 30 ∧ (63 : Int) ≤ (FR : Nat) + 2 * p2.toInt) : OK (f_T_X8_parseItems p0 p1 p2 σ) (RW σ fun v => v.toInt = 0 ∨ v.toInt = 1) := (kR_X8_parseFields FR).2.1 p0 p1 p2 σ hI hv
theorem kT_X8_parseValue (p0 : Int32) (p1 : Int32) (p2 : Int32) (p3 : Int32) (σ : ST) (hI : IA σ) (hv : 0 ≤ p3.toInt ∧ p3.toInt ≤ 31 ∧ (64 : Int) ≤ (FR : Nat) + 2 * p3.toInt) : OK (f_T_X8_parseValue p0 p1 p2 p3 σ) (RW σ fun v => v.toInt = 0 ∨ v.toInt = 1) := (kR_X8_parseFields FR).2.2 p0 p1 p2 p3 σ hI hv

theorem k_X8_parse_41 (σ : ST) (hI : IA σ)  : OK (f_X8_parse_41  σ) (RO σ fun v => v.toInt = 0 ∨ v.toInt = 1) := by
  unfold f_X8_parse_41
  have lt_0 := li_0
  have lt_1 := li_1
  have lFU : ((FU : Nat) : Int) = 100000 := rfl
  exact OK.roret (by first | trivial | omega | exact hI.flds _ | exact hI.dflds _ | exact hI.recs _ | exact hI.drecs _ | exact hI.droot _ | omega)

theorem k_X8_parse (p0 : Int32) (σ : ST) (hI : IA σ)  : OK (f_X8_parse  p0 σ) (RW σ fun v => v.toInt = 0 ∨ v.toInt = 1) := by
  unfold f_X8_parse
  have lt_m1 := li_m1
  have lt_0 := li_0
  have lt_1 := li_1
  have lFU : ((FU : Nat) : Int) = 100000 := rfl
  have lFR : ((FR : Nat) : Int) = 160 := rfl
  refine OK.bndS (k_X7_clear_62 _ hI ) Fr.rf (fun s1 is1 fs1 => ?_)
  try dsimp only
  refine OK.bndW (kT_X8_parseValue _ _ _ _ _ is1 (by omega)) fs1 (fun v2 s4 is4 fs4 h3 => ?_)
  dsimp only
  refine OK.ieq (fun h5 => ?_) (fun h5 => ?_)
  · skip
    exact OK.wret is4 fs4 (by first | trivial | omega | exact hI.flds _ | exact hI.dflds _ | exact hI.recs _ | exact hI.drecs _ | exact hI.droot _ | omega)
  · skip
    refine OK.ieq (fun h6 => ?_) (fun h6 => ?_)
    · skip
      exact OK.row (k_X8_parse_41 _ is4 ) is4 fs4 (fun v hv => by first | trivial | omega | exact hI.flds _ | exact hI.dflds _ | exact hI.recs _ | exact hI.drecs _ | exact hI.droot _ | omega)
    · skip
      refine OK.bndW (k_X6_refuse _ _ is4 ) fs4 (fun v7 s9 is9 fs9 h8 => ?_)
      dsimp only
      refine OK.ieq (fun h10 => ?_) (fun h10 => ?_)
      · skip
        exact OK.wret is9 fs9 (by first | trivial | omega | exact hI.flds _ | exact hI.dflds _ | exact hI.recs _ | exact hI.drecs _ | exact hI.droot _ | omega)
      · skip
        exact OK.row (k_X8_parse_41 _ is9 ) is9 fs9 (fun v hv => by first | trivial | omega | exact hI.flds _ | exact hI.dflds _ | exact hI.recs _ | exact hI.drecs _ | exact hI.droot _ | omega)
/-! packing: how often a tree's rows are gone through -/
def sm (f : Nat → Nat) : Nat → Nat
  | 0 => 0
  | n + 1 => sm f n + f n
theorem sm_le {f g : Nat → Nat} (h : ∀ c, f c ≤ g c) : ∀ n, sm f n ≤ sm g n := by
  intro n
  induction n with
  | zero => exact Nat.le_refl _
  | succ n ih => rw [sm, sm]; have := h n; omega
theorem sm_at {f : Nat → Nat} : ∀ n x, x < n → f x ≤ sm f n := by
  intro n
  induction n with
  | zero => intro x hx; omega
  | succ n ih =>
    intro x hx
    rw [sm]
    by_cases e : x = n
    · subst e; omega
    · have := ih x (by omega); omega
theorem sm_split {f g : Nat → Nat} (h : ∀ c, g c ≤ f c) {x : Nat} (hx : g x = 0) : ∀ n, x < n → sm g n + f x ≤ sm f n := by
  intro n
  induction n with
  | zero => intro hn; omega
  | succ n ih =>
    intro hn
    rw [sm, sm]
    by_cases e : x = n
    · subst e
      have := sm_le h x
      omega
    · have := ih (by omega)
      have := h n
      omega
theorem sm_add {f g : Nat → Nat} : ∀ n, sm (fun c => f c + g c) n = sm f n + sm g n := by
  intro n
  induction n with
  | zero => rfl
  | succ n ih => rw [sm, sm, sm, ih]; omega
theorem sm_zero : ∀ n, sm (fun _ => 0) n = 0 := by
  intro n
  induction n with
  | zero => rfl
  | succ n ih => rw [sm, ih]
theorem sm_c1 : ∀ n, sm (fun _ => 1) n = n := by
  intro n
  induction n with
  | zero => rfl
  | succ n ih => rw [sm, ih]
theorem sm_swap {F : Nat → Nat → Nat} (S : Nat) : ∀ R, sm (fun r => sm (F r) S) R = sm (fun c => sm (fun r => F r c) R) S := by
  intro R
  induction R with
  | zero =>
    show 0 = sm (fun c => 0) S
    rw [sm_zero]
  | succ R ih =>
    show sm (fun r => sm (F r) S) R + sm (F R) S = sm (fun c => sm (fun r => F r c) R + F R c) S
    rw [ih, sm_add]
theorem sm_one {P : Int} {v : Nat} : ∀ R : Nat, sm (fun r : Nat => if P = (r : Int) then v else 0) R ≤ (if P < (R : Int) then v else 0) := by
  intro R
  induction R with
  | zero => exact Nat.zero_le _
  | succ R ih =>
    rw [sm]
    by_cases e : P = (R : Int)
    · rw [if_neg (by omega)] at ih
      rw [if_pos e, if_pos (by omega)]
      omega
    · rw [if_neg e]
      by_cases e2 : P < (R : Int)
      · rw [if_pos e2] at ih
        rw [if_pos (by omega)]
        omega
      · rw [if_neg e2] at ih
        omega
/-- how many rows lie in one another below a row, so deep -/
def Wt (S : Nat) (P : Nat → Int) : Nat → Nat → Nat
  | 0, _ => 0
  | d + 1, r => 1 + sm (fun c => if P c = (r : Int) then Wt S P d c else 0) S
theorem Wt_total {S : Nat} {P : Nat → Int} : ∀ d, sm (Wt S P d) S ≤ d * S := by
  intro d
  induction d with
  | zero =>
    have e : Wt S P 0 = fun _ => 0 := by funext r; rw [Wt]
    rw [e, sm_zero]; omega
  | succ d ih =>
    have e : Wt S P (d + 1) = fun r : Nat => 1 + sm (fun c => if P c = (r : Int) then Wt S P d c else 0) S := by funext r; rw [Wt]
    rw [e, sm_add (f := fun _ => 1) (g := fun r : Nat => sm (fun c => if P c = (r : Int) then Wt S P d c else 0) S), sm_c1, sm_swap (F := fun (r c : Nat) => if P c = (r : Int) then Wt S P d c else 0)]
    have h : sm (fun c => sm (fun r : Nat => if P c = (r : Int) then Wt S P d c else 0) S) S ≤ sm (Wt S P d) S := sm_le (fun c => by
      have := sm_one (P := P c) (v := Wt S P d c) S
      split at this <;> omega) S
    have e2 : (d + 1) * S = d * S + S := Nat.succ_mul d S
    omega
theorem Wt_root {S : Nat} {P : Nat → Int} (d : Nat) {r : Nat} (h : r < S) : Wt S P d r ≤ d * S := Nat.le_trans (sm_at (f := Wt S P d) S r h) (Wt_total d)
/-- what is left of a row's children from one of them on -/
def Rm (S : Nat) (P C : Nat → Int) (d : Nat) (r : Int) (x : Nat) : Nat := sm (fun c => if P c = r ∧ ¬ (C c < C x ∨ C c = C x ∧ x < c) then Wt S P d c else 0) S
theorem Rm_step {S : Nat} {P C : Nat → Int} {d : Nat} {r : Int} {x y : Nat} (hx : x < S) (hP : P x = r) (hk : C x < C y ∨ C x = C y ∧ y < x) : Rm S P C d r y + Wt S P d x ≤ Rm S P C d r x := by
  unfold Rm
  have h := sm_split (f := fun c => if P c = r ∧ ¬ (C c < C x ∨ C c = C x ∧ x < c) then Wt S P d c else 0) (g := fun c => if P c = r ∧ ¬ (C c < C y ∨ C c = C y ∧ y < c) then Wt S P d c else 0) (fun c => by
    by_cases h1 : P c = r ∧ ¬ (C c < C y ∨ C c = C y ∧ y < c)
    · rw [if_pos h1, if_pos ⟨h1.1, by have := h1.2; omega⟩]
      exact Nat.le_refl _
    · rw [if_neg h1]; exact Nat.zero_le _) (x := x) (if_neg (fun h9 => h9.2 hk)) S hx
  have e : (if P x = r ∧ ¬ (C x < C x ∨ C x = C x ∧ x < x) then Wt S P d x else 0) = Wt S P d x := if_pos ⟨hP, by omega⟩
  rw [e] at h
  exact h
theorem Rm_last {S : Nat} {P C : Nat → Int} {d : Nat} {r : Int} {x : Nat} (hx : x < S) (hP : P x = r) : Wt S P d x ≤ Rm S P C d r x := by
  have h := sm_at (f := fun c => if P c = r ∧ ¬ (C c < C x ∨ C c = C x ∧ x < c) then Wt S P d c else 0) S x hx
  have e : (if P x = r ∧ ¬ (C x < C x ∨ C x = C x ∧ x < x) then Wt S P d x else 0) = Wt S P d x := if_pos ⟨hP, by omega⟩
  rw [e] at h
  exact h
theorem Rm_all {S : Nat} {P C : Nat → Int} {d : Nat} {r : Nat} {x : Nat} : 1 + Rm S P C d (r : Int) x ≤ Wt S P (d + 1) r := by
  rw [Wt]
  unfold Rm
  have h := sm_le (f := fun c => if P c = (r : Int) ∧ ¬ (C c < C x ∨ C c = C x ∧ x < c) then Wt S P d c else 0) (g := fun c => if P c = (r : Int) then Wt S P d c else 0) (fun c => by
    by_cases h1 : P c = (r : Int)
    · rw [if_pos h1]
      split
      · exact Nat.le_refl _
      · exact Nat.zero_le _
    · rw [if_neg h1, if_neg (fun h9 => h1 h9.1)]
      exact Nat.le_refl _) S
  omega
/-- but for the packer's own cells the same -/
def SM (ρ σ : ST) : Prop := ∀ c, c ≠ 87 → c ≠ 88 → σ.1 c = ρ.1 c
theorem PK.sm {m : Int} {ρ σ q : ST} (h : PK m σ q) (k : SM ρ σ) : SM ρ q := fun c h1 h2 => (h.2.1 c h1 h2).trans (k c h1 h2)
def wS_50 (ρ : ST) : Nat := (ρ.1 50 1).toInt.toNat
def wP_50 (ρ : ST) : Nat → Int := fun c => (ρ.1 52 c).toInt
def wC_50 (ρ : ST) : Nat → Int := fun c => (ρ.1 53 c).toInt
/-- a child: none, or a row of that parent -/
def isC_50 (ρ : ST) (r : Nat) (x : Int32) : Prop := x.toInt = -1 ∨ 0 ≤ x.toInt ∧ x.toInt < (ρ.1 50 1).toInt ∧ (ρ.1 52 x.toNatClampNeg).toInt = (r : Int)
def lft_50 (ρ : ST) (d r : Nat) (x : Int32) : Nat := if x.toInt = -1 then 0 else Rm (wS_50 ρ) (wP_50 ρ) (wC_50 ρ) d (r : Int) x.toNatClampNeg
/-- one child further on -/
theorem next_50 {ρ σ : ST} (hI : IA σ) (hm : SM ρ σ) {d r : Nat} {x : Int32} (hx : isC_50 ρ r x) (h0 : ¬ x.toInt = -1) : OK (f_X7_nextOf 50 x σ) (RO σ fun v => isC_50 ρ r v ∧ lft_50 ρ d r v + Wt (wS_50 ρ) (wP_50 ρ) d x.toNatClampNeg ≤ lft_50 ρ d r x) := by
  have e1 : σ.1 50 = ρ.1 50 := hm 50 (by decide) (by decide)
  have e2 : σ.1 (50 + 2) = ρ.1 52 := hm 52 (by decide) (by decide)
  have e3 : σ.1 (50 + 3) = ρ.1 53 := hm 53 (by decide) (by decide)
  have e9 : σ.1 (50 + 9) = ρ.1 59 := hm 59 (by decide) (by decide)
  rcases hx with hx | ⟨x1, x2, x3⟩
  · exact absurd hx h0
  refine (k_X7_nextOf_50 x σ hI).roq (fun v hv => ?_)
  have nx := nN_ x1
  have hS : x.toNatClampNeg < wS_50 ρ := by unfold wS_50; omega
  rw [e1, e9] at hv
  have hv : v.toInt = (ρ.1 59 x.toNatClampNeg).toInt := by omega
  have hv2 : ρ.1 59 x.toNatClampNeg = v := (Int32.toInt_inj.mp hv).symm
  have eL : lft_50 ρ d r x = Rm (wS_50 ρ) (wP_50 ρ) (wC_50 ρ) d (r : Int) x.toNatClampNeg := if_neg h0
  have T := ((hI.t50).2.2 x.toNatClampNeg (by rw [e1]; omega)).2.2
  rw [e1, e2, e3, e9] at T
  dsimp only at T
  rw [hv2] at T
  rcases T with T | ⟨t1, t2, t3, t4⟩
  · refine ⟨.inl T, ?_⟩
    have e0 : lft_50 ρ d r v = 0 := if_pos T
    rw [e0, eL, Nat.zero_add]
    exact Rm_last hS x3
  · have t1 : 0 ≤ v.toInt := t1
    have nv := nN_ t1
    have t3 : (ρ.1 52 v.toNatClampNeg).toInt = (ρ.1 52 x.toNatClampNeg).toInt := t3
    have t4 : wC_50 ρ x.toNatClampNeg < wC_50 ρ v.toNatClampNeg ∨ wC_50 ρ x.toNatClampNeg = wC_50 ρ v.toNatClampNeg ∧ v.toInt < ((x.toNatClampNeg : Nat) : Int) := t4
    refine ⟨.inr ⟨t1, t2, t3.trans x3⟩, ?_⟩
    have e0 : lft_50 ρ d r v = Rm (wS_50 ρ) (wP_50 ρ) (wC_50 ρ) d (r : Int) v.toNatClampNeg := if_neg (by omega)
    rw [e0, eL]
    exact Rm_step hS x3 (by omega)
/-- the first child -/
theorem first_50 {ρ σ : ST} (hI : IA σ) (hm : SM ρ σ) {d : Nat} {x : Int32} (x1 : 0 ≤ x.toInt) (x2 : x.toInt < (ρ.1 50 1).toInt) : OK (f_X7_firstOf 50 x σ) (RO σ fun v => isC_50 ρ x.toNatClampNeg v ∧ 1 + lft_50 ρ d x.toNatClampNeg v ≤ Wt (wS_50 ρ) (wP_50 ρ) (d + 1) x.toNatClampNeg) := by
  have e1 : σ.1 50 = ρ.1 50 := hm 50 (by decide) (by decide)
  have e2 : σ.1 (50 + 2) = ρ.1 52 := hm 52 (by decide) (by decide)
  have e7 : σ.1 (50 + 7) = ρ.1 57 := hm 57 (by decide) (by decide)
  refine (k_X7_firstOf_50 x σ hI).roq (fun v hv => ?_)
  have nx := nN_ x1
  rw [e1, e7] at hv
  have hv : v.toInt = (ρ.1 57 x.toNatClampNeg).toInt := by omega
  have hv2 : ρ.1 57 x.toNatClampNeg = v := (Int32.toInt_inj.mp hv).symm
  have T := ((hI.t50).2.2 x.toNatClampNeg (by rw [e1]; omega)).1
  rw [e1, e2, e7] at T
  dsimp only at T
  rw [hv2] at T
  rcases T with T | ⟨t1, t2, t3⟩
  · refine ⟨.inl T, ?_⟩
    have e0 : lft_50 ρ d x.toNatClampNeg v = 0 := if_pos T
    rw [e0, Wt]
    omega
  · have t1 : 0 ≤ v.toInt := t1
    refine ⟨.inr ⟨t1, t2, t3⟩, ?_⟩
    have e0 : lft_50 ρ d x.toNatClampNeg v = Rm (wS_50 ρ) (wP_50 ρ) (wC_50 ρ) d ((x.toNatClampNeg : Nat) : Int) v.toNatClampNeg := if_neg (by omega)
    rw [e0]
    exact Rm_all
/-- what packing a row costs -/
def cV_50 (ρ : ST) (N : Nat) (rV : Nat → Int32 → Int32 → Int32 → ST → Option ST) : Prop := ∀ (p1 p2 p3 : Int32) (σ : ST), IA σ → SM ρ σ → (0 ≤ p1.toInt ∧ p1.toInt < (ρ.1 50 1).toInt) → (0 ≤ p3.toInt ∧ p3.toInt ≤ 32 ∧ (66 : Int) ≤ N + 2 * p3.toInt) → ∀ d : Nat, (d : Int) = 32 - p3.toInt → (σ.1 87 2).toInt + 700 * (Wt (wS_50 ρ) (wP_50 ρ) d p1.toNatClampNeg : Nat) < 2000000000 → OK (rV 50 p1 p2 p3 σ) (PK (700 * (Wt (wS_50 ρ) (wP_50 ρ) d p1.toNatClampNeg : Nat)) σ)
theorem loop95_50 {ρ : ST} {N : Nat} {rF rV : Nat → Int32 → Int32 → Int32 → ST → Option ST} (hV : cV_50 ρ N rV) {r : Nat} : ∀ (n : Nat) (x4 x6 x7 x8 : Int32) (σ : ST), IA σ → SM ρ σ → (0 ≤ x8.toInt ∧ x8.toInt ≤ 200 ∧ (200 : Int) - x8.toInt < n) → (0 ≤ x4.toInt ∧ x4.toInt ≤ 31 ∧ (64 : Int) ≤ N + 2 * x4.toInt) → ∀ d : Nat, (d : Int) = 31 - x4.toInt → isC_50 ρ r x7 → (σ.1 87 2).toInt + 700 * (lft_50 ρ d r x7 : Nat) < 2000000000 → OK (f_X2_packValue_95 rF rV 50 n x4 x6 x7 x8 σ) (PK (700 * (lft_50 ρ d r x7 : Nat)) σ) := by
  intro n
  induction n with
  | zero => intro x4 x6 x7 x8 σ hI hm hv; omega
  | succ n ih =>
    intro x4 x6 x7 x8 σ hI hm hv hl d hd hc hs
    rw [f_X2_packValue_95]
    have lt_1 := li_1
    have lt_200 := li_200
    have lm : (-1 : Int32).toInt = -1 := by decide
    obtain ⟨ak, a, al, ar⟩ := i_add x8 1
    try (refine k0el (k := ak) ?_ (fun e0 => ?_); (focus omega); subst e0)
    obtain ⟨bk, b, bl, br⟩ := i_add x4 1
    try (refine k0el (k := bk) ?_ (fun e0 => ?_); (focus omega); subst e0)
    refine OK.ile (fun _ => OK.ret ((PK.rf hI).mono (by omega))) (fun h => ?_)
    refine OK.ieq (fun _ => OK.ret ((PK.rf hI).mono (by omega))) (fun h7 => ?_)
    rw [lm] at h7
    refine OK.bndR (k_X5_innerOf_4 _ _ hI) (fun v hv1 => ?_)
    dsimp only
    obtain ⟨v9, e9, e91, hn, hle⟩ := next_50 (d := d) hI hm hc h7
    have hc1 : 0 ≤ x7.toInt ∧ x7.toInt < (ρ.1 50 1).toInt := by
      rcases hc with hc | hc
      · exact absurd hc h7
      · exact ⟨hc.1, hc.2.1⟩
    refine OK.bndP (hV x7 v (x4 + 1) σ hI hm hc1 (by omega) d (by omega) (by omega)) (PK.rf hI) (fun t ht => ?_)
    refine OK.bndR (next_50 (d := d) ht.1 (ht.sm hm) hc h7) (fun w hw => ?_)
    dsimp only
    have h3 := ht.2.2.2
    have h4 := hw.2
    exact OK.trP (ih _ _ _ _ _ ht.1 (ht.sm hm) (by omega) hl d hd hw.1 (by omega)) ht (by omega)
theorem loop10_50 {ρ : ST} {N : Nat} {rF rV : Nat → Int32 → Int32 → Int32 → ST → Option ST} (hV : cV_50 ρ N rV) {r : Nat} : ∀ (n : Nat) (x3 x4 x5 x6 : Int32) (σ : ST), IA σ → SM ρ σ → (0 ≤ x6.toInt ∧ x6.toInt ≤ 8 ∧ (8 : Int) - x6.toInt < n) → (0 ≤ x4.toInt ∧ x4.toInt ≤ 31 ∧ (64 : Int) ≤ N + 2 * x4.toInt) → ∀ d : Nat, (d : Int) = 31 - x4.toInt → isC_50 ρ r x5 → (σ.1 87 2).toInt + (74 * (8 - x6.toInt) + 700 * (lft_50 ρ d r x5 : Nat)) < 2000000000 → OK (f_X2_packFields_10 rF rV 50 n x3 x4 x5 x6 σ) (PK (74 * (8 - x6.toInt) + 700 * (lft_50 ρ d r x5 : Nat)) σ) := by
  intro n
  induction n with
  | zero => intro x3 x4 x5 x6 σ hI hm hv; omega
  | succ n ih =>
    intro x3 x4 x5 x6 σ hI hm hv hl d hd hc hs
    rw [f_X2_packFields_10]
    have lt_1 := li_1
    have lm : (-1 : Int32).toInt = -1 := by decide
    obtain ⟨ak, a, al, ar⟩ := i_add x6 1
    try (refine k0el (k := ak) ?_ (fun e0 => ?_); (focus omega); subst e0)
    obtain ⟨bk, b, bl, br⟩ := i_add x4 1
    try (refine k0el (k := bk) ?_ (fun e0 => ?_); (focus omega); subst e0)
    refine OK.bndR (k_X5_fieldsOf_4 _ _ hI) (fun v1 hv1 => ?_)
    dsimp only
    refine OK.ile (fun _ => OK.ret ((PK.rf hI).mono (by omega))) (fun h => ?_)
    refine OK.bndR (k_X5_typeOf_4 _ _ _ hI) (fun v3 hv3 => ?_)
    dsimp only
    have h76 : OK (f_X2_packFields_76 rF rV (f_X2_packFields_10 rF rV 50 n) 50 x3 x4 x5 x6 v3 σ) (PK (74 * (8 - x6.toInt) + 700 * (lft_50 ρ d r x5 : Nat)) σ) := by
      unfold f_X2_packFields_76 f_X2_packFields_85
      refine OK.bndP (k_X2_packElse _ _ _ _ hI (by omega)) (PK.rf hI) (fun t ht => ?_)
      have h3 := ht.2.2.2
      exact OK.trP (ih _ _ _ _ _ ht.1 (ht.sm hm) (by omega) hl d hd hc (by omega)) ht (by omega)
    refine OK.ieq (fun _ => h76) (fun h5 => ?_)
    rw [lm] at h5
    refine OK.bndR (k_X7_placeOf_50 _ _ hI) (fun v5 hv5 => ?_)
    dsimp only
    refine OK.ieq (fun _ => ?_) (fun _ => h76)
    obtain ⟨v9, e9, e91, hn, hle⟩ := next_50 (d := d) hI hm hc h5
    have hc1 : 0 ≤ x5.toInt ∧ x5.toInt < (ρ.1 50 1).toInt := by
      rcases hc with hc | hc
      · exact absurd hc h5
      · exact ⟨hc.1, hc.2.1⟩
    refine OK.bndP (hV x5 v3 (x4 + 1) σ hI hm hc1 (by omega) d (by omega) (by omega)) (PK.rf hI) (fun t ht => ?_)
    refine OK.bndR (next_50 (d := d) ht.1 (ht.sm hm) hc h5) (fun w hw => ?_)
    dsimp only
    unfold f_X2_packFields_85
    have h3 := ht.2.2.2
    have h4 := hw.2
    exact OK.trP (ih _ _ _ _ _ ht.1 (ht.sm hm) (by omega) hl d hd hw.1 (by omega)) ht (by omega)
def cF_50 (ρ : ST) (N : Nat) (rF : Nat → Int32 → Int32 → Int32 → ST → Option ST) : Prop := ∀ (p1 p2 p3 : Int32) (σ : ST), IA σ → SM ρ σ → (0 ≤ p1.toInt ∧ p1.toInt < (ρ.1 50 1).toInt) → (0 ≤ p3.toInt ∧ p3.toInt ≤ 31 ∧ (65 : Int) ≤ N + 2 * p3.toInt) → ∀ d : Nat, (d : Int) = 31 - p3.toInt → (σ.1 87 2).toInt + 700 * (Wt (wS_50 ρ) (wP_50 ρ) (d + 1) p1.toNatClampNeg : Nat) < 2000000010 → OK (rF 50 p1 p2 p3 σ) (PK (700 * (Wt (wS_50 ρ) (wP_50 ρ) (d + 1) p1.toNatClampNeg : Nat) - 108) σ)
theorem fields_50 {ρ : ST} {N : Nat} {rF rV : Nat → Int32 → Int32 → Int32 → ST → Option ST} (hV : cV_50 ρ N rV) : cF_50 ρ (N + 1) (f_X2_packFields rF rV) := by
  intro p1 p2 p3 σ hI hm hr hl d hd hs
  unfold f_X2_packFields
  have lt_0 := li_0
  have lFU : ((FU : Nat) : Int) = 100000 := rfl
  refine OK.bndR (first_50 (d := d) hI hm hr.1 hr.2) (fun v hv => ?_)
  dsimp only
  have h2 := hv.2
  exact (loop10_50 hV FU _ _ _ _ _ hI hm (by omega) (by omega) d hd hv.1 (by omega)).mono (fun q hq => hq.mono (by omega))
theorem v39_50 {ρ : ST} {N : Nat} {rF rV : Nat → Int32 → Int32 → Int32 → ST → Option ST} (hF : cF_50 ρ N rF) (hV : cV_50 ρ N rV) (x2 x4 x5 y0 : Int32) (σ : ST) (hI : IA σ) (hm : SM ρ σ) (hr : 0 ≤ x2.toInt ∧ x2.toInt < (ρ.1 50 1).toInt) (hl : 0 ≤ x4.toInt ∧ x4.toInt ≤ 31 ∧ (65 : Int) ≤ N + 2 * x4.toInt) (d : Nat) (hd : (d : Int) = 31 - x4.toInt) (hs : (σ.1 87 2).toInt + 700 * (Wt (wS_50 ρ) (wP_50 ρ) (d + 1) x2.toNatClampNeg : Nat) < 2000000010) : OK (f_X2_packValue_39 rF rV 50 x2 x4 x5 y0 σ) (PK (700 * (Wt (wS_50 ρ) (wP_50 ρ) (d + 1) x2.toNatClampNeg : Nat) - 10) σ) := by
  have lt_0 := li_0
  have lFU : ((FU : Nat) : Int) = 100000 := rfl
  have h1 : 1 ≤ Wt (wS_50 ρ) (wP_50 ρ) (d + 1) x2.toNatClampNeg := by rw [Wt]; omega
  unfold f_X2_packValue_39
  refine OK.ieq (fun _ => ?_) (fun _ => ?_)
  · refine OK.bndR (k_X5_innerOf_4 _ _ hI) (fun v hv => ?_)
    dsimp only
    exact OK.bndP (hF x2 v x4 σ hI hm hr hl d hd hs) (PK.rf hI) (fun t ht => OK.ret (ht.mono (by omega)))
  refine OK.ieq (fun _ => ?_) (fun _ => ?_)
  · refine OK.bndR (k_X7_sizeOf_50 _ _ hI) (fun v hv => ?_)
    dsimp only
    refine OK.bndP (k_X2_putNumber _ _ hI (by omega)) (PK.rf hI) (fun t ht => ?_)
    refine OK.bndR (first_50 (d := d) ht.1 (ht.sm hm) hr.1 hr.2) (fun w hw => ?_)
    dsimp only
    have h3 := ht.2.2.2
    have h4 := hw.2
    exact OK.trP (loop95_50 hV FU _ _ _ _ _ ht.1 (ht.sm hm) (by omega) (by omega) d hd hw.1 (by omega)) ht (by omega)
  · refine OK.bndR (k_X7_worthOf_50 _ _ hI) (fun v hv => ?_)
    dsimp only
    exact OK.bndP (k_X2_packPlain _ _ _ hI (by omega)) (PK.rf hI) (fun t ht => OK.ret (ht.mono (by omega)))
theorem value_50 {ρ : ST} {N : Nat} {rF rV : Nat → Int32 → Int32 → Int32 → ST → Option ST} (hF : cF_50 ρ N rF) (hV : cV_50 ρ N rV) : cV_50 ρ (N + 1) (f_X2_packValue rF rV) := by
  intro p1 p2 p3 σ hI hm hr hl d hd hs
  unfold f_X2_packValue
  have lt_31 := li_31
  refine OK.ile (fun h => ?_) (fun h => OK.ret ((PK.rf hI).mono (by omega)))
  obtain ⟨e, rfl⟩ : ∃ e, d = e + 1 := ⟨d - 1, by omega⟩
  refine OK.bndR (k_X7_sortAt_50 _ _ hI) (fun v hv => ?_)
  dsimp only
  refine OK.bndR (k_X5_sortOf_4 _ _ hI) (fun w hw => ?_)
  dsimp only
  refine OK.ieq (fun _ => ?_) (fun _ => ?_)
  · have h1 : 1 ≤ Wt (wS_50 ρ) (wP_50 ρ) (e + 1) p1.toNatClampNeg := by rw [Wt]; omega
    refine OK.bnd (k_X2_packBranch _ _ _ hI (by omega)) (fun q hq => ?_)
    obtain ⟨u, s⟩ := q
    have hq : PK 10 σ s := hq
    dsimp only
    have h3 := hq.2.2.2
    exact OK.trP (v39_50 hF hV _ _ _ _ _ hq.1 (hq.sm hm) hr (by omega) e (by omega) (by omega)) hq (by omega)
  · exact (v39_50 hF hV _ _ _ _ _ hI hm hr (by omega) e (by omega) (by omega)).mono (fun q hq => hq.mono (by omega))
theorem packR_50 (ρ : ST) : ∀ n : Nat, cF_50 ρ n (R_X2_packFields n).1 ∧ cV_50 ρ n (R_X2_packFields n).2 := by
  intro n
  induction n with
  | zero => exact ⟨fun p1 p2 p3 σ hI hm hr hl d hd hs => by omega, fun p1 p2 p3 σ hI hm hr hl d hd hs => by omega⟩
  | succ n ih => exact ⟨fields_50 ih.2, value_50 ih.1 ih.2⟩
theorem v39n_50 {rF rV : Nat → Int32 → Int32 → Int32 → ST → Option ST} (x2 x4 x5 y0 : Int32) (σ : ST) (hI : IA σ) (h : x5.toInt = -1) (hs : (σ.1 87 2).toInt + 64 < 2000000000) : OK (f_X2_packValue_39 rF rV 50 x2 x4 x5 y0 σ) (PK 64 σ) := by
  have lt_6 := li_6
  have lt_7 := li_7
  unfold f_X2_packValue_39
  refine OK.ieq (fun _ => by omega) (fun _ => ?_)
  refine OK.ieq (fun _ => by omega) (fun _ => ?_)
  refine OK.bndR (k_X7_worthOf_50 _ _ hI) (fun v hv => ?_)
  dsimp only
  exact OK.bndP (k_X2_packPlain _ _ _ hI (by omega)) (PK.rf hI) (fun t ht => OK.ret (ht.mono (by omega)))
theorem k_X2_pack_50 (p1 : Int32) (σ : ST) (hI : IA σ) : OK (f_X2_pack 50 p1 σ) (RS σ) := by
  unfold f_X2_pack
  have lt_0 := li_0
  have lt_31 := li_31
  have iz : IA (stI σ 87 2 0) := ia_J_87_2 hI (by decide)
  have ez : (stI σ 87 2 0).1 87 2 = 0 := rfl
  have e1 : (stI σ 87 2 0).1 50 1 = σ.1 50 1 := rfl
  have fz : Fr σ (stI σ 87 2 0) := ⟨rfl, rfl, ⟨rfl, rfl⟩, rfl⟩
  have g : 0 ≤ (σ.1 50 1).toInt ∧ (σ.1 50 1).toInt ≤ 400 := (hI.t50).2.1
  generalize stI σ 87 2 0 = z at iz ez e1 fz ⊢
  have fin : ∀ (m : Int) (t : ST), PK m z t → OK (some t) (RS σ) := fun m t ht => OK.sret ht.1 (fz.trans ⟨ht.2.1 0 (by decide) (by decide), ht.2.1 1 (by decide) (by decide), ⟨ht.2.1 4 (by decide) (by decide), by rw [ht.2.2.1]⟩, by rw [ht.2.2.1]⟩)
  by_cases h : 0 < (σ.1 50 1).toInt
  · have n0 : (0 : Int32).toNatClampNeg = 0 := by decide
    have hw := Wt_root (S := wS_50 z) (P := wP_50 z) 32 (r := (0 : Int32).toNatClampNeg) (by unfold wS_50; rw [e1, n0]; omega)
    have hS : wS_50 z ≤ 400 := by unfold wS_50; rw [e1]; omega
    have lFR : ((FR : Nat) : Int) = 160 := rfl
    exact OK.bndP ((packR_50 z FR).2 0 p1 0 z iz (fun _ _ _ => rfl) (by rw [e1]; omega) (by omega) 32 (by omega) (by rw [ez]; omega)) (PK.rf iz) (fun t ht => fin _ t ht)
  · have e : FR = 159 + 1 := rfl
    unfold f_T_X2_packValue
    rw [e, R_X2_packFields]
    dsimp only
    refine OK.bndP (m := 74) ?_ (PK.rf iz) (fun t ht => fin _ t ht)
    unfold f_X2_packValue
    refine OK.ile (fun _ => ?_) (fun _ => OK.ret ((PK.rf iz).mono (by omega)))
    refine OK.bndR (k_X7_sortAt_50 _ _ iz) (fun v hv => ?_)
    dsimp only
    rw [e1] at hv
    have hv : v.toInt = -1 := by omega
    refine OK.bndR (k_X5_sortOf_4 _ _ iz) (fun w hw => ?_)
    dsimp only
    refine OK.ieq (fun _ => ?_) (fun _ => ?_)
    · refine OK.bnd (k_X2_packBranch _ _ _ iz (by rw [ez]; omega)) (fun q hq => ?_)
      obtain ⟨u, s⟩ := q
      have hq : PK 10 z s := hq
      dsimp only
      have h3 := hq.2.2.2
      rw [ez] at h3
      exact OK.trP (v39n_50 _ _ _ _ _ hq.1 hv (by omega)) hq (by omega)
    · exact (v39n_50 _ _ _ _ _ iz hv (by rw [ez]; omega)).mono (fun q hq => hq.mono (by omega))
def wS_62 (ρ : ST) : Nat := (ρ.1 62 1).toInt.toNat
def wP_62 (ρ : ST) : Nat → Int := fun c => (ρ.1 64 c).toInt
def wC_62 (ρ : ST) : Nat → Int := fun c => (ρ.1 65 c).toInt
/-- a child: none, or a row of that parent -/
def isC_62 (ρ : ST) (r : Nat) (x : Int32) : Prop := x.toInt = -1 ∨ 0 ≤ x.toInt ∧ x.toInt < (ρ.1 62 1).toInt ∧ (ρ.1 64 x.toNatClampNeg).toInt = (r : Int)
def lft_62 (ρ : ST) (d r : Nat) (x : Int32) : Nat := if x.toInt = -1 then 0 else Rm (wS_62 ρ) (wP_62 ρ) (wC_62 ρ) d (r : Int) x.toNatClampNeg
/-- one child further on -/
theorem next_62 {ρ σ : ST} (hI : IA σ) (hm : SM ρ σ) {d r : Nat} {x : Int32} (hx : isC_62 ρ r x) (h0 : ¬ x.toInt = -1) : OK (f_X7_nextOf 62 x σ) (RO σ fun v => isC_62 ρ r v ∧ lft_62 ρ d r v + Wt (wS_62 ρ) (wP_62 ρ) d x.toNatClampNeg ≤ lft_62 ρ d r x) := by
  have e1 : σ.1 62 = ρ.1 62 := hm 62 (by decide) (by decide)
  have e2 : σ.1 (62 + 2) = ρ.1 64 := hm 64 (by decide) (by decide)
  have e3 : σ.1 (62 + 3) = ρ.1 65 := hm 65 (by decide) (by decide)
  have e9 : σ.1 (62 + 9) = ρ.1 71 := hm 71 (by decide) (by decide)
  rcases hx with hx | ⟨x1, x2, x3⟩
  · exact absurd hx h0
  refine (k_X7_nextOf_62 x σ hI).roq (fun v hv => ?_)
  have nx := nN_ x1
  have hS : x.toNatClampNeg < wS_62 ρ := by unfold wS_62; omega
  rw [e1, e9] at hv
  have hv : v.toInt = (ρ.1 71 x.toNatClampNeg).toInt := by omega
  have hv2 : ρ.1 71 x.toNatClampNeg = v := (Int32.toInt_inj.mp hv).symm
  have eL : lft_62 ρ d r x = Rm (wS_62 ρ) (wP_62 ρ) (wC_62 ρ) d (r : Int) x.toNatClampNeg := if_neg h0
  have T := ((hI.t62).2.2 x.toNatClampNeg (by rw [e1]; omega)).2.2
  rw [e1, e2, e3, e9] at T
  dsimp only at T
  rw [hv2] at T
  rcases T with T | ⟨t1, t2, t3, t4⟩
  · refine ⟨.inl T, ?_⟩
    have e0 : lft_62 ρ d r v = 0 := if_pos T
    rw [e0, eL, Nat.zero_add]
    exact Rm_last hS x3
  · have t1 : 0 ≤ v.toInt := t1
    have nv := nN_ t1
    have t3 : (ρ.1 64 v.toNatClampNeg).toInt = (ρ.1 64 x.toNatClampNeg).toInt := t3
    have t4 : wC_62 ρ x.toNatClampNeg < wC_62 ρ v.toNatClampNeg ∨ wC_62 ρ x.toNatClampNeg = wC_62 ρ v.toNatClampNeg ∧ v.toInt < ((x.toNatClampNeg : Nat) : Int) := t4
    refine ⟨.inr ⟨t1, t2, t3.trans x3⟩, ?_⟩
    have e0 : lft_62 ρ d r v = Rm (wS_62 ρ) (wP_62 ρ) (wC_62 ρ) d (r : Int) v.toNatClampNeg := if_neg (by omega)
    rw [e0, eL]
    exact Rm_step hS x3 (by omega)
/-- the first child -/
theorem first_62 {ρ σ : ST} (hI : IA σ) (hm : SM ρ σ) {d : Nat} {x : Int32} (x1 : 0 ≤ x.toInt) (x2 : x.toInt < (ρ.1 62 1).toInt) : OK (f_X7_firstOf 62 x σ) (RO σ fun v => isC_62 ρ x.toNatClampNeg v ∧ 1 + lft_62 ρ d x.toNatClampNeg v ≤ Wt (wS_62 ρ) (wP_62 ρ) (d + 1) x.toNatClampNeg) := by
  have e1 : σ.1 62 = ρ.1 62 := hm 62 (by decide) (by decide)
  have e2 : σ.1 (62 + 2) = ρ.1 64 := hm 64 (by decide) (by decide)
  have e7 : σ.1 (62 + 7) = ρ.1 69 := hm 69 (by decide) (by decide)
  refine (k_X7_firstOf_62 x σ hI).roq (fun v hv => ?_)
  have nx := nN_ x1
  rw [e1, e7] at hv
  have hv : v.toInt = (ρ.1 69 x.toNatClampNeg).toInt := by omega
  have hv2 : ρ.1 69 x.toNatClampNeg = v := (Int32.toInt_inj.mp hv).symm
  have T := ((hI.t62).2.2 x.toNatClampNeg (by rw [e1]; omega)).1
  rw [e1, e2, e7] at T
  dsimp only at T
  rw [hv2] at T
  rcases T with T | ⟨t1, t2, t3⟩
  · refine ⟨.inl T, ?_⟩
    have e0 : lft_62 ρ d x.toNatClampNeg v = 0 := if_pos T
    rw [e0, Wt]
    omega
  · have t1 : 0 ≤ v.toInt := t1
    refine ⟨.inr ⟨t1, t2, t3⟩, ?_⟩
    have e0 : lft_62 ρ d x.toNatClampNeg v = Rm (wS_62 ρ) (wP_62 ρ) (wC_62 ρ) d ((x.toNatClampNeg : Nat) : Int) v.toNatClampNeg := if_neg (by omega)
    rw [e0]
    exact Rm_all
/-- what packing a row costs -/
def cV_62 (ρ : ST) (N : Nat) (rV : Nat → Int32 → Int32 → Int32 → ST → Option ST) : Prop := ∀ (p1 p2 p3 : Int32) (σ : ST), IA σ → SM ρ σ → (0 ≤ p1.toInt ∧ p1.toInt < (ρ.1 62 1).toInt) → (0 ≤ p3.toInt ∧ p3.toInt ≤ 32 ∧ (66 : Int) ≤ N + 2 * p3.toInt) → ∀ d : Nat, (d : Int) = 32 - p3.toInt → (σ.1 87 2).toInt + 700 * (Wt (wS_62 ρ) (wP_62 ρ) d p1.toNatClampNeg : Nat) < 2000000000 → OK (rV 62 p1 p2 p3 σ) (PK (700 * (Wt (wS_62 ρ) (wP_62 ρ) d p1.toNatClampNeg : Nat)) σ)
theorem loop95_62 {ρ : ST} {N : Nat} {rF rV : Nat → Int32 → Int32 → Int32 → ST → Option ST} (hV : cV_62 ρ N rV) {r : Nat} : ∀ (n : Nat) (x4 x6 x7 x8 : Int32) (σ : ST), IA σ → SM ρ σ → (0 ≤ x8.toInt ∧ x8.toInt ≤ 200 ∧ (200 : Int) - x8.toInt < n) → (0 ≤ x4.toInt ∧ x4.toInt ≤ 31 ∧ (64 : Int) ≤ N + 2 * x4.toInt) → ∀ d : Nat, (d : Int) = 31 - x4.toInt → isC_62 ρ r x7 → (σ.1 87 2).toInt + 700 * (lft_62 ρ d r x7 : Nat) < 2000000000 → OK (f_X2_packValue_95 rF rV 62 n x4 x6 x7 x8 σ) (PK (700 * (lft_62 ρ d r x7 : Nat)) σ) := by
  intro n
  induction n with
  | zero => intro x4 x6 x7 x8 σ hI hm hv; omega
  | succ n ih =>
    intro x4 x6 x7 x8 σ hI hm hv hl d hd hc hs
    rw [f_X2_packValue_95]
    have lt_1 := li_1
    have lt_200 := li_200
    have lm : (-1 : Int32).toInt = -1 := by decide
    obtain ⟨ak, a, al, ar⟩ := i_add x8 1
    try (refine k0el (k := ak) ?_ (fun e0 => ?_); (focus omega); subst e0)
    obtain ⟨bk, b, bl, br⟩ := i_add x4 1
    try (refine k0el (k := bk) ?_ (fun e0 => ?_); (focus omega); subst e0)
    refine OK.ile (fun _ => OK.ret ((PK.rf hI).mono (by omega))) (fun h => ?_)
    refine OK.ieq (fun _ => OK.ret ((PK.rf hI).mono (by omega))) (fun h7 => ?_)
    rw [lm] at h7
    refine OK.bndR (k_X5_innerOf_4 _ _ hI) (fun v hv1 => ?_)
    dsimp only
    obtain ⟨v9, e9, e91, hn, hle⟩ := next_62 (d := d) hI hm hc h7
    have hc1 : 0 ≤ x7.toInt ∧ x7.toInt < (ρ.1 62 1).toInt := by
      rcases hc with hc | hc
      · exact absurd hc h7
      · exact ⟨hc.1, hc.2.1⟩
    refine OK.bndP (hV x7 v (x4 + 1) σ hI hm hc1 (by omega) d (by omega) (by omega)) (PK.rf hI) (fun t ht => ?_)
    refine OK.bndR (next_62 (d := d) ht.1 (ht.sm hm) hc h7) (fun w hw => ?_)
    dsimp only
    have h3 := ht.2.2.2
    have h4 := hw.2
    exact OK.trP (ih _ _ _ _ _ ht.1 (ht.sm hm) (by omega) hl d hd hw.1 (by omega)) ht (by omega)
theorem loop10_62 {ρ : ST} {N : Nat} {rF rV : Nat → Int32 → Int32 → Int32 → ST → Option ST} (hV : cV_62 ρ N rV) {r : Nat} : ∀ (n : Nat) (x3 x4 x5 x6 : Int32) (σ : ST), IA σ → SM ρ σ → (0 ≤ x6.toInt ∧ x6.toInt ≤ 8 ∧ (8 : Int) - x6.toInt < n) → (0 ≤ x4.toInt ∧ x4.toInt ≤ 31 ∧ (64 : Int) ≤ N + 2 * x4.toInt) → ∀ d : Nat, (d : Int) = 31 - x4.toInt → isC_62 ρ r x5 → (σ.1 87 2).toInt + (74 * (8 - x6.toInt) + 700 * (lft_62 ρ d r x5 : Nat)) < 2000000000 → OK (f_X2_packFields_10 rF rV 62 n x3 x4 x5 x6 σ) (PK (74 * (8 - x6.toInt) + 700 * (lft_62 ρ d r x5 : Nat)) σ) := by
  intro n
  induction n with
  | zero => intro x3 x4 x5 x6 σ hI hm hv; omega
  | succ n ih =>
    intro x3 x4 x5 x6 σ hI hm hv hl d hd hc hs
    rw [f_X2_packFields_10]
    have lt_1 := li_1
    have lm : (-1 : Int32).toInt = -1 := by decide
    obtain ⟨ak, a, al, ar⟩ := i_add x6 1
    try (refine k0el (k := ak) ?_ (fun e0 => ?_); (focus omega); subst e0)
    obtain ⟨bk, b, bl, br⟩ := i_add x4 1
    try (refine k0el (k := bk) ?_ (fun e0 => ?_); (focus omega); subst e0)
    refine OK.bndR (k_X5_fieldsOf_4 _ _ hI) (fun v1 hv1 => ?_)
    dsimp only
    refine OK.ile (fun _ => OK.ret ((PK.rf hI).mono (by omega))) (fun h => ?_)
    refine OK.bndR (k_X5_typeOf_4 _ _ _ hI) (fun v3 hv3 => ?_)
    dsimp only
    have h76 : OK (f_X2_packFields_76 rF rV (f_X2_packFields_10 rF rV 62 n) 62 x3 x4 x5 x6 v3 σ) (PK (74 * (8 - x6.toInt) + 700 * (lft_62 ρ d r x5 : Nat)) σ) := by
      unfold f_X2_packFields_76 f_X2_packFields_85
      refine OK.bndP (k_X2_packElse _ _ _ _ hI (by omega)) (PK.rf hI) (fun t ht => ?_)
      have h3 := ht.2.2.2
      exact OK.trP (ih _ _ _ _ _ ht.1 (ht.sm hm) (by omega) hl d hd hc (by omega)) ht (by omega)
    refine OK.ieq (fun _ => h76) (fun h5 => ?_)
    rw [lm] at h5
    refine OK.bndR (k_X7_placeOf_62 _ _ hI) (fun v5 hv5 => ?_)
    dsimp only
    refine OK.ieq (fun _ => ?_) (fun _ => h76)
    obtain ⟨v9, e9, e91, hn, hle⟩ := next_62 (d := d) hI hm hc h5
    have hc1 : 0 ≤ x5.toInt ∧ x5.toInt < (ρ.1 62 1).toInt := by
      rcases hc with hc | hc
      · exact absurd hc h5
      · exact ⟨hc.1, hc.2.1⟩
    refine OK.bndP (hV x5 v3 (x4 + 1) σ hI hm hc1 (by omega) d (by omega) (by omega)) (PK.rf hI) (fun t ht => ?_)
    refine OK.bndR (next_62 (d := d) ht.1 (ht.sm hm) hc h5) (fun w hw => ?_)
    dsimp only
    unfold f_X2_packFields_85
    have h3 := ht.2.2.2
    have h4 := hw.2
    exact OK.trP (ih _ _ _ _ _ ht.1 (ht.sm hm) (by omega) hl d hd hw.1 (by omega)) ht (by omega)
def cF_62 (ρ : ST) (N : Nat) (rF : Nat → Int32 → Int32 → Int32 → ST → Option ST) : Prop := ∀ (p1 p2 p3 : Int32) (σ : ST), IA σ → SM ρ σ → (0 ≤ p1.toInt ∧ p1.toInt < (ρ.1 62 1).toInt) → (0 ≤ p3.toInt ∧ p3.toInt ≤ 31 ∧ (65 : Int) ≤ N + 2 * p3.toInt) → ∀ d : Nat, (d : Int) = 31 - p3.toInt → (σ.1 87 2).toInt + 700 * (Wt (wS_62 ρ) (wP_62 ρ) (d + 1) p1.toNatClampNeg : Nat) < 2000000010 → OK (rF 62 p1 p2 p3 σ) (PK (700 * (Wt (wS_62 ρ) (wP_62 ρ) (d + 1) p1.toNatClampNeg : Nat) - 108) σ)
theorem fields_62 {ρ : ST} {N : Nat} {rF rV : Nat → Int32 → Int32 → Int32 → ST → Option ST} (hV : cV_62 ρ N rV) : cF_62 ρ (N + 1) (f_X2_packFields rF rV) := by
  intro p1 p2 p3 σ hI hm hr hl d hd hs
  unfold f_X2_packFields
  have lt_0 := li_0
  have lFU : ((FU : Nat) : Int) = 100000 := rfl
  refine OK.bndR (first_62 (d := d) hI hm hr.1 hr.2) (fun v hv => ?_)
  dsimp only
  have h2 := hv.2
  exact (loop10_62 hV FU _ _ _ _ _ hI hm (by omega) (by omega) d hd hv.1 (by omega)).mono (fun q hq => hq.mono (by omega))
theorem v39_62 {ρ : ST} {N : Nat} {rF rV : Nat → Int32 → Int32 → Int32 → ST → Option ST} (hF : cF_62 ρ N rF) (hV : cV_62 ρ N rV) (x2 x4 x5 y0 : Int32) (σ : ST) (hI : IA σ) (hm : SM ρ σ) (hr : 0 ≤ x2.toInt ∧ x2.toInt < (ρ.1 62 1).toInt) (hl : 0 ≤ x4.toInt ∧ x4.toInt ≤ 31 ∧ (65 : Int) ≤ N + 2 * x4.toInt) (d : Nat) (hd : (d : Int) = 31 - x4.toInt) (hs : (σ.1 87 2).toInt + 700 * (Wt (wS_62 ρ) (wP_62 ρ) (d + 1) x2.toNatClampNeg : Nat) < 2000000010) : OK (f_X2_packValue_39 rF rV 62 x2 x4 x5 y0 σ) (PK (700 * (Wt (wS_62 ρ) (wP_62 ρ) (d + 1) x2.toNatClampNeg : Nat) - 10) σ) := by
  have lt_0 := li_0
  have lFU : ((FU : Nat) : Int) = 100000 := rfl
  have h1 : 1 ≤ Wt (wS_62 ρ) (wP_62 ρ) (d + 1) x2.toNatClampNeg := by rw [Wt]; omega
  unfold f_X2_packValue_39
  refine OK.ieq (fun _ => ?_) (fun _ => ?_)
  · refine OK.bndR (k_X5_innerOf_4 _ _ hI) (fun v hv => ?_)
    dsimp only
    exact OK.bndP (hF x2 v x4 σ hI hm hr hl d hd hs) (PK.rf hI) (fun t ht => OK.ret (ht.mono (by omega)))
  refine OK.ieq (fun _ => ?_) (fun _ => ?_)
  · refine OK.bndR (k_X7_sizeOf_62 _ _ hI) (fun v hv => ?_)
    dsimp only
    refine OK.bndP (k_X2_putNumber _ _ hI (by omega)) (PK.rf hI) (fun t ht => ?_)
    refine OK.bndR (first_62 (d := d) ht.1 (ht.sm hm) hr.1 hr.2) (fun w hw => ?_)
    dsimp only
    have h3 := ht.2.2.2
    have h4 := hw.2
    exact OK.trP (loop95_62 hV FU _ _ _ _ _ ht.1 (ht.sm hm) (by omega) (by omega) d hd hw.1 (by omega)) ht (by omega)
  · refine OK.bndR (k_X7_worthOf_62 _ _ hI) (fun v hv => ?_)
    dsimp only
    exact OK.bndP (k_X2_packPlain _ _ _ hI (by omega)) (PK.rf hI) (fun t ht => OK.ret (ht.mono (by omega)))
theorem value_62 {ρ : ST} {N : Nat} {rF rV : Nat → Int32 → Int32 → Int32 → ST → Option ST} (hF : cF_62 ρ N rF) (hV : cV_62 ρ N rV) : cV_62 ρ (N + 1) (f_X2_packValue rF rV) := by
  intro p1 p2 p3 σ hI hm hr hl d hd hs
  unfold f_X2_packValue
  have lt_31 := li_31
  refine OK.ile (fun h => ?_) (fun h => OK.ret ((PK.rf hI).mono (by omega)))
  obtain ⟨e, rfl⟩ : ∃ e, d = e + 1 := ⟨d - 1, by omega⟩
  refine OK.bndR (k_X7_sortAt_62 _ _ hI) (fun v hv => ?_)
  dsimp only
  refine OK.bndR (k_X5_sortOf_4 _ _ hI) (fun w hw => ?_)
  dsimp only
  refine OK.ieq (fun _ => ?_) (fun _ => ?_)
  · have h1 : 1 ≤ Wt (wS_62 ρ) (wP_62 ρ) (e + 1) p1.toNatClampNeg := by rw [Wt]; omega
    refine OK.bnd (k_X2_packBranch _ _ _ hI (by omega)) (fun q hq => ?_)
    obtain ⟨u, s⟩ := q
    have hq : PK 10 σ s := hq
    dsimp only
    have h3 := hq.2.2.2
    exact OK.trP (v39_62 hF hV _ _ _ _ _ hq.1 (hq.sm hm) hr (by omega) e (by omega) (by omega)) hq (by omega)
  · exact (v39_62 hF hV _ _ _ _ _ hI hm hr (by omega) e (by omega) (by omega)).mono (fun q hq => hq.mono (by omega))
theorem packR_62 (ρ : ST) : ∀ n : Nat, cF_62 ρ n (R_X2_packFields n).1 ∧ cV_62 ρ n (R_X2_packFields n).2 := by
  intro n
  induction n with
  | zero => exact ⟨fun p1 p2 p3 σ hI hm hr hl d hd hs => by omega, fun p1 p2 p3 σ hI hm hr hl d hd hs => by omega⟩
  | succ n ih => exact ⟨fields_62 ih.2, value_62 ih.1 ih.2⟩
theorem v39n_62 {rF rV : Nat → Int32 → Int32 → Int32 → ST → Option ST} (x2 x4 x5 y0 : Int32) (σ : ST) (hI : IA σ) (h : x5.toInt = -1) (hs : (σ.1 87 2).toInt + 64 < 2000000000) : OK (f_X2_packValue_39 rF rV 62 x2 x4 x5 y0 σ) (PK 64 σ) := by
  have lt_6 := li_6
  have lt_7 := li_7
  unfold f_X2_packValue_39
  refine OK.ieq (fun _ => by omega) (fun _ => ?_)
  refine OK.ieq (fun _ => by omega) (fun _ => ?_)
  refine OK.bndR (k_X7_worthOf_62 _ _ hI) (fun v hv => ?_)
  dsimp only
  exact OK.bndP (k_X2_packPlain _ _ _ hI (by omega)) (PK.rf hI) (fun t ht => OK.ret (ht.mono (by omega)))
theorem k_X2_pack_62 (p1 : Int32) (σ : ST) (hI : IA σ) : OK (f_X2_pack 62 p1 σ) (RS σ) := by
  unfold f_X2_pack
  have lt_0 := li_0
  have lt_31 := li_31
  have iz : IA (stI σ 87 2 0) := ia_J_87_2 hI (by decide)
  have ez : (stI σ 87 2 0).1 87 2 = 0 := rfl
  have e1 : (stI σ 87 2 0).1 62 1 = σ.1 62 1 := rfl
  have fz : Fr σ (stI σ 87 2 0) := ⟨rfl, rfl, ⟨rfl, rfl⟩, rfl⟩
  have g : 0 ≤ (σ.1 62 1).toInt ∧ (σ.1 62 1).toInt ≤ 502 := (hI.t62).2.1
  generalize stI σ 87 2 0 = z at iz ez e1 fz ⊢
  have fin : ∀ (m : Int) (t : ST), PK m z t → OK (some t) (RS σ) := fun m t ht => OK.sret ht.1 (fz.trans ⟨ht.2.1 0 (by decide) (by decide), ht.2.1 1 (by decide) (by decide), ⟨ht.2.1 4 (by decide) (by decide), by rw [ht.2.2.1]⟩, by rw [ht.2.2.1]⟩)
  by_cases h : 0 < (σ.1 62 1).toInt
  · have n0 : (0 : Int32).toNatClampNeg = 0 := by decide
    have hw := Wt_root (S := wS_62 z) (P := wP_62 z) 32 (r := (0 : Int32).toNatClampNeg) (by unfold wS_62; rw [e1, n0]; omega)
    have hS : wS_62 z ≤ 502 := by unfold wS_62; rw [e1]; omega
    have lFR : ((FR : Nat) : Int) = 160 := rfl
    exact OK.bndP ((packR_62 z FR).2 0 p1 0 z iz (fun _ _ _ => rfl) (by rw [e1]; omega) (by omega) 32 (by omega) (by rw [ez]; omega)) (PK.rf iz) (fun t ht => fin _ t ht)
  · have e : FR = 159 + 1 := rfl
    unfold f_T_X2_packValue
    rw [e, R_X2_packFields]
    dsimp only
    refine OK.bndP (m := 74) ?_ (PK.rf iz) (fun t ht => fin _ t ht)
    unfold f_X2_packValue
    refine OK.ile (fun _ => ?_) (fun _ => OK.ret ((PK.rf iz).mono (by omega)))
    refine OK.bndR (k_X7_sortAt_62 _ _ iz) (fun v hv => ?_)
    dsimp only
    rw [e1] at hv
    have hv : v.toInt = -1 := by omega
    refine OK.bndR (k_X5_sortOf_4 _ _ iz) (fun w hw => ?_)
    dsimp only
    refine OK.ieq (fun _ => ?_) (fun _ => ?_)
    · refine OK.bnd (k_X2_packBranch _ _ _ iz (by rw [ez]; omega)) (fun q hq => ?_)
      obtain ⟨u, s⟩ := q
      have hq : PK 10 z s := hq
      dsimp only
      have h3 := hq.2.2.2
      rw [ez] at h3
      exact OK.trP (v39n_62 _ _ _ _ _ hq.1 hv (by omega)) hq (by omega)
    · exact (v39n_62 _ _ _ _ _ iz hv (by rw [ez]; omega)).mono (fun q hq => hq.mono (by omega))
/-! the class's calls, over its invariant -/
def F0_ (σ τ : ST) : Prop := τ.1 0 = σ.1 0 ∧ τ.1 1 = σ.1 1 ∧ τ.1 4 = σ.1 4 ∧ τ.2.1 3 = σ.2.1 3
theorem F0_.rf {σ : ST} : F0_ σ σ := ⟨rfl, rfl, rfl, rfl⟩
theorem Fr.f0 {σ τ : ST} (h : Fr σ τ) : F0_ σ τ := ⟨h.1, h.2.1, h.2.2.1⟩
theorem F0_.trans {σ τ υ : ST} (h : F0_ σ τ) (k : F0_ τ υ) : F0_ σ υ := ⟨k.1.trans h.1, k.2.1.trans h.2.1, k.2.2.1.trans h.2.2.1, k.2.2.2.trans h.2.2.2⟩
theorem OK.ro2 {α : Type} {o : Option (α × ST)} {σ : ST} {Q : α → Prop} (h : OK o (RO σ Q)) (hI : IA σ) : OK o (RT σ) := h.mono (fun q hq => by
  have e : q.2 = σ := hq.1
  unfold RT
  rw [e]
  exact ⟨hI, rfl, rfl, rfl, rfl⟩)
theorem OK.rw2 {α : Type} {o : Option (α × ST)} {σ : ST} {Q : α → Prop} (h : OK o (RW σ Q)) : OK o (RT σ) := h.mono (fun q hq => ⟨hq.1.1, hq.1.2.f0⟩)
theorem OK.rtret {α : Type} {v : α} {σ s : ST} (h : IA s) (f : F0_ σ s) : OK (some (v, s)) (RT σ) := ⟨_, rfl, h, f⟩
theorem OK.bndT {α β : Type} {o : Option (α × ST)} {f : α × ST → Option β} {s σ : ST} {P : β → Prop} (h : OK o (RT s)) (hF : F0_ σ s) (k : ∀ (v : α) (t : ST), IA t → F0_ σ t → OK (f (v, t)) P) : OK (o.bind f) P := by
  obtain ⟨⟨v, s1⟩, e, h1, h2⟩ := h
  rw [e]; exact k v s1 h1 (hF.trans h2)
theorem OK.bndS0 {β : Type} {o : Option ST} {f : ST → Option β} {s σ : ST} {P : β → Prop} (h : OK o (RS s)) (hF : F0_ σ s) (k : ∀ t : ST, IA t → F0_ σ t → OK (f t) P) : OK (o.bind f) P := by
  obtain ⟨s1, e, h1⟩ := h
  rw [e]; exact k s1 h1.1 (hF.trans h1.2.f0)
theorem k_X10_read (p0 p1 : Int32) (σ : ST) (hI : IA σ) : OK (f_X10_read p0 p1 σ) (RT σ) := by
  unfold f_X10_read
  refine OK.bndR (k_X1_isWritten _ _ hI) (fun v1 h1 => ?_)
  dsimp only
  refine OK.ieq (fun _ => OK.rtret hI F0_.rf) (fun _ => ?_)
  refine OK.bndR (k_X10_isPlan _ _ hI) (fun v2 h2 => ?_)
  dsimp only
  refine OK.ieq (fun _ => OK.rtret hI F0_.rf) (fun _ => ?_)
  refine OK.bndR (k_X1_planOf _ _ hI) (fun v3 h3 => ?_)
  dsimp only
  refine OK.bndS0 (k_X9_use _ _ _ hI) F0_.rf (fun s i f => ?_)
  try dsimp only
  exact OK.bndT (k_X4_run_89_50 _ _ _ i) f (fun v t it ft => OK.rtret it ft)
theorem k_X10_convert (p0 p1 p2 : Int32) (σ : ST) (hI : IA σ) : OK (f_X10_convert p0 p1 p2 σ) (RT σ) := by
  unfold f_X10_convert
  refine OK.bndR (k_X1_isWritten _ _ hI) (fun v1 h1 => ?_)
  dsimp only
  refine OK.ieq (fun _ => OK.rtret hI F0_.rf) (fun _ => ?_)
  refine OK.bndR (k_X10_isPlan _ _ hI) (fun v2 h2 => ?_)
  dsimp only
  refine OK.ieq (fun _ => OK.rtret hI F0_.rf) (fun _ => ?_)
  refine OK.bndR (k_X1_isNumber _ _ hI) (fun v4 h4 => ?_)
  dsimp only
  refine OK.ieq (fun _ => OK.rtret hI F0_.rf) (fun _ => ?_)
  refine OK.bndR (k_X1_planOf _ _ hI) (fun v3 h3 => ?_)
  dsimp only
  refine OK.bndS0 (k_X9_use _ _ _ hI) F0_.rf (fun s i f => ?_)
  try dsimp only
  refine OK.bndT (k_X4_run_89_50 _ _ _ i) f (fun v t it ft => ?_)
  dsimp only
  refine OK.ile (fun _ => ?_) (fun _ => OK.rtret it ft)
  refine OK.bndR (k_X5_rootType_4 _ _ it) (fun v5 h5 => ?_)
  dsimp only
  refine OK.bndS0 (k_X2_pack_50 _ _ it) ft (fun s6 i6 f6 => ?_)
  try dsimp only
  refine OK.ile (fun _ => ?_) (fun _ => OK.rtret i6 f6)
  exact OK.bndS0 (k_X1_store _ _ _ i6) f6 (fun s7 i7 f7 => OK.rtret i7 f7)
theorem k_X10_alike (p0 p1 p2 : Int32) (σ : ST) (hI : IA σ) : OK (f_X10_alike p0 p1 p2 σ) (RT σ) := by
  unfold f_X10_alike
  refine OK.bndR (k_X1_isWritten _ _ hI) (fun v1 h1 => ?_)
  dsimp only
  refine OK.ieq (fun _ => OK.rtret hI F0_.rf) (fun _ => ?_)
  refine OK.bndR (k_X1_isWritten _ _ hI) (fun v2 h2 => ?_)
  dsimp only
  refine OK.ieq (fun _ => OK.rtret hI F0_.rf) (fun _ => ?_)
  refine OK.bndR (k_X10_isPlan _ _ hI) (fun v4 h4 => ?_)
  dsimp only
  refine OK.ieq (fun _ => OK.rtret hI F0_.rf) (fun _ => ?_)
  refine OK.bndT (k_X4_run_92_62 _ _ _ hI) F0_.rf (fun v t it ft => ?_)
  dsimp only
  refine OK.ile (fun _ => ?_) (fun _ => OK.rtret it ft)
  refine OK.bndT (k_X4_run_92_74 _ _ _ it) ft (fun v5 t5 i5 f5 => ?_)
  dsimp only
  refine OK.ile (fun _ => ?_) (fun _ => OK.rtret i5 f5)
  refine OK.bndR (k_X7_isLike_62_74 _ i5) (fun v6 h6 => ?_)
  dsimp only
  exact OK.ieq (fun _ => OK.rtret i5 f5) (fun _ => OK.rtret i5 f5)
theorem k_L_byteAt (p0 p1 : Int32) (σ : ST) (hI : IA σ) : OK (f_L_byteAt p0 p1 σ) (RT σ) := by
  unfold f_L_byteAt
  obtain ⟨⟨v, s⟩, e, h1, h2⟩ := k_X10_byteAt p0 p1 σ hI
  have h1 : s = σ := h1
  subst h1
  rw [e]
  cases v with
  | none => exact OK.rtret hI F0_.rf
  | some v => exact OK.rtret (ia_L hI) ⟨rfl, rfl, rfl, rfl⟩
theorem k_L_node (p0 p1 : Int32) (σ : ST) (hI : IA σ) : OK (f_L_node p0 p1 σ) (RT σ) := by
  unfold f_L_node
  obtain ⟨⟨v, s⟩, e, h1, h2⟩ := k_X10_node p0 p1 σ hI
  have h1 : s = σ := h1
  subst h1
  rw [e]
  cases v with
  | none => exact OK.rtret hI F0_.rf
  | some v => exact OK.rtret (ia_L hI) ⟨rfl, rfl, rfl, rfl⟩
theorem k_L_letter (p0 p1 : Int32) (σ : ST) (hI : IA σ) : OK (f_L_letter p0 p1 σ) (RT σ) := by
  unfold f_L_letter
  obtain ⟨⟨v, s⟩, e, h1, h2⟩ := k_X10_letter p0 p1 σ hI
  have h1 : s = σ := h1
  subst h1
  rw [e]
  cases v with
  | none => exact OK.rtret hI F0_.rf
  | some v => exact OK.rtret (ia_L hI) ⟨rfl, rfl, rfl, rfl⟩
theorem k_L_value (p0 : Int32) (σ : ST) (hI : IA σ) : OK (f_L_value p0 σ) (RT σ) := by
  unfold f_L_value
  obtain ⟨⟨v, s⟩, e, h1, h2⟩ := k_X10_value p0 σ hI
  have h1 : s = σ := h1
  subst h1
  rw [e]
  cases v with
  | none => exact OK.rtret hI F0_.rf
  | some v => exact OK.rtret (ia_L hI) ⟨rfl, rfl, rfl, rfl⟩
/-- every call of the class but feed, plans, write: it answers, and leaves the tape and the plans as they are -/
theorem callsA (j : Nat) (h3 : 3 ≤ j) (pr : Nat → Int32) (σ : ST) (hI : IA σ) : OK (fA j pr σ) (RT σ) := by
  match j, h3 with
  | 3, _ => exact (k_X10_record _ _ _ _ hI).ro2 hI
  | 4, _ => exact (k_X10_field _ _ _ _ _ hI).ro2 hI
  | 5, _ => exact (k_X10_message _ _ _ hI).ro2 hI
  | 6, _ => exact k_L_byteAt _ _ _ hI
  | 7, _ => exact (k_X10_spoil _ _ _ _ hI).rw2
  | 8, _ => exact (k_X10_cut _ _ _ hI).rw2
  | 9, _ => exact (k_X10_matches _ _ _ hI).rw2
  | 10, _ => exact (k_X10_miss _ _ _ _ _ hI).rw2
  | 11, _ => exact (k_X10_missStep _ _ _ _ _ hI).rw2
  | 12, _ => exact (k_X10_readers _ _ _ hI).rw2
  | 13, _ => exact k_X10_read _ _ _ hI
  | 14, _ => exact (k_X10_failure _ _ hI).ro2 hI
  | 15, _ => exact (k_X10_failureStep _ _ hI).ro2 hI
  | 16, _ => exact k_L_node _ _ _ hI
  | 17, _ => exact k_L_value _ _ hI
  | 18, _ => exact k_L_letter _ _ _ hI
  | 19, _ => exact k_X10_convert _ _ _ _ hI
  | 20, _ => exact k_X10_alike _ _ _ _ hI
  | 21, _ => exact (k_X10_kept _ _ hI).ro2 hI
  | 22, _ => exact (k_X10_count _ _ hI).ro2 hI
  | j + 23, _ => exact OK.rtret hI F0_.rf
/-! the class's invariant at its beginning -/
theorem bz {a b : Int} (h1 : a ≤ 0) (h2 : 0 ≤ b) : bI 0 a b := ⟨by rw [li_0]; exact h1, by rw [li_0]; exact h2⟩
theorem tr_0 {b : Nat} {n : Int} {σ : ST} (h0 : (σ.1 b 0).toInt = n) (hn : 0 ≤ n) (h1 : σ.1 b 1 = 0) : TR b n σ := by
  refine ⟨h0, by rw [h1]; exact bz (by omega) hn, fun r hr => ?_⟩
  rw [h1, li_0] at hr
  omega
theorem ia_0 : IA s0A :=
  ⟨bz (by decide) (by decide), bz (by decide) (by decide), bz (by decide) (by decide), bz (by decide) (by decide), bz (by decide) (by decide), bz (by decide) (by decide), bz (by decide) (by decide), fun _ => bz (by decide) (by decide), fun _ => bz (by decide) (by decide), fun _ => bz (by decide) (by decide), fun _ => bz (by decide) (by decide), fun _ => (show (-1 : Int) ≤ (0 : Int32).toInt from by decide), bz (by decide) (by decide), fun _ => bz (by decide) (by decide), (show (0 : Int) ≤ (0 : Int32).toInt from by decide), rfl, .inl rfl, tr_0 (show (400 : Int32).toInt = 400 from by decide) (by decide) rfl, tr_0 (show (502 : Int32).toInt = 502 from by decide) (by decide) rfl, tr_0 (show (400 : Int32).toInt = 400 from by decide) (by decide) rfl⟩
/-! write: the tape is emptied just where a text is read -/
def WRc (σ : ST) (p0 p1 p2 : Int32) : Prop := (0 ≤ p0.toInt ∧ p0.toInt < 4) ∧ (0 ≤ p1.toInt ∧ p1.toInt < (σ.1 4 0).toInt) ∧ 0 ≤ p2.toInt ∧ p2.toInt ≤ (σ.1 0 1).toInt
def WR (σ : ST) (c : Prop) (q : Int32 × ST) : Prop := IA q.2 ∧ q.2.1 1 = σ.1 1 ∧ (q.2.1 4 = σ.1 4 ∧ q.2.2.1 3 = σ.2.1 3) ∧ (c ∧ q.2.1 0 1 = 0 ∨ ¬ c ∧ q.2.1 0 = σ.1 0)
theorem k2_isNumber (p0 : Int32) (σ : ST) : OK (f_X1_isNumber p0 σ) (RO σ fun v => v.toInt = 0 ∧ ¬ (0 ≤ p0.toInt ∧ p0.toInt < 4) ∨ v.toInt = 1 ∧ 0 ≤ p0.toInt ∧ p0.toInt < 4) := by
  unfold f_X1_isNumber
  have lt_0 := li_0
  have lt_1 := li_1
  have lt_4 := li_4
  refine OK.ilt (fun _ => OK.roret (by omega)) (fun _ => ?_)
  exact OK.ile (fun _ => OK.roret (by omega)) (fun _ => OK.roret (by omega))
theorem k2_isPlan (p0 : Int32) (σ : ST) : OK (f_X10_isPlan p0 σ) (RO σ fun v => v.toInt = 0 ∧ ¬ (0 ≤ p0.toInt ∧ p0.toInt < (σ.1 4 0).toInt) ∨ v.toInt = 1 ∧ 0 ≤ p0.toInt ∧ p0.toInt < (σ.1 4 0).toInt) := by
  unfold f_X10_isPlan
  have lt_0 := li_0
  have lt_1 := li_1
  refine OK.ilt (fun _ => OK.roret (by omega)) (fun _ => ?_)
  exact OK.ile (fun _ => OK.roret (by omega)) (fun _ => OK.roret (by omega))
theorem k_X10_write (p0 p1 p2 : Int32) (σ : ST) (hI : IA σ) : OK (f_X10_write p0 p1 p2 σ) (WR σ (WRc σ p0 p1 p2)) := by
  unfold f_X10_write
  have lt_0 := li_0
  have g : 0 ≤ (σ.1 0 1).toInt ∧ (σ.1 0 1).toInt ≤ 1000 := hI.tape
  have no : ∀ v : Int32, ¬ WRc σ p0 p1 p2 → OK (some (v, σ)) (WR σ (WRc σ p0 p1 p2)) := fun v h => OK.ret ⟨hI, rfl, ⟨rfl, rfl⟩, .inr ⟨h, rfl⟩⟩
  refine OK.bndR (k2_isNumber _ _) (fun v1 h1 => ?_)
  dsimp only
  refine OK.ieq (fun _ => no _ (fun h => by unfold WRc at h; omega)) (fun _ => ?_)
  refine OK.bndR (k2_isPlan _ _) (fun v2 h2 => ?_)
  dsimp only
  refine OK.ieq (fun _ => no _ (fun h => by unfold WRc at h; omega)) (fun _ => ?_)
  refine OK.ilt (fun _ => no _ (fun h => by unfold WRc at h; omega)) (fun _ => ?_)
  refine OK.ile (fun _ => ?_) (fun _ => no _ (fun h => by unfold WRc at h; omega))
  have hc : WRc σ p0 p1 p2 := by unfold WRc; omega
  have iz : IA (stI σ 0 1 0) := ia_J_0_1 hI (bz (by decide) (by decide))
  have z0 : (stI σ 0 1 0).1 0 1 = 0 := rfl
  have z1 : (stI σ 0 1 0).1 1 = σ.1 1 := rfl
  have z4 : (stI σ 0 1 0).1 4 = σ.1 4 := rfl
  have zk : (stI σ 0 1 0).2.1 3 = σ.2.1 3 := rfl
  generalize stI σ 0 1 0 = z at iz z0 z1 z4 zk ⊢
  have yes : ∀ (v : Int32) (t : ST), IA t → F0_ z t → OK (some (v, t)) (WR σ (WRc σ p0 p1 p2)) := fun v t it ft => OK.ret ⟨it, ft.2.1.trans z1, ⟨ft.2.2.1.trans z4, ft.2.2.2.trans zk⟩, .inl ⟨hc, by rw [ft.1]; exact z0⟩⟩
  refine OK.bndS0 (k_X6_begin _ _ iz (by omega)) F0_.rf (fun s5 i5 f5 => ?_)
  try dsimp only
  refine OK.bndR (k_X5_rootType_4 _ _ i5) (fun v7 h7 => ?_)
  dsimp only
  refine OK.bndT (k_X8_parse _ _ i5).rw2 f5 (fun v9 s9 i9 f9 => ?_)
  dsimp only
  refine OK.ieq (fun _ => ?_) (fun _ => ?_)
  · refine OK.bndR (k_X6_faultAnswer _ i9) (fun v h => ?_)
    exact yes _ _ i9 f9
  refine OK.bndR (k_X5_rootType_4 _ _ i9) (fun v11 h11 => ?_)
  dsimp only
  refine OK.bndS0 (k_X2_pack_62 _ _ i9) f9 (fun s13 i13 f13 => ?_)
  try dsimp only
  refine OK.ile (fun _ => ?_) (fun _ => ?_)
  · exact OK.bndS0 (k_X1_store _ _ _ i13) f13 (fun s15 i15 f15 => yes _ _ i15 f15)
  · refine OK.bndT (k_X6_refuse _ _ i13).rw2 f13 (fun v17 s17 i17 f17 => ?_)
    dsimp only
    refine OK.bndR (k_X6_faultAnswer _ i17) (fun v h => ?_)
    exact yes _ _ i17 f17
/-! plans: by what its text's reading answers -/
theorem k_X10_plans (p0 : Int32) (σ : ST) (hI : IA σ) : OK (f_X10_plans p0 σ) (fun q => IA q.2 ∧ (q.2.1 1 = σ.1 1 ∧ q.2.2.1 3 = σ.2.1 3) ∧ (¬ (0 ≤ p0.toInt ∧ p0.toInt ≤ (σ.1 0 1).toInt) ∧ q.2 = σ ∨ (0 ≤ p0.toInt ∧ p0.toInt ≤ (σ.1 0 1).toInt) ∧ q.2.1 0 1 = 0 ∧ ∃ (s1 : ST) (r : Int32) (s2 : ST), f_X6_begin p0 (stI σ 0 1 0) = some s1 ∧ f_X3_parse s1 = some (r, s2) ∧ (r.toInt = 0 → q.2.1 4 = σ.1 4) ∧ (¬ r.toInt = 0 → q.2.1 4 0 = s2.1 20 0))) := by
  unfold f_X10_plans
  have lt_0 := li_0
  have g : 0 ≤ (σ.1 0 1).toInt ∧ (σ.1 0 1).toInt ≤ 1000 := hI.tape
  refine OK.ilt (fun _ => OK.ret ⟨hI, ⟨rfl, rfl⟩, .inl ⟨by omega, rfl⟩⟩) (fun h0 => ?_)
  refine OK.ile (fun h1 => ?_) (fun _ => OK.ret ⟨hI, ⟨rfl, rfl⟩, .inl ⟨by omega, rfl⟩⟩)
  have iz : IA (stI σ 0 1 0) := ia_J_0_1 hI (bz (by decide) (by decide))
  have z0 : (stI σ 0 1 0).1 0 1 = 0 := rfl
  have z1 : (stI σ 0 1 0).1 1 = σ.1 1 := rfl
  have z4 : (stI σ 0 1 0).1 4 = σ.1 4 := rfl
  have zk : (stI σ 0 1 0).2.1 3 = σ.2.1 3 := rfl
  generalize stI σ 0 1 0 = z at iz z0 z1 z4 zk ⊢
  obtain ⟨s1, e1, i1, f1⟩ := k_X6_begin p0 z iz (by omega)
  rw [e1]
  show OK ((f_X3_parse s1).bind _) _
  obtain ⟨⟨r, s2⟩, e2, ⟨i2, f2⟩, _⟩ := k_X3_parse s1 i1
  have i2 : IA s2 := i2
  have f2 : Fr z s2 := f1.trans f2
  rw [e2]
  show OK (if r = 0 then _ else _) _
  refine OK.ieq (fun hr => ?_) (fun hr => ?_)
  · refine OK.bndR (k_X6_faultAnswer _ i2) (fun v h => ?_)
    rw [lt_0] at hr
    exact OK.ret ⟨i2, ⟨f2.2.1.trans z1, f2.2.2.1.2.trans zk⟩, .inr ⟨⟨by omega, h1⟩, by rw [f2.1]; exact z0, s1, r, s2, rfl, e2, fun _ => f2.2.2.1.1.trans z4, fun h9 => absurd hr h9⟩⟩
  · rw [lt_0] at hr
    refine OK.bnd (k_X5_copyFrom_4 s2 i2) (fun s5 c5 => ?_)
    obtain ⟨i5, c50, c51, c54, c5r, c5k⟩ := c5
    refine OK.bndS0 (k_X5_findEmptyRecords_4 _ i5) F0_.rf (fun s7 i7 f7 => ?_)
    refine OK.bndS0 (k_X1_clear _ i7) f7 (fun s9 i9 f9 => ?_)
    refine OK.bndS0 (k_X0_clear _ i9) f9 (fun s11 i11 f11 => ?_)
    refine OK.bndS0 (k_X9_clear _ i11) f11 (fun s13 i13 f13 => ?_)
    refine OK.bndS0 (k_X7_clear_50 _ i13) f13 (fun s15 i15 f15 => ?_)
    refine OK.ret ⟨i15, ?_, .inr ⟨⟨by omega, h1⟩, ?_, s1, r, s2, rfl, e2, fun h9 => absurd h9 hr, fun _ => ?_⟩⟩
    · refine ⟨?_, ?_⟩
      · show s15.1 1 = σ.1 1
        rw [f15.2.1, c51, f2.2.1]; exact z1
      · show s15.2.1 3 = σ.2.1 3
        rw [f15.2.2.2, c5k, f2.2.2.1.2]; exact zk
    · show s15.1 0 1 = 0
      rw [f15.1, c50, f2.1]; exact z0
    · show s15.1 4 0 = s2.1 20 0
      rw [f15.2.2.1]; exact c54
/-! feed on both sides -/
def FE (σ τ : ST) : Prop := σ.1 0 1 = τ.1 0 2 ∧ σ.1 1 = τ.1 1
/-- what feeding leaves as it is in the reference -/
def FB (τ υ : ST) : Prop := (∀ c, c ≠ 0 → c ≠ 1 → υ.1 c = τ.1 c) ∧ υ.2 = τ.2 ∧ ∀ i, i ≠ 2 → υ.1 0 i = τ.1 0 i
theorem FB.trans {τ υ ω : ST} (h : FB τ υ) (k : FB υ ω) : FB τ ω := ⟨fun c h1 h2 => (k.1 c h1 h2).trans (h.1 c h1 h2), k.2.1.trans h.2.1, fun i hi => (k.2.2 i hi).trans (h.2.2 i hi)⟩
theorem ia_I_1 {σ : ST} {i : Nat} {v : Int32} (h : IA σ) : IA (stI σ 1 i v) := h
theorem feed4 : ∀ (m n : Nat) (x1 x2 : Int32) (σ τ : ST), x2.toInt = 8 * (m : Int) - 8 → m ≤ 4 → m < n → IA σ → FE σ τ → (σ.1 0 1).toInt + m ≤ 1000 → ∃ σ' τ', f_X10_feedFour_3 n x1 x2 σ = some σ' ∧ f_X11_puts_3 n x1 x2 τ = some τ' ∧ IA σ' ∧ FE σ' τ' ∧ (σ'.1 0 1).toInt = (σ.1 0 1).toInt + m ∧ (σ'.1 4 = σ.1 4 ∧ σ'.2.1 3 = σ.2.1 3) ∧ FB τ τ' := by
  intro m
  induction m with
  | zero =>
    intro n x1 x2 σ τ hx hm hn hI hf hs
    obtain ⟨k, rfl⟩ : ∃ k, n = k + 1 := ⟨n - 1, by omega⟩
    have hc : x2 < 0 := Int32.lt_iff_toInt_lt.mpr (by rw [li_0]; omega)
    refine ⟨σ, τ, by rw [f_X10_feedFour_3, if_pos hc], by rw [f_X11_puts_3, if_pos hc], hI, hf, by omega, ⟨rfl, rfl⟩, fun _ _ _ => rfl, rfl, fun _ _ => rfl⟩
  | succ m ih =>
    intro n x1 x2 σ τ hx hm hn hI hf hs
    obtain ⟨k, rfl⟩ : ∃ k, n = k + 1 := ⟨n - 1, by omega⟩
    have g : 0 ≤ (σ.1 0 1).toInt ∧ (σ.1 0 1).toInt ≤ 1000 := hI.tape
    have lt_1 := li_1
    have lm : (-8 : Int32).toInt = -8 := by decide
    have hc : ¬ x2 < 0 := fun h => by have := il_lt h; rw [li_0] at this; omega
    have h1 : ¬ (1000 : Int32) ≤ σ.1 0 1 := fun h => by have := il_le h; rw [li_1000] at this; omega
    have h2 : 0 ≤ (σ.1 0 1).toInt ∧ (σ.1 0 1).toInt < 1000 := ⟨by omega, by omega⟩
    have h3 : 0 ≤ (τ.1 0 2).toInt ∧ (τ.1 0 2).toInt < 1000 := by rw [← hf.1]; exact h2
    obtain ⟨ak, a, al, ar⟩ := i_add (σ.1 0 1) 1
    try (refine k0el (k := ak) ?_ (fun e0 => ?_); (focus omega); subst e0)
    obtain ⟨bk, b, bl, br⟩ := i_add x2 (-8)
    try (refine k0el (k := bk) ?_ (fun e0 => ?_); (focus omega); subst e0)
    obtain ⟨σ', τ', e1, e2, e3, e4, e5, e6, e7⟩ := ih k x1 (x2 + (-8)) (stI (stI σ 1 (σ.1 0 1).toNatClampNeg (vp_nar .byte ((x1 >>> (x2 &&& 31)).toInt8.toInt32))) 0 1 (σ.1 0 1 + 1)) (stI (stI τ 1 (τ.1 0 2).toNatClampNeg (vp_nar .byte ((x1 >>> (x2 &&& 31)).toInt8.toInt32))) 0 2 (τ.1 0 2 + 1)) (by omega) (by omega) (by omega) (ia_J_0_1 (ia_I_1 hI) ⟨by omega, by omega⟩) ⟨(show σ.1 0 1 + 1 = τ.1 0 2 + 1 from by rw [hf.1]), (show upd (σ.1 1) (σ.1 0 1).toNatClampNeg _ = upd (τ.1 1) (τ.1 0 2).toNatClampNeg _ from by rw [hf.1, hf.2])⟩ (show (σ.1 0 1 + 1).toInt + (m : Int) ≤ 1000 from by omega)
    refine ⟨σ', τ', ?_, ?_, e3, e4, ?_, e6, ?_⟩
    · rw [f_X10_feedFour_3, if_neg hc, if_neg h1, if_pos h2]
      exact e1
    · rw [f_X11_puts_3, if_neg hc, if_pos h3]
      exact e2
    · rw [e5]
      show (σ.1 0 1 + 1).toInt + (m : Int) = _
      omega
    · refine FB.trans ?_ e7
      refine ⟨fun c h1 h2 => by rw [stI_ne h1, stI_ne h2], rfl, fun i hi => ?_⟩
      show upd (τ.1 0) 2 _ i = τ.1 0 i
      exact upd_no hi
theorem feed1 (p : Int32) (σ τ : ST) (hI : IA σ) (hf : FE σ τ) (hs : (σ.1 0 1).toInt + 4 ≤ 1000) : ∃ σ' τ', f_X10_feedFour p σ = some σ' ∧ f_X11_puts p τ = some τ' ∧ IA σ' ∧ FE σ' τ' ∧ (σ'.1 0 1).toInt = (σ.1 0 1).toInt + 4 ∧ (σ'.1 4 = σ.1 4 ∧ σ'.2.1 3 = σ.2.1 3) ∧ FB τ τ' := by
  have l24 : (24 : Int32).toInt = 24 := by decide
  exact feed4 4 FU p 24 σ τ (by rw [l24]; decide) (by decide) (by decide) hI hf hs
/-- feed: both sides answer alike -/
theorem feedAB (p0 p1 p2 p3 p4 : Int32) (σ τ : ST) (hI : IA σ) (hf : FE σ τ) : ∃ (v : Int32) (σ' τ' : ST), f_X10_feed p0 p1 p2 p3 p4 σ = some (v, σ') ∧ f_X11_feed p0 p1 p2 p3 p4 τ = some (v, τ') ∧ IA σ' ∧ FE σ' τ' ∧ (σ'.1 4 = σ.1 4 ∧ σ'.2.1 3 = σ.2.1 3) ∧ FB (stI τ 0 0 0) τ' ∧ (σ'.1 0 1).toInt ≤ (σ.1 0 1).toInt + 20 := by
  have g : 0 ≤ (σ.1 0 1).toInt ∧ (σ.1 0 1).toInt ≤ 1000 := hI.tape
  have l20 : (20 : Int32).toInt = 20 := by decide
  have hf0 : FE σ (stI τ 0 0 0) := ⟨hf.1, hf.2⟩
  obtain ⟨ak, a, al, ar⟩ := i_add (σ.1 0 1) 20
  try (refine k0el (k := ak) ?_ (fun e0 => ?_); (focus omega); subst e0)
  unfold f_X10_feed f_X11_feed
  have et : (stI τ 0 0 0).1 0 2 = σ.1 0 1 := hf.1.symm
  rw [et]
  by_cases h : σ.1 0 1 + 20 ≤ 1000
  · have h9 := il_le h
    rw [li_1000] at h9
    rw [if_pos h, if_pos h]
    generalize stI τ 0 0 0 = υ at hf0
    obtain ⟨s1, t1, a1, b1, i1, f1, n1, c1, d1⟩ := feed1 p0 σ υ hI hf0 (by omega)
    obtain ⟨s2, t2, a2, b2, i2, f2, n2, c2, d2⟩ := feed1 p1 s1 t1 i1 f1 (by omega)
    obtain ⟨s3, t3, a3, b3, i3, f3, n3, c3, d3⟩ := feed1 p2 s2 t2 i2 f2 (by omega)
    obtain ⟨s4, t4, a4, b4, i4, f4, n4, c4, d4⟩ := feed1 p3 s3 t3 i3 f3 (by omega)
    obtain ⟨s5, t5, a5, b5, i5, f5, n5, c5, d5⟩ := feed1 p4 s4 t4 i4 f4 (by omega)
    refine ⟨s5.1 0 1, s5, t5, ?_, ?_, i5, f5, ?_, ((((d1.trans d2).trans d3).trans d4).trans d5), by omega⟩
    · simp only [a1, a2, a3, a4, a5, Option.bind_some]
    · simp only [b1, b2, b3, b4, b5, Option.bind_some]
      rw [f5.1]
    · exact ⟨by rw [c5.1, c4.1, c3.1, c2.1, c1.1], by rw [c5.2, c4.2, c3.2, c2.2, c1.2]⟩
  · rw [if_neg h, if_neg h]
    exact ⟨-1, σ, stI τ 0 0 0, rfl, rfl, hI, hf0, ⟨rfl, rfl⟩, ⟨fun _ _ _ => rfl, rfl, fun _ _ => rfl⟩, by omega⟩
/-! THE REFERENCE'S SAFETY: what its functions leave as it is, and that they answer -/
theorem nC {x : Int32} {n : Nat} (h : x.toInt = (n : Int)) : x.toNatClampNeg = n := by
  have := nN_ (x := x) (by omega)
  omega
theorem mlE {k y : Int32} (kk : Int) (hk : k.toInt = kk) (h1 : -2147483648 ≤ kk * y.toInt) (h2 : kk * y.toInt < 2147483648) : (k * y).toInt = kk * y.toInt := by
  rw [il_mulE (by rw [hk]; exact h1) (by rw [hk]; exact h2), hk]
theorem stL_ne {σ : ST} {q i c : Nat} {v : Int64} (h : c ≠ q) : (stL σ q i v).2.1 c = σ.2.1 c := by
  show (bif Nat.beq c q then vp_updL (σ.2.1 c) i v else σ.2.1 c) = σ.2.1 c
  have hb : Nat.beq c q = false := by
    cases hb : Nat.beq c q with
    | false => rfl
    | true => exact absurd (Nat.eq_of_beq_eq_true hb) h
  rw [hb]; rfl
/-- what is another one at most: rows, and numbers of the object itself; the names stay -/
def CH (C I : List Nat) (σ τ : ST) : Prop := (∀ c, c ≠ 0 → c ∉ C → τ.1 c = σ.1 c) ∧ (∀ i, i ∉ I → τ.1 0 i = σ.1 0 i) ∧ τ.2.1 9 = σ.2.1 9 ∧ τ.2.1 12 = σ.2.1 12 ∧ τ.2.1 14 = σ.2.1 14 ∧ τ.2.1 17 = σ.2.1 17 ∧ τ.2.1 18 = σ.2.1 18
theorem CH.rf {C I : List Nat} {σ : ST} : CH C I σ σ := ⟨fun _ _ _ => rfl, fun _ _ => rfl, rfl, rfl, rfl, rfl, rfl⟩
theorem CH.trans {C I : List Nat} {σ τ υ : ST} (h : CH C I σ τ) (k : CH C I τ υ) : CH C I σ υ := ⟨fun c h0 hc => (k.1 c h0 hc).trans (h.1 c h0 hc), fun i hi => (k.2.1 i hi).trans (h.2.1 i hi), k.2.2.1.trans h.2.2.1, k.2.2.2.1.trans h.2.2.2.1, k.2.2.2.2.1.trans h.2.2.2.2.1, k.2.2.2.2.2.1.trans h.2.2.2.2.2.1, k.2.2.2.2.2.2.trans h.2.2.2.2.2.2⟩
theorem CH.mono {C I C' I' : List Nat} {σ τ : ST} (h : CH C I σ τ) (hC : ∀ c, c ∈ C → c ∈ C') (hI : ∀ c, c ∈ I → c ∈ I') : CH C' I' σ τ := ⟨fun c h0 hc => h.1 c h0 (fun h9 => hc (hC c h9)), fun i hi => h.2.1 i (fun h9 => hi (hI i h9)), h.2.2⟩
theorem CH.i {C I : List Nat} {σ τ : ST} (h : CH C I σ τ) {c i : Nat} {v : Int32} (h0 : c ≠ 0) (hc : c ∈ C) : CH C I σ (stI τ c i v) := ⟨fun d d0 dc => by rw [stI_ne (show d ≠ c from fun e => dc (by rw [e]; exact hc))]; exact h.1 d d0 dc, fun j hj => by rw [stI_ne (fun e => h0 e.symm)]; exact h.2.1 j hj, h.2.2⟩
theorem CH.o {C I : List Nat} {σ τ : ST} (h : CH C I σ τ) {i : Nat} {v : Int32} (hi : i ∈ I) : CH C I σ (stI τ 0 i v) := ⟨fun d d0 dc => by rw [stI_ne d0]; exact h.1 d d0 dc, fun j hj => by
  show upd (τ.1 0) i v j = _
  rw [upd_no (show j ≠ i from fun e => hj (by rw [e]; exact hi))]
  exact h.2.1 j hj, h.2.2⟩
theorem CH.l {C I : List Nat} {σ τ : ST} (h : CH C I σ τ) {c i : Nat} {v : Int64} (h9 : 9 ≠ c) (h12 : 12 ≠ c) (h14 : 14 ≠ c) (h17 : 17 ≠ c) (h18 : 18 ≠ c) : CH C I σ (stL τ c i v) := ⟨h.1, h.2.1, by rw [stL_ne h9]; exact h.2.2.1, by rw [stL_ne h12]; exact h.2.2.2.1, by rw [stL_ne h14]; exact h.2.2.2.2.1, by rw [stL_ne h17]; exact h.2.2.2.2.2.1, by rw [stL_ne h18]; exact h.2.2.2.2.2.2⟩
theorem CH.d {C I : List Nat} {σ τ : ST} (h : CH C I σ τ) {c i : Nat} {v : UInt64} : CH C I σ (stD τ c i v) := h
/-- an answer, what is another one at most, and more -/
def RC {α : Type} (C I : List Nat) (σ : ST) (Q : α → ST → Prop) (q : α × ST) : Prop := CH C I σ q.2 ∧ Q q.1 q.2
def RZ (C I : List Nat) (σ : ST) (Q : ST → Prop) (q : ST) : Prop := CH C I σ q ∧ Q q
theorem OK.cret {α : Type} {C I : List Nat} {σ s : ST} {v : α} {Q : α → ST → Prop} (h : CH C I σ s) (hq : Q v s) : OK (some (v, s)) (RC C I σ Q) := ⟨_, rfl, h, hq⟩
theorem OK.zret {C I : List Nat} {σ s : ST} {Q : ST → Prop} (h : CH C I σ s) (hq : Q s) : OK (some s) (RZ C I σ Q) := ⟨_, rfl, h, hq⟩
theorem OK.bndC {α β : Type} {C I : List Nat} {o : Option (α × ST)} {f : α × ST → Option β} {s : ST} {Q : α → ST → Prop} {P : β → Prop} (h : OK o (RC C I s Q)) (k : ∀ (v : α) (t : ST), CH C I s t → Q v t → OK (f (v, t)) P) : OK (o.bind f) P := by
  obtain ⟨⟨v, t⟩, e, h1, h2⟩ := h
  rw [e]; exact k v t h1 h2
theorem OK.bndZ {β : Type} {C I : List Nat} {o : Option ST} {f : ST → Option β} {s : ST} {Q : ST → Prop} {P : β → Prop} (h : OK o (RZ C I s Q)) (k : ∀ (t : ST), CH C I s t → Q t → OK (f t) P) : OK (o.bind f) P := by
  obtain ⟨t, e, h1, h2⟩ := h
  rw [e]; exact k t h1 h2
theorem OK.trC {α : Type} {C I C' I' : List Nat} {o : Option (α × ST)} {s σ : ST} {Q R : α → ST → Prop} (h : OK o (RC C' I' s Q)) (hs : CH C I σ s) (hC : ∀ c, c ∈ C' → c ∈ C) (hI : ∀ c, c ∈ I' → c ∈ I) (k : ∀ v t, CH C' I' s t → Q v t → R v t) : OK o (RC C I σ R) := h.mono (fun q hq => ⟨hs.trans (hq.1.mono hC hI), k q.1 q.2 hq.1 hq.2⟩)
theorem OK.trZ {C I C' I' : List Nat} {o : Option ST} {s σ : ST} {Q R : ST → Prop} (h : OK o (RZ C' I' s Q)) (hs : CH C I σ s) (hC : ∀ c, c ∈ C' → c ∈ C) (hI : ∀ c, c ∈ I' → c ∈ I) (k : ∀ t, CH C' I' s t → Q t → R t) : OK o (RZ C I σ R) := h.mono (fun q hq => ⟨hs.trans (hq.1.mono hC hI), k q hq.1 hq.2⟩)
theorem i64 (x : Int32) : x.toInt64.toInt = x.toInt := Int32.toInt_toInt64 x
theorem l64_0 : (0 : Int64).toInt = 0 := by decide
theorem l64_1 : (1 : Int64).toInt = 1 := by decide
theorem l64_3 : (3 : Int64).toInt = 3 := by decide
theorem l64_4 : (4 : Int64).toInt = 4 := by decide
theorem l64_12 : (12 : Int64).toInt = 12 := by decide
theorem l64_200 : (200 : Int64).toInt = 200 := by decide
theorem li_72 : (72 : Int32).toInt = 72 := by decide
theorem li_288 : (288 : Int32).toInt = 288 := by decide
theorem li_799 : (799 : Int32).toInt = 799 := by decide
theorem li_m3 : (-3 : Int32).toInt = -3 := by decide
theorem li_m2 : (-2 : Int32).toInt = -2 := by decide
theorem FUi : ((FU : Nat) : Int) = 100000 := rfl
theorem FRi : ((FRB : Nat) : Int) = 340 := rfl
theorem b_within (p0 p1 p2 : Int64) (σ : ST) : OK (f_X11_within p0 p1 p2 σ) (RO σ fun v => v.toInt = 0 ∧ ¬ (p1.toInt ≤ p0.toInt ∧ p0.toInt ≤ p2.toInt) ∨ v.toInt = 1 ∧ p1.toInt ≤ p0.toInt ∧ p0.toInt ≤ p2.toInt) := by
  unfold f_X11_within
  have lt_0 := li_0
  have lt_1 := li_1
  refine OK.ite (fun h => ?_) (fun h => OK.ite (fun k => ?_) (fun k => ?_))
  · have := Int64.lt_iff_toInt_lt.mp ((lg_cmp_lt _ _).mp h)
    exact OK.roret (by omega)
  · rw [lg_cmp_lt, Int64.lt_iff_toInt_lt] at h
    have := Int64.lt_iff_toInt_lt.mp ((lg_cmp_gt _ _).mp k)
    exact OK.roret (by omega)
  · rw [lg_cmp_lt, Int64.lt_iff_toInt_lt] at h
    rw [lg_cmp_gt, Int64.lt_iff_toInt_lt] at k
    exact OK.roret (by omega)
theorem b_isMessage (p0 : Int32) (σ : ST) : OK (f_X11_isMessage p0 σ) (RO σ fun v => v.toInt = 0 ∨ v.toInt = 1 ∧ (0 ≤ p0.toInt ∧ p0.toInt < 4) ∧ 0 ≤ (σ.1 32 p0.toNatClampNeg).toInt) := by
  unfold f_X11_isMessage
  have lt_0 := li_0
  have lt_1 := li_1
  have e := i64 p0
  have l0 := l64_0
  have l3 := l64_3
  refine OK.bndR (b_within _ _ _ _) (fun v hv => ?_)
  dsimp only
  refine OK.ieq (fun h => OK.roret (by omega)) (fun h => ?_)
  refine OK.grd ⟨by omega, by omega⟩ ?_
  exact OK.ilt (fun h => OK.roret (by omega)) (fun h => OK.roret (by omega))
theorem b_isPlanAt (p0 : Int32) (σ : ST) (hp : bI (σ.1 0 32) 0 6) : OK (f_X11_isPlanAt p0 σ) (RO σ fun v => v.toInt = 0 ∧ ¬ (0 ≤ p0.toInt ∧ p0.toInt < (σ.1 0 32).toInt) ∨ v.toInt = 1 ∧ 0 ≤ p0.toInt ∧ p0.toInt < (σ.1 0 32).toInt) := by
  unfold f_X11_isPlanAt
  obtain ⟨hp1, hp2⟩ := hp
  have lt_1 := li_1
  have e1 := il_subE (x := σ.1 0 32) (y := 1) (by omega) (by omega)
  have e := i64 p0
  have e2 := i64 (σ.1 0 32 - 1)
  have l0 := l64_0
  refine OK.bndR (b_within _ _ _ _) (fun v hv => ?_)
  dsimp only
  refine OK.grd (b01 (by omega)) ?_
  exact OK.roret (by omega)
theorem b_isByte (p0 p1 : Int32) (σ : ST) (hm : ∀ i, bI (σ.1 33 i) 0 400) : OK (f_X11_isByte p0 p1 σ) (RO σ fun v => v.toInt = 0 ∨ v.toInt = 1 ∧ (0 ≤ p0.toInt ∧ p0.toInt < 4) ∧ 0 ≤ p1.toInt ∧ p1.toInt < 400) := by
  unfold f_X11_isByte
  have lt_0 := li_0
  have lt_1 := li_1
  have l0 := l64_0
  obtain ⟨h1, h2⟩ := hm p0.toNatClampNeg
  have e1 := il_subE (x := σ.1 33 p0.toNatClampNeg) (y := 1) (by omega) (by omega)
  have e := i64 p1
  have e2 := i64 (σ.1 33 p0.toNatClampNeg - 1)
  refine OK.bndR (b_isMessage _ _) (fun v hv => ?_)
  dsimp only
  refine OK.ieq (fun h => OK.roret (by omega)) (fun h => ?_)
  refine OK.grd ⟨by omega, by omega⟩ ?_
  refine OK.bndR (b_within _ _ _ _) (fun w hw => ?_)
  dsimp only
  exact OK.ieq (fun h => OK.roret (by omega)) (fun h => OK.roret (by omega))
theorem b_fieldOf_3 : ∀ (n : Nat) (x1 : Int32) (x2 : Int64) (x4 : Int32) (σ : ST), (0 ≤ x1.toInt ∧ x1.toInt < 72) → bI (σ.1 11 x1.toNatClampNeg) 0 8 → (0 ≤ x4.toInt ∧ x4.toInt ≤ 8 ∧ (8 : Int) - x4.toInt < n) → OK (f_X11_fieldOf_3 n x1 x2 x4 σ) (RO σ fun v => v.toInt = -1 ∨ ∃ j : Nat, (j : Int) < (σ.1 11 x1.toNatClampNeg).toInt ∧ v.toInt = 8 * x1.toInt + j) := by
  intro n
  induction n with
  | zero => intro x1 x2 x4 σ h1 h2 h3; omega
  | succ n ih =>
    intro x1 x2 x4 σ h1 h2 h3
    rw [f_X11_fieldOf_3]
    have h2' := h2
    obtain ⟨a1, a2⟩ := h2
    have lt_1 := li_1
    have lt_8 := li_8
    have lt_m := li_m1
    have e1 := mlE (k := 8) (y := x1) 8 li_8 (by omega) (by omega)
    have e2 := il_addE (x := 8 * x1) (y := x4) (by omega) (by omega)
    have e3 := il_addE (x := x4) (y := 1) (by omega) (by omega)
    refine OK.grd ⟨by omega, by omega⟩ ?_
    refine OK.ile (fun h => OK.roret (.inl (by omega))) (fun h => ?_)
    refine OK.grd ⟨by omega, by omega⟩ ?_
    refine OK.ieq (fun h => OK.roret (.inr ⟨x4.toInt.toNat, by omega, by omega⟩)) (fun _ => ?_)
    exact ih x1 x2 (x4 + 1) σ h1 h2' (by omega)
theorem b_fieldOf (p0 : Int32) (p1 : Int64) (σ : ST) (h1 : 0 ≤ p0.toInt ∧ p0.toInt < 72) (h2 : bI (σ.1 11 p0.toNatClampNeg) 0 8) : OK (f_X11_fieldOf p0 p1 σ) (RO σ fun v => v.toInt = -1 ∨ ∃ j : Nat, (j : Int) < (σ.1 11 p0.toNatClampNeg).toInt ∧ v.toInt = 8 * p0.toInt + j) := by
  have lt_0 := li_0
  have lu := FUi
  exact b_fieldOf_3 FU p0 p1 0 σ h1 h2 (by omega)
theorem b_fieldFor (p0 p1 : Int32) (σ : ST) (h1 : 0 ≤ p1.toInt ∧ p1.toInt < 576) (h0 : 0 ≤ p0.toInt ∧ p0.toInt < 6) (hw : bI (σ.1 0 53) 0 5) (h2 : bI (σ.1 11 (6 * (σ.1 0 53).toNatClampNeg + p0.toNatClampNeg)) 0 8) : OK (f_X11_fieldFor p0 p1 σ) (RO σ fun v => v.toInt = -1 ∨ ∃ j : Nat, (j : Int) < (σ.1 11 (6 * (σ.1 0 53).toNatClampNeg + p0.toNatClampNeg)).toInt ∧ v.toInt = 8 * (6 * (σ.1 0 53).toInt + p0.toInt) + j) := by
  unfold f_X11_fieldFor
  obtain ⟨w1, w2⟩ := hw
  have lt_0 := li_0
  have lt_6 := li_6
  have e1 := mlE (k := 6) (y := σ.1 0 53) 6 li_6 (by omega) (by omega)
  have e2 := il_addE (x := 6 * σ.1 0 53) (y := p0) (by omega) (by omega)
  have n1 := nN_ (x := σ.1 0 53) w1
  have n2 := nN_ (x := p0) h0.1
  have e3 : (6 * σ.1 0 53 + p0).toNatClampNeg = 6 * (σ.1 0 53).toNatClampNeg + p0.toNatClampNeg := nC (by omega)
  have hf : ∀ x : Int64, OK (f_X11_fieldOf (6 * σ.1 0 53 + p0) x σ) (RO σ fun v => v.toInt = -1 ∨ ∃ j : Nat, (j : Int) < (σ.1 11 (6 * (σ.1 0 53).toNatClampNeg + p0.toNatClampNeg)).toInt ∧ v.toInt = 8 * (6 * (σ.1 0 53).toInt + p0.toInt) + j) := fun x => by
    refine (b_fieldOf _ x σ (by omega) (by rw [e3]; exact h2)).roq (fun v hv => ?_)
    rw [e3] at hv
    rcases hv with hv | ⟨j, j1, j2⟩
    · exact .inl hv
    · exact .inr ⟨j, j1, by omega⟩
  refine OK.grd ⟨by omega, by omega⟩ ?_
  refine OK.bndR (hf _) (fun v hv => ?_)
  dsimp only
  refine OK.ile (fun h => OK.roret hv) (fun h => ?_)
  refine OK.ile (fun h => OK.roret hv) (fun h => ?_)
  refine OK.bndR (hf _) (fun w hw => ?_)
  exact OK.roret hw
theorem b_namesMay (p0 p1 : Int32) (σ : ST) (h0 : 0 ≤ p0.toInt ∧ p0.toInt < 6) (h1 : 0 ≤ p1.toInt ∧ p1.toInt < 6) (hw : bI (σ.1 0 53) 0 5) (hr : bI (σ.1 0 54) 0 5) : OK (f_X11_namesMay p0 p1 σ) (RO σ fun v => v.toInt = 0 ∨ v.toInt = 1) := by
  obtain ⟨w1, w2⟩ := hw
  obtain ⟨r1, r2⟩ := hr
  have lt_0 := li_0
  have lt_1 := li_1
  have lt_6 := li_6
  have e1 := mlE (k := 6) (y := σ.1 0 53) 6 li_6 (by omega) (by omega)
  have e2 := il_addE (x := 6 * σ.1 0 53) (y := p0) (by omega) (by omega)
  have e3 := mlE (k := 6) (y := σ.1 0 54) 6 li_6 (by omega) (by omega)
  have e4 := il_addE (x := 6 * σ.1 0 54) (y := p1) (by omega) (by omega)
  have h8 : OK (f_X11_namesMay_8 p0 p1 σ) (RO σ fun v => v.toInt = 0 ∨ v.toInt = 1) := by
    unfold f_X11_namesMay_8 f_X11_namesMay_40
    refine OK.grd ⟨by omega, by omega⟩ ?_
    refine OK.grd ⟨by omega, by omega⟩ ?_
    exact OK.ieq (fun _ => OK.roret (by omega)) (fun _ => OK.roret (by omega))
  unfold f_X11_namesMay f_X11_namesMay_40
  refine OK.ieq (fun _ => ?_) (fun _ => h8)
  exact OK.ieq (fun _ => OK.roret (by omega)) (fun _ => h8)
theorem b_enters (p0 : Int32) (σ : ST) (h : 0 ≤ (σ.1 0 57).toInt ∧ (σ.1 0 57).toInt < 256) : OK (f_X11_enters p0 σ) (RZ [36] [57] σ fun t => (t.1 0 57).toInt = (σ.1 0 57).toInt + 1) := by
  unfold f_X11_enters
  have lt_1 := li_1
  have e1 := il_addE (x := σ.1 0 57) (y := 1) (by omega) (by omega)
  refine OK.grd h ?_
  exact OK.zret ((CH.rf.i (by decide) (by decide)).o (by decide)) (by show (σ.1 0 57 + 1).toInt = _; omega)
theorem b_fails_36 : ∀ (n : Nat) (x3 : Int32) (σ : ST), bI (σ.1 0 68) 0 256 → (0 ≤ x3.toInt ∧ x3.toInt ≤ 256 ∧ (256 : Int) - x3.toInt < n) → OK (f_X11_fails_36 n x3 σ) (RC [41] [] σ fun v _ => v.toInt = 0) := by
  intro n
  induction n with
  | zero => intro x3 σ h1 h3; omega
  | succ n ih =>
    intro x3 σ h1 h3
    rw [f_X11_fails_36]
    have h1' := h1
    obtain ⟨a1, a2⟩ := h1
    have lt_0 := li_0
    have lt_1 := li_1
    have e3 := il_addE (x := x3) (y := 1) (by omega) (by omega)
    refine OK.ile (fun h => OK.cret CH.rf (by omega)) (fun h => ?_)
    refine OK.grd ⟨by omega, by omega⟩ ?_
    exact OK.trC (ih (x3 + 1) _ h1' (by omega)) (CH.rf.i (by decide) (by decide)) (fun _ h => h) (fun _ h => h) (fun _ _ _ h => h)
theorem b_fails (p0 p1 : Int32) (σ : ST) (hs : bI (σ.1 0 57) 0 256) : OK (f_X11_fails p0 p1 σ) (RC [41] [66, 67, 68] σ fun v t => v.toInt = 0 ∧ bI (t.1 0 68) 0 256) := by
  unfold f_X11_fails f_X11_fails_23
  have lt_0 := li_0
  have lu := FUi
  have key : ∀ (y0 : Int32) (s : ST), CH [41] [66, 67, 68] σ s → bI y0 0 256 → OK (f_X11_fails_31 y0 s) (RC [41] [66, 67, 68] σ fun v t => v.toInt = 0 ∧ bI (t.1 0 68) 0 256) := fun y0 s c hy => by
    unfold f_X11_fails_31
    refine OK.trC (b_fails_36 FU 0 (stI s 0 68 y0) hy (by omega)) (c.o (by decide)) (fun _ h => h) (fun _ h => by cases h) (fun v t ct h => ⟨h, ?_⟩)
    rw [ct.2.1 68 (by decide)]
    exact hy
  have c : CH [41] [66, 67, 68] σ (stI (stI σ 0 66 p0) 0 67 p1) := (CH.rf.o (by decide)).o (by decide)
  refine OK.ieq (fun _ => key _ _ c (bz (by decide) (by decide))) (fun _ => ?_)
  refine OK.ieq (fun _ => key _ _ c (bz (by decide) (by decide))) (fun _ => ?_)
  exact key _ _ c hs
/-! the reference: bytes read -/
theorem fails36_l : ∀ (n : Nat) (x3 : Int32) (σ : ST) (q : Int32 × ST), f_X11_fails_36 n x3 σ = some q → q.2.2 = σ.2 := by
  intro n
  induction n with
  | zero => intro x3 σ q h; cases h
  | succ n ih =>
    intro x3 σ q h
    rw [f_X11_fails_36] at h
    split at h
    · cases h; rfl
    · obtain ⟨_, h⟩ := ig h
      have := ih _ _ _ h
      exact this
theorem fails_l (p0 p1 : Int32) (σ : ST) (q : Int32 × ST) (h : f_X11_fails p0 p1 σ = some q) : q.2.2 = σ.2 := by
  unfold f_X11_fails f_X11_fails_23 f_X11_fails_31 at h
  split at h
  · have h2 := fails36_l _ _ _ _ h
    exact h2
  · split at h
    · have h2 := fails36_l _ _ _ _ h
      exact h2
    · have h2 := fails36_l _ _ _ _ h
      exact h2
theorem b_dtl (p0 : UInt64) (σ : ST) : OK (f_Jxe99ae_doubleToLongBits_ccdee p0 σ) (RO σ fun _ => True) := by
  unfold f_Jxe99ae_doubleToLongBits_ccdee f_Jxe99ae_isNaN_b9ae7
  refine OK.bndR (s := σ) (Q := fun _ => True) ?_ (fun v _ => ?_)
  · exact OK.ite (fun _ => OK.roret trivial) (fun _ => OK.roret trivial)
  · exact OK.ite (fun _ => OK.roret trivial) (fun _ => OK.roret trivial)
def RD (σ : ST) : Prop := (0 ≤ (σ.1 0 63).toInt ∧ 0 ≤ (σ.1 0 64).toInt ∧ (σ.1 0 64).toInt ≤ (σ.1 0 65).toInt ∧ (σ.1 0 63).toInt + (σ.1 0 65).toInt ≤ 1600) ∧ bI (σ.1 0 57) 0 256 ∧ bI (σ.1 0 68) 0 256
theorem RD.of {σ t : ST} (h : RD σ) (e57 : t.1 0 57 = σ.1 0 57) (e63 : t.1 0 63 = σ.1 0 63) (e64 : t.1 0 64 = σ.1 0 64) (e65 : t.1 0 65 = σ.1 0 65) (h68 : bI (t.1 0 68) 0 256) : RD t := by
  unfold RD
  rw [e57, e63, e64, e65]
  exact ⟨h.1, h.2.1, h68⟩
theorem RD.fails {p0 p1 : Int32} {σ s : ST} {C I : List Nat} (hs : RD s) (c : CH C I σ s) (h41 : 41 ∈ C) (h66 : 66 ∈ I) (h67 : 67 ∈ I) (h68 : 68 ∈ I) : OK (f_X11_fails p0 p1 s) (RC C I σ fun v t => v.toInt = 0 ∧ RD t ∧ t.2.1 0 = s.2.1 0) := by
  have h := b_fails p0 p1 s hs.2.1
  refine OK.mono (P := fun q : Int32 × ST => RC [41] [66, 67, 68] s (fun v t => v.toInt = 0 ∧ bI (t.1 0 68) 0 256) q ∧ q.2.2 = s.2) ?_ (fun q hq => ?_)
  · obtain ⟨q, e, hq⟩ := h
    refine ⟨q, e, hq, ?_⟩
    exact fails_l _ _ _ _ e
  · obtain ⟨⟨hc, h1, h2⟩, h3⟩ := hq
    refine ⟨c.trans (hc.mono (fun x hx => ?_) (fun x hx => ?_)), h1, hs.of (hc.2.1 57 (by decide)) (hc.2.1 63 (by decide)) (hc.2.1 64 (by decide)) (hc.2.1 65 (by decide)) h2, by rw [h3]⟩
    · rcases List.mem_singleton.mp hx with rfl; exact h41
    · rcases List.mem_cons.mp hx with rfl | hx
      · exact h66
      · rcases List.mem_cons.mp hx with rfl | hx
        · exact h67
        · rcases List.mem_singleton.mp hx with rfl; exact h68
theorem b_nextByte (σ : ST) (h : RD σ) : OK (f_X11_nextByte σ) (RC [41] [64, 66, 67, 68] σ fun _ t => RD t ∧ t.2.1 0 = σ.2.1 0) := by
  unfold f_X11_nextByte
  have h' := h
  obtain ⟨⟨h1, h2, h3, h4⟩, h5, h6⟩ := h
  have lt_1 := li_1
  refine OK.ieq (fun e => ?_) (fun e => ?_)
  · refine OK.bndC (RD.fails h' CH.rf (C := [41]) (I := [64, 66, 67, 68]) (by decide) (by decide) (by decide) (by decide)) (fun v t c hq => ?_)
    exact OK.cret c hq.2
  · have a1 := il_addE (x := σ.1 0 64) (y := 1) (by omega) (by omega)
    have a2 := il_addE (x := σ.1 0 63) (y := σ.1 0 64 + 1) (by omega) (by omega)
    have a3 := il_subE (x := σ.1 0 63 + (σ.1 0 64 + 1)) (y := 1) (by omega) (by omega)
    refine OK.grd (show 0 ≤ (σ.1 0 63 + (σ.1 0 64 + 1) - 1).toInt ∧ (σ.1 0 63 + (σ.1 0 64 + 1) - 1).toInt < 1600 from ⟨by omega, by omega⟩) ?_
    refine OK.cret (CH.rf.o (by decide)) ⟨⟨?_, h5, h6⟩, rfl⟩
    show 0 ≤ (σ.1 0 63).toInt ∧ 0 ≤ (σ.1 0 64 + 1).toInt ∧ (σ.1 0 64 + 1).toInt ≤ (σ.1 0 65).toInt ∧ (σ.1 0 63).toInt + (σ.1 0 65).toInt ≤ 1600
    omega
theorem b_readsNumber_5 : ∀ (n : Nat) (x1 : Int32) (x2 : Int64) (x4 : Int32) (σ : ST), RD σ → (0 ≤ x4.toInt ∧ x4.toInt ≤ 10 ∧ (10 : Int) - x4.toInt < n) → OK (f_X11_readsNumber_5 n x1 x2 x4 σ) (RC [41] [64, 66, 67, 68] σ fun v t => (v.toInt = 0 ∨ v.toInt = 1) ∧ RD t) := by
  intro n
  induction n with
  | zero => intro x1 x2 x4 σ h1 h3; omega
  | succ n ih =>
    intro x1 x2 x4 σ hR h3
    rw [f_X11_readsNumber_5]
    have lt_0 := li_0
    have lt_1 := li_1
    have lt_10 := li_10
    refine OK.ile (fun h => OK.cret CH.rf ⟨by omega, hR⟩) (fun h => ?_)
    have e3 := il_addE (x := x4) (y := 1) (by omega) (by omega)
    refine OK.bndC (b_nextByte σ hR) (fun v t c hq => ?_)
    dsimp only
    have h46 : OK (f_X11_readsNumber_46 (f_X11_readsNumber_5 n) x1 x2 x4 v t) (RC [41] [64, 66, 67, 68] σ fun v t => (v.toInt = 0 ∨ v.toInt = 1) ∧ RD t) := by
      unfold f_X11_readsNumber_46
      refine OK.ile (fun _ => ?_) (fun _ => ?_)
      · exact OK.trC (ih _ _ _ _ hq.1 (by omega)) c (fun _ h => h) (fun _ h => h) (fun _ _ _ h => h)
      · refine OK.lt (fun z hz => ?_)
        subst hz
        exact OK.cret (c.l (by decide) (by decide) (by decide) (by decide) (by decide)) ⟨by omega, hq.1⟩
    refine OK.ile (fun _ => ?_) (fun _ => OK.cret c ⟨by omega, hq.1⟩)
    refine OK.ieq (fun _ => ?_) (fun _ => h46)
    refine OK.ile (fun _ => h46) (fun _ => ?_)
    refine OK.bndC (RD.fails hq.1 c (by decide) (by decide) (by decide) (by decide)) (fun w u cu hu => ?_)
    dsimp only
    refine OK.grd (b01 (by omega)) ?_
    exact OK.cret cu ⟨by omega, hu.2.1⟩
theorem b_readsNumber (p0 : Int32) (σ : ST) (h : RD σ) : OK (f_X11_readsNumber p0 σ) (RC [41] [64, 66, 67, 68] σ fun v t => (v.toInt = 0 ∨ v.toInt = 1) ∧ RD t) := by
  have lt_0 := li_0
  have lu := FUi
  exact b_readsNumber_5 FU _ _ _ _ h (by omega)
theorem b_readsInt (p0 : Int32) (p1 p2 : Int64) (σ : ST) (h : RD σ) : OK (f_X11_readsInt p0 p1 p2 σ) (RC [41] [64, 66, 67, 68] σ fun v t => RD t ∧ (v.toInt = 0 ∨ v.toInt = 1 ∧ p1.toInt ≤ (t.2.1 0 70).toInt ∧ (t.2.1 0 70).toInt ≤ p2.toInt)) := by
  unfold f_X11_readsInt f_X11_readsInt_31
  have lt_0 := li_0
  have lt_1 := li_1
  refine OK.bndC (b_readsNumber p0 σ h) (fun v t c hq => ?_)
  dsimp only
  refine OK.ieq (fun _ => OK.cret c ⟨hq.2, by omega⟩) (fun _ => ?_)
  refine OK.bndR (b_within _ _ _ _) (fun w hw => ?_)
  dsimp only
  refine OK.ieq (fun _ => ?_) (fun _ => OK.cret c ⟨hq.2, by omega⟩)
  refine OK.bndC (RD.fails hq.2 c (by decide) (by decide) (by decide) (by decide)) (fun w u cu hu => ?_)
  dsimp only
  exact OK.ieq (fun _ => OK.cret cu ⟨hu.2.1, by omega⟩) (fun _ => by omega)
theorem b_readsFlag (p0 : Int32) (σ : ST) (h : RD σ) : OK (f_X11_readsFlag p0 σ) (RC [41] [64, 66, 67, 68] σ fun v t => RD t ∧ (v.toInt = 0 ∨ v.toInt = 1)) := by
  unfold f_X11_readsFlag f_X11_readsFlag_30
  have lt_0 := li_0
  have lt_1 := li_1
  refine OK.bndC (b_nextByte σ h) (fun v t c hq => ?_)
  dsimp only
  have c1 := c.l (c := 0) (i := 70) (v := v.toInt64) (by decide) (by decide) (by decide) (by decide) (by decide)
  refine OK.ilt (fun _ => OK.cret c1 ⟨hq.1, by omega⟩) (fun _ => ?_)
  refine OK.ilt (fun _ => OK.cret c1 ⟨hq.1, by omega⟩) (fun _ => ?_)
  refine OK.bndC (RD.fails (s := stL t 0 70 v.toInt64) hq.1 c1 (by decide) (by decide) (by decide) (by decide)) (fun w u cu hu => ?_)
  dsimp only
  exact OK.ieq (fun _ => OK.cret cu ⟨hu.2.1, by omega⟩) (fun _ => OK.cret cu ⟨hu.2.1, by omega⟩)
theorem b_readsReal_7 : ∀ (n : Nat) (x1 : Int32) (σ : ST), RD σ → (0 ≤ x1.toInt ∧ x1.toInt ≤ 8 ∧ (8 : Int) - x1.toInt < n) → OK (f_X11_readsReal_7 n x1 σ) (RC [41] [64, 66, 67, 68] σ fun v t => RD t ∧ (v.toInt = 0 ∨ v.toInt = 1)) := by
  intro n
  induction n with
  | zero => intro x1 σ h1 h3; omega
  | succ n ih =>
    intro x1 σ hR h3
    rw [f_X11_readsReal_7]
    have lt_0 := li_0
    have lt_1 := li_1
    have lt_8 := li_8
    refine OK.ile (fun h => OK.cret CH.rf ⟨hR, by omega⟩) (fun h => ?_)
    have e3 := il_addE (x := x1) (y := 1) (by omega) (by omega)
    refine OK.bndC (b_nextByte σ hR) (fun v t c hq => ?_)
    dsimp only
    refine OK.ile (fun _ => ?_) (fun _ => OK.cret c ⟨hq.1, by omega⟩)
    exact OK.trC (ih _ _ (by exact hq.1) (by omega)) (c.l (by decide) (by decide) (by decide) (by decide) (by decide)) (fun _ h => h) (fun _ h => h) (fun _ _ _ h => h)
theorem b_readsReal (σ : ST) (h : RD σ) : OK (f_X11_readsReal σ) (RC [41] [64, 66, 67, 68] σ fun v t => RD t ∧ (v.toInt = 0 ∨ v.toInt = 1)) := by
  have lt_0 := li_0
  have lu := FUi
  unfold f_X11_readsReal
  exact OK.trC (b_readsReal_7 FU 0 (stL σ 0 70 0) h (by omega)) (CH.rf.l (by decide) (by decide) (by decide) (by decide) (by decide)) (fun _ h => h) (fun _ h => h) (fun _ _ _ h => h)
theorem b_isLetter (p0 : Int32) (σ : ST) : OK (f_X11_isLetter p0 σ) (RO σ fun v => v.toInt = 0 ∧ ¬ (97 ≤ p0.toInt ∧ p0.toInt ≤ 122) ∨ v.toInt = 1 ∧ 97 ≤ p0.toInt ∧ p0.toInt ≤ 122) := by
  unfold f_X11_isLetter
  have e := i64 p0
  have l1 : (97 : Int64).toInt = 97 := by decide
  have l2 : (122 : Int64).toInt = 122 := by decide
  refine OK.bndR (b_within _ _ _ _) (fun v hv => ?_)
  dsimp only
  refine OK.grd (b01 (by omega)) ?_
  exact OK.roret (by omega)
theorem i32s {x : Int64} (h0 : 0 ≤ x.toInt) (h : x.toInt ≤ 100000) : x.toInt32.toInt = x.toInt := by
  obtain ⟨k, hk⟩ := i_bm x.toInt
  have hr := i_rng x.toInt32
  rw [Int64.toInt_toInt32] at hr ⊢
  omega
theorem b_readsText_32 : ∀ (n : Nat) (x1 x2 x3 : Int32) (σ : ST), RD σ → (0 ≤ x3.toInt ∧ x3.toInt ≤ 12 ∧ x2.toInt ≤ 12 ∧ (12 : Int) - x3.toInt < n) → OK (f_X11_readsText_32 n x1 x2 x3 σ) (RC [41] [64, 66, 67, 68] σ fun v t => RD t ∧ (v.toInt = 0 ∨ v.toInt = 1)) := by
  intro n
  induction n with
  | zero => intro x1 x2 x3 σ h1 h3; omega
  | succ n ih =>
    intro x1 x2 x3 σ hR h3
    rw [f_X11_readsText_32]
    have lt_0 := li_0
    have lt_1 := li_1
    refine OK.ile (fun h => OK.cret CH.rf ⟨hR, by omega⟩) (fun h => ?_)
    have e3 := il_addE (x := x3) (y := 1) (by omega) (by omega)
    refine OK.bndC (b_nextByte σ hR) (fun v t c hq => ?_)
    dsimp only
    refine OK.ile (fun _ => ?_) (fun _ => OK.cret c ⟨hq.1, by omega⟩)
    refine OK.bndR (b_isLetter _ _) (fun w hw => ?_)
    dsimp only
    refine OK.ieq (fun _ => ?_) (fun _ => ?_)
    · refine OK.bndC (RD.fails hq.1 c (by decide) (by decide) (by decide) (by decide)) (fun w u cu hu => ?_)
      dsimp only
      refine OK.grd (b01 (by omega)) ?_
      exact OK.cret cu ⟨hu.2.1, by omega⟩
    · exact OK.trC (ih _ _ _ _ (by exact hq.1) (by omega)) (c.l (by decide) (by decide) (by decide) (by decide) (by decide)) (fun _ h => h) (fun _ h => h) (fun _ _ _ h => h)
theorem b_readsText (p0 : Int32) (σ : ST) (h : RD σ) : OK (f_X11_readsText p0 σ) (RC [41] [64, 66, 67, 68, 72] σ fun v t => RD t ∧ (v.toInt = 0 ∨ v.toInt = 1 ∧ bI (t.1 0 72) 0 12)) := by
  unfold f_X11_readsText
  have lt_0 := li_0
  have lu := FUi
  have l0 := l64_0
  have l12 := l64_12
  refine OK.bndC (b_readsInt p0 0 12 σ h) (fun v t c hq => ?_)
  dsimp only
  have c1 : CH [41] [64, 66, 67, 68, 72] σ t := c.mono (fun _ h => h) (by decide)
  refine OK.ieq (fun _ => OK.cret c1 ⟨hq.1, .inl (by omega)⟩) (fun _ => ?_)
  have hb : 0 ≤ (t.2.1 0 70).toInt ∧ (t.2.1 0 70).toInt ≤ 12 := by omega
  have e1 := i32s hb.1 (by omega)
  refine OK.trC (b_readsText_32 FU p0 (t.2.1 0 70).toInt32 0 (stI (stL t 0 71 0) 0 72 (t.2.1 0 70).toInt32) ?_ (by omega)) ((c1.l (by decide) (by decide) (by decide) (by decide) (by decide)).o (by decide)) (fun _ h => h) (by decide) (fun w u cu hu => ⟨hu.1, ?_⟩)
  · exact hq.1.of rfl rfl rfl rfl hq.1.2.2
  · rcases hu.2 with hu | hu
    · exact .inl hu
    · refine .inr ⟨hu, ?_⟩
      rw [cu.2.1 72 (by decide)]
      show bI (t.2.1 0 70).toInt32 0 12
      exact ⟨by omega, by omega⟩
/-- a node's own bytes: what it is worth; of a text how many letters -/
theorem b_readsLeaf (p0 p1 p2 : Int32) (σ : ST) (h : RD σ) (h0 : 0 ≤ p0.toInt ∧ p0.toInt < 800) (h2 : p2.toInt < 0 ∨ (0 ≤ p1.toInt ∧ p1.toInt < 800) ∧ p2.toInt < 4096) : OK (f_X11_readsLeaf p0 p1 p2 σ) (RC [41, 23] [64, 66, 67, 68, 72] σ fun v t => RD t ∧ (v.toInt = 0 ∨ v.toInt = 1) ∧ (t.1 23 = σ.1 23 ∨ 0 ≤ p2.toInt ∧ ∃ y, bI y 0 12 ∧ t.1 23 = upd (σ.1 23) p2.toNatClampNeg y)) := by
  have lt_0 := li_0
  have lt_1 := li_1
  have lt_5 := li_5
  have lt_2 := li_2
  have lt_3 := li_3
  have lt_4 := li_4
  have k229 : ∀ (x5 y0 : Int32) (s : ST), (x5.toInt = 0 ∨ x5.toInt = 1) → CH [41, 23] [64, 66, 67, 68, 72] σ s → RD s → s.1 23 = σ.1 23 → 0 ≤ p2.toInt → bI y0 0 12 → OK (f_X11_readsLeaf_229 x5 y0 p2 s) (RC [41, 23] [64, 66, 67, 68, 72] σ fun v t => RD t ∧ (v.toInt = 0 ∨ v.toInt = 1) ∧ (t.1 23 = σ.1 23 ∨ 0 ≤ p2.toInt ∧ ∃ y, bI y 0 12 ∧ t.1 23 = upd (σ.1 23) p2.toNatClampNeg y)) := fun x5 y0 s h5 c hR e23 hp hy => by
    unfold f_X11_readsLeaf_229
    refine OK.grd ⟨by omega, by omega⟩ ?_
    refine OK.grd (b01 h5) ?_
    exact OK.cret (c.i (by decide) (by decide)) ⟨hR, h5, .inr ⟨hp, y0, hy, (show upd (s.1 23) _ _ = _ by rw [e23])⟩⟩
  have k209 : ∀ (x5 x6 : Int32) (y0 : Int64) (s : ST), (x5.toInt = 0 ∨ x5.toInt = 1) → CH [41, 23] [64, 66, 67, 68, 72] σ s → RD s → s.1 23 = σ.1 23 → 0 ≤ p2.toInt → (x6.toInt = 5 → bI (s.1 0 72) 0 12) → OK (f_X11_readsLeaf_209 p2 x5 x6 y0 p2 s) (RC [41, 23] [64, 66, 67, 68, 72] σ fun v t => RD t ∧ (v.toInt = 0 ∨ v.toInt = 1) ∧ (t.1 23 = σ.1 23 ∨ 0 ≤ p2.toInt ∧ ∃ y, bI y 0 12 ∧ t.1 23 = upd (σ.1 23) p2.toNatClampNeg y)) := fun x5 x6 y0 s h5 c hR e23 hp hy => by
    unfold f_X11_readsLeaf_209
    refine OK.grd ⟨by omega, by omega⟩ ?_
    refine OK.ieq (fun h6 => ?_) (fun _ => ?_)
    · exact k229 _ _ _ h5 (c.l (by decide) (by decide) (by decide) (by decide) (by decide)) hR e23 hp (hy (by omega))
    · exact k229 _ _ _ h5 (c.l (by decide) (by decide) (by decide) (by decide) (by decide)) hR e23 hp (bz (by decide) (by decide))
  have k189 : ∀ (x5 x6 : Int32) (y0 : Int64) (s : ST), (x5.toInt = 0 ∨ x5.toInt = 1) → CH [41, 23] [64, 66, 67, 68, 72] σ s → RD s → s.1 23 = σ.1 23 → 0 ≤ p2.toInt → (x6.toInt = 5 → bI (s.1 0 72) 0 12) → OK (f_X11_readsLeaf_189 p2 x5 x6 y0 p2 s) (RC [41, 23] [64, 66, 67, 68, 72] σ fun v t => RD t ∧ (v.toInt = 0 ∨ v.toInt = 1) ∧ (t.1 23 = σ.1 23 ∨ 0 ≤ p2.toInt ∧ ∃ y, bI y 0 12 ∧ t.1 23 = upd (σ.1 23) p2.toNatClampNeg y)) := fun x5 x6 y0 s h5 c hR e23 hp hy => by
    unfold f_X11_readsLeaf_189
    refine OK.grd ⟨by omega, by omega⟩ ?_
    refine OK.ieq (fun h6 => ?_) (fun _ => ?_)
    · exact k209 _ _ _ _ h5 (c.l (by decide) (by decide) (by decide) (by decide) (by decide)) hR e23 hp hy
    · exact k209 _ _ _ _ h5 (c.l (by decide) (by decide) (by decide) (by decide) (by decide)) hR e23 hp hy
  have k155 : ∀ (x5 x6 x7 : Int32) (y0 : UInt64) (s : ST), (x5.toInt = 0 ∨ x5.toInt = 1) → CH [41, 23] [64, 66, 67, 68, 72] σ s → RD s → s.1 23 = σ.1 23 → 0 ≤ p2.toInt → (x6.toInt = 5 → bI (s.1 0 72) 0 12) → OK (f_X11_readsLeaf_155 p2 x5 x6 x7 y0 s) (RC [41, 23] [64, 66, 67, 68, 72] σ fun v t => RD t ∧ (v.toInt = 0 ∨ v.toInt = 1) ∧ (t.1 23 = σ.1 23 ∨ 0 ≤ p2.toInt ∧ ∃ y, bI y 0 12 ∧ t.1 23 = upd (σ.1 23) p2.toNatClampNeg y)) := fun x5 x6 x7 y0 s h5 c hR e23 hp hy => by
    unfold f_X11_readsLeaf_155
    refine OK.ieq (fun h6 => k189 _ _ _ _ h5 c hR e23 hp hy) (fun _ => ?_)
    refine OK.ieq (fun h6 => k189 _ _ _ _ h5 c hR e23 hp hy) (fun _ => ?_)
    refine OK.bndR (b_dtl y0 s) (fun w hw => ?_)
    exact k189 _ _ _ _ h5 c hR e23 hp hy
  have k132 : ∀ (x5 x6 y0 : Int32) (s : ST), (x5.toInt = 0 ∨ x5.toInt = 1) → CH [41, 23] [64, 66, 67, 68, 72] σ s → RD s → s.1 23 = σ.1 23 → 0 ≤ p2.toInt → (x6.toInt = 5 → bI (s.1 0 72) 0 12) → OK (f_X11_readsLeaf_132 p2 x5 x6 y0 s) (RC [41, 23] [64, 66, 67, 68, 72] σ fun v t => RD t ∧ (v.toInt = 0 ∨ v.toInt = 1) ∧ (t.1 23 = σ.1 23 ∨ 0 ≤ p2.toInt ∧ ∃ y, bI y 0 12 ∧ t.1 23 = upd (σ.1 23) p2.toNatClampNeg y)) := fun x5 x6 y0 s h5 c hR e23 hp hy => by
    unfold f_X11_readsLeaf_132
    exact OK.ieq (fun h6 => k155 _ _ _ _ _ h5 c hR e23 hp hy) (fun _ => k155 _ _ _ _ _ h5 c hR e23 hp hy)
  have k108 : ∀ (x5 x6 : Int32) (s : ST), (x5.toInt = 0 ∨ x5.toInt = 1) → CH [41, 23] [64, 66, 67, 68, 72] σ s → RD s → s.1 23 = σ.1 23 → (x6.toInt = 5 → x5.toInt = 1 → bI (s.1 0 72) 0 12) → OK (f_X11_readsLeaf_108 p1 p2 x5 x6 s) (RC [41, 23] [64, 66, 67, 68, 72] σ fun v t => RD t ∧ (v.toInt = 0 ∨ v.toInt = 1) ∧ (t.1 23 = σ.1 23 ∨ 0 ≤ p2.toInt ∧ ∃ y, bI y 0 12 ∧ t.1 23 = upd (σ.1 23) p2.toNatClampNeg y)) := fun x5 x6 s h5 c hR e23 hy => by
    unfold f_X11_readsLeaf_108
    refine OK.ieq (fun h6 => OK.grd (b01 h5) (OK.cret c ⟨hR, h5, .inl e23⟩)) (fun h6 => ?_)
    refine OK.ilt (fun h6 => OK.grd (b01 h5) (OK.cret c ⟨hR, h5, .inl e23⟩)) (fun h7 => ?_)
    refine OK.grd ⟨by omega, by omega⟩ ?_
    have hp : 0 ≤ p2.toInt := by omega
    exact OK.ieq (fun _ => k132 _ _ _ _ h5 c hR e23 hp (fun h => hy h (by omega))) (fun _ => k132 _ _ _ _ h5 c hR e23 hp (fun h => hy h (by omega)))
  unfold f_X11_readsLeaf
  have c0 : CH [41, 23] [64, 66, 67, 68, 72] σ (stL σ 0 70 0) := CH.rf.l (by decide) (by decide) (by decide) (by decide) (by decide)
  have m1 : ∀ c, c ∈ [41] → c ∈ [41, 23] := by decide
  have m2 : ∀ c, c ∈ [64, 66, 67, 68] → c ∈ [64, 66, 67, 68, 72] := by decide
  refine OK.grd h0 ?_
  refine OK.ieq (fun _ => ?_) (fun _ => ?_)
  · refine OK.bndC (b_readsFlag _ (stL σ 0 70 0) h) (fun v t c hq => ?_)
    dsimp only
    exact k108 _ _ _ hq.2 (c0.trans (c.mono m1 m2)) hq.1 (c.1 23 (by decide) (by decide)) (fun h9 => by omega)
  refine OK.ieq (fun _ => ?_) (fun _ => ?_)
  · refine OK.bndC (b_readsInt _ _ _ (stL σ 0 70 0) h) (fun v t c hq => ?_)
    dsimp only
    exact k108 _ _ _ (by omega) (c0.trans (c.mono m1 m2)) hq.1 (c.1 23 (by decide) (by decide)) (fun h9 => by omega)
  refine OK.ieq (fun _ => ?_) (fun _ => ?_)
  · refine OK.bndC (b_readsNumber _ (stL σ 0 70 0) h) (fun v t c hq => ?_)
    dsimp only
    exact k108 _ _ _ hq.1 (c0.trans (c.mono m1 m2)) hq.2 (c.1 23 (by decide) (by decide)) (fun h9 => by omega)
  refine OK.ieq (fun _ => ?_) (fun _ => ?_)
  · refine OK.bndC (b_readsReal (stL σ 0 70 0) h) (fun v t c hq => ?_)
    dsimp only
    exact k108 _ _ _ hq.2 (c0.trans (c.mono m1 m2)) hq.1 (c.1 23 (by decide) (by decide)) (fun h9 => by omega)
  refine OK.ieq (fun _ => ?_) (fun h5 => ?_)
  · refine OK.bndC (b_readsText _ (stL σ 0 70 0) h) (fun v t c hq => ?_)
    dsimp only
    refine k108 _ _ _ (by omega) (c0.trans (c.mono m1 (fun _ h => h))) hq.1 (c.1 23 (by decide) (by decide)) (fun _ h9 => ?_)
    have h9 : v.toInt = 1 := h9
    rcases hq.2 with h8 | h8
    · omega
    · exact h8.2
  · exact k108 _ _ _ (by omega) c0 h rfl (fun h9 => by omega)
/-! the reference: types, as high as they are, and when one matches another -/
/-- a type of a plan with so many records, no higher than so -/
def VT (hi : Int) (S A M B : Nat → Int32) (rm : Int) : Nat → Int32 → Prop
  | 0, _ => False
  | d + 1, t => (0 ≤ t.toInt ∧ t.toInt < hi) ∧ (0 ≤ (S t.toNatClampNeg).toInt ∧ (S t.toNatClampNeg).toInt ≤ 8) ∧
    ((S t.toNatClampNeg).toInt = 6 → VT hi S A M B rm d (A t.toNatClampNeg)) ∧
    ((S t.toNatClampNeg).toInt = 7 → 0 ≤ (A t.toNatClampNeg).toInt ∧ (A t.toNatClampNeg).toInt < rm) ∧
    ((S t.toNatClampNeg).toInt = 8 → (1 ≤ (M t.toNatClampNeg).toInt ∧ (M t.toNatClampNeg).toInt ≤ 4) ∧
      (∀ k : Nat, (k : Int) < (M t.toNatClampNeg).toInt → VT hi S A M B rm d (B (4 * t.toNatClampNeg + k)) ∧ ¬ (S (B (4 * t.toNatClampNeg + k)).toNatClampNeg).toInt = 8) ∧
      (∀ j k : Nat, j < k → (k : Int) < (M t.toNatClampNeg).toInt → ¬ (S (B (4 * t.toNatClampNeg + j)).toNatClampNeg).toInt = (S (B (4 * t.toNatClampNeg + k)).toNatClampNeg).toInt))
theorem VT.rng {hi : Int} {S A M B : Nat → Int32} {rm : Int} {d : Nat} {t : Int32} (h : VT hi S A M B rm d t) : 0 ≤ t.toInt ∧ t.toInt < hi := by
  cases d with
  | zero => exact h.elim
  | succ d => exact h.1
theorem VT.srt {hi : Int} {S A M B : Nat → Int32} {rm : Int} {d : Nat} {t : Int32} (h : VT hi S A M B rm d t) : 0 ≤ (S t.toNatClampNeg).toInt ∧ (S t.toNatClampNeg).toInt ≤ 8 := by
  cases d with
  | zero => exact h.elim
  | succ d => exact h.2.1
theorem VT.lst {hi : Int} {S A M B : Nat → Int32} {rm : Int} {d : Nat} {t : Int32} (h : VT hi S A M B rm d t) (hs : (S t.toNatClampNeg).toInt = 6) : 1 ≤ d ∧ VT hi S A M B rm (d - 1) (A t.toNatClampNeg) := by
  cases d with
  | zero => exact h.elim
  | succ d => exact ⟨by omega, h.2.2.1 hs⟩
theorem VT.rcd {hi : Int} {S A M B : Nat → Int32} {rm : Int} {d : Nat} {t : Int32} (h : VT hi S A M B rm d t) (hs : (S t.toNatClampNeg).toInt = 7) : 0 ≤ (A t.toNatClampNeg).toInt ∧ (A t.toNatClampNeg).toInt < rm := by
  cases d with
  | zero => exact h.elim
  | succ d => exact h.2.2.2.1 hs
theorem VT.eit {hi : Int} {S A M B : Nat → Int32} {rm : Int} {d : Nat} {t : Int32} (h : VT hi S A M B rm d t) (hs : (S t.toNatClampNeg).toInt = 8) : 1 ≤ d ∧ (1 ≤ (M t.toNatClampNeg).toInt ∧ (M t.toNatClampNeg).toInt ≤ 4) ∧ (∀ k : Nat, (k : Int) < (M t.toNatClampNeg).toInt → VT hi S A M B rm (d - 1) (B (4 * t.toNatClampNeg + k)) ∧ ¬ (S (B (4 * t.toNatClampNeg + k)).toNatClampNeg).toInt = 8) ∧ (∀ j k : Nat, j < k → (k : Int) < (M t.toNatClampNeg).toInt → ¬ (S (B (4 * t.toNatClampNeg + j)).toNatClampNeg).toInt = (S (B (4 * t.toNatClampNeg + k)).toNatClampNeg).toInt) := by
  cases d with
  | zero => exact h.elim
  | succ d => exact ⟨by omega, h.2.2.2.2 hs⟩
theorem VT.up {hi : Int} {S A M B : Nat → Int32} {rm : Int} : ∀ {d : Nat} {t : Int32}, VT hi S A M B rm d t → VT hi S A M B rm (d + 1) t := by
  intro d
  induction d with
  | zero => intro t h; exact h.elim
  | succ d ih =>
    intro t h
    obtain ⟨h1, h2, h3, h4, h5⟩ := h
    refine ⟨h1, h2, fun hs => ih (h3 hs), h4, fun hs => ?_⟩
    obtain ⟨a1, a2, a3⟩ := h5 hs
    exact ⟨a1, fun k hk => ⟨ih (a2 k hk).1, (a2 k hk).2⟩, a3⟩
theorem VT.wk {hi hi' : Int} {S A M B : Nat → Int32} {rm : Int} (hh : hi ≤ hi') : ∀ {d : Nat} {t : Int32}, VT hi S A M B rm d t → VT hi' S A M B rm d t := by
  intro d
  induction d with
  | zero => intro t h; exact h.elim
  | succ d ih =>
    intro t h
    obtain ⟨h1, h2, h3, h4, h5⟩ := h
    refine ⟨⟨h1.1, by omega⟩, h2, fun hs => ih (h3 hs), h4, fun hs => ?_⟩
    obtain ⟨a1, a2, a3⟩ := h5 hs
    exact ⟨a1, fun k hk => ⟨ih (a2 k hk).1, (a2 k hk).2⟩, a3⟩
/-- a place that no type has may be another one -/
theorem VT.put {hi : Int} {S A M B : Nat → Int32} {rm : Int} {i : Nat} {x y : Int32} (hh : hi ≤ (i : Int)) : ∀ {d : Nat} {t : Int32}, VT hi S A M B rm d t → VT hi (upd S i x) (upd A i y) M B rm d t := by
  intro d
  induction d with
  | zero => intro t h; exact h.elim
  | succ d ih =>
    intro t h
    obtain ⟨h1, h2, h3, h4, h5⟩ := h
    have n1 := nN_ h1.1
    have e1 : upd S i x t.toNatClampNeg = S t.toNatClampNeg := upd_no (by omega)
    have e2 : upd A i y t.toNatClampNeg = A t.toNatClampNeg := upd_no (by omega)
    refine ⟨h1, ?_, ?_, ?_, ?_⟩
    · rw [e1]; exact h2
    · rw [e1, e2]; exact fun hs => ih (h3 hs)
    · rw [e1, e2]; exact h4
    · rw [e1]
      intro hs
      obtain ⟨a1, a2, a3⟩ := h5 hs
      have eb : ∀ k : Nat, (k : Int) < (M t.toNatClampNeg).toInt → upd S i x (B (4 * t.toNatClampNeg + k)).toNatClampNeg = S (B (4 * t.toNatClampNeg + k)).toNatClampNeg := fun k hk => by
        have r := (a2 k hk).1.rng
        have n2 := nN_ r.1
        exact upd_no (by omega)
      refine ⟨a1, fun k hk => ⟨ih (a2 k hk).1, by rw [eb k hk]; exact (a2 k hk).2⟩, fun j k hjk hk => ?_⟩
      rw [eb k hk, eb j (by omega)]
      exact a3 j k hjk hk
/-- a type of one plan matches that of another, by what is said of those below -/
def mB (S A M B PR : Nat → Int32) (q : Int32 → Int32 → Prop) (w r : Int32) : Prop := ((S w.toNatClampNeg).toInt = 8 ∧ ∃ k : Nat, (k : Int) < (M w.toNatClampNeg).toInt ∧ q (B (4 * w.toNatClampNeg + k)) r) ∨
    (¬ (S w.toNatClampNeg).toInt = 8 ∧ (S r.toNatClampNeg).toInt = 8 ∧ ∃ k : Nat, (k : Int) < (M r.toNatClampNeg).toInt ∧ q w (B (4 * r.toNatClampNeg + k))) ∨
    (¬ (S w.toNatClampNeg).toInt = 8 ∧ ¬ (S r.toNatClampNeg).toInt = 8 ∧
      (((S w.toNatClampNeg).toInt = 6 ∧ (S r.toNatClampNeg).toInt = 6 ∧ q (A w.toNatClampNeg) (A r.toNatClampNeg)) ∨
       ((S w.toNatClampNeg).toInt = 7 ∧ (S r.toNatClampNeg).toInt = 7 ∧ ¬ PR (6 * (A w.toNatClampNeg).toNatClampNeg + (A r.toNatClampNeg).toNatClampNeg) = 0) ∨
       (¬ ((S w.toNatClampNeg).toInt = 6 ∧ (S r.toNatClampNeg).toInt = 6) ∧ ¬ ((S w.toNatClampNeg).toInt = 7 ∧ (S r.toNatClampNeg).toInt = 7) ∧ ((S w.toNatClampNeg).toInt = (S r.toNatClampNeg).toInt ∨ (S w.toNatClampNeg).toInt = 2 ∧ ((S r.toNatClampNeg).toInt = 3 ∨ (S r.toNatClampNeg).toInt = 4) ∨ (S w.toNatClampNeg).toInt = 3 ∧ (S r.toNatClampNeg).toInt = 4))))
def mt (S A M B PR : Nat → Int32) : Nat → Int32 → Int32 → Prop
  | 0, _, _ => False
  | n + 1, w, r => mB S A M B PR (mt S A M B PR n) w r
def MT (S A M B PR : Nat → Int32) (w r : Int32) : Prop := ∃ n, mt S A M B PR n w r
theorem MT.iff {S A M B PR : Nat → Int32} {w r : Int32} : MT S A M B PR w r ↔ mB S A M B PR (MT S A M B PR) w r := by
  constructor
  · intro h
    obtain ⟨n, h⟩ := h
    cases n with
    | zero => exact h.elim
    | succ n =>
      rcases h with ⟨h1, k, hk, h2⟩ | ⟨h1, h2, k, hk, h3⟩ | ⟨h1, h2, ⟨h3, h4, h5⟩ | h | h⟩
      · exact .inl ⟨h1, k, hk, n, h2⟩
      · exact .inr (.inl ⟨h1, h2, k, hk, n, h3⟩)
      · exact .inr (.inr ⟨h1, h2, .inl ⟨h3, h4, n, h5⟩⟩)
      · exact .inr (.inr ⟨h1, h2, .inr (.inl h)⟩)
      · exact .inr (.inr ⟨h1, h2, .inr (.inr h)⟩)
  · intro h
    rcases h with ⟨h1, k, hk, n, h2⟩ | ⟨h1, h2, k, hk, n, h3⟩ | ⟨h1, h2, ⟨h3, h4, n, h5⟩ | h | h⟩
    · exact ⟨n + 1, .inl ⟨h1, k, hk, h2⟩⟩
    · exact ⟨n + 1, .inr (.inl ⟨h1, h2, k, hk, h3⟩)⟩
    · exact ⟨n + 1, .inr (.inr ⟨h1, h2, .inl ⟨h3, h4, h5⟩⟩)⟩
    · exact ⟨1, .inr (.inr ⟨h1, h2, .inr (.inl h)⟩)⟩
    · exact ⟨1, .inr (.inr ⟨h1, h2, .inr (.inr h)⟩)⟩
theorem MT.iffW {S A M B PR : Nat → Int32} {w r : Int32} (hw : (S w.toNatClampNeg).toInt = 8) : MT S A M B PR w r ↔ ∃ k : Nat, (k : Int) < (M w.toNatClampNeg).toInt ∧ MT S A M B PR (B (4 * w.toNatClampNeg + k)) r := by
  rw [MT.iff]
  constructor
  · intro h
    rcases h with h | h | h
    · exact h.2
    · exact absurd hw h.1
    · exact absurd hw h.1
  · intro h
    exact .inl ⟨hw, h⟩
theorem MT.iffR {S A M B PR : Nat → Int32} {w r : Int32} (hw : ¬ (S w.toNatClampNeg).toInt = 8) (hr : (S r.toNatClampNeg).toInt = 8) : MT S A M B PR w r ↔ ∃ k : Nat, (k : Int) < (M r.toNatClampNeg).toInt ∧ MT S A M B PR w (B (4 * r.toNatClampNeg + k)) := by
  rw [MT.iff]
  constructor
  · intro h
    rcases h with h | h | h
    · exact absurd h.1 hw
    · exact h.2.2
    · exact absurd hr h.2.1
  · intro h
    exact .inr (.inl ⟨hw, hr, h⟩)
theorem MT.iffL {S A M B PR : Nat → Int32} {w r : Int32} (hw : (S w.toNatClampNeg).toInt = 6) (hr : (S r.toNatClampNeg).toInt = 6) : MT S A M B PR w r ↔ MT S A M B PR (A w.toNatClampNeg) (A r.toNatClampNeg) := by
  rw [MT.iff]
  constructor
  · intro h
    rcases h with h | h | ⟨_, _, h | h | h⟩
    · omega
    · omega
    · exact h.2.2
    · omega
    · omega
  · intro h
    exact .inr (.inr ⟨by omega, by omega, .inl ⟨hw, hr, h⟩⟩)
theorem MT.iffP {S A M B PR : Nat → Int32} {w r : Int32} (hw : (S w.toNatClampNeg).toInt = 7) (hr : (S r.toNatClampNeg).toInt = 7) : MT S A M B PR w r ↔ ¬ PR (6 * (A w.toNatClampNeg).toNatClampNeg + (A r.toNatClampNeg).toNatClampNeg) = 0 := by
  rw [MT.iff]
  constructor
  · intro h
    rcases h with h | h | ⟨_, _, h | h | h⟩
    · omega
    · omega
    · omega
    · exact h.2.2
    · omega
  · intro h
    exact .inr (.inr ⟨by omega, by omega, .inr (.inl ⟨hw, hr, h⟩)⟩)
theorem MT.iffE {S A M B PR : Nat → Int32} {w r : Int32} (hw8 : ¬ (S w.toNatClampNeg).toInt = 8) (hr : ¬ (S r.toNatClampNeg).toInt = 8) (h6 : ¬ ((S w.toNatClampNeg).toInt = 6 ∧ (S r.toNatClampNeg).toInt = 6)) (h7 : ¬ ((S w.toNatClampNeg).toInt = 7 ∧ (S r.toNatClampNeg).toInt = 7)) : MT S A M B PR w r ↔ ((S w.toNatClampNeg).toInt = (S r.toNatClampNeg).toInt ∨ (S w.toNatClampNeg).toInt = 2 ∧ ((S r.toNatClampNeg).toInt = 3 ∨ (S r.toNatClampNeg).toInt = 4) ∨ (S w.toNatClampNeg).toInt = 3 ∧ (S r.toNatClampNeg).toInt = 4) := by
  rw [MT.iff]
  constructor
  · intro h
    rcases h with h | h | ⟨_, _, h | h | h⟩
    · omega
    · omega
    · omega
    · omega
    · exact h.2.2
  · intro h
    exact .inr (.inr ⟨hw8, hr, .inr (.inr ⟨h6, h7, h⟩)⟩)
theorem MT.lst {S A M B PR : Nat → Int32} {w r : Int32} (h : MT S A M B PR w r) (hr : ¬ (S r.toNatClampNeg).toInt = 8) (hw : (S w.toNatClampNeg).toInt = 6) : (S r.toNatClampNeg).toInt = 6 ∧ MT S A M B PR (A w.toNatClampNeg) (A r.toNatClampNeg) := by
  by_cases h6 : (S r.toNatClampNeg).toInt = 6
  · exact ⟨h6, (MT.iffL hw h6).mp h⟩
  · have := (MT.iffE (by omega) hr (by omega) (by omega)).mp h
    omega
theorem MT.rcd {S A M B PR : Nat → Int32} {w r : Int32} (h : MT S A M B PR w r) (hr : ¬ (S r.toNatClampNeg).toInt = 8) (hw : (S w.toNatClampNeg).toInt = 7) : (S r.toNatClampNeg).toInt = 7 ∧ ¬ PR (6 * (A w.toNatClampNeg).toNatClampNeg + (A r.toNatClampNeg).toNatClampNeg) = 0 := by
  by_cases h7 : (S r.toNatClampNeg).toInt = 7
  · exact ⟨h7, (MT.iffP hw h7).mp h⟩
  · have := (MT.iffE (by omega) hr (by omega) (by omega)).mp h
    omega
theorem MT.put {hi : Int} {S A M B PR : Nat → Int32} {a b : Int} {i : Nat} {x y : Int32} (hh : hi ≤ (i : Int)) : ∀ {n d e : Nat} {w r : Int32}, VT hi S A M B a d w → VT hi S A M B b e r → mt S A M B PR n w r → mt (upd S i x) (upd A i y) M B PR n w r := by
  intro n
  induction n with
  | zero => intro d e w r hw hr h; exact h.elim
  | succ n ih =>
    intro d e w r hw hr h
    have g1 := hw.rng
    have g2 := hr.rng
    have n1 := nN_ g1.1
    have n2 := nN_ g2.1
    have e1 : upd S i x w.toNatClampNeg = S w.toNatClampNeg := upd_no (by omega)
    have e2 : upd S i x r.toNatClampNeg = S r.toNatClampNeg := upd_no (by omega)
    have e3 : upd A i y w.toNatClampNeg = A w.toNatClampNeg := upd_no (by omega)
    have e4 : upd A i y r.toNatClampNeg = A r.toNatClampNeg := upd_no (by omega)
    show mB _ _ _ _ _ _ _ _
    unfold mB
    rw [e1, e2, e3, e4]
    rcases h with ⟨h1, k, hk, h2⟩ | ⟨h1, h2, k, hk, h3⟩ | ⟨h1, h2, ⟨h3, h4, h5⟩ | h | h⟩
    · exact .inl ⟨h1, k, hk, ih ((hw.eit h1).2.2.1 k hk).1 hr h2⟩
    · exact .inr (.inl ⟨h1, h2, k, hk, ih hw ((hr.eit h2).2.2.1 k hk).1 h3⟩)
    · exact .inr (.inr ⟨h1, h2, .inl ⟨h3, h4, ih (hw.lst h3).2 (hr.lst h4).2 h5⟩⟩)
    · exact .inr (.inr ⟨h1, h2, .inr (.inl h)⟩)
    · exact .inr (.inr ⟨h1, h2, .inr (.inr h)⟩)
/-- the plans: each record's fields have types, four high at most -/
def PL (S A M B RM FM FT : Nat → Int32) (pm : Int) : Prop := ∀ p : Nat, (p : Int) < pm → (1 ≤ (RM p).toInt ∧ (RM p).toInt ≤ 6) ∧ ∀ k : Nat, (k : Int) < (RM p).toInt → bI (FM (6 * p + k)) 0 8 ∧ ∀ j : Nat, (j : Int) < (FM (6 * p + k)).toInt → VT 400 S A M B (RM p).toInt 4 (FT (8 * (6 * p + k) + j))
def PLs (σ : ST) : Prop := bI (σ.1 0 32) 0 6 ∧ PL (σ.1 2) (σ.1 3) (σ.1 4) (σ.1 5) (σ.1 8) (σ.1 11) (σ.1 15) (σ.1 0 32).toInt ∧ ∀ i, bI (σ.1 19 i) 0 12
theorem PLs.of {σ τ : ST} (h : PLs σ) (e0 : τ.1 0 32 = σ.1 0 32) (e2 : τ.1 2 = σ.1 2) (e3 : τ.1 3 = σ.1 3) (e4 : τ.1 4 = σ.1 4) (e5 : τ.1 5 = σ.1 5) (e8 : τ.1 8 = σ.1 8) (e11 : τ.1 11 = σ.1 11) (e15 : τ.1 15 = σ.1 15) (e19 : τ.1 19 = σ.1 19) : PLs τ := by
  unfold PLs
  rw [e0, e2, e3, e4, e5, e8, e11, e15, e19]
  exact h
theorem PLs.ch {C I : List Nat} {σ τ : ST} (h : PLs σ) (c : CH C I σ τ) (h0 : 32 ∉ I) (hC : ∀ c, c ∈ [2, 3, 4, 5, 8, 11, 15, 19] → c ∉ C) : PLs τ := h.of (c.2.1 32 h0) (c.1 2 (by decide) (hC 2 (by decide))) (c.1 3 (by decide) (hC 3 (by decide))) (c.1 4 (by decide) (hC 4 (by decide))) (c.1 5 (by decide) (hC 5 (by decide))) (c.1 8 (by decide) (hC 8 (by decide))) (c.1 11 (by decide) (hC 11 (by decide))) (c.1 15 (by decide) (hC 15 (by decide))) (c.1 19 (by decide) (hC 19 (by decide)))
/-- the pairs' booleans -/
def PB (σ : ST) : Prop := ∀ k, (σ.1 35 k).toInt = 0 ∨ (σ.1 35 k).toInt = 1
/-- writer and reader -/
def WR2 (σ : ST) : Prop := (0 ≤ (σ.1 0 53).toInt ∧ (σ.1 0 53).toInt < (σ.1 0 32).toInt) ∧ 0 ≤ (σ.1 0 54).toInt ∧ (σ.1 0 54).toInt < (σ.1 0 32).toInt
abbrev VS (σ : ST) (rm : Int) (d : Nat) (t : Int32) : Prop := VT 800 (σ.1 2) (σ.1 3) (σ.1 4) (σ.1 5) rm d t
abbrev VC (σ : ST) (rm : Int) (d : Nat) (t : Int32) : Prop := VT 400 (σ.1 2) (σ.1 3) (σ.1 4) (σ.1 5) rm d t
abbrev MS (σ : ST) (w r : Int32) : Prop := MT (σ.1 2) (σ.1 3) (σ.1 4) (σ.1 5) (σ.1 35) w r
def cMatch (N : Nat) (rm : Int32 → Int32 → ST → Option (Int32 × ST)) : Prop := ∀ (w r : Int32) (σ : ST) (a b : Int) (d e : Nat), a ≤ 6 → b ≤ 6 → PB σ → VS σ a d w → VS σ b e r → 2 * d + 2 * e ≤ N → OK (rm w r σ) (RO σ fun v => v.toInt = 0 ∧ ¬ MS σ w r ∨ v.toInt = 1 ∧ MS σ w r)
def cChosen (N : Nat) (rc : Int32 → Int32 → ST → Option (Int32 × ST)) : Prop := ∀ (w r : Int32) (σ : ST) (a b : Int) (d e : Nat), a ≤ 6 → b ≤ 6 → PB σ → VS σ a d w → VS σ b e r → 2 * d + 2 * e ≤ N + 1 → (σ.1 2 r.toNatClampNeg).toInt = 8 → OK (rc w r σ) (RO σ fun v => v.toInt = -1 ∧ (∀ k : Nat, (k : Int) < (σ.1 4 r.toNatClampNeg).toInt → ¬ MS σ w (σ.1 5 (4 * r.toNatClampNeg + k))) ∨ (0 ≤ v.toInt ∧ v.toInt < (σ.1 4 r.toNatClampNeg).toInt) ∧ MS σ w (σ.1 5 (4 * r.toNatClampNeg + v.toNatClampNeg)))
theorem b_chosen_5 {N : Nat} {rc rm : Int32 → Int32 → ST → Option (Int32 × ST)} (hm : cMatch N rm) : ∀ (n : Nat) (w r x3 x4 : Int32) (σ : ST) (a b : Int) (d e : Nat), a ≤ 6 → b ≤ 6 → PB σ → VS σ a d w → VS σ b e r → 2 * d + 2 * e ≤ N + 2 → (σ.1 2 r.toNatClampNeg).toInt = 8 → (0 ≤ x4.toInt ∧ x4.toInt ≤ 4 ∧ (4 : Int) - x4.toInt < n) → (x3.toInt = -1 ∧ (∀ k : Nat, (k : Int) < x4.toInt → ¬ MS σ w (σ.1 5 (4 * r.toNatClampNeg + k))) ∨ (0 ≤ x3.toInt ∧ x3.toInt < (σ.1 4 r.toNatClampNeg).toInt) ∧ MS σ w (σ.1 5 (4 * r.toNatClampNeg + x3.toNatClampNeg))) → OK (f_X11_chosen_5 rc rm n w r x3 x4 σ) (RO σ fun v => v.toInt = -1 ∧ (∀ k : Nat, (k : Int) < (σ.1 4 r.toNatClampNeg).toInt → ¬ MS σ w (σ.1 5 (4 * r.toNatClampNeg + k))) ∨ (0 ≤ v.toInt ∧ v.toInt < (σ.1 4 r.toNatClampNeg).toInt) ∧ MS σ w (σ.1 5 (4 * r.toNatClampNeg + v.toNatClampNeg))) := by
  intro n
  induction n with
  | zero => intro w r x3 x4 σ a b d e h1 h2 h3 h4 h5 h6 h7 h8; omega
  | succ n ih =>
    intro w r x3 x4 σ a b d e ha hb hP hw hr hN hs h8 h9
    rw [f_X11_chosen_5]
    have lt_0 := li_0
    have lt_1 := li_1
    have lt_4 := li_4
    obtain ⟨g1, g2, g3, g4⟩ := hr.eit hs
    have gr := hr.rng
    have gw := hw.rng
    have e1 := mlE (k := 4) (y := r) 4 li_4 (by omega) (by omega)
    have e2 := il_addE (x := 4 * r) (y := x4) (by omega) (by omega)
    have e3 := il_addE (x := x4) (y := 1) (by omega) (by omega)
    have n1 := nN_ gr.1
    have n2 := nN_ h8.1
    have e4 : (4 * r + x4).toNatClampNeg = 4 * r.toNatClampNeg + x4.toNatClampNeg := nC (by omega)
    refine OK.grd gr ?_
    refine OK.ile (fun hh => OK.roret ?_) (fun h => ?_)
    · rcases h9 with h9 | h9
      · exact .inl ⟨h9.1, fun k hk => h9.2 k (by omega)⟩
      · exact .inr h9
    refine OK.grd ⟨by omega, by omega⟩ ?_
    rw [e4]
    have hk : ((x4.toNatClampNeg : Nat) : Int) < (σ.1 4 r.toNatClampNeg).toInt := by omega
    have hB := (g3 _ hk).1
    refine OK.bndR (hm w _ σ a b d (e - 1) ha hb hP hw hB (by omega)) (fun v hv => ?_)
    dsimp only
    unfold f_X11_chosen_69 f_X11_chosen_68
    refine OK.ieq (fun h0 => ih _ _ _ _ _ _ _ _ _ ha hb hP hw hr hN hs (by omega) ?_) (fun h0 => ?_)
    · rcases h9 with h9 | h9
      · refine .inl ⟨h9.1, fun k hk => ?_⟩
        by_cases e : (k : Int) < x4.toInt
        · exact h9.2 k e
        · have ek : k = x4.toNatClampNeg := by omega
          rw [ek]
          rcases hv with hv | hv
          · exact hv.2
          · omega
      · exact .inr h9
    have hv1 : MS σ w (σ.1 5 (4 * r.toNatClampNeg + x4.toNatClampNeg)) := by
      rcases hv with hv | hv
      · omega
      · exact hv.2
    refine OK.grd hB.rng ?_
    refine OK.grd gw ?_
    refine OK.ieq (fun _ => OK.roret (.inr ⟨⟨h8.1, by omega⟩, hv1⟩)) (fun _ => ?_)
    refine OK.ile (fun h30 => ?_) (fun _ => ?_)
    · refine ih _ _ _ _ _ _ _ _ _ ha hb hP hw hr hN hs (by omega) ?_
      rcases h9 with h9 | h9
      · omega
      · exact .inr h9
    · exact ih _ _ _ _ _ _ _ _ _ ha hb hP hw hr hN hs (by omega) (.inr ⟨⟨h8.1, by omega⟩, hv1⟩)
theorem b_match_16 {N : Nat} {rc rm : Int32 → Int32 → ST → Option (Int32 × ST)} (hm : cMatch N rm) : ∀ (n : Nat) (w r x3 x4 : Int32) (σ : ST) (a b : Int) (d e : Nat), a ≤ 6 → b ≤ 6 → PB σ → VS σ a d w → VS σ b e r → 2 * d + 2 * e ≤ N + 2 → (σ.1 2 w.toNatClampNeg).toInt = 8 → (0 ≤ x4.toInt ∧ x4.toInt ≤ 4 ∧ (4 : Int) - x4.toInt < n) → (x3.toInt = 0 ∧ (∀ k : Nat, (k : Int) < x4.toInt → ¬ MS σ (σ.1 5 (4 * w.toNatClampNeg + k)) r) ∨ x3.toInt = 1 ∧ MS σ w r) → OK (f_X11_match_16 rc rm n w r x3 x4 σ) (RO σ fun v => v.toInt = 0 ∧ ¬ MS σ w r ∨ v.toInt = 1 ∧ MS σ w r) := by
  intro n
  induction n with
  | zero => intro w r x3 x4 σ a b d e h1 h2 h3 h4 h5 h6 h7 h8; omega
  | succ n ih =>
    intro w r x3 x4 σ a b d e ha hb hP hw hr hN hs h8 h9
    rw [f_X11_match_16]
    have lt_0 := li_0
    have lt_1 := li_1
    have lt_4 := li_4
    obtain ⟨g1, g2, g3, g4⟩ := hw.eit hs
    have gw := hw.rng
    have e1 := mlE (k := 4) (y := w) 4 li_4 (by omega) (by omega)
    have e2 := il_addE (x := 4 * w) (y := x4) (by omega) (by omega)
    have e3 := il_addE (x := x4) (y := 1) (by omega) (by omega)
    have n1 := nN_ gw.1
    have n2 := nN_ h8.1
    have e4 : (4 * w + x4).toNatClampNeg = 4 * w.toNatClampNeg + x4.toNatClampNeg := nC (by omega)
    refine OK.grd gw ?_
    refine OK.ile (fun hh => OK.grd (b01 (by omega)) (OK.roret ?_)) (fun h => ?_)
    · rcases h9 with h9 | h9
      · refine .inl ⟨h9.1, fun h => ?_⟩
        obtain ⟨k, k1, k2⟩ := (MT.iffW hs).mp h
        exact h9.2 k (by omega) k2
      · exact .inr h9
    unfold f_X11_match_50 f_X11_match_55
    refine OK.ieq (fun _ => ?_) (fun h0 => ?_)
    · refine OK.grd ⟨by omega, by omega⟩ ?_
      rw [e4]
      have hk : ((x4.toNatClampNeg : Nat) : Int) < (σ.1 4 w.toNatClampNeg).toInt := by omega
      have hB := (g3 _ hk).1
      refine OK.bndR (hm _ r σ a b (d - 1) e ha hb hP hB hr (by omega)) (fun v hv => ?_)
      dsimp only
      refine OK.ieq (fun h0 => ih _ _ _ _ _ _ _ _ _ ha hb hP hw hr hN hs (by omega) (.inl ⟨by omega, fun k hk2 => ?_⟩)) (fun h0 => ?_)
      · by_cases e : (k : Int) < x4.toInt
        · rcases h9 with h9 | h9
          · exact h9.2 k e
          · omega
        · have ek : k = x4.toNatClampNeg := by omega
          rw [ek]
          rcases hv with hv | hv
          · exact hv.2
          · omega
      have hv1 : MS σ w r := by
        rcases hv with hv | hv
        · omega
        · exact (MT.iffW hs).mpr ⟨_, hk, hv.2⟩
      exact ih _ _ _ _ _ _ _ _ _ ha hb hP hw hr hN hs (by omega) (.inr ⟨by omega, hv1⟩)
    · refine ih _ _ _ _ _ _ _ _ _ ha hb hP hw hr hN hs (by omega) (.inr ⟨by omega, ?_⟩)
      rcases h9 with h9 | h9
      · omega
      · exact h9.2
theorem b_match_135 {rc rm : Int32 → Int32 → ST → Option (Int32 × ST)} (w r x3 x4 : Int32) (σ : ST) (a b : Int) (d e : Nat) (ha : a ≤ 6) (hb : b ≤ 6) (hP : PB σ) (hw : VS σ a d w) (hr : VS σ b e r) (h3 : x3 = σ.1 2 w.toNatClampNeg) (h4 : x4 = σ.1 2 r.toNatClampNeg) (h8 : ¬ (σ.1 2 w.toNatClampNeg).toInt = 8) (h9 : ¬ (σ.1 2 r.toNatClampNeg).toInt = 8) (h6 : ¬ ((σ.1 2 w.toNatClampNeg).toInt = 6 ∧ (σ.1 2 r.toNatClampNeg).toInt = 6)) : OK (f_X11_match_135 rc rm w r x3 x4 σ) (RO σ fun v => v.toInt = 0 ∧ ¬ MS σ w r ∨ v.toInt = 1 ∧ MS σ w r) := by
  have lt_0 := li_0
  have lt_1 := li_1
  have lt_2 := li_2
  have lt_3 := li_3
  have lt_4 := li_4
  have lt_6 := li_6
  have lt_7 := li_7
  have e3 : x3.toInt = (σ.1 2 w.toNatClampNeg).toInt := by rw [h3]
  have e4 : x4.toInt = (σ.1 2 r.toNatClampNeg).toInt := by rw [h4]
  have k170 : ¬ (x3.toInt = 7 ∧ x4.toInt = 7) → OK (f_X11_match_170 rc rm x3 x4 σ) (RO σ fun v => v.toInt = 0 ∧ ¬ MS σ w r ∨ v.toInt = 1 ∧ MS σ w r) := fun h7 => by
    have it := MT.iffE (S := σ.1 2) (A := σ.1 3) (M := σ.1 4) (B := σ.1 5) (PR := σ.1 35) (w := w) (r := r) h8 h9 h6 (by omega)
    have y : (x3.toInt = x4.toInt ∨ x3.toInt = 2 ∧ (x4.toInt = 3 ∨ x4.toInt = 4) ∨ x3.toInt = 3 ∧ x4.toInt = 4) → OK (some ((1 : Int32), σ)) (RO σ fun v => v.toInt = 0 ∧ ¬ MS σ w r ∨ v.toInt = 1 ∧ MS σ w r) := fun a1 => OK.roret (.inr ⟨by omega, it.mpr (by omega)⟩)
    have no : ¬ (x3.toInt = x4.toInt ∨ x3.toInt = 2 ∧ (x4.toInt = 3 ∨ x4.toInt = 4) ∨ x3.toInt = 3 ∧ x4.toInt = 4) → OK (some ((0 : Int32), σ)) (RO σ fun v => v.toInt = 0 ∧ ¬ MS σ w r ∨ v.toInt = 1 ∧ MS σ w r) := fun a1 => OK.roret (.inl ⟨by omega, fun h => by have := it.mp h; omega⟩)
    unfold f_X11_match_170 f_X11_match_193 f_X11_match_204
    refine OK.ieq (fun _ => y (by omega)) (fun _ => ?_)
    refine OK.ieq (fun _ => ?_) (fun _ => ?_)
    · refine OK.ieq (fun _ => y (by omega)) (fun _ => ?_)
      refine OK.ieq (fun _ => y (by omega)) (fun _ => ?_)
      refine OK.ieq (fun _ => ?_) (fun _ => no (by omega))
      exact OK.ieq (fun _ => y (by omega)) (fun _ => no (by omega))
    · refine OK.ieq (fun _ => ?_) (fun _ => no (by omega))
      exact OK.ieq (fun _ => y (by omega)) (fun _ => no (by omega))
  unfold f_X11_match_135
  refine OK.ieq (fun h7 => ?_) (fun _ => k170 (by omega))
  refine OK.ieq (fun h7' => ?_) (fun _ => k170 (by omega))
  have rw_ := hw.rcd (by omega)
  have rr_ := hr.rcd (by omega)
  refine OK.grd hw.rng ?_
  refine OK.grd hr.rng ?_
  have e1 := mlE (k := 6) (y := σ.1 3 w.toNatClampNeg) 6 li_6 (by omega) (by omega)
  have e2 := il_addE (x := 6 * σ.1 3 w.toNatClampNeg) (y := σ.1 3 r.toNatClampNeg) (by omega) (by omega)
  have n1 := nN_ rw_.1
  have n2 := nN_ rr_.1
  have e5 : (6 * σ.1 3 w.toNatClampNeg + σ.1 3 r.toNatClampNeg).toNatClampNeg = 6 * (σ.1 3 w.toNatClampNeg).toNatClampNeg + (σ.1 3 r.toNatClampNeg).toNatClampNeg := nC (by omega)
  refine OK.grd ⟨by omega, by omega⟩ ?_
  rw [e5]
  have hb := hP (6 * (σ.1 3 w.toNatClampNeg).toNatClampNeg + (σ.1 3 r.toNatClampNeg).toNatClampNeg)
  refine OK.grd (b01 hb) ?_
  refine OK.roret ?_
  rcases hb with hb | hb
  · exact .inl ⟨hb, fun h => (MT.iffP (by omega) (by omega)).mp h (Int32.toInt_inj.mp (by omega))⟩
  · exact .inr ⟨hb, (MT.iffP (by omega) (by omega)).mpr (fun h0 => by rw [h0] at hb; omega)⟩
theorem b_match_top {N : Nat} {rc rm : Int32 → Int32 → ST → Option (Int32 × ST)} (hm : cMatch N rm) (hc : cChosen N rc) : cMatch (N + 1) (f_X11_match rc rm) := by
  intro w r σ a b d e ha hb hP hw hr hN
  unfold f_X11_match
  have lt_0 := li_0
  have lt_1 := li_1
  have lt_6 := li_6
  have lt_8 := li_8
  have lu := FUi
  refine OK.grd hw.rng ?_
  refine OK.ieq (fun h8 => ?_) (fun h8 => ?_)
  · have := (hw.eit (by omega)).1
    exact b_match_16 hm FU w r 0 0 σ a b d e ha hb hP hw hr (by omega) (by omega) (by omega) (.inl ⟨by omega, fun k hk => by omega⟩)
  refine OK.grd hr.rng ?_
  refine OK.ieq (fun h9 => ?_) (fun h9 => ?_)
  · refine OK.bndR (hc w r σ a b d e ha hb hP hw hr (by omega) (by omega)) (fun v hv => ?_)
    dsimp only
    have it := MT.iffR (S := σ.1 2) (A := σ.1 3) (M := σ.1 4) (B := σ.1 5) (PR := σ.1 35) (w := w) (r := r) (by omega) (by omega)
    refine OK.ilt (fun _ => OK.roret (.inl ⟨by omega, fun h => ?_⟩)) (fun _ => ?_)
    · obtain ⟨k, k1, k2⟩ := it.mp h
      rcases hv with hv | ⟨hv, hv2⟩
      · exact hv.2 k k1 k2
      · omega
    rcases hv with hv | ⟨hv, hv2⟩
    · omega
    · have n1 := nN_ hv.1
      exact OK.roret (.inr ⟨by omega, it.mpr ⟨v.toNatClampNeg, by omega, hv2⟩⟩)
  · have z := fun h6 => b_match_135 (rc := rc) (rm := rm) w r _ _ σ a b d e ha hb hP hw hr rfl rfl (by omega) (by omega) h6
    refine OK.ieq (fun h6 => ?_) (fun h6 => z (by omega))
    refine OK.ieq (fun h7 => ?_) (fun h7 => z (by omega))
    have a1 := hw.lst (by omega)
    have a2 := hr.lst (by omega)
    refine OK.bndR (hm _ _ σ a b (d - 1) (e - 1) ha hb hP a1.2 a2.2 (by omega)) (fun v hv => ?_)
    dsimp only
    refine OK.grd (b01 (by omega)) ?_
    refine OK.roret ?_
    rcases hv with hv | hv
    · exact .inl ⟨hv.1, fun h => hv.2 ((MT.iffL (by omega) (by omega)).mp h)⟩
    · exact .inr ⟨hv.1, (MT.iffL (by omega) (by omega)).mpr hv.2⟩
theorem b_chosen_top {N : Nat} {rc rm : Int32 → Int32 → ST → Option (Int32 × ST)} (hm : cMatch N rm) : cChosen (N + 1) (f_X11_chosen rc rm) := by
  intro w r σ a b d e ha hb hP hw hr hN hs
  unfold f_X11_chosen
  have lt_0 := li_0
  have lt_m := li_m1
  have lu := FUi
  have := (hr.eit hs).1
  exact b_chosen_5 hm FU w r (-1) 0 σ a b d e ha hb hP hw hr (by omega) hs (by omega) (.inl ⟨by omega, fun k hk => by omega⟩)
theorem b_RM : ∀ N : Nat, cChosen N (R_X11_chosen N).1 ∧ cMatch N (R_X11_chosen N).2 := by
  intro N
  induction N with
  | zero =>
    refine ⟨?_, ?_⟩
    · intro w r σ a b d e ha hb hP hw hr hN hs
      have := (hr.eit hs).1
      cases d with
      | zero => exact hw.elim
      | succ d => omega
    · intro w r σ a b d e ha hb hP hw hr hN
      cases d with
      | zero => exact hw.elim
      | succ d => omega
  | succ N ih => exact ⟨b_chosen_top ih.2, b_match_top ih.2 ih.1⟩
theorem bT_match (w r : Int32) (σ : ST) {a b : Int} {d e : Nat} (ha : a ≤ 6) (hb : b ≤ 6) (hP : PB σ) (hw : VS σ a d w) (hr : VS σ b e r) (hd : d ≤ 8) (he : e ≤ 8) : OK (f_T_X11_match w r σ) (RO σ fun v => v.toInt = 0 ∧ ¬ MS σ w r ∨ v.toInt = 1 ∧ MS σ w r) := (b_RM FRB).2 w r σ a b d e ha hb hP hw hr (by have := FRi; omega)
theorem bT_chosen (w r : Int32) (σ : ST) {a b : Int} {d e : Nat} (ha : a ≤ 6) (hb : b ≤ 6) (hP : PB σ) (hw : VS σ a d w) (hr : VS σ b e r) (hd : d ≤ 8) (he : e ≤ 8) (hs : (σ.1 2 r.toNatClampNeg).toInt = 8) : OK (f_T_X11_chosen w r σ) (RO σ fun v => v.toInt = -1 ∧ (∀ k : Nat, (k : Int) < (σ.1 4 r.toNatClampNeg).toInt → ¬ MS σ w (σ.1 5 (4 * r.toNatClampNeg + k))) ∨ (0 ≤ v.toInt ∧ v.toInt < (σ.1 4 r.toNatClampNeg).toInt) ∧ MS σ w (σ.1 5 (4 * r.toNatClampNeg + v.toNatClampNeg))) := (b_RM FRB).1 w r σ a b d e ha hb hP hw hr (by have := FRi; omega) hs
