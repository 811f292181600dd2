theorem k_X4_takeList_48_92_62 {N0 : Nat} {r_X4_take : Nat → Nat → Int32 → Int32 → Int32 → Int32 → Int32 → ST → Option (ST)} (hr_X4_take : ∀ (p0 : Int32) (p1 : Int32) (p2 : Int32) (p3 : Int32) (p4 : Int32) (σ : ST), IA σ → σ.2.2.2 92 = 62 → 0 ≤ p4.toInt ∧ p4.toInt ≤ 31 ∧ (128 : Int) ≤ (N0 : Nat) + 4 * p4.toInt → OK (r_X4_take 92 62 p0 p1 p2 p3 p4 σ) (RS σ)) {r_X4_takeField : Nat → Nat → Int32 → Int32 → Int32 → Int32 → Int32 → ST → Option (ST)} (hr_X4_takeField : ∀ (p0 : Int32) (p1 : Int32) (p2 : Int32) (p3 : Int32) (p4 : Int32) (σ : ST), IA σ → σ.2.2.2 92 = 62 → 0 ≤ p4.toInt ∧ p4.toInt ≤ 30 ∧ (125 : Int) ≤ (N0 : Nat) + 4 * p4.toInt → OK (r_X4_takeField 92 62 p0 p1 p2 p3 p4 σ) (RS σ)) {r_X4_takeList : Nat → Nat → Int32 → Int32 → Int32 → Int32 → Int32 → ST → Option (ST)} (hr_X4_takeList : ∀ (p0 : Int32) (p1 : Int32) (p2 : Int32) (p3 : Int32) (p4 : Int32) (σ : ST), IA σ → σ.2.2.2 92 = 62 → 0 ≤ p4.toInt ∧ p4.toInt ≤ 30 ∧ (126 : Int) ≤ (N0 : Nat) + 4 * p4.toInt → OK (r_X4_takeList 92 62 p0 p1 p2 p3 p4 σ) (RS σ)) {r_X4_takeOwn : Nat → Nat → Int32 → Int32 → Int32 → Int32 → Int32 → ST → Option (ST)} (hr_X4_takeOwn : ∀ (p0 : Int32) (p1 : Int32) (p2 : Int32) (p3 : Int32) (p4 : Int32) (σ : ST), IA σ → σ.2.2.2 92 = 62 → 0 ≤ p4.toInt ∧ p4.toInt ≤ 30 ∧ (127 : Int) ≤ (N0 : Nat) + 4 * p4.toInt → OK (r_X4_takeOwn 92 62 p0 p1 p2 p3 p4 σ) (RS σ)) {r_X4_takeRecord : Nat → Nat → Int32 → Int32 → Int32 → Int32 → Int32 → ST → Option (ST)} (hr_X4_takeRecord : ∀ (p0 : Int32) (p1 : Int32) (p2 : Int32) (p3 : Int32) (p4 : Int32) (σ : ST), IA σ → σ.2.2.2 92 = 62 → 0 ≤ p4.toInt ∧ p4.toInt ≤ 30 ∧ (126 : Int) ≤ (N0 : Nat) + 4 * p4.toInt → OK (r_X4_takeRecord 92 62 p0 p1 p2 p3 p4 σ) (RS σ)) : ∀ (n : Nat) (x1 : Int32) (x5 : Int32) (x6 : Int32) (x7 : Int32) (x8 : Int32) (x9 : Int32) (σ : ST), IA σ → σ.2.2.2 92 = 62 → ((0 ≤ x5.toInt ∧ x5.toInt ≤ 30 ∧ (126 : Int) ≤ (N0 + 1 : Nat) + 4 * x5.toInt) ∧ 0 ≤ x9.toInt ∧ x9.toInt ≤ 200 ∧ (x6.toInt ≤ 200) ∧ (200 : Int) - x9.toInt < n) → OK (f_X4_takeList_48 r_X4_take r_X4_takeField r_X4_takeList r_X4_takeOwn r_X4_takeRecord 92 62 n x1 x5 x6 x7 x8 x9 σ) (RS σ) := by
  intro n
  induction n with
  | zero =>
    intro x1 x5 x6 x7 x8 x9 σ hI hT hv
    omega
  | succ n ih =>
    intro x1 x5 x6 x7 x8 x9 σ hI hT hv
    rw [f_X4_takeList_48]
    have lt_0 := li_0
    have lt_1 := li_1
    have lFU : ((FU : Nat) : Int) = 100000 := rfl
    have lFR : ((FR : Nat) : Int) = 160 := rfl
    refine OK.ile (fun h1 => ?_) (fun h1 => ?_)
    · skip
      exact OK.sret hI Fr.rf
    · skip
      refine OK.ieq (fun h2 => ?_) (fun h2 => ?_)
      · skip
        refine OK.bndS (k_X4_step_92_62 _ _ hI (by first | exact hT | (rw [Fr.rf.2.2.2]; exact hT))) Fr.rf (fun s3 is3 fs3 => ?_)
        try dsimp only
        obtain ⟨a4k, a4, a4l, a4r⟩ := i_add x5 1
        try (refine k0el (k := a4k) ?_ (fun e0 => ?_); (focus omega); subst e0)
        refine OK.bndS (hr_X4_take _ _ _ _ _ _ is3 (by first | exact hT | (rw [fs3.2.2.2]; exact hT)) (by omega)) fs3 (fun s5 is5 fs5 => ?_)
        try dsimp only
        refine OK.bndS (k_X4_stepBack_92_62 _ is5 (by first | exact hT | (rw [fs5.2.2.2]; exact hT))) fs5 (fun s6 is6 fs6 => ?_)
        try dsimp only
        obtain ⟨a7k, a7, a7l, a7r⟩ := i_add x9 1
        try (refine k0el (k := a7k) ?_ (fun e0 => ?_); (focus omega); subst e0)
        exact OK.trS (ih _ _ _ _ _ _ _ is6 (by first | exact hT | (rw [fs6.2.2.2]; exact hT)) (by omega)) fs6
      · skip
        exact OK.sret hI Fr.rf

theorem k_X4_takeList_48_92_74 {N0 : Nat} {r_X4_take : Nat → Nat → Int32 → Int32 → Int32 → Int32 → Int32 → ST → Option (ST)} (hr_X4_take : ∀ (p0 : Int32) (p1 : Int32) (p2 : Int32) (p3 : Int32) (p4 : Int32) (σ : ST), IA σ → σ.2.2.2 92 = 74 → 0 ≤ p4.toInt ∧ p4.toInt ≤ 31 ∧ (128 : Int) ≤ (N0 : Nat) + 4 * p4.toInt → OK (r_X4_take 92 74 p0 p1 p2 p3 p4 σ) (RS σ)) {r_X4_takeField : Nat → Nat → Int32 → Int32 → Int32 → Int32 → Int32 → ST → Option (ST)} (hr_X4_takeField : ∀ (p0 : Int32) (p1 : Int32) (p2 : Int32) (p3 : Int32) (p4 : Int32) (σ : ST), IA σ → σ.2.2.2 92 = 74 → 0 ≤ p4.toInt ∧ p4.toInt ≤ 30 ∧ (125 : Int) ≤ (N0 : Nat) + 4 * p4.toInt → OK (r_X4_takeField 92 74 p0 p1 p2 p3 p4 σ) (RS σ)) {r_X4_takeList : Nat → Nat → Int32 → Int32 → Int32 → Int32 → Int32 → ST → Option (ST)} (hr_X4_takeList : ∀ (p0 : Int32) (p1 : Int32) (p2 : Int32) (p3 : Int32) (p4 : Int32) (σ : ST), IA σ → σ.2.2.2 92 = 74 → 0 ≤ p4.toInt ∧ p4.toInt ≤ 30 ∧ (126 : Int) ≤ (N0 : Nat) + 4 * p4.toInt → OK (r_X4_takeList 92 74 p0 p1 p2 p3 p4 σ) (RS σ)) {r_X4_takeOwn : Nat → Nat → Int32 → Int32 → Int32 → Int32 → Int32 → ST → Option (ST)} (hr_X4_takeOwn : ∀ (p0 : Int32) (p1 : Int32) (p2 : Int32) (p3 : Int32) (p4 : Int32) (σ : ST), IA σ → σ.2.2.2 92 = 74 → 0 ≤ p4.toInt ∧ p4.toInt ≤ 30 ∧ (127 : Int) ≤ (N0 : Nat) + 4 * p4.toInt → OK (r_X4_takeOwn 92 74 p0 p1 p2 p3 p4 σ) (RS σ)) {r_X4_takeRecord : Nat → Nat → Int32 → Int32 → Int32 → Int32 → Int32 → ST → Option (ST)} (hr_X4_takeRecord : ∀ (p0 : Int32) (p1 : Int32) (p2 : Int32) (p3 : Int32) (p4 : Int32) (σ : ST), IA σ → σ.2.2.2 92 = 74 → 0 ≤ p4.toInt ∧ p4.toInt ≤ 30 ∧ (126 : Int) ≤ (N0 : Nat) + 4 * p4.toInt → OK (r_X4_takeRecord 92 74 p0 p1 p2 p3 p4 σ) (RS σ)) : ∀ (n : Nat) (x1 : Int32) (x5 : Int32) (x6 : Int32) (x7 : Int32) (x8 : Int32) (x9 : Int32) (σ : ST), IA σ → σ.2.2.2 92 = 74 → ((0 ≤ x5.toInt ∧ x5.toInt ≤ 30 ∧ (126 : Int) ≤ (N0 + 1 : Nat) + 4 * x5.toInt) ∧ 0 ≤ x9.toInt ∧ x9.toInt ≤ 200 ∧ (x6.toInt ≤ 200) ∧ (200 : Int) - x9.toInt < n) → OK (f_X4_takeList_48 r_X4_take r_X4_takeField r_X4_takeList r_X4_takeOwn r_X4_takeRecord 92 74 n x1 x5 x6 x7 x8 x9 σ) (RS σ) := by
  intro n
  induction n with
  | zero =>
    intro x1 x5 x6 x7 x8 x9 σ hI hT hv
    omega
  | succ n ih =>
    intro x1 x5 x6 x7 x8 x9 σ hI hT hv
    rw [f_X4_takeList_48]
    have lt_0 := li_0
    have lt_1 := li_1
    have lFU : ((FU : Nat) : Int) = 100000 := rfl
    have lFR : ((FR : Nat) : Int) = 160 := rfl
    refine OK.ile (fun h1 => ?_) (fun h1 => ?_)
    · skip
      exact OK.sret hI Fr.rf
    · skip
      refine OK.ieq (fun h2 => ?_) (fun h2 => ?_)
      · skip
        refine OK.bndS (k_X4_step_92_74 _ _ hI (by first | exact hT | (rw [Fr.rf.2.2.2]; exact hT))) Fr.rf (fun s3 is3 fs3 => ?_)
        try dsimp only
        obtain ⟨a4k, a4, a4l, a4r⟩ := i_add x5 1
        try (refine k0el (k := a4k) ?_ (fun e0 => ?_); (focus omega); subst e0)
        refine OK.bndS (hr_X4_take _ _ _ _ _ _ is3 (by first | exact hT | (rw [fs3.2.2.2]; exact hT)) (by omega)) fs3 (fun s5 is5 fs5 => ?_)
        try dsimp only
        refine OK.bndS (k_X4_stepBack_92_74 _ is5 (by first | exact hT | (rw [fs5.2.2.2]; exact hT))) fs5 (fun s6 is6 fs6 => ?_)
        try dsimp only
        obtain ⟨a7k, a7, a7l, a7r⟩ := i_add x9 1
        try (refine k0el (k := a7k) ?_ (fun e0 => ?_); (focus omega); subst e0)
        exact OK.trS (ih _ _ _ _ _ _ _ is6 (by first | exact hT | (rw [fs6.2.2.2]; exact hT)) (by omega)) fs6
      · skip
        exact OK.sret hI Fr.rf

theorem k_X4_takeList_43_89_50 {N0 : Nat} {r_X4_take : Nat → Nat → Int32 → Int32 → Int32 → Int32 → Int32 → ST → Option (ST)} (hr_X4_take : ∀ (p0 : Int32) (p1 : Int32) (p2 : Int32) (p3 : Int32) (p4 : Int32) (σ : ST), IA σ → σ.2.2.2 89 = 50 → 0 ≤ p4.toInt ∧ p4.toInt ≤ 31 ∧ (128 : Int) ≤ (N0 : Nat) + 4 * p4.toInt → OK (r_X4_take 89 50 p0 p1 p2 p3 p4 σ) (RS σ)) {r_X4_takeField : Nat → Nat → Int32 → Int32 → Int32 → Int32 → Int32 → ST → Option (ST)} (hr_X4_takeField : ∀ (p0 : Int32) (p1 : Int32) (p2 : Int32) (p3 : Int32) (p4 : Int32) (σ : ST), IA σ → σ.2.2.2 89 = 50 → 0 ≤ p4.toInt ∧ p4.toInt ≤ 30 ∧ (125 : Int) ≤ (N0 : Nat) + 4 * p4.toInt → OK (r_X4_takeField 89 50 p0 p1 p2 p3 p4 σ) (RS σ)) {r_X4_takeList : Nat → Nat → Int32 → Int32 → Int32 → Int32 → Int32 → ST → Option (ST)} (hr_X4_takeList : ∀ (p0 : Int32) (p1 : Int32) (p2 : Int32) (p3 : Int32) (p4 : Int32) (σ : ST), IA σ → σ.2.2.2 89 = 50 → 0 ≤ p4.toInt ∧ p4.toInt ≤ 30 ∧ (126 : Int) ≤ (N0 : Nat) + 4 * p4.toInt → OK (r_X4_takeList 89 50 p0 p1 p2 p3 p4 σ) (RS σ)) {r_X4_takeOwn : Nat → Nat → Int32 → Int32 → Int32 → Int32 → Int32 → ST → Option (ST)} (hr_X4_takeOwn : ∀ (p0 : Int32) (p1 : Int32) (p2 : Int32) (p3 : Int32) (p4 : Int32) (σ : ST), IA σ → σ.2.2.2 89 = 50 → 0 ≤ p4.toInt ∧ p4.toInt ≤ 30 ∧ (127 : Int) ≤ (N0 : Nat) + 4 * p4.toInt → OK (r_X4_takeOwn 89 50 p0 p1 p2 p3 p4 σ) (RS σ)) {r_X4_takeRecord : Nat → Nat → Int32 → Int32 → Int32 → Int32 → Int32 → ST → Option (ST)} (hr_X4_takeRecord : ∀ (p0 : Int32) (p1 : Int32) (p2 : Int32) (p3 : Int32) (p4 : Int32) (σ : ST), IA σ → σ.2.2.2 89 = 50 → 0 ≤ p4.toInt ∧ p4.toInt ≤ 30 ∧ (126 : Int) ≤ (N0 : Nat) + 4 * p4.toInt → OK (r_X4_takeRecord 89 50 p0 p1 p2 p3 p4 σ) (RS σ)) (x1 : Int32) (x5 : Int32) (x6 : Int32) (x7 : Int32) (y0 : Int32) (σ : ST) (hI : IA σ) (hT : σ.2.2.2 89 = 50) (hp0 : x6.toInt ≤ 200) (hv : 0 ≤ x5.toInt ∧ x5.toInt ≤ 30 ∧ (126 : Int) ≤ (N0 + 1 : Nat) + 4 * x5.toInt)  : OK (f_X4_takeList_43 r_X4_take r_X4_takeField r_X4_takeList r_X4_takeOwn r_X4_takeRecord 89 50 x1 x5 x6 x7 y0 σ) (RS σ) := by
  unfold f_X4_takeList_43
  have lt_0 := li_0
  have lt_1 := li_1
  have lFU : ((FU : Nat) : Int) = 100000 := rfl
  have lFR : ((FR : Nat) : Int) = 160 := rfl
  exact OK.trS (k_X4_takeList_48_89_50 hr_X4_take hr_X4_takeField hr_X4_takeList hr_X4_takeOwn hr_X4_takeRecord FU _ _ _ _ _ _ _ hI (by first | exact hT | (rw [Fr.rf.2.2.2]; exact hT)) (by omega)) Fr.rf

theorem k_X4_takeList_43_92_62 {N0 : Nat} {r_X4_take : Nat → Nat → Int32 → Int32 → Int32 → Int32 → Int32 → ST → Option (ST)} (hr_X4_take : ∀ (p0 : Int32) (p1 : Int32) (p2 : Int32) (p3 : Int32) (p4 : Int32) (σ : ST), IA σ → σ.2.2.2 92 = 62 → 0 ≤ p4.toInt ∧ p4.toInt ≤ 31 ∧ (128 : Int) ≤ (N0 : Nat) + 4 * p4.toInt → OK (r_X4_take 92 62 p0 p1 p2 p3 p4 σ) (RS σ)) {r_X4_takeField : Nat → Nat → Int32 → Int32 → Int32 → Int32 → Int32 → ST → Option (ST)} (hr_X4_takeField : ∀ (p0 : Int32) (p1 : Int32) (p2 : Int32) (p3 : Int32) (p4 : Int32) (σ : ST), IA σ → σ.2.2.2 92 = 62 → 0 ≤ p4.toInt ∧ p4.toInt ≤ 30 ∧ (125 : Int) ≤ (N0 : Nat) + 4 * p4.toInt → OK (r_X4_takeField 92 62 p0 p1 p2 p3 p4 σ) (RS σ)) {r_X4_takeList : Nat → Nat → Int32 → Int32 → Int32 → Int32 → Int32 → ST → Option (ST)} (hr_X4_takeList : ∀ (p0 : Int32) (p1 : Int32) (p2 : Int32) (p3 : Int32) (p4 : Int32) (σ : ST), IA σ → σ.2.2.2 92 = 62 → 0 ≤ p4.toInt ∧ p4.toInt ≤ 30 ∧ (126 : Int) ≤ (N0 : Nat) + 4 * p4.toInt → OK (r_X4_takeList 92 62 p0 p1 p2 p3 p4 σ) (RS σ)) {r_X4_takeOwn : Nat → Nat → Int32 → Int32 → Int32 → Int32 → Int32 → ST → Option (ST)} (hr_X4_takeOwn : ∀ (p0 : Int32) (p1 : Int32) (p2 : Int32) (p3 : Int32) (p4 : Int32) (σ : ST), IA σ → σ.2.2.2 92 = 62 → 0 ≤ p4.toInt ∧ p4.toInt ≤ 30 ∧ (127 : Int) ≤ (N0 : Nat) + 4 * p4.toInt → OK (r_X4_takeOwn 92 62 p0 p1 p2 p3 p4 σ) (RS σ)) {r_X4_takeRecord : Nat → Nat → Int32 → Int32 → Int32 → Int32 → Int32 → ST → Option (ST)} (hr_X4_takeRecord : ∀ (p0 : Int32) (p1 : Int32) (p2 : Int32) (p3 : Int32) (p4 : Int32) (σ : ST), IA σ → σ.2.2.2 92 = 62 → 0 ≤ p4.toInt ∧ p4.toInt ≤ 30 ∧ (126 : Int) ≤ (N0 : Nat) + 4 * p4.toInt → OK (r_X4_takeRecord 92 62 p0 p1 p2 p3 p4 σ) (RS σ)) (x1 : Int32) (x5 : Int32) (x6 : Int32) (x7 : Int32) (y0 : Int32) (σ : ST) (hI : IA σ) (hT : σ.2.2.2 92 = 62) (hp0 : x6.toInt ≤ 200) (hv : 0 ≤ x5.toInt ∧ x5.toInt ≤ 30 ∧ (126 : Int) ≤ (N0 + 1 : Nat) + 4 * x5.toInt)  : OK (f_X4_takeList_43 r_X4_take r_X4_takeField r_X4_takeList r_X4_takeOwn r_X4_takeRecord 92 62 x1 x5 x6 x7 y0 σ) (RS σ) := by
  unfold f_X4_takeList_43
  have lt_0 := li_0
  have lt_1 := li_1
  have lFU : ((FU : Nat) : Int) = 100000 := rfl
  have lFR : ((FR : Nat) : Int) = 160 := rfl
  exact OK.trS (k_X4_takeList_48_92_62 hr_X4_take hr_X4_takeField hr_X4_takeList hr_X4_takeOwn hr_X4_takeRecord FU _ _ _ _ _ _ _ hI (by first | exact hT | (rw [Fr.rf.2.2.2]; exact hT)) (by omega)) Fr.rf

theorem k_X4_takeList_43_92_74 {N0 : Nat} {r_X4_take : Nat → Nat → Int32 → Int32 → Int32 → Int32 → Int32 → ST → Option (ST)} (hr_X4_take : ∀ (p0 : Int32) (p1 : Int32) (p2 : Int32) (p3 : Int32) (p4 : Int32) (σ : ST), IA σ → σ.2.2.2 92 = 74 → 0 ≤ p4.toInt ∧ p4.toInt ≤ 31 ∧ (128 : Int) ≤ (N0 : Nat) + 4 * p4.toInt → OK (r_X4_take 92 74 p0 p1 p2 p3 p4 σ) (RS σ)) {r_X4_takeField : Nat → Nat → Int32 → Int32 → Int32 → Int32 → Int32 → ST → Option (ST)} (hr_X4_takeField : ∀ (p0 : Int32) (p1 : Int32) (p2 : Int32) (p3 : Int32) (p4 : Int32) (σ : ST), IA σ → σ.2.2.2 92 = 74 → 0 ≤ p4.toInt ∧ p4.toInt ≤ 30 ∧ (125 : Int) ≤ (N0 : Nat) + 4 * p4.toInt → OK (r_X4_takeField 92 74 p0 p1 p2 p3 p4 σ) (RS σ)) {r_X4_takeList : Nat → Nat → Int32 → Int32 → Int32 → Int32 → Int32 → ST → Option (ST)} (hr_X4_takeList : ∀ (p0 : Int32) (p1 : Int32) (p2 : Int32) (p3 : Int32) (p4 : Int32) (σ : ST), IA σ → σ.2.2.2 92 = 74 → 0 ≤ p4.toInt ∧ p4.toInt ≤ 30 ∧ (126 : Int) ≤ (N0 : Nat) + 4 * p4.toInt → OK (r_X4_takeList 92 74 p0 p1 p2 p3 p4 σ) (RS σ)) {r_X4_takeOwn : Nat → Nat → Int32 → Int32 → Int32 → Int32 → Int32 → ST → Option (ST)} (hr_X4_takeOwn : ∀ (p0 : Int32) (p1 : Int32) (p2 : Int32) (p3 : Int32) (p4 : Int32) (σ : ST), IA σ → σ.2.2.2 92 = 74 → 0 ≤ p4.toInt ∧ p4.toInt ≤ 30 ∧ (127 : Int) ≤ (N0 : Nat) + 4 * p4.toInt → OK (r_X4_takeOwn 92 74 p0 p1 p2 p3 p4 σ) (RS σ)) {r_X4_takeRecord : Nat → Nat → Int32 → Int32 → Int32 → Int32 → Int32 → ST → Option (ST)} (hr_X4_takeRecord : ∀ (p0 : Int32) (p1 : Int32) (p2 : Int32) (p3 : Int32) (p4 : Int32) (σ : ST), IA σ → σ.2.2.2 92 = 74 → 0 ≤ p4.toInt ∧ p4.toInt ≤ 30 ∧ (126 : Int) ≤ (N0 : Nat) + 4 * p4.toInt → OK (r_X4_takeRecord 92 74 p0 p1 p2 p3 p4 σ) (RS σ)) (x1 : Int32) (x5 : Int32) (x6 : Int32) (x7 : Int32) (y0 : Int32) (σ : ST) (hI : IA σ) (hT : σ.2.2.2 92 = 74) (hp0 : x6.toInt ≤ 200) (hv : 0 ≤ x5.toInt ∧ x5.toInt ≤ 30 ∧ (126 : Int) ≤ (N0 + 1 : Nat) + 4 * x5.toInt)  : OK (f_X4_takeList_43 r_X4_take r_X4_takeField r_X4_takeList r_X4_takeOwn r_X4_takeRecord 92 74 x1 x5 x6 x7 y0 σ) (RS σ) := by
  unfold f_X4_takeList_43
  have lt_0 := li_0
  have lt_1 := li_1
  have lFU : ((FU : Nat) : Int) = 100000 := rfl
  have lFR : ((FR : Nat) : Int) = 160 := rfl
  exact OK.trS (k_X4_takeList_48_92_74 hr_X4_take hr_X4_takeField hr_X4_takeList hr_X4_takeOwn hr_X4_takeRecord FU _ _ _ _ _ _ _ hI (by first | exact hT | (rw [Fr.rf.2.2.2]; exact hT)) (by omega)) Fr.rf

theorem k_X7_firstOf_50 (p0 : Int32) (σ : ST) (hI : IA σ)  : OK (f_X7_firstOf 50 p0 σ) (RO σ fun v => True) := by
  unfold f_X7_firstOf
  have lt_m1 := li_m1
  have lt_0 := li_0
  have lt_1 := li_1
  have lFU : ((FU : Nat) : Int) = 100000 := rfl
  have g50 := (hI.t50).1
  have g50b : 0 ≤ (σ.1 50 1).toInt ∧ (σ.1 50 1).toInt ≤ 400 := (hI.t50).2.1
  have g50n : ((ln7 50 : Nat) : Int) = 400 := rfl
  refine OK.bndR (k_X7_isRow_50 _ _ hI ) (fun v1 h2 => ?_)
  dsimp only
  refine OK.ieq (fun h3 => ?_) (fun h3 => ?_)
  · skip
    exact OK.roret (by first | trivial | omega | exact hI.flds _ | exact hI.dflds _ | exact hI.recs _ | exact hI.drecs _ | exact hI.droot _ | omega)
  · skip
    refine OK.grd ⟨by omega, by omega⟩ ?_
    exact OK.roret (by first | trivial | omega | exact hI.flds _ | exact hI.dflds _ | exact hI.recs _ | exact hI.drecs _ | exact hI.droot _ | omega)

theorem k_X7_firstOf_62 (p0 : Int32) (σ : ST) (hI : IA σ)  : OK (f_X7_firstOf 62 p0 σ) (RO σ fun v => True) := by
  unfold f_X7_firstOf
  have lt_m1 := li_m1
  have lt_0 := li_0
  have lt_1 := li_1
  have lFU : ((FU : Nat) : Int) = 100000 := rfl
  have g62 := (hI.t62).1
  have g62b : 0 ≤ (σ.1 62 1).toInt ∧ (σ.1 62 1).toInt ≤ 502 := (hI.t62).2.1
  have g62n : ((ln7 62 : Nat) : Int) = 502 := rfl
  refine OK.bndR (k_X7_isRow_62 _ _ hI ) (fun v1 h2 => ?_)
  dsimp only
  refine OK.ieq (fun h3 => ?_) (fun h3 => ?_)
  · skip
    exact OK.roret (by first | trivial | omega | exact hI.flds _ | exact hI.dflds _ | exact hI.recs _ | exact hI.drecs _ | exact hI.droot _ | omega)
  · skip
    refine OK.grd ⟨by omega, by omega⟩ ?_
    exact OK.roret (by first | trivial | omega | exact hI.flds _ | exact hI.dflds _ | exact hI.recs _ | exact hI.drecs _ | exact hI.droot _ | omega)

theorem k_X7_firstOf_74 (p0 : Int32) (σ : ST) (hI : IA σ)  : OK (f_X7_firstOf 74 p0 σ) (RO σ fun v => True) := by
  unfold f_X7_firstOf
  have lt_m1 := li_m1
  have lt_0 := li_0
  have lt_1 := li_1
  have lFU : ((FU : Nat) : Int) = 100000 := rfl
  have g74 := (hI.t74).1
  have g74b : 0 ≤ (σ.1 74 1).toInt ∧ (σ.1 74 1).toInt ≤ 400 := (hI.t74).2.1
  have g74n : ((ln7 74 : Nat) : Int) = 400 := rfl
  refine OK.bndR (k_X7_isRow_74 _ _ hI ) (fun v1 h2 => ?_)
  dsimp only
  refine OK.ieq (fun h3 => ?_) (fun h3 => ?_)
  · skip
    exact OK.roret (by first | trivial | omega | exact hI.flds _ | exact hI.dflds _ | exact hI.recs _ | exact hI.drecs _ | exact hI.droot _ | omega)
  · skip
    refine OK.grd ⟨by omega, by omega⟩ ?_
    exact OK.roret (by first | trivial | omega | exact hI.flds _ | exact hI.dflds _ | exact hI.recs _ | exact hI.drecs _ | exact hI.droot _ | omega)

theorem k_X7_nextOf_50 (p0 : Int32) (σ : ST) (hI : IA σ)  : OK (f_X7_nextOf 50 p0 σ) (RO σ fun v => True) := by
  unfold f_X7_nextOf
  have lt_m1 := li_m1
  have lt_0 := li_0
  have lt_1 := li_1
  have lFU : ((FU : Nat) : Int) = 100000 := rfl
  have g50 := (hI.t50).1
  have g50b : 0 ≤ (σ.1 50 1).toInt ∧ (σ.1 50 1).toInt ≤ 400 := (hI.t50).2.1
  have g50n : ((ln7 50 : Nat) : Int) = 400 := rfl
  refine OK.bndR (k_X7_isRow_50 _ _ hI ) (fun v1 h2 => ?_)
  dsimp only
  refine OK.ieq (fun h3 => ?_) (fun h3 => ?_)
  · skip
    exact OK.roret (by first | trivial | omega | exact hI.flds _ | exact hI.dflds _ | exact hI.recs _ | exact hI.drecs _ | exact hI.droot _ | omega)
  · skip
    refine OK.grd ⟨by omega, by omega⟩ ?_
    exact OK.roret (by first | trivial | omega | exact hI.flds _ | exact hI.dflds _ | exact hI.recs _ | exact hI.drecs _ | exact hI.droot _ | omega)

theorem k_X7_nextOf_62 (p0 : Int32) (σ : ST) (hI : IA σ)  : OK (f_X7_nextOf 62 p0 σ) (RO σ fun v => True) := by
  unfold f_X7_nextOf
  have lt_m1 := li_m1
  have lt_0 := li_0
  have lt_1 := li_1
  have lFU : ((FU : Nat) : Int) = 100000 := rfl
  have g62 := (hI.t62).1
  have g62b : 0 ≤ (σ.1 62 1).toInt ∧ (σ.1 62 1).toInt ≤ 502 := (hI.t62).2.1
  have g62n : ((ln7 62 : Nat) : Int) = 502 := rfl
  refine OK.bndR (k_X7_isRow_62 _ _ hI ) (fun v1 h2 => ?_)
  dsimp only
  refine OK.ieq (fun h3 => ?_) (fun h3 => ?_)
  · skip
    exact OK.roret (by first | trivial | omega | exact hI.flds _ | exact hI.dflds _ | exact hI.recs _ | exact hI.drecs _ | exact hI.droot _ | omega)
  · skip
    refine OK.grd ⟨by omega, by omega⟩ ?_
    exact OK.roret (by first | trivial | omega | exact hI.flds _ | exact hI.dflds _ | exact hI.recs _ | exact hI.drecs _ | exact hI.droot _ | omega)

theorem k_X7_nextOf_74 (p0 : Int32) (σ : ST) (hI : IA σ)  : OK (f_X7_nextOf 74 p0 σ) (RO σ fun v => True) := by
  unfold f_X7_nextOf
  have lt_m1 := li_m1
  have lt_0 := li_0
  have lt_1 := li_1
  have lFU : ((FU : Nat) : Int) = 100000 := rfl
  have g74 := (hI.t74).1
  have g74b : 0 ≤ (σ.1 74 1).toInt ∧ (σ.1 74 1).toInt ≤ 400 := (hI.t74).2.1
  have g74n : ((ln7 74 : Nat) : Int) = 400 := rfl
  refine OK.bndR (k_X7_isRow_74 _ _ hI ) (fun v1 h2 => ?_)
  dsimp only
  refine OK.ieq (fun h3 => ?_) (fun h3 => ?_)
  · skip
    exact OK.roret (by first | trivial | omega | exact hI.flds _ | exact hI.dflds _ | exact hI.recs _ | exact hI.drecs _ | exact hI.droot _ | omega)
  · skip
    refine OK.grd ⟨by omega, by omega⟩ ?_
    exact OK.roret (by first | trivial | omega | exact hI.flds _ | exact hI.dflds _ | exact hI.recs _ | exact hI.drecs _ | exact hI.droot _ | omega)

theorem k_X7_parentOf_50 (p0 : Int32) (σ : ST) (hI : IA σ)  : OK (f_X7_parentOf 50 p0 σ) (RO σ fun v => True) := by
  unfold f_X7_parentOf
  have lt_m1 := li_m1
  have lt_0 := li_0
  have lt_1 := li_1
  have lFU : ((FU : Nat) : Int) = 100000 := rfl
  have g50 := (hI.t50).1
  have g50b : 0 ≤ (σ.1 50 1).toInt ∧ (σ.1 50 1).toInt ≤ 400 := (hI.t50).2.1
  have g50n : ((ln7 50 : Nat) : Int) = 400 := rfl
  refine OK.bndR (k_X7_isRow_50 _ _ hI ) (fun v1 h2 => ?_)
  dsimp only
  refine OK.ieq (fun h3 => ?_) (fun h3 => ?_)
  · skip
    exact OK.roret (by first | trivial | omega | exact hI.flds _ | exact hI.dflds _ | exact hI.recs _ | exact hI.drecs _ | exact hI.droot _ | omega)
  · skip
    refine OK.grd ⟨by omega, by omega⟩ ?_
    exact OK.roret (by first | trivial | omega | exact hI.flds _ | exact hI.dflds _ | exact hI.recs _ | exact hI.drecs _ | exact hI.droot _ | omega)

theorem k_X7_parentOf_62 (p0 : Int32) (σ : ST) (hI : IA σ)  : OK (f_X7_parentOf 62 p0 σ) (RO σ fun v => True) := by
  unfold f_X7_parentOf
  have lt_m1 := li_m1
  have lt_0 := li_0
  have lt_1 := li_1
  have lFU : ((FU : Nat) : Int) = 100000 := rfl
  have g62 := (hI.t62).1
  have g62b : 0 ≤ (σ.1 62 1).toInt ∧ (σ.1 62 1).toInt ≤ 502 := (hI.t62).2.1
  have g62n : ((ln7 62 : Nat) : Int) = 502 := rfl
  refine OK.bndR (k_X7_isRow_62 _ _ hI ) (fun v1 h2 => ?_)
  dsimp only
  refine OK.ieq (fun h3 => ?_) (fun h3 => ?_)
  · skip
    exact OK.roret (by first | trivial | omega | exact hI.flds _ | exact hI.dflds _ | exact hI.recs _ | exact hI.drecs _ | exact hI.droot _ | omega)
  · skip
    refine OK.grd ⟨by omega, by omega⟩ ?_
    exact OK.roret (by first | trivial | omega | exact hI.flds _ | exact hI.dflds _ | exact hI.recs _ | exact hI.drecs _ | exact hI.droot _ | omega)

theorem k_X7_parentOf_74 (p0 : Int32) (σ : ST) (hI : IA σ)  : OK (f_X7_parentOf 74 p0 σ) (RO σ fun v => True) := by
  unfold f_X7_parentOf
  have lt_m1 := li_m1
  have lt_0 := li_0
  have lt_1 := li_1
  have lFU : ((FU : Nat) : Int) = 100000 := rfl
  have g74 := (hI.t74).1
  have g74b : 0 ≤ (σ.1 74 1).toInt ∧ (σ.1 74 1).toInt ≤ 400 := (hI.t74).2.1
  have g74n : ((ln7 74 : Nat) : Int) = 400 := rfl
  refine OK.bndR (k_X7_isRow_74 _ _ hI ) (fun v1 h2 => ?_)
  dsimp only
  refine OK.ieq (fun h3 => ?_) (fun h3 => ?_)
  · skip
    exact OK.roret (by first | trivial | omega | exact hI.flds _ | exact hI.dflds _ | exact hI.recs _ | exact hI.drecs _ | exact hI.droot _ | omega)
  · skip
    refine OK.grd ⟨by omega, by omega⟩ ?_
    exact OK.roret (by first | trivial | omega | exact hI.flds _ | exact hI.dflds _ | exact hI.recs _ | exact hI.drecs _ | exact hI.droot _ | omega)

theorem k_X7_rowBehind_51_50 (x2 : Int32) (σ : ST) (hI : IA σ)  : OK (f_X7_rowBehind_51 50 x2 σ) (RO σ fun v => True) := by
  unfold f_X7_rowBehind_51
  have lt_0 := li_0
  have lt_1 := li_1
  have lFU : ((FU : Nat) : Int) = 100000 := rfl
  refine OK.bndR (k_X7_nextOf_50 _ _ hI ) (fun v1 h2 => ?_)
  dsimp only
  exact OK.roret (by first | trivial | omega | exact hI.flds _ | exact hI.dflds _ | exact hI.recs _ | exact hI.drecs _ | exact hI.droot _ | omega)

theorem k_X7_rowBehind_51_62 (x2 : Int32) (σ : ST) (hI : IA σ)  : OK (f_X7_rowBehind_51 62 x2 σ) (RO σ fun v => True) := by
  unfold f_X7_rowBehind_51
  have lt_0 := li_0
  have lt_1 := li_1
  have lFU : ((FU : Nat) : Int) = 100000 := rfl
  refine OK.bndR (k_X7_nextOf_62 _ _ hI ) (fun v1 h2 => ?_)
  dsimp only
  exact OK.roret (by first | trivial | omega | exact hI.flds _ | exact hI.dflds _ | exact hI.recs _ | exact hI.drecs _ | exact hI.droot _ | omega)

theorem k_X7_rowBehind_51_74 (x2 : Int32) (σ : ST) (hI : IA σ)  : OK (f_X7_rowBehind_51 74 x2 σ) (RO σ fun v => True) := by
  unfold f_X7_rowBehind_51
  have lt_0 := li_0
  have lt_1 := li_1
  have lFU : ((FU : Nat) : Int) = 100000 := rfl
  refine OK.bndR (k_X7_nextOf_74 _ _ hI ) (fun v1 h2 => ?_)
  dsimp only
  exact OK.roret (by first | trivial | omega | exact hI.flds _ | exact hI.dflds _ | exact hI.recs _ | exact hI.drecs _ | exact hI.droot _ | omega)

theorem k_X7_rowBehind_19_50 : ∀ (n : Nat) (x2 : Int32) (x3 : Int32) (σ : ST), IA σ → (0 ≤ x3.toInt ∧ x3.toInt ≤ 32 ∧ (32 : Int) - x3.toInt < n) → OK (f_X7_rowBehind_19 50 n x2 x3 σ) (RO σ fun v => True) := by
  intro n
  induction n with
  | zero =>
    intro x2 x3 σ hI hv
    omega
  | succ n ih =>
    intro x2 x3 σ hI hv
    rw [f_X7_rowBehind_19]
    have lt_m1 := li_m1
    have lt_0 := li_0
    have lt_1 := li_1
    have lt_31 := li_31
    have lFU : ((FU : Nat) : Int) = 100000 := rfl
    refine OK.ilt (fun h1 => ?_) (fun h1 => ?_)
    · skip
      exact OK.roq (k_X7_rowBehind_51_50 _ _ hI ) (fun v hv => by first | trivial | omega | exact hI.flds _ | exact hI.dflds _ | exact hI.recs _ | exact hI.drecs _ | exact hI.droot _ | omega)
    · skip
      refine OK.ieq (fun h2 => ?_) (fun h2 => ?_)
      · skip
        exact OK.roq (k_X7_rowBehind_51_50 _ _ hI ) (fun v hv => by first | trivial | omega | exact hI.flds _ | exact hI.dflds _ | exact hI.recs _ | exact hI.drecs _ | exact hI.droot _ | omega)
      · skip
        refine OK.bndR (k_X7_nextOf_50 _ _ hI ) (fun v3 h4 => ?_)
        dsimp only
        refine OK.ieq (fun h5 => ?_) (fun h5 => ?_)
        · skip
          refine OK.bndR (k_X7_parentOf_50 _ _ hI ) (fun v6 h7 => ?_)
          dsimp only
          obtain ⟨a8k, a8, a8l, a8r⟩ := i_add x3 1
          try (refine k0el (k := a8k) ?_ (fun e0 => ?_); (focus omega); subst e0)
          exact OK.roq (ih _ _ _ hI (by omega)) (fun v hv => by first | trivial | omega | exact hI.flds _ | exact hI.dflds _ | exact hI.recs _ | exact hI.drecs _ | exact hI.droot _ | omega)
        · skip
          exact OK.roq (k_X7_rowBehind_51_50 _ _ hI ) (fun v hv => by first | trivial | omega | exact hI.flds _ | exact hI.dflds _ | exact hI.recs _ | exact hI.drecs _ | exact hI.droot _ | omega)

theorem k_X7_rowBehind_19_62 : ∀ (n : Nat) (x2 : Int32) (x3 : Int32) (σ : ST), IA σ → (0 ≤ x3.toInt ∧ x3.toInt ≤ 32 ∧ (32 : Int) - x3.toInt < n) → OK (f_X7_rowBehind_19 62 n x2 x3 σ) (RO σ fun v => True) := by
  intro n
  induction n with
  | zero =>
    intro x2 x3 σ hI hv
    omega
  | succ n ih =>
    intro x2 x3 σ hI hv
    rw [f_X7_rowBehind_19]
    have lt_m1 := li_m1
    have lt_0 := li_0
    have lt_1 := li_1
    have lt_31 := li_31
    have lFU : ((FU : Nat) : Int) = 100000 := rfl
    refine OK.ilt (fun h1 => ?_) (fun h1 => ?_)
    · skip
      exact OK.roq (k_X7_rowBehind_51_62 _ _ hI ) (fun v hv => by first | trivial | omega | exact hI.flds _ | exact hI.dflds _ | exact hI.recs _ | exact hI.drecs _ | exact hI.droot _ | omega)
    · skip
      refine OK.ieq (fun h2 => ?_) (fun h2 => ?_)
      · skip
        exact OK.roq (k_X7_rowBehind_51_62 _ _ hI ) (fun v hv => by first | trivial | omega | exact hI.flds _ | exact hI.dflds _ | exact hI.recs _ | exact hI.drecs _ | exact hI.droot _ | omega)
      · skip
        refine OK.bndR (k_X7_nextOf_62 _ _ hI ) (fun v3 h4 => ?_)
        dsimp only
        refine OK.ieq (fun h5 => ?_) (fun h5 => ?_)
        · skip
          refine OK.bndR (k_X7_parentOf_62 _ _ hI ) (fun v6 h7 => ?_)
          dsimp only
          obtain ⟨a8k, a8, a8l, a8r⟩ := i_add x3 1
          try (refine k0el (k := a8k) ?_ (fun e0 => ?_); (focus omega); subst e0)
          exact OK.roq (ih _ _ _ hI (by omega)) (fun v hv => by first | trivial | omega | exact hI.flds _ | exact hI.dflds _ | exact hI.recs _ | exact hI.drecs _ | exact hI.droot _ | omega)
        · skip
          exact OK.roq (k_X7_rowBehind_51_62 _ _ hI ) (fun v hv => by first | trivial | omega | exact hI.flds _ | exact hI.dflds _ | exact hI.recs _ | exact hI.drecs _ | exact hI.droot _ | omega)

theorem k_X7_rowBehind_19_74 : ∀ (n : Nat) (x2 : Int32) (x3 : Int32) (σ : ST), IA σ → (0 ≤ x3.toInt ∧ x3.toInt ≤ 32 ∧ (32 : Int) - x3.toInt < n) → OK (f_X7_rowBehind_19 74 n x2 x3 σ) (RO σ fun v => True) := by
  intro n
  induction n with
  | zero =>
    intro x2 x3 σ hI hv
    omega
  | succ n ih =>
    intro x2 x3 σ hI hv
    rw [f_X7_rowBehind_19]
    have lt_m1 := li_m1
    have lt_0 := li_0
    have lt_1 := li_1
    have lt_31 := li_31
    have lFU : ((FU : Nat) : Int) = 100000 := rfl
    refine OK.ilt (fun h1 => ?_) (fun h1 => ?_)
    · skip
      exact OK.roq (k_X7_rowBehind_51_74 _ _ hI ) (fun v hv => by first | trivial | omega | exact hI.flds _ | exact hI.dflds _ | exact hI.recs _ | exact hI.drecs _ | exact hI.droot _ | omega)
    · skip
      refine OK.ieq (fun h2 => ?_) (fun h2 => ?_)
      · skip
        exact OK.roq (k_X7_rowBehind_51_74 _ _ hI ) (fun v hv => by first | trivial | omega | exact hI.flds _ | exact hI.dflds _ | exact hI.recs _ | exact hI.drecs _ | exact hI.droot _ | omega)
      · skip
        refine OK.bndR (k_X7_nextOf_74 _ _ hI ) (fun v3 h4 => ?_)
        dsimp only
        refine OK.ieq (fun h5 => ?_) (fun h5 => ?_)
        · skip
          refine OK.bndR (k_X7_parentOf_74 _ _ hI ) (fun v6 h7 => ?_)
          dsimp only
          obtain ⟨a8k, a8, a8l, a8r⟩ := i_add x3 1
          try (refine k0el (k := a8k) ?_ (fun e0 => ?_); (focus omega); subst e0)
          exact OK.roq (ih _ _ _ hI (by omega)) (fun v hv => by first | trivial | omega | exact hI.flds _ | exact hI.dflds _ | exact hI.recs _ | exact hI.drecs _ | exact hI.droot _ | omega)
        · skip
          exact OK.roq (k_X7_rowBehind_51_74 _ _ hI ) (fun v hv => by first | trivial | omega | exact hI.flds _ | exact hI.dflds _ | exact hI.recs _ | exact hI.drecs _ | exact hI.droot _ | omega)

theorem k_X7_rowBehind_50 (p0 : Int32) (σ : ST) (hI : IA σ)  : OK (f_X7_rowBehind 50 p0 σ) (RO σ fun v => True) := by
  unfold f_X7_rowBehind
  have lt_m1 := li_m1
  have lt_0 := li_0
  have lt_1 := li_1
  have lFU : ((FU : Nat) : Int) = 100000 := rfl
  refine OK.bndR (k_X7_firstOf_50 _ _ hI ) (fun v1 h2 => ?_)
  dsimp only
  refine OK.ieq (fun h3 => ?_) (fun h3 => ?_)
  · skip
    exact OK.roq (k_X7_rowBehind_19_50 FU _ _ _ hI (by omega)) (fun v hv => by first | trivial | omega | exact hI.flds _ | exact hI.dflds _ | exact hI.recs _ | exact hI.drecs _ | exact hI.droot _ | omega)
  · skip
    refine OK.bndR (k_X7_firstOf_50 _ _ hI ) (fun v4 h5 => ?_)
    dsimp only
    exact OK.roret (by first | trivial | omega | exact hI.flds _ | exact hI.dflds _ | exact hI.recs _ | exact hI.drecs _ | exact hI.droot _ | omega)

theorem k_X7_rowBehind_62 (p0 : Int32) (σ : ST) (hI : IA σ)  : OK (f_X7_rowBehind 62 p0 σ) (RO σ fun v => True) := by
  unfold f_X7_rowBehind
  have lt_m1 := li_m1
  have lt_0 := li_0
  have lt_1 := li_1
  have lFU : ((FU : Nat) : Int) = 100000 := rfl
  refine OK.bndR (k_X7_firstOf_62 _ _ hI ) (fun v1 h2 => ?_)
  dsimp only
  refine OK.ieq (fun h3 => ?_) (fun h3 => ?_)
  · skip
    exact OK.roq (k_X7_rowBehind_19_62 FU _ _ _ hI (by omega)) (fun v hv => by first | trivial | omega | exact hI.flds _ | exact hI.dflds _ | exact hI.recs _ | exact hI.drecs _ | exact hI.droot _ | omega)
  · skip
    refine OK.bndR (k_X7_firstOf_62 _ _ hI ) (fun v4 h5 => ?_)
    dsimp only
    exact OK.roret (by first | trivial | omega | exact hI.flds _ | exact hI.dflds _ | exact hI.recs _ | exact hI.drecs _ | exact hI.droot _ | omega)

theorem k_X7_rowBehind_74 (p0 : Int32) (σ : ST) (hI : IA σ)  : OK (f_X7_rowBehind 74 p0 σ) (RO σ fun v => True) := by
  unfold f_X7_rowBehind
  have lt_m1 := li_m1
  have lt_0 := li_0
  have lt_1 := li_1
  have lFU : ((FU : Nat) : Int) = 100000 := rfl
  refine OK.bndR (k_X7_firstOf_74 _ _ hI ) (fun v1 h2 => ?_)
  dsimp only
  refine OK.ieq (fun h3 => ?_) (fun h3 => ?_)
  · skip
    exact OK.roq (k_X7_rowBehind_19_74 FU _ _ _ hI (by omega)) (fun v hv => by first | trivial | omega | exact hI.flds _ | exact hI.dflds _ | exact hI.recs _ | exact hI.drecs _ | exact hI.droot _ | omega)
  · skip
    refine OK.bndR (k_X7_firstOf_74 _ _ hI ) (fun v4 h5 => ?_)
    dsimp only
    exact OK.roret (by first | trivial | omega | exact hI.flds _ | exact hI.dflds _ | exact hI.recs _ | exact hI.drecs _ | exact hI.droot _ | omega)

theorem k_X7_putInOrder_4_50 : ∀ (n : Nat) (x1 : Int32) (x2 : Int32) (σ : ST), IA σ → (0 ≤ x2.toInt ∧ x2.toInt ≤ 502 ∧ (502 : Int) - x2.toInt < n) → OK (f_X7_putInOrder_4 50 n x1 x2 σ) (RS σ) := by
  intro n
  induction n with
  | zero =>
    intro x1 x2 σ hI hv
    omega
  | succ n ih =>
    intro x1 x2 σ hI hv
    rw [f_X7_putInOrder_4]
    have lt_0 := li_0
    have lt_1 := li_1
    have lFU : ((FU : Nat) : Int) = 100000 := rfl
    have g50 := (hI.t50).1
    have g50b : 0 ≤ (σ.1 50 1).toInt ∧ (σ.1 50 1).toInt ≤ 400 := (hI.t50).2.1
    have g50n : ((ln7 50 : Nat) : Int) = 400 := rfl
    refine OK.ile (fun h1 => ?_) (fun h1 => ?_)
    · skip
      exact OK.sret hI Fr.rf
    · skip
      refine OK.bndR (k_X7_isRow_50 _ _ hI ) (fun v2 h3 => ?_)
      dsimp only
      refine OK.ieq (fun h4 => ?_) (fun h4 => ?_)
      · skip
        exact OK.sret hI Fr.rf
      · skip
        refine OK.grd ⟨by omega, by omega⟩ ?_
        refine OK.grd ⟨by omega, by omega⟩ ?_
        refine OK.bndR (k_X7_rowBehind_50 _ _ (ia_I_61 (ia_I_60 hI)) ) (fun v5 h6 => ?_)
        dsimp only
        obtain ⟨a7k, a7, a7l, a7r⟩ := i_add x2 1
        try (refine k0el (k := a7k) ?_ (fun e0 => ?_); (focus omega); subst e0)
        exact OK.trS (ih _ _ _ (ia_I_61 (ia_I_60 hI)) (by omega)) (fr_I_61 (fr_I_60 Fr.rf))

theorem k_X7_putInOrder_4_62 : ∀ (n : Nat) (x1 : Int32) (x2 : Int32) (σ : ST), IA σ → (0 ≤ x2.toInt ∧ x2.toInt ≤ 502 ∧ (502 : Int) - x2.toInt < n) → OK (f_X7_putInOrder_4 62 n x1 x2 σ) (RS σ) := by
  intro n
  induction n with
  | zero =>
    intro x1 x2 σ hI hv
    omega
  | succ n ih =>
    intro x1 x2 σ hI hv
    rw [f_X7_putInOrder_4]
    have lt_0 := li_0
    have lt_1 := li_1
    have lFU : ((FU : Nat) : Int) = 100000 := rfl
    have g62 := (hI.t62).1
    have g62b : 0 ≤ (σ.1 62 1).toInt ∧ (σ.1 62 1).toInt ≤ 502 := (hI.t62).2.1
    have g62n : ((ln7 62 : Nat) : Int) = 502 := rfl
    refine OK.ile (fun h1 => ?_) (fun h1 => ?_)
    · skip
      exact OK.sret hI Fr.rf
    · skip
      refine OK.bndR (k_X7_isRow_62 _ _ hI ) (fun v2 h3 => ?_)
      dsimp only
      refine OK.ieq (fun h4 => ?_) (fun h4 => ?_)
      · skip
        exact OK.sret hI Fr.rf
      · skip
        refine OK.grd ⟨by omega, by omega⟩ ?_
        refine OK.grd ⟨by omega, by omega⟩ ?_
        refine OK.bndR (k_X7_rowBehind_62 _ _ (ia_I_73 (ia_I_72 hI)) ) (fun v5 h6 => ?_)
        dsimp only
        obtain ⟨a7k, a7, a7l, a7r⟩ := i_add x2 1
        try (refine k0el (k := a7k) ?_ (fun e0 => ?_); (focus omega); subst e0)
        exact OK.trS (ih _ _ _ (ia_I_73 (ia_I_72 hI)) (by omega)) (fr_I_73 (fr_I_72 Fr.rf))

theorem k_X7_putInOrder_4_74 : ∀ (n : Nat) (x1 : Int32) (x2 : Int32) (σ : ST), IA σ → (0 ≤ x2.toInt ∧ x2.toInt ≤ 502 ∧ (502 : Int) - x2.toInt < n) → OK (f_X7_putInOrder_4 74 n x1 x2 σ) (RS σ) := by
  intro n
  induction n with
  | zero =>
    intro x1 x2 σ hI hv
    omega
  | succ n ih =>
    intro x1 x2 σ hI hv
    rw [f_X7_putInOrder_4]
    have lt_0 := li_0
    have lt_1 := li_1
    have lFU : ((FU : Nat) : Int) = 100000 := rfl
    have g74 := (hI.t74).1
    have g74b : 0 ≤ (σ.1 74 1).toInt ∧ (σ.1 74 1).toInt ≤ 400 := (hI.t74).2.1
    have g74n : ((ln7 74 : Nat) : Int) = 400 := rfl
    refine OK.ile (fun h1 => ?_) (fun h1 => ?_)
    · skip
      exact OK.sret hI Fr.rf
    · skip
      refine OK.bndR (k_X7_isRow_74 _ _ hI ) (fun v2 h3 => ?_)
      dsimp only
      refine OK.ieq (fun h4 => ?_) (fun h4 => ?_)
      · skip
        exact OK.sret hI Fr.rf
      · skip
        refine OK.grd ⟨by omega, by omega⟩ ?_
        refine OK.grd ⟨by omega, by omega⟩ ?_
        refine OK.bndR (k_X7_rowBehind_74 _ _ (ia_I_85 (ia_I_84 hI)) ) (fun v5 h6 => ?_)
        dsimp only
        obtain ⟨a7k, a7, a7l, a7r⟩ := i_add x2 1
        try (refine k0el (k := a7k) ?_ (fun e0 => ?_); (focus omega); subst e0)
        exact OK.trS (ih _ _ _ (ia_I_85 (ia_I_84 hI)) (by omega)) (fr_I_85 (fr_I_84 Fr.rf))

theorem k_X7_putInOrder_50 (σ : ST) (hI : IA σ)  : OK (f_X7_putInOrder 50 σ) (RS σ) := by
  unfold f_X7_putInOrder
  have lt_0 := li_0
  have lt_1 := li_1
  have lFU : ((FU : Nat) : Int) = 100000 := rfl
  exact OK.trS (k_X7_putInOrder_4_50 FU _ _ _ hI (by omega)) Fr.rf

theorem k_X7_putInOrder_62 (σ : ST) (hI : IA σ)  : OK (f_X7_putInOrder 62 σ) (RS σ) := by
  unfold f_X7_putInOrder
  have lt_0 := li_0
  have lt_1 := li_1
  have lFU : ((FU : Nat) : Int) = 100000 := rfl
  exact OK.trS (k_X7_putInOrder_4_62 FU _ _ _ hI (by omega)) Fr.rf

theorem k_X7_putInOrder_74 (σ : ST) (hI : IA σ)  : OK (f_X7_putInOrder 74 σ) (RS σ) := by
  unfold f_X7_putInOrder
  have lt_0 := li_0
  have lt_1 := li_1
  have lFU : ((FU : Nat) : Int) = 100000 := rfl
  exact OK.trS (k_X7_putInOrder_4_74 FU _ _ _ hI (by omega)) Fr.rf

theorem k_X7_rowAt_50 (p0 : Int32) (σ : ST) (hI : IA σ)  : OK (f_X7_rowAt 50 p0 σ) (RO σ fun v => True) := by
  unfold f_X7_rowAt
  have lt_m1 := li_m1
  have lt_0 := li_0
  have lt_1 := li_1
  have lFU : ((FU : Nat) : Int) = 100000 := rfl
  have g50 := (hI.t50).1
  have g50b : 0 ≤ (σ.1 50 1).toInt ∧ (σ.1 50 1).toInt ≤ 400 := (hI.t50).2.1
  have g50n : ((ln7 50 : Nat) : Int) = 400 := rfl
  refine OK.ilt (fun h1 => ?_) (fun h1 => ?_)
  · skip
    exact OK.roret (by first | trivial | omega | exact hI.flds _ | exact hI.dflds _ | exact hI.recs _ | exact hI.drecs _ | exact hI.droot _ | omega)
  · skip
    refine OK.ile (fun h2 => ?_) (fun h2 => ?_)
    · skip
      exact OK.roret (by first | trivial | omega | exact hI.flds _ | exact hI.dflds _ | exact hI.recs _ | exact hI.drecs _ | exact hI.droot _ | omega)
    · skip
      refine OK.ile (fun h3 => ?_) (fun h3 => ?_)
      · skip
        exact OK.roret (by first | trivial | omega | exact hI.flds _ | exact hI.dflds _ | exact hI.recs _ | exact hI.drecs _ | exact hI.droot _ | omega)
      · skip
        refine OK.grd ⟨by omega, by omega⟩ ?_
        exact OK.roret (by first | trivial | omega | exact hI.flds _ | exact hI.dflds _ | exact hI.recs _ | exact hI.drecs _ | exact hI.droot _ | omega)

theorem k_X7_rowAt_62 (p0 : Int32) (σ : ST) (hI : IA σ)  : OK (f_X7_rowAt 62 p0 σ) (RO σ fun v => True) := by
  unfold f_X7_rowAt
  have lt_m1 := li_m1
  have lt_0 := li_0
  have lt_1 := li_1
  have lFU : ((FU : Nat) : Int) = 100000 := rfl
  have g62 := (hI.t62).1
  have g62b : 0 ≤ (σ.1 62 1).toInt ∧ (σ.1 62 1).toInt ≤ 502 := (hI.t62).2.1
  have g62n : ((ln7 62 : Nat) : Int) = 502 := rfl
  refine OK.ilt (fun h1 => ?_) (fun h1 => ?_)
  · skip
    exact OK.roret (by first | trivial | omega | exact hI.flds _ | exact hI.dflds _ | exact hI.recs _ | exact hI.drecs _ | exact hI.droot _ | omega)
  · skip
    refine OK.ile (fun h2 => ?_) (fun h2 => ?_)
    · skip
      exact OK.roret (by first | trivial | omega | exact hI.flds _ | exact hI.dflds _ | exact hI.recs _ | exact hI.drecs _ | exact hI.droot _ | omega)
    · skip
      refine OK.ile (fun h3 => ?_) (fun h3 => ?_)
      · skip
        exact OK.roret (by first | trivial | omega | exact hI.flds _ | exact hI.dflds _ | exact hI.recs _ | exact hI.drecs _ | exact hI.droot _ | omega)
      · skip
        refine OK.grd ⟨by omega, by omega⟩ ?_
        exact OK.roret (by first | trivial | omega | exact hI.flds _ | exact hI.dflds _ | exact hI.recs _ | exact hI.drecs _ | exact hI.droot _ | omega)

theorem k_X7_rowAt_74 (p0 : Int32) (σ : ST) (hI : IA σ)  : OK (f_X7_rowAt 74 p0 σ) (RO σ fun v => True) := by
  unfold f_X7_rowAt
  have lt_m1 := li_m1
  have lt_0 := li_0
  have lt_1 := li_1
  have lFU : ((FU : Nat) : Int) = 100000 := rfl
  have g74 := (hI.t74).1
  have g74b : 0 ≤ (σ.1 74 1).toInt ∧ (σ.1 74 1).toInt ≤ 400 := (hI.t74).2.1
  have g74n : ((ln7 74 : Nat) : Int) = 400 := rfl
  refine OK.ilt (fun h1 => ?_) (fun h1 => ?_)
  · skip
    exact OK.roret (by first | trivial | omega | exact hI.flds _ | exact hI.dflds _ | exact hI.recs _ | exact hI.drecs _ | exact hI.droot _ | omega)
  · skip
    refine OK.ile (fun h2 => ?_) (fun h2 => ?_)
    · skip
      exact OK.roret (by first | trivial | omega | exact hI.flds _ | exact hI.dflds _ | exact hI.recs _ | exact hI.drecs _ | exact hI.droot _ | omega)
    · skip
      refine OK.ile (fun h3 => ?_) (fun h3 => ?_)
      · skip
        exact OK.roret (by first | trivial | omega | exact hI.flds _ | exact hI.dflds _ | exact hI.recs _ | exact hI.drecs _ | exact hI.droot _ | omega)
      · skip
        refine OK.grd ⟨by omega, by omega⟩ ?_
        exact OK.roret (by first | trivial | omega | exact hI.flds _ | exact hI.dflds _ | exact hI.recs _ | exact hI.drecs _ | exact hI.droot _ | omega)

theorem k_X7_sizeOf_50 (p0 : Int32) (σ : ST) (hI : IA σ)  : OK (f_X7_sizeOf 50 p0 σ) (RO σ fun v => True) := by
  unfold f_X7_sizeOf
  have lt_0 := li_0
  have lt_1 := li_1
  have lFU : ((FU : Nat) : Int) = 100000 := rfl
  have g50 := (hI.t50).1
  have g50b : 0 ≤ (σ.1 50 1).toInt ∧ (σ.1 50 1).toInt ≤ 400 := (hI.t50).2.1
  have g50n : ((ln7 50 : Nat) : Int) = 400 := rfl
  refine OK.bndR (k_X7_isRow_50 _ _ hI ) (fun v1 h2 => ?_)
  dsimp only
  refine OK.ieq (fun h3 => ?_) (fun h3 => ?_)
  · skip
    exact OK.roret (by first | trivial | omega | exact hI.flds _ | exact hI.dflds _ | exact hI.recs _ | exact hI.drecs _ | exact hI.droot _ | omega)
  · skip
    refine OK.grd ⟨by omega, by omega⟩ ?_
    exact OK.roret (by first | trivial | omega | exact hI.flds _ | exact hI.dflds _ | exact hI.recs _ | exact hI.drecs _ | exact hI.droot _ | omega)

theorem k_X7_sizeOf_62 (p0 : Int32) (σ : ST) (hI : IA σ)  : OK (f_X7_sizeOf 62 p0 σ) (RO σ fun v => True) := by
  unfold f_X7_sizeOf
  have lt_0 := li_0
  have lt_1 := li_1
  have lFU : ((FU : Nat) : Int) = 100000 := rfl
  have g62 := (hI.t62).1
  have g62b : 0 ≤ (σ.1 62 1).toInt ∧ (σ.1 62 1).toInt ≤ 502 := (hI.t62).2.1
  have g62n : ((ln7 62 : Nat) : Int) = 502 := rfl
  refine OK.bndR (k_X7_isRow_62 _ _ hI ) (fun v1 h2 => ?_)
  dsimp only
  refine OK.ieq (fun h3 => ?_) (fun h3 => ?_)
  · skip
    exact OK.roret (by first | trivial | omega | exact hI.flds _ | exact hI.dflds _ | exact hI.recs _ | exact hI.drecs _ | exact hI.droot _ | omega)
  · skip
    refine OK.grd ⟨by omega, by omega⟩ ?_
    exact OK.roret (by first | trivial | omega | exact hI.flds _ | exact hI.dflds _ | exact hI.recs _ | exact hI.drecs _ | exact hI.droot _ | omega)

theorem k_X7_sizeOf_74 (p0 : Int32) (σ : ST) (hI : IA σ)  : OK (f_X7_sizeOf 74 p0 σ) (RO σ fun v => True) := by
  unfold f_X7_sizeOf
  have lt_0 := li_0
  have lt_1 := li_1
  have lFU : ((FU : Nat) : Int) = 100000 := rfl
  have g74 := (hI.t74).1
  have g74b : 0 ≤ (σ.1 74 1).toInt ∧ (σ.1 74 1).toInt ≤ 400 := (hI.t74).2.1
  have g74n : ((ln7 74 : Nat) : Int) = 400 := rfl
  refine OK.bndR (k_X7_isRow_74 _ _ hI ) (fun v1 h2 => ?_)
  dsimp only
  refine OK.ieq (fun h3 => ?_) (fun h3 => ?_)
  · skip
    exact OK.roret (by first | trivial | omega | exact hI.flds _ | exact hI.dflds _ | exact hI.recs _ | exact hI.drecs _ | exact hI.droot _ | omega)
  · skip
    refine OK.grd ⟨by omega, by omega⟩ ?_
    exact OK.roret (by first | trivial | omega | exact hI.flds _ | exact hI.dflds _ | exact hI.recs _ | exact hI.drecs _ | exact hI.droot _ | omega)

theorem k_X7_sortAt_50 (p0 : Int32) (σ : ST) (hI : IA σ)  : OK (f_X7_sortAt 50 p0 σ) (RO σ fun v => True) := by
  unfold f_X7_sortAt
  have lt_m1 := li_m1
  have lt_0 := li_0
  have lt_1 := li_1
  have lFU : ((FU : Nat) : Int) = 100000 := rfl
  have g50 := (hI.t50).1
  have g50b : 0 ≤ (σ.1 50 1).toInt ∧ (σ.1 50 1).toInt ≤ 400 := (hI.t50).2.1
  have g50n : ((ln7 50 : Nat) : Int) = 400 := rfl
  refine OK.bndR (k_X7_isRow_50 _ _ hI ) (fun v1 h2 => ?_)
  dsimp only
  refine OK.ieq (fun h3 => ?_) (fun h3 => ?_)
  · skip
    exact OK.roret (by first | trivial | omega | exact hI.flds _ | exact hI.dflds _ | exact hI.recs _ | exact hI.drecs _ | exact hI.droot _ | omega)
  · skip
    refine OK.grd ⟨by omega, by omega⟩ ?_
    exact OK.roret (by first | trivial | omega | exact hI.flds _ | exact hI.dflds _ | exact hI.recs _ | exact hI.drecs _ | exact hI.droot _ | omega)

theorem k_X7_sortAt_62 (p0 : Int32) (σ : ST) (hI : IA σ)  : OK (f_X7_sortAt 62 p0 σ) (RO σ fun v => True) := by
  unfold f_X7_sortAt
  have lt_m1 := li_m1
  have lt_0 := li_0
  have lt_1 := li_1
  have lFU : ((FU : Nat) : Int) = 100000 := rfl
  have g62 := (hI.t62).1
  have g62b : 0 ≤ (σ.1 62 1).toInt ∧ (σ.1 62 1).toInt ≤ 502 := (hI.t62).2.1
  have g62n : ((ln7 62 : Nat) : Int) = 502 := rfl
  refine OK.bndR (k_X7_isRow_62 _ _ hI ) (fun v1 h2 => ?_)
  dsimp only
  refine OK.ieq (fun h3 => ?_) (fun h3 => ?_)
  · skip
    exact OK.roret (by first | trivial | omega | exact hI.flds _ | exact hI.dflds _ | exact hI.recs _ | exact hI.drecs _ | exact hI.droot _ | omega)
  · skip
    refine OK.grd ⟨by omega, by omega⟩ ?_
    exact OK.roret (by first | trivial | omega | exact hI.flds _ | exact hI.dflds _ | exact hI.recs _ | exact hI.drecs _ | exact hI.droot _ | omega)

theorem k_X7_sortAt_74 (p0 : Int32) (σ : ST) (hI : IA σ)  : OK (f_X7_sortAt 74 p0 σ) (RO σ fun v => True) := by
  unfold f_X7_sortAt
  have lt_m1 := li_m1
  have lt_0 := li_0
  have lt_1 := li_1
  have lFU : ((FU : Nat) : Int) = 100000 := rfl
  have g74 := (hI.t74).1
  have g74b : 0 ≤ (σ.1 74 1).toInt ∧ (σ.1 74 1).toInt ≤ 400 := (hI.t74).2.1
  have g74n : ((ln7 74 : Nat) : Int) = 400 := rfl
  refine OK.bndR (k_X7_isRow_74 _ _ hI ) (fun v1 h2 => ?_)
  dsimp only
  refine OK.ieq (fun h3 => ?_) (fun h3 => ?_)
  · skip
    exact OK.roret (by first | trivial | omega | exact hI.flds _ | exact hI.dflds _ | exact hI.recs _ | exact hI.drecs _ | exact hI.droot _ | omega)
  · skip
    refine OK.grd ⟨by omega, by omega⟩ ?_
    exact OK.roret (by first | trivial | omega | exact hI.flds _ | exact hI.dflds _ | exact hI.recs _ | exact hI.drecs _ | exact hI.droot _ | omega)

theorem k_X7_worthOf_50 (p0 : Int32) (σ : ST) (hI : IA σ)  : OK (f_X7_worthOf 50 p0 σ) (RO σ fun v => True) := by
  unfold f_X7_worthOf
  have lt_0 := li_0
  have lt_1 := li_1
  have lFU : ((FU : Nat) : Int) = 100000 := rfl
  have g50 := (hI.t50).1
  have g50b : 0 ≤ (σ.1 50 1).toInt ∧ (σ.1 50 1).toInt ≤ 400 := (hI.t50).2.1
  have g50n : ((ln7 50 : Nat) : Int) = 400 := rfl
  refine OK.bndR (k_X7_isRow_50 _ _ hI ) (fun v1 h2 => ?_)
  dsimp only
  refine OK.ieq (fun h3 => ?_) (fun h3 => ?_)
  · skip
    exact OK.roret (by first | trivial | omega | exact hI.flds _ | exact hI.dflds _ | exact hI.recs _ | exact hI.drecs _ | exact hI.droot _ | omega)
  · skip
    refine OK.grd ⟨by omega, by omega⟩ ?_
    exact OK.roret (by first | trivial | omega | exact hI.flds _ | exact hI.dflds _ | exact hI.recs _ | exact hI.drecs _ | exact hI.droot _ | omega)

theorem k_X7_worthOf_62 (p0 : Int32) (σ : ST) (hI : IA σ)  : OK (f_X7_worthOf 62 p0 σ) (RO σ fun v => True) := by
  unfold f_X7_worthOf
  have lt_0 := li_0
  have lt_1 := li_1
  have lFU : ((FU : Nat) : Int) = 100000 := rfl
  have g62 := (hI.t62).1
  have g62b : 0 ≤ (σ.1 62 1).toInt ∧ (σ.1 62 1).toInt ≤ 502 := (hI.t62).2.1
  have g62n : ((ln7 62 : Nat) : Int) = 502 := rfl
  refine OK.bndR (k_X7_isRow_62 _ _ hI ) (fun v1 h2 => ?_)
  dsimp only
  refine OK.ieq (fun h3 => ?_) (fun h3 => ?_)
  · skip
    exact OK.roret (by first | trivial | omega | exact hI.flds _ | exact hI.dflds _ | exact hI.recs _ | exact hI.drecs _ | exact hI.droot _ | omega)
  · skip
    refine OK.grd ⟨by omega, by omega⟩ ?_
    exact OK.roret (by first | trivial | omega | exact hI.flds _ | exact hI.dflds _ | exact hI.recs _ | exact hI.drecs _ | exact hI.droot _ | omega)

theorem k_X7_worthOf_74 (p0 : Int32) (σ : ST) (hI : IA σ)  : OK (f_X7_worthOf 74 p0 σ) (RO σ fun v => True) := by
  unfold f_X7_worthOf
  have lt_0 := li_0
  have lt_1 := li_1
  have lFU : ((FU : Nat) : Int) = 100000 := rfl
  have g74 := (hI.t74).1
  have g74b : 0 ≤ (σ.1 74 1).toInt ∧ (σ.1 74 1).toInt ≤ 400 := (hI.t74).2.1
  have g74n : ((ln7 74 : Nat) : Int) = 400 := rfl
  refine OK.bndR (k_X7_isRow_74 _ _ hI ) (fun v1 h2 => ?_)
  dsimp only
  refine OK.ieq (fun h3 => ?_) (fun h3 => ?_)
  · skip
    exact OK.roret (by first | trivial | omega | exact hI.flds _ | exact hI.dflds _ | exact hI.recs _ | exact hI.drecs _ | exact hI.droot _ | omega)
  · skip
    refine OK.grd ⟨by omega, by omega⟩ ?_
    exact OK.roret (by first | trivial | omega | exact hI.flds _ | exact hI.dflds _ | exact hI.recs _ | exact hI.drecs _ | exact hI.droot _ | omega)

theorem k_X7_isLike_15_62_74 : ∀ (n : Nat) (x2 : Int32) (σ : ST), IA σ → (0 ≤ x2.toInt ∧ x2.toInt ≤ 502 ∧ (502 : Int) - x2.toInt < n) → OK (f_X7_isLike_15 62 74 n x2 σ) (RO σ fun v => v.toInt = 0 ∨ v.toInt = 1) := by
  intro n
  induction n with
  | zero =>
    intro x2 σ hI hv
    omega
  | succ n ih =>
    intro x2 σ hI hv
    rw [f_X7_isLike_15]
    have lt_0 := li_0
    have lt_1 := li_1
    have lFU : ((FU : Nat) : Int) = 100000 := rfl
    have g62 := (hI.t62).1
    have g62b : 0 ≤ (σ.1 62 1).toInt ∧ (σ.1 62 1).toInt ≤ 502 := (hI.t62).2.1
    have g62n : ((ln7 62 : Nat) : Int) = 502 := rfl
    have g74 := (hI.t74).1
    have g74b : 0 ≤ (σ.1 74 1).toInt ∧ (σ.1 74 1).toInt ≤ 400 := (hI.t74).2.1
    have g74n : ((ln7 74 : Nat) : Int) = 400 := rfl
    refine OK.ile (fun h1 => ?_) (fun h1 => ?_)
    · skip
      exact OK.roret (by first | trivial | omega | exact hI.flds _ | exact hI.dflds _ | exact hI.recs _ | exact hI.drecs _ | exact hI.droot _ | omega)
    · skip
      refine OK.bndR (k_X7_rowAt_62 _ _ hI ) (fun v2 h3 => ?_)
      dsimp only
      refine OK.bndR (k_X7_rowAt_74 _ _ hI ) (fun v4 h5 => ?_)
      dsimp only
      refine OK.bndR (k_X7_sortAt_62 _ _ hI ) (fun v6 h7 => ?_)
      dsimp only
      refine OK.bndR (k_X7_sortAt_74 _ _ hI ) (fun v8 h9 => ?_)
      dsimp only
      refine OK.ieq (fun h10 => ?_) (fun h10 => ?_)
      · skip
        refine OK.bndR (k_X7_sizeOf_62 _ _ hI ) (fun v11 h12 => ?_)
        dsimp only
        refine OK.bndR (k_X7_sizeOf_74 _ _ hI ) (fun v13 h14 => ?_)
        dsimp only
        refine OK.ieq (fun h15 => ?_) (fun h15 => ?_)
        · skip
          refine OK.bndR (k_X7_worthOf_62 _ _ hI ) (fun v16 h17 => ?_)
          dsimp only
          refine OK.bndR (k_X7_worthOf_74 _ _ hI ) (fun v18 h19 => ?_)
          dsimp only
          refine OK.ieq (fun h20 => ?_) (fun h20 => ?_)
          · skip
            obtain ⟨a21k, a21, a21l, a21r⟩ := i_add x2 1
            try (refine k0el (k := a21k) ?_ (fun e0 => ?_); (focus omega); subst e0)
            exact OK.roq (ih _ _ hI (by omega)) (fun v hv => by first | trivial | omega | exact hI.flds _ | exact hI.dflds _ | exact hI.recs _ | exact hI.drecs _ | exact hI.droot _ | omega)
          · skip
            exact OK.roret (by first | trivial | omega | exact hI.flds _ | exact hI.dflds _ | exact hI.recs _ | exact hI.drecs _ | exact hI.droot _ | omega)
        · skip
          exact OK.roret (by first | trivial | omega | exact hI.flds _ | exact hI.dflds _ | exact hI.recs _ | exact hI.drecs _ | exact hI.droot _ | omega)
      · skip
        exact OK.roret (by first | trivial | omega | exact hI.flds _ | exact hI.dflds _ | exact hI.recs _ | exact hI.drecs _ | exact hI.droot _ | omega)

theorem k_X7_isLike_62_74 (σ : ST) (hI : IA σ)  : OK (f_X7_isLike 62 74 σ) (RO σ fun v => v.toInt = 0 ∨ v.toInt = 1) := by
  unfold f_X7_isLike
  have lt_0 := li_0
  have lt_1 := li_1
  have lFU : ((FU : Nat) : Int) = 100000 := rfl
  refine OK.ieq (fun h1 => ?_) (fun h1 => ?_)
  · skip
    exact OK.roq (k_X7_isLike_15_62_74 FU _ _ hI (by omega)) (fun v hv => by first | trivial | omega | exact hI.flds _ | exact hI.dflds _ | exact hI.recs _ | exact hI.drecs _ | exact hI.droot _ | omega)
  · skip
    exact OK.roret (by first | trivial | omega | exact hI.flds _ | exact hI.dflds _ | exact hI.recs _ | exact hI.drecs _ | exact hI.droot _ | omega)

theorem k_X1_hasByte (p0 : Int32) (p1 : Int32) (σ : ST) (hI : IA σ)  : OK (f_X1_hasByte  p0 p1 σ) (RO σ fun v => v.toInt = 0 ∨ v.toInt = 1 ∧ 0 ≤ p0.toInt ∧ p0.toInt < 4 ∧ 0 ≤ p1.toInt ∧ p1.toInt < 400) := by
  unfold f_X1_hasByte
  have lt_0 := li_0
  have lt_1 := li_1
  have lt_400 := li_400
  have lFU : ((FU : Nat) : Int) = 100000 := rfl
  refine OK.bndR (k_X1_isWritten _ _ hI ) (fun v1 h2 => ?_)
  dsimp only
  refine OK.ieq (fun h3 => ?_) (fun h3 => ?_)
  · skip
    exact OK.roret (by first | trivial | omega | exact hI.flds _ | exact hI.dflds _ | exact hI.recs _ | exact hI.drecs _ | exact hI.droot _ | omega)
  · skip
    refine OK.ilt (fun h4 => ?_) (fun h4 => ?_)
    · skip
      exact OK.roret (by first | trivial | omega | exact hI.flds _ | exact hI.dflds _ | exact hI.recs _ | exact hI.drecs _ | exact hI.droot _ | omega)
    · skip
      refine OK.grd ⟨by omega, by omega⟩ ?_
      refine OK.ile (fun h5 => ?_) (fun h5 => ?_)
      · skip
        exact OK.roret (by first | trivial | omega | exact hI.flds _ | exact hI.dflds _ | exact hI.recs _ | exact hI.drecs _ | exact hI.droot _ | omega)
      · skip
        refine OK.ile (fun h6 => ?_) (fun h6 => ?_)
        · skip
          exact OK.roret (by first | trivial | omega | exact hI.flds _ | exact hI.dflds _ | exact hI.recs _ | exact hI.drecs _ | exact hI.droot _ | omega)
        · skip
          exact OK.roret (by first | trivial | omega | exact hI.flds _ | exact hI.dflds _ | exact hI.recs _ | exact hI.drecs _ | exact hI.droot _ | omega)

theorem k_X7_placeOf_50 (p0 : Int32) (σ : ST) (hI : IA σ)  : OK (f_X7_placeOf 50 p0 σ) (RO σ fun v => True) := by
  unfold f_X7_placeOf
  have lt_0 := li_0
  have lt_1 := li_1
  have lFU : ((FU : Nat) : Int) = 100000 := rfl
  have g50 := (hI.t50).1
  have g50b : 0 ≤ (σ.1 50 1).toInt ∧ (σ.1 50 1).toInt ≤ 400 := (hI.t50).2.1
  have g50n : ((ln7 50 : Nat) : Int) = 400 := rfl
  refine OK.bndR (k_X7_isRow_50 _ _ hI ) (fun v1 h2 => ?_)
  dsimp only
  refine OK.ieq (fun h3 => ?_) (fun h3 => ?_)
  · skip
    exact OK.roret (by first | trivial | omega | exact hI.flds _ | exact hI.dflds _ | exact hI.recs _ | exact hI.drecs _ | exact hI.droot _ | omega)
  · skip
    refine OK.grd ⟨by omega, by omega⟩ ?_
    exact OK.roret (by first | trivial | omega | exact hI.flds _ | exact hI.dflds _ | exact hI.recs _ | exact hI.drecs _ | exact hI.droot _ | omega)

theorem k_X7_placeOf_62 (p0 : Int32) (σ : ST) (hI : IA σ)  : OK (f_X7_placeOf 62 p0 σ) (RO σ fun v => True) := by
  unfold f_X7_placeOf
  have lt_0 := li_0
  have lt_1 := li_1
  have lFU : ((FU : Nat) : Int) = 100000 := rfl
  have g62 := (hI.t62).1
  have g62b : 0 ≤ (σ.1 62 1).toInt ∧ (σ.1 62 1).toInt ≤ 502 := (hI.t62).2.1
  have g62n : ((ln7 62 : Nat) : Int) = 502 := rfl
  refine OK.bndR (k_X7_isRow_62 _ _ hI ) (fun v1 h2 => ?_)
  dsimp only
  refine OK.ieq (fun h3 => ?_) (fun h3 => ?_)
  · skip
    exact OK.roret (by first | trivial | omega | exact hI.flds _ | exact hI.dflds _ | exact hI.recs _ | exact hI.drecs _ | exact hI.droot _ | omega)
  · skip
    refine OK.grd ⟨by omega, by omega⟩ ?_
    exact OK.roret (by first | trivial | omega | exact hI.flds _ | exact hI.dflds _ | exact hI.recs _ | exact hI.drecs _ | exact hI.droot _ | omega)

theorem k_X9_pairAt (p0 : Int32) (σ : ST) (hI : IA σ)  : OK (f_X9_pairAt  p0 σ) (RO σ fun v => True) := by
  unfold f_X9_pairAt
  have lt_m1 := li_m1
  have lt_0 := li_0
  have lt_1 := li_1
  have lt_4 := li_4
  have lFU : ((FU : Nat) : Int) = 100000 := rfl
  refine OK.ilt (fun h1 => ?_) (fun h1 => ?_)
  · skip
    exact OK.roret (by first | trivial | omega | exact hI.flds _ | exact hI.dflds _ | exact hI.recs _ | exact hI.drecs _ | exact hI.droot _ | omega)
  · skip
    refine OK.ile (fun h2 => ?_) (fun h2 => ?_)
    · skip
      exact OK.roret (by first | trivial | omega | exact hI.flds _ | exact hI.dflds _ | exact hI.recs _ | exact hI.drecs _ | exact hI.droot _ | omega)
    · skip
      refine OK.ile (fun h3 => ?_) (fun h3 => ?_)
      · skip
        exact OK.roret (by first | trivial | omega | exact hI.flds _ | exact hI.dflds _ | exact hI.recs _ | exact hI.drecs _ | exact hI.droot _ | omega)
      · skip
        refine OK.grd ⟨by omega, by omega⟩ ?_
        exact OK.roret (by first | trivial | omega | exact hI.flds _ | exact hI.dflds _ | exact hI.recs _ | exact hI.drecs _ | exact hI.droot _ | omega)

theorem k_X1_writtenBits_4 : ∀ (n : Nat) (x1 : Int32) (x2 : Int32) (σ : ST), IA σ → (0 ≤ x2.toInt ∧ x2.toInt ≤ 4 ∧ (4 : Int) - x2.toInt < n) → OK (f_X1_writtenBits_4  n x1 x2 σ) (RO σ fun v => True) := by
  intro n
  induction n with
  | zero =>
    intro x1 x2 σ hI hv
    omega
  | succ n ih =>
    intro x1 x2 σ hI hv
    rw [f_X1_writtenBits_4]
    have lt_0 := li_0
    have lt_1 := li_1
    have lt_4 := li_4
    have lFU : ((FU : Nat) : Int) = 100000 := rfl
    refine OK.ile (fun h1 => ?_) (fun h1 => ?_)
    · skip
      exact OK.roret (by first | trivial | omega | exact hI.flds _ | exact hI.dflds _ | exact hI.recs _ | exact hI.drecs _ | exact hI.droot _ | omega)
    · skip
      refine OK.bndR (k_X1_isWritten _ _ hI ) (fun v2 h3 => ?_)
      dsimp only
      refine OK.ieq (fun h4 => ?_) (fun h4 => ?_)
      · skip
        unfold f_X1_writtenBits_23
        try dsimp only
        obtain ⟨a5k, a5, a5l, a5r⟩ := i_add x2 1
        try (refine k0el (k := a5k) ?_ (fun e0 => ?_); (focus omega); subst e0)
        exact OK.roq (ih _ _ _ hI (by omega)) (fun v hv => by first | trivial | omega | exact hI.flds _ | exact hI.dflds _ | exact hI.recs _ | exact hI.drecs _ | exact hI.droot _ | omega)
      · skip
        unfold f_X1_writtenBits_23
        try dsimp only
        obtain ⟨a6k, a6, a6l, a6r⟩ := i_add x2 1
        try (refine k0el (k := a6k) ?_ (fun e0 => ?_); (focus omega); subst e0)
        exact OK.roq (ih _ _ _ hI (by omega)) (fun v hv => by first | trivial | omega | exact hI.flds _ | exact hI.dflds _ | exact hI.recs _ | exact hI.drecs _ | exact hI.droot _ | omega)

theorem k_X1_writtenBits (σ : ST) (hI : IA σ)  : OK (f_X1_writtenBits  σ) (RO σ fun v => True) := by
  unfold f_X1_writtenBits
  have lt_0 := li_0
  have lt_1 := li_1
  have lFU : ((FU : Nat) : Int) = 100000 := rfl
  exact OK.roq (k_X1_writtenBits_4 FU _ _ _ hI (by omega)) (fun v hv => by first | trivial | omega | exact hI.flds _ | exact hI.dflds _ | exact hI.recs _ | exact hI.drecs _ | exact hI.droot _ | omega)

theorem k_X10_count (p0 : Int32) (σ : ST) (hI : IA σ)  : OK (f_X10_count  p0 σ) (RO σ fun v => True) := by
  unfold f_X10_count
  have lt_m1 := li_m1
  have lt_0 := li_0
  have lt_1 := li_1
  have lt_2 := li_2
  have lt_3 := li_3
  have lt_4 := li_4
  have lt_5 := li_5
  have lFU : ((FU : Nat) : Int) = 100000 := rfl
  refine OK.ieq (fun h1 => ?_) (fun h1 => ?_)
  · skip
    exact OK.roret (by first | trivial | omega | exact hI.flds _ | exact hI.dflds _ | exact hI.recs _ | exact hI.drecs _ | exact hI.droot _ | omega)
  · skip
    refine OK.ieq (fun h2 => ?_) (fun h2 => ?_)
    · skip
      refine OK.bndR (k_X1_writtenBits _ hI ) (fun v3 h4 => ?_)
      dsimp only
      exact OK.roret (by first | trivial | omega | exact hI.flds _ | exact hI.dflds _ | exact hI.recs _ | exact hI.drecs _ | exact hI.droot _ | omega)
    · skip
      refine OK.ieq (fun h5 => ?_) (fun h5 => ?_)
      · skip
        exact OK.roret (by first | trivial | omega | exact hI.flds _ | exact hI.dflds _ | exact hI.recs _ | exact hI.drecs _ | exact hI.droot _ | omega)
      · skip
        refine OK.ieq (fun h6 => ?_) (fun h6 => ?_)
        · skip
          exact OK.roret (by first | trivial | omega | exact hI.flds _ | exact hI.dflds _ | exact hI.recs _ | exact hI.drecs _ | exact hI.droot _ | omega)
        · skip
          refine OK.ieq (fun h7 => ?_) (fun h7 => ?_)
          · skip
            exact OK.roret (by first | trivial | omega | exact hI.flds _ | exact hI.dflds _ | exact hI.recs _ | exact hI.drecs _ | exact hI.droot _ | omega)
          · skip
            refine OK.ieq (fun h8 => ?_) (fun h8 => ?_)
            · skip
              exact OK.roret (by first | trivial | omega | exact hI.flds _ | exact hI.dflds _ | exact hI.recs _ | exact hI.drecs _ | exact hI.droot _ | omega)
            · skip
              exact OK.roret (by first | trivial | omega | exact hI.flds _ | exact hI.dflds _ | exact hI.recs _ | exact hI.drecs _ | exact hI.droot _ | omega)

theorem k_X1_shorten (p0 : Int32) (p1 : Int32) (σ : ST) (hI : IA σ)  : OK (f_X1_shorten  p0 p1 σ) (RW σ fun v => True) := by
  unfold f_X1_shorten
  have lt_0 := li_0
  have lt_1 := li_1
  have lFU : ((FU : Nat) : Int) = 100000 := rfl
  refine OK.bndR (k_X1_sizeOf _ _ hI ) (fun v1 h2 => ?_)
  dsimp only
  refine OK.bndR (k_X1_isNumber _ _ hI ) (fun v3 h4 => ?_)
  dsimp only
  refine OK.ieq (fun h5 => ?_) (fun h5 => ?_)
  · skip
    exact OK.wret hI Fr.rf (by first | trivial | omega | exact hI.flds _ | exact hI.dflds _ | exact hI.recs _ | exact hI.drecs _ | exact hI.droot _ | omega)
  · skip
    refine OK.grd ⟨by omega, by omega⟩ ?_
    exact OK.wret (ia_I_39 hI) (fr_I_39 Fr.rf) (by first | trivial | omega | exact hI.flds _ | exact hI.dflds _ | exact hI.recs _ | exact hI.drecs _ | exact hI.droot _ | omega)

theorem k_X10_cut (p0 : Int32) (p1 : Int32) (σ : ST) (hI : IA σ)  : OK (f_X10_cut  p0 p1 σ) (RW σ fun v => True) := by
  unfold f_X10_cut
  have lt_m1 := li_m1
  have lt_0 := li_0
  have lt_1 := li_1
  have lFU : ((FU : Nat) : Int) = 100000 := rfl
  refine OK.bndR (k_X1_isWritten _ _ hI ) (fun v1 h2 => ?_)
  dsimp only
  refine OK.ieq (fun h3 => ?_) (fun h3 => ?_)
  · skip
    exact OK.wret hI Fr.rf (by first | trivial | omega | exact hI.flds _ | exact hI.dflds _ | exact hI.recs _ | exact hI.drecs _ | exact hI.droot _ | omega)
  · skip
    refine OK.ilt (fun h4 => ?_) (fun h4 => ?_)
    · skip
      exact OK.wret hI Fr.rf (by first | trivial | omega | exact hI.flds _ | exact hI.dflds _ | exact hI.recs _ | exact hI.drecs _ | exact hI.droot _ | omega)
    · skip
      refine OK.bndR (k_X1_sizeOf _ _ hI ) (fun v5 h6 => ?_)
      dsimp only
      refine OK.ile (fun h7 => ?_) (fun h7 => ?_)
      · skip
        refine OK.bndW (k_X1_shorten _ _ _ hI ) Fr.rf (fun v8 s10 is10 fs10 h9 => ?_)
        dsimp only
        exact OK.wret is10 fs10 (by first | trivial | omega | exact hI.flds _ | exact hI.dflds _ | exact hI.recs _ | exact hI.drecs _ | exact hI.droot _ | omega)
      · skip
        exact OK.wret hI Fr.rf (by first | trivial | omega | exact hI.flds _ | exact hI.dflds _ | exact hI.recs _ | exact hI.drecs _ | exact hI.droot _ | omega)

theorem k_X10_failure (p0 : Int32) (σ : ST) (hI : IA σ)  : OK (f_X10_failure  p0 σ) (RO σ fun v => True) := by
  unfold f_X10_failure
  have lt_m1 := li_m1
  have lt_0 := li_0
  have lt_1 := li_1
  have lt_2 := li_2
  have lFU : ((FU : Nat) : Int) = 100000 := rfl
  refine OK.ieq (fun h1 => ?_) (fun h1 => ?_)
  · skip
    exact OK.roret (by first | trivial | omega | exact hI.flds _ | exact hI.dflds _ | exact hI.recs _ | exact hI.drecs _ | exact hI.droot _ | omega)
  · skip
    refine OK.ieq (fun h2 => ?_) (fun h2 => ?_)
    · skip
      exact OK.roret (by first | trivial | omega | exact hI.flds _ | exact hI.dflds _ | exact hI.recs _ | exact hI.drecs _ | exact hI.droot _ | omega)
    · skip
      refine OK.ieq (fun h3 => ?_) (fun h3 => ?_)
      · skip
        exact OK.roret (by first | trivial | omega | exact hI.flds _ | exact hI.dflds _ | exact hI.recs _ | exact hI.drecs _ | exact hI.droot _ | omega)
      · skip
        refine OK.ieq (fun h4 => ?_) (fun h4 => ?_)
        · skip
          exact OK.roret (by first | trivial | omega | exact hI.flds _ | exact hI.dflds _ | exact hI.recs _ | exact hI.drecs _ | exact hI.droot _ | omega)
        · skip
          exact OK.roret (by first | trivial | omega | exact hI.flds _ | exact hI.dflds _ | exact hI.recs _ | exact hI.drecs _ | exact hI.droot _ | omega)

theorem k_X4_stepAt_89_50 (p0 : Int32) (σ : ST) (hI : IA σ) (hT : σ.2.2.2 89 = 50)  : OK (f_X4_stepAt 89 50 p0 σ) (RO σ fun v => True) := by
  unfold f_X4_stepAt
  have lt_m1 := li_m1
  have lt_0 := li_0
  have lt_1 := li_1
  have lt_64 := li_64
  have lFU : ((FU : Nat) : Int) = 100000 := rfl
  refine OK.ilt (fun h1 => ?_) (fun h1 => ?_)
  · skip
    exact OK.roret (by first | trivial | omega | exact hI.flds _ | exact hI.dflds _ | exact hI.recs _ | exact hI.drecs _ | exact hI.droot _ | omega)
  · skip
    refine OK.ile (fun h2 => ?_) (fun h2 => ?_)
    · skip
      exact OK.roret (by first | trivial | omega | exact hI.flds _ | exact hI.dflds _ | exact hI.recs _ | exact hI.drecs _ | exact hI.droot _ | omega)
    · skip
      refine OK.ile (fun h3 => ?_) (fun h3 => ?_)
      · skip
        exact OK.roret (by first | trivial | omega | exact hI.flds _ | exact hI.dflds _ | exact hI.recs _ | exact hI.drecs _ | exact hI.droot _ | omega)
      · skip
        refine OK.grd ⟨by omega, by omega⟩ ?_
        exact OK.roret (by first | trivial | omega | exact hI.flds _ | exact hI.dflds _ | exact hI.recs _ | exact hI.drecs _ | exact hI.droot _ | omega)

theorem k_X10_failureStep (p0 : Int32) (σ : ST) (hI : IA σ)  : OK (f_X10_failureStep  p0 σ) (RO σ fun v => True) := by
  unfold f_X10_failureStep
  have lt_m1 := li_m1
  have lt_0 := li_0
  have lt_1 := li_1
  have lFU : ((FU : Nat) : Int) = 100000 := rfl
  refine OK.ieq (fun h1 => ?_) (fun h1 => ?_)
  · skip
    exact OK.roret (by first | trivial | omega | exact hI.flds _ | exact hI.dflds _ | exact hI.recs _ | exact hI.drecs _ | exact hI.droot _ | omega)
  · skip
    refine OK.bndR (k_X4_stepAt_89_50 _ _ hI (by first | exact hT | (rw [Fr.rf.2.2.2]; exact hT))) (fun v2 h3 => ?_)
    dsimp only
    exact OK.roret (by first | trivial | omega | exact hI.flds _ | exact hI.dflds _ | exact hI.recs _ | exact hI.drecs _ | exact hI.droot _ | omega)

theorem k_X5_recordWithin_31_4 (x2 : Int32) (σ : ST) (hI : IA σ)  : OK (f_X5_recordWithin_31 4 x2 σ) (RO σ fun v => True) := by
  unfold f_X5_recordWithin_31
  have lt_m1 := li_m1
  have lt_0 := li_0
  have lt_1 := li_1
  have lt_6 := li_6
  have lt_7 := li_7
  have lFU : ((FU : Nat) : Int) = 100000 := rfl
  refine OK.bndR (k_X5_sortOf_4 _ _ hI ) (fun v1 h2 => ?_)
  dsimp only
  refine OK.ieq (fun h3 => ?_) (fun h3 => ?_)
  · skip
    refine OK.bndR (k_X5_innerOf_4 _ _ hI ) (fun v4 h5 => ?_)
    dsimp only
    refine OK.bndR (k_J9_floorMod_7cf53 _ _ _ hI (by decide)) (fun v6 h7 => ?_)
    dsimp only
    exact OK.roret (by first | trivial | omega | exact hI.flds _ | exact hI.dflds _ | exact hI.recs _ | exact hI.drecs _ | exact hI.droot _ | omega)
  · skip
    exact OK.roret (by first | trivial | omega | exact hI.flds _ | exact hI.dflds _ | exact hI.recs _ | exact hI.drecs _ | exact hI.droot _ | omega)

theorem k_X5_recordWithin_4_4 : ∀ (n : Nat) (x2 : Int32) (x3 : Int32) (σ : ST), IA σ → (0 ≤ x3.toInt ∧ x3.toInt ≤ 4 ∧ (4 : Int) - x3.toInt < n) → OK (f_X5_recordWithin_4 4 n x2 x3 σ) (RO σ fun v => True) := by
  intro n
  induction n with
  | zero =>
    intro x2 x3 σ hI hv
    omega
  | succ n ih =>
    intro x2 x3 σ hI hv
    rw [f_X5_recordWithin_4]
    have lt_0 := li_0
    have lt_1 := li_1
    have lt_3 := li_3
    have lt_6 := li_6
    have lFU : ((FU : Nat) : Int) = 100000 := rfl
    refine OK.ilt (fun h1 => ?_) (fun h1 => ?_)
    · skip
      exact OK.roq (k_X5_recordWithin_31_4 _ _ hI ) (fun v hv => by first | trivial | omega | exact hI.flds _ | exact hI.dflds _ | exact hI.recs _ | exact hI.drecs _ | exact hI.droot _ | omega)
    · skip
      refine OK.bndR (k_X5_sortOf_4 _ _ hI ) (fun v2 h3 => ?_)
      dsimp only
      refine OK.ieq (fun h4 => ?_) (fun h4 => ?_)
      · skip
        refine OK.bndR (k_X5_innerOf_4 _ _ hI ) (fun v5 h6 => ?_)
        dsimp only
        obtain ⟨a7k, a7, a7l, a7r⟩ := i_add x3 1
        try (refine k0el (k := a7k) ?_ (fun e0 => ?_); (focus omega); subst e0)
        exact OK.roq (ih _ _ _ hI (by omega)) (fun v hv => by first | trivial | omega | exact hI.flds _ | exact hI.dflds _ | exact hI.recs _ | exact hI.drecs _ | exact hI.droot _ | omega)
      · skip
        exact OK.roq (k_X5_recordWithin_31_4 _ _ hI ) (fun v hv => by first | trivial | omega | exact hI.flds _ | exact hI.dflds _ | exact hI.recs _ | exact hI.drecs _ | exact hI.droot _ | omega)

theorem k_X5_recordWithin_4 (p0 : Int32) (σ : ST) (hI : IA σ)  : OK (f_X5_recordWithin 4 p0 σ) (RO σ fun v => True) := by
  unfold f_X5_recordWithin
  have lt_0 := li_0
  have lt_1 := li_1
  have lFU : ((FU : Nat) : Int) = 100000 := rfl
  exact OK.roq (k_X5_recordWithin_4_4 FU _ _ _ hI (by omega)) (fun v hv => by first | trivial | omega | exact hI.flds _ | exact hI.dflds _ | exact hI.recs _ | exact hI.drecs _ | exact hI.droot _ | omega)

theorem k_X10_field (p0 : Int32) (p1 : Int32) (p2 : Int32) (p3 : Int32) (σ : ST) (hI : IA σ)  : OK (f_X10_field  p0 p1 p2 p3 σ) (RO σ fun v => True) := by
  unfold f_X10_field
  have lt_m1 := li_m1
  have lt_0 := li_0
  have lt_1 := li_1
  have lt_2 := li_2
  have lt_3 := li_3
  have lt_4 := li_4
  have lt_5 := li_5
  have lFU : ((FU : Nat) : Int) = 100000 := rfl
  refine OK.bndR (k_X10_isPlan _ _ hI ) (fun v1 h2 => ?_)
  dsimp only
  refine OK.ieq (fun h3 => ?_) (fun h3 => ?_)
  · skip
    exact OK.roret (by first | trivial | omega | exact hI.flds _ | exact hI.dflds _ | exact hI.recs _ | exact hI.drecs _ | exact hI.droot _ | omega)
  · skip
    refine OK.ilt (fun h4 => ?_) (fun h4 => ?_)
    · skip
      exact OK.roret (by first | trivial | omega | exact hI.flds _ | exact hI.dflds _ | exact hI.recs _ | exact hI.drecs _ | exact hI.droot _ | omega)
    · skip
      refine OK.bndR (k_X5_recordsOf_4 _ _ hI ) (fun v5 h6 => ?_)
      dsimp only
      refine OK.ilt (fun h7 => ?_) (fun h7 => ?_)
      · skip
        refine OK.ilt (fun h8 => ?_) (fun h8 => ?_)
        · skip
          exact OK.roret (by first | trivial | omega | exact hI.flds _ | exact hI.dflds _ | exact hI.recs _ | exact hI.drecs _ | exact hI.droot _ | omega)
        · skip
          refine OK.bndR (k_X5_fieldsOf_4 _ _ hI ) (fun v9 h10 => ?_)
          dsimp only
          refine OK.ilt (fun h11 => ?_) (fun h11 => ?_)
          · skip
            refine OK.bndR (k_X5_typeOf_4 _ _ _ hI ) (fun v12 h13 => ?_)
            dsimp only
            refine OK.ieq (fun h14 => ?_) (fun h14 => ?_)
            · skip
              refine OK.bndR (k_X5_sortOf_4 _ _ hI ) (fun v15 h16 => ?_)
              dsimp only
              exact OK.roret (by first | trivial | omega | exact hI.flds _ | exact hI.dflds _ | exact hI.recs _ | exact hI.drecs _ | exact hI.droot _ | omega)
            · skip
              refine OK.ieq (fun h17 => ?_) (fun h17 => ?_)
              · skip
                refine OK.bndR (k_X5_hasElse_4 _ _ _ hI ) (fun v18 h19 => ?_)
                dsimp only
                refine OK.ieq (fun h20 => ?_) (fun h20 => ?_)
                · skip
                  exact OK.roret (by first | trivial | omega | exact hI.flds _ | exact hI.dflds _ | exact hI.recs _ | exact hI.drecs _ | exact hI.droot _ | omega)
                · skip
                  exact OK.roret (by first | trivial | omega | exact hI.flds _ | exact hI.dflds _ | exact hI.recs _ | exact hI.drecs _ | exact hI.droot _ | omega)
              · skip
                refine OK.ieq (fun h21 => ?_) (fun h21 => ?_)
                · skip
                  refine OK.bndR (k_X5_formerName_4 _ _ _ hI ) (fun v22 h23 => ?_)
                  dsimp only
                  refine OK.ieq (fun h24 => ?_) (fun h24 => ?_)
                  · skip
                    exact OK.roret (by first | trivial | omega | exact hI.flds _ | exact hI.dflds _ | exact hI.recs _ | exact hI.drecs _ | exact hI.droot _ | omega)
                  · skip
                    exact OK.roret (by first | trivial | omega | exact hI.flds _ | exact hI.dflds _ | exact hI.recs _ | exact hI.drecs _ | exact hI.droot _ | omega)
                · skip
                  refine OK.ieq (fun h25 => ?_) (fun h25 => ?_)
                  · skip
                    refine OK.bndR (k_X5_fieldName_4 _ _ _ hI ) (fun v26 h27 => ?_)
                    dsimp only
                    refine OK.bndR (k_X10_lettersIn _ _ hI ) (fun v28 h29 => ?_)
                    dsimp only
                    exact OK.roret (by first | trivial | omega | exact hI.flds _ | exact hI.dflds _ | exact hI.recs _ | exact hI.drecs _ | exact hI.droot _ | omega)
                  · skip
                    refine OK.ieq (fun h30 => ?_) (fun h30 => ?_)
                    · skip
                      refine OK.bndR (k_X5_branchesOf_4 _ _ hI ) (fun v31 h32 => ?_)
                      dsimp only
                      exact OK.roret (by first | trivial | omega | exact hI.flds _ | exact hI.dflds _ | exact hI.recs _ | exact hI.drecs _ | exact hI.droot _ | omega)
                    · skip
                      refine OK.ieq (fun h33 => ?_) (fun h33 => ?_)
                      · skip
                        refine OK.bndR (k_X5_recordWithin_4 _ _ hI ) (fun v34 h35 => ?_)
                        dsimp only
                        exact OK.roret (by first | trivial | omega | exact hI.flds _ | exact hI.dflds _ | exact hI.recs _ | exact hI.drecs _ | exact hI.droot _ | omega)
                      · skip
                        exact OK.roret (by first | trivial | omega | exact hI.flds _ | exact hI.dflds _ | exact hI.recs _ | exact hI.drecs _ | exact hI.droot _ | omega)
          · skip
            exact OK.roret (by first | trivial | omega | exact hI.flds _ | exact hI.dflds _ | exact hI.recs _ | exact hI.drecs _ | exact hI.droot _ | omega)
      · skip
        exact OK.roret (by first | trivial | omega | exact hI.flds _ | exact hI.dflds _ | exact hI.recs _ | exact hI.drecs _ | exact hI.droot _ | omega)
