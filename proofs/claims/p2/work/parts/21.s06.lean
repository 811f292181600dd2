theorem k_X6_isLetter (p0 : Int32) (σ : ST) (hI : IA σ)  : OK (f_X6_isLetter  p0 σ) (RO σ fun v => v.toInt = 0 ∨ v.toInt = 1) := by
  unfold f_X6_isLetter
  have lt_0 := li_0
  have lt_1 := li_1
  have lt_97 := li_97
  have lt_122 := li_122
  have lFU : ((FU : Nat) : Int) = 100000 := rfl
  refine OK.ilt (fun h1 => ?_) (fun h1 => ?_)
  · skip
    exact OK.roret (by first | trivial | omega | exact hI.flds _ | exact hI.dflds _ | exact hI.recs _ | exact hI.drecs _ | exact hI.droot _ | omega)
  · skip
    refine OK.ilt (fun h2 => ?_) (fun h2 => ?_)
    · skip
      exact OK.roret (by first | trivial | omega | exact hI.flds _ | exact hI.dflds _ | exact hI.recs _ | exact hI.drecs _ | exact hI.droot _ | omega)
    · skip
      exact OK.roret (by first | trivial | omega | exact hI.flds _ | exact hI.dflds _ | exact hI.recs _ | exact hI.drecs _ | exact hI.droot _ | omega)

theorem k_X6_signAt (p0 : Int32) (σ : ST) (hI : IA σ)  : OK (f_X6_signAt  p0 σ) (RO σ fun v => True) := by
  unfold f_X6_signAt
  have lt_0 := li_0
  have lt_1 := li_1
  have lt_255 := li_255
  have lt_1000 := li_1000
  have lFU : ((FU : Nat) : Int) = 100000 := rfl
  refine OK.ilt (fun h1 => ?_) (fun h1 => ?_)
  · skip
    exact OK.roret (by first | trivial | omega | exact hI.flds _ | exact hI.dflds _ | exact hI.recs _ | exact hI.drecs _ | exact hI.droot _ | omega)
  · skip
    have g2 : 0 ≤ (σ.1 2 2).toInt ∧ (σ.1 2 2).toInt ≤ 1000 := hI.tend
    refine OK.ile (fun h3 => ?_) (fun h3 => ?_)
    · skip
      exact OK.roret (by first | trivial | omega | exact hI.flds _ | exact hI.dflds _ | exact hI.recs _ | exact hI.drecs _ | exact hI.droot _ | omega)
    · skip
      refine OK.ile (fun h4 => ?_) (fun h4 => ?_)
      · skip
        exact OK.roret (by first | trivial | omega | exact hI.flds _ | exact hI.dflds _ | exact hI.recs _ | exact hI.drecs _ | exact hI.droot _ | omega)
      · skip
        refine OK.grd ⟨by omega, by omega⟩ ?_
        exact OK.roret (by first | trivial | omega | exact hI.flds _ | exact hI.dflds _ | exact hI.recs _ | exact hI.drecs _ | exact hI.droot _ | omega)

theorem IA.same {σ s : ST} (h : IA σ) (h1 : s.1 = σ.1) (h2 : s.2.2.2 = σ.2.2.2) : IA s := by
  unfold IA TR at h ⊢
  rw [h1, h2]
  exact h
theorem Fr.same {σ s : ST} (h1 : s.1 = σ.1) (h2 : s.2.2.2 = σ.2.2.2) : Fr σ s := ⟨by rw [h1], by rw [h1], by rw [h1], h2⟩
def TL (σ : ST) (m : Int) (q : Int32 × ST) : Prop := q.2.1 = σ.1 ∧ q.2.2.2.2 = σ.2.2.2 ∧ 0 ≤ q.1.toInt ∧ q.1.toInt ≤ m
theorem TL.mk {σ : ST} {m : Int} {v : Int32} (h1 : 0 ≤ v.toInt) (h2 : v.toInt ≤ m) : OK (some (v, σ)) (TL σ m) := ⟨_, rfl, rfl, rfl, h1, h2⟩
theorem k_X6_takeLetters_7 : ∀ (n : Nat) (x1 x2 x3 : Int32) (σ : ST), (0 ≤ x2.toInt ∧ x2.toInt ≤ 12 ∧ 0 ≤ x3.toInt ∧ x3.toInt ≤ x2.toInt + 1 ∧ (13 : Int) - x3.toInt < n) → OK (f_X6_takeLetters_7 n x1 x2 x3 σ) (TL σ 13) := by
  intro n
  induction n with
  | zero => intro x1 x2 x3 σ hv; omega
  | succ n ih =>
    intro x1 x2 x3 σ hv
    rw [f_X6_takeLetters_7]
    have lt_0 := li_0
    have lt_1 := li_1
    have lt_1000 := li_1000
    obtain ⟨bk, b, bl, br⟩ := i_add x2 1
    try (refine k0el (k := bk) ?_ (fun e0 => ?_); (focus omega); subst e0)
    obtain ⟨ck, c, cl, cr⟩ := i_add x3 1
    try (refine k0el (k := ck) ?_ (fun e0 => ?_); (focus omega); subst e0)
    refine OK.ilt (fun h => TL.mk (by omega) (by omega)) (fun h => ?_)
    have h57 : ∀ y0 : Int32, OK (f_X6_takeLetters_57 (f_X6_takeLetters_7 n) x1 x2 x3 y0 σ) (TL σ 13) := by
      intro y0
      unfold f_X6_takeLetters_57
      refine OK.ilt (fun _ => TL.mk (by omega) (by omega)) (fun _ => ?_)
      refine OK.ile (fun _ => ?_) (fun _ => TL.mk (by omega) (by omega))
      refine OK.ile (fun h9 => ?_) (fun h9 => ?_)
      · exact ih x1 x2 (x3 + 1) σ (by omega)
      · exact ih x1 x2 (x3 + 1) (stL σ 2 7 ((σ.2.1 2 7) ||| ((y0.toInt64) <<< ((5 * x3).toInt64 &&& 63)))) (by omega)
    refine OK.ilt (fun h1 => h57 0) (fun h1 => ?_)
    refine OK.ile (fun h2 => h57 0) (fun h2 => ?_)
    refine OK.ile (fun h3 => h57 0) (fun h3 => ?_)
    refine OK.grd ⟨by omega, by omega⟩ ?_
    exact h57 _


theorem k_X6_takeLetters (p0 p1 : Int32) (σ : ST) (hp : 0 ≤ p1.toInt ∧ p1.toInt ≤ 12) : OK (f_X6_takeLetters p0 p1 σ) (TL σ 13) := by
  have lt_0 := li_0
  have lFU : ((FU : Nat) : Int) = 100000 := rfl
  exact k_X6_takeLetters_7 FU p0 p1 0 (stL σ 2 7 0) (by omega)


theorem k_X6_scanLettered_38 (σ : ST) (hI : IA σ)  : OK (f_X6_scanLettered_38  σ) (RS σ) := by
  unfold f_X6_scanLettered_38
  have lt_0 := li_0
  have lt_1 := li_1
  have lFU : ((FU : Nat) : Int) = 100000 := rfl
  exact OK.sret (ia_I_2_4 hI) (fr_I_2 Fr.rf)

theorem k_X6_scanLettered (σ : ST) (hI : IA σ) (hp : (σ.1 2 5).toInt < 1000) : OK (f_X6_scanLettered σ) (RS σ) := by
  unfold f_X6_scanLettered
  have lt_1 := li_1
  have lt_12 := li_12
  have g : 0 ≤ (σ.1 2 5).toInt ∧ (σ.1 2 5).toInt ≤ 1030 := hI.tstart
  refine OK.bnd (k_X6_takeLetters _ _ _ (by omega)) (fun q hq => ?_)
  obtain ⟨v, s⟩ := q
  obtain ⟨e1, e2, h1, h2⟩ := hq
  have e1 : s.1 = σ.1 := e1
  have e2 : s.2.2.2 = σ.2.2.2 := e2
  have h1 : 0 ≤ v.toInt := h1
  have h2 : v.toInt ≤ 13 := h2
  have is := hI.same e1 e2
  have fs : Fr σ s := Fr.same e1 e2
  dsimp only
  unfold f_X6_scanLettered_38
  refine OK.ilt (fun h => OK.sret (ia_I_2_4 is) (fr_I_2 fs)) (fun h => ?_)
  refine OK.bndR (k_X6_signAt _ _ is) (fun w hw => ?_)
  dsimp only
  refine OK.ieq (fun h => ?_) (fun h => OK.sret (ia_I_2_4 is) (fr_I_2 fs))
  rw [e1]
  obtain ⟨ak, a, al, ar⟩ := i_add (σ.1 2 5) 1
  try (refine k0el (k := ak) ?_ (fun e0 => ?_); (focus omega); subst e0)
  obtain ⟨bk, b, bl, br⟩ := i_add (σ.1 2 5 + 1) v
  try (refine k0el (k := bk) ?_ (fun e0 => ?_); (focus omega); subst e0)
  obtain ⟨ck, c, cl, cr⟩ := i_add (σ.1 2 5 + 1 + v) 1
  try (refine k0el (k := ck) ?_ (fun e0 => ?_); (focus omega); subst e0)
  exact OK.sret (ia_J_2_3 (ia_I_2_4 is) ⟨by omega, by omega⟩) (fr_I_2 (fr_I_2 fs))


theorem k_X6_scanNumber_189 (x1 : Int32) (σ : ST) (hI : IA σ) (hp0 : 0 ≤ x1.toInt ∧ x1.toInt ≤ 1030)  : OK (f_X6_scanNumber_189  x1 σ) (RS σ) := by
  unfold f_X6_scanNumber_189
  have lt_0 := li_0
  have lt_1 := li_1
  have lFU : ((FU : Nat) : Int) = 100000 := rfl
  exact OK.sret (ia_J_2_3 (ia_I_2_4 hI) (show bI x1 0 1030 from ⟨by omega, by omega⟩)) (fr_I_2 (fr_I_2 Fr.rf))

theorem k_X6_scanNumber_119 (x1 : Int32) (x2 : Int32) (σ : ST) (hI : IA σ) (hp0 : 0 ≤ x1.toInt ∧ x1.toInt ≤ 1025)  : OK (f_X6_scanNumber_119  x1 x2 σ) (RS σ) := by
  unfold f_X6_scanNumber_119
  have lt_0 := li_0
  have lt_1 := li_1
  have lt_2 := li_2
  have lt_18 := li_18
  have lt_46 := li_46
  have lFU : ((FU : Nat) : Int) = 100000 := rfl
  refine OK.ieq (fun h1 => ?_) (fun h1 => ?_)
  · skip
    exact OK.sret hI Fr.rf
  · skip
    refine OK.ile (fun h2 => ?_) (fun h2 => ?_)
    · skip
      refine OK.bndR (k_X6_signAt _ _ hI ) (fun v3 h4 => ?_)
      dsimp only
      refine OK.ieq (fun h5 => ?_) (fun h5 => ?_)
      · skip
        refine OK.bndR (k_X6_signAt _ _ hI ) (fun v6 h7 => ?_)
        dsimp only
        refine OK.bndR (k_X6_isDigit _ _ hI ) (fun v8 h9 => ?_)
        dsimp only
        refine OK.ieq (fun h10 => ?_) (fun h10 => ?_)
        · skip
          exact OK.sret hI Fr.rf
        · skip
          refine OK.bndR (k_X6_signAt _ _ hI ) (fun v11 h12 => ?_)
          dsimp only
          refine OK.bndR (k_X6_isDigit _ _ hI ) (fun v13 h14 => ?_)
          dsimp only
          refine OK.ieq (fun h15 => ?_) (fun h15 => ?_)
          · skip
            have iz18 : IA (stI σ 2 10 1) := (ia_I_2_10 hI)
            have fz18 : Fr σ (stI σ 2 10 1) := (fr_I_2 Fr.rf)
            generalize (stI σ 2 10 1) = z18 at iz18 fz18 ⊢
            refine OK.bndR (k_X6_signAt _ _ iz18 ) (fun v16 h17 => ?_)
            dsimp only
            obtain ⟨a19k, a19, a19l, a19r⟩ := i_add x1 2
            try (refine k0el (k := a19k) ?_ (fun e0 => ?_); (focus omega); subst e0)
            exact OK.trS (k_X6_scanNumber_189 _ _ (ia_I_2_11 iz18) (show 0 ≤ (x1 + 2).toInt ∧ (x1 + 2).toInt ≤ 1030 from by omega)) (fr_I_2 fz18)
          · skip
            exact OK.sret hI Fr.rf
      · skip
        exact OK.trS (k_X6_scanNumber_189 _ _ hI (show 0 ≤ x1.toInt ∧ x1.toInt ≤ 1030 from by omega)) Fr.rf
    · skip
      exact OK.sret hI Fr.rf

theorem k_X6_scanNumber_65 : ∀ (n : Nat) (x1 : Int32) (x2 : Int32) (σ : ST), IA σ → (0 ≤ x2.toInt ∧ x2.toInt ≤ 19 ∧ (0 ≤ x1.toInt ∧ x1.toInt ≤ 1001 + x2.toInt) ∧ (19 : Int) - x2.toInt < n) → OK (f_X6_scanNumber_65  n x1 x2 σ) (RS σ) := by
  intro n
  induction n with
  | zero =>
    intro x1 x2 σ hI hv
    omega
  | succ n ih =>
    intro x1 x2 σ hI hv
    rw [f_X6_scanNumber_65]
    have lt_0 := li_0
    have lt_1 := li_1
    have lt_18 := li_18
    have lFU : ((FU : Nat) : Int) = 100000 := rfl
    refine OK.ilt (fun h1 => ?_) (fun h1 => ?_)
    · skip
      exact OK.trS (k_X6_scanNumber_119 _ _ _ hI (show 0 ≤ x1.toInt ∧ x1.toInt ≤ 1025 from by omega)) Fr.rf
    · skip
      refine OK.bndR (k_X6_signAt _ _ hI ) (fun v2 h3 => ?_)
      dsimp only
      refine OK.bndR (k_X6_isDigit _ _ hI ) (fun v4 h5 => ?_)
      dsimp only
      refine OK.ieq (fun h6 => ?_) (fun h6 => ?_)
      · skip
        exact OK.trS (k_X6_scanNumber_119 _ _ _ hI (show 0 ≤ x1.toInt ∧ x1.toInt ≤ 1025 from by omega)) Fr.rf
      · skip
        refine OK.ile (fun h7 => ?_) (fun h7 => ?_)
        · skip
          unfold f_X6_scanNumber_110
          try dsimp only
          obtain ⟨a8k, a8, a8l, a8r⟩ := i_add x1 1
          try (refine k0el (k := a8k) ?_ (fun e0 => ?_); (focus omega); subst e0)
          obtain ⟨a9k, a9, a9l, a9r⟩ := i_add x2 1
          try (refine k0el (k := a9k) ?_ (fun e0 => ?_); (focus omega); subst e0)
          exact OK.trS (ih _ _ _ hI (by omega)) Fr.rf
        · skip
          refine OK.bndR (k_X6_signAt _ _ hI ) (fun v10 h11 => ?_)
          dsimp only
          unfold f_X6_scanNumber_110
          try dsimp only
          obtain ⟨a12k, a12, a12l, a12r⟩ := i_add x1 1
          try (refine k0el (k := a12k) ?_ (fun e0 => ?_); (focus omega); subst e0)
          obtain ⟨a13k, a13, a13l, a13r⟩ := i_add x2 1
          try (refine k0el (k := a13k) ?_ (fun e0 => ?_); (focus omega); subst e0)
          exact OK.trS (ih _ _ _ (ia_L hI) (by omega)) (fr_L Fr.rf)

theorem k_X6_scanNumber_62 (y0 : Int32) (σ : ST) (hI : IA σ) (hp0 : 0 ≤ y0.toInt ∧ y0.toInt ≤ 1001)  : OK (f_X6_scanNumber_62  y0 σ) (RS σ) := by
  unfold f_X6_scanNumber_62
  have lt_0 := li_0
  have lt_1 := li_1
  have lFU : ((FU : Nat) : Int) = 100000 := rfl
  exact OK.trS (k_X6_scanNumber_65 FU _ _ _ hI (by omega)) Fr.rf

theorem k_X6_scanNumber_19 (y0 : Int32) (σ : ST) (hI : IA σ) (hp0 : (σ.1 2 5).toInt < 1000) (hp1 : y0.toInt = 0 ∨ y0.toInt = 1)  : OK (f_X6_scanNumber_19  y0 σ) (RS σ) := by
  unfold f_X6_scanNumber_19
  have lt_0 := li_0
  have lt_1 := li_1
  have lFU : ((FU : Nat) : Int) = 100000 := rfl
  refine OK.grd (b01 (by omega)) ?_
  refine OK.ieq (fun h1 => ?_) (fun h1 => ?_)
  · skip
    have g2 : 0 ≤ (σ.1 2 5).toInt ∧ (σ.1 2 5).toInt ≤ 1030 := hI.tstart
    have g3 : 0 ≤ (σ.1 2 2).toInt ∧ (σ.1 2 2).toInt ≤ 1000 := hI.tend
    exact OK.trS (k_X6_scanNumber_62 _ _ (ia_I_2_4 (ia_L (ia_I_2_11 (ia_I_2_10 (ia_I_2_9 hI))))) (show 0 ≤ (σ.1 2 5).toInt ∧ (σ.1 2 5).toInt ≤ 1001 from by omega)) (fr_I_2 (fr_L (fr_I_2 (fr_I_2 (fr_I_2 Fr.rf)))))
  · skip
    have g4 : 0 ≤ (σ.1 2 5).toInt ∧ (σ.1 2 5).toInt ≤ 1030 := hI.tstart
    obtain ⟨a5k, a5, a5l, a5r⟩ := i_add (σ.1 2 5) 1
    try (refine k0el (k := a5k) ?_ (fun e0 => ?_); (focus omega); subst e0)
    have g6 : 0 ≤ (σ.1 2 2).toInt ∧ (σ.1 2 2).toInt ≤ 1000 := hI.tend
    exact OK.trS (k_X6_scanNumber_62 _ _ (ia_I_2_4 (ia_L (ia_I_2_11 (ia_I_2_10 (ia_I_2_9 hI))))) (show 0 ≤ ((σ.1 2 5) + 1).toInt ∧ ((σ.1 2 5) + 1).toInt ≤ 1001 from by omega)) (fr_I_2 (fr_L (fr_I_2 (fr_I_2 (fr_I_2 Fr.rf)))))

theorem k_X6_scanNumber (σ : ST) (hI : IA σ) (hp0 : (σ.1 2 5).toInt < 1000)  : OK (f_X6_scanNumber  σ) (RS σ) := by
  unfold f_X6_scanNumber
  have lt_0 := li_0
  have lt_1 := li_1
  have lt_45 := li_45
  have lFU : ((FU : Nat) : Int) = 100000 := rfl
  refine OK.bndR (k_X6_signAt _ _ hI ) (fun v1 h2 => ?_)
  dsimp only
  refine OK.ieq (fun h3 => ?_) (fun h3 => ?_)
  · skip
    have g4 : 0 ≤ (σ.1 2 5).toInt ∧ (σ.1 2 5).toInt ≤ 1030 := hI.tstart
    have g5 : 0 ≤ (σ.1 2 2).toInt ∧ (σ.1 2 2).toInt ≤ 1000 := hI.tend
    exact OK.trS (k_X6_scanNumber_19 _ _ hI (show (σ.1 2 5).toInt < 1000 from by omega) (show (1 : Int32).toInt = 0 ∨ (1 : Int32).toInt = 1 from by omega)) Fr.rf
  · skip
    have g6 : 0 ≤ (σ.1 2 5).toInt ∧ (σ.1 2 5).toInt ≤ 1030 := hI.tstart
    have g7 : 0 ≤ (σ.1 2 2).toInt ∧ (σ.1 2 2).toInt ≤ 1000 := hI.tend
    exact OK.trS (k_X6_scanNumber_19 _ _ hI (show (σ.1 2 5).toInt < 1000 from by omega) (show (0 : Int32).toInt = 0 ∨ (0 : Int32).toInt = 1 from by omega)) Fr.rf

theorem k_X6_scanWord_45 : ∀ (n : Nat) (x2 : Int32) (σ : ST), IA σ → (0 ≤ x2.toInt ∧ x2.toInt ≤ 15 ∧ (15 : Int) - x2.toInt < n) → OK (f_X6_scanWord_45  n x2 σ) (RS σ) := by
  intro n
  induction n with
  | zero =>
    intro x2 σ hI hv
    omega
  | succ n ih =>
    intro x2 σ hI hv
    rw [f_X6_scanWord_45]
    have lt_0 := li_0
    have lt_1 := li_1
    have lt_15 := li_15
    have lFU : ((FU : Nat) : Int) = 100000 := rfl
    refine OK.ile (fun h1 => ?_) (fun h1 => ?_)
    · skip
      exact OK.sret hI Fr.rf
    · skip
      refine OK.grd ⟨by omega, by omega⟩ ?_
      refine OK.ieq (fun h2 => ?_) (fun h2 => ?_)
      · skip
        unfold f_X6_scanWord_75
        try dsimp only
        obtain ⟨a3k, a3, a3l, a3r⟩ := i_add x2 1
        try (refine k0el (k := a3k) ?_ (fun e0 => ?_); (focus omega); subst e0)
        exact OK.trS (ih _ _ (ia_I_2_6 (ia_I_2_4 hI)) (by omega)) (fr_I_2 (fr_I_2 Fr.rf))
      · skip
        unfold f_X6_scanWord_75
        try dsimp only
        obtain ⟨a4k, a4, a4l, a4r⟩ := i_add x2 1
        try (refine k0el (k := a4k) ?_ (fun e0 => ?_); (focus omega); subst e0)
        exact OK.trS (ih _ _ hI (by omega)) Fr.rf

theorem k_X6_scanWord (σ : ST) (hI : IA σ) (hp : (σ.1 2 5).toInt < 1000) : OK (f_X6_scanWord σ) (RS σ) := by
  unfold f_X6_scanWord
  have lt_0 := li_0
  have lt_8 := li_8
  have lFU : ((FU : Nat) : Int) = 100000 := rfl
  have g : 0 ≤ (σ.1 2 5).toInt ∧ (σ.1 2 5).toInt ≤ 1030 := hI.tstart
  refine OK.bnd (k_X6_takeLetters _ _ _ (by omega)) (fun q hq => ?_)
  obtain ⟨v, s⟩ := q
  obtain ⟨e1, e2, h1, h2⟩ := hq
  have e1 : s.1 = σ.1 := e1
  have e2 : s.2.2.2 = σ.2.2.2 := e2
  have h1 : 0 ≤ v.toInt := h1
  have h2 : v.toInt ≤ 13 := h2
  have is := hI.same e1 e2
  have fs : Fr σ s := Fr.same e1 e2
  dsimp only
  refine OK.ile (fun h => ?_) (fun h => OK.sret (ia_I_2_4 is) (fr_I_2 fs))
  have hb : bI (s.1 2 5 + v) 0 1030 := by
    rw [e1]
    obtain ⟨ak, a, al, ar⟩ := i_add (σ.1 2 5) v
    try (refine k0el (k := ak) ?_ (fun e0 => ?_); (focus omega); subst e0)
    exact ⟨by omega, by omega⟩
  exact OK.trS (k_X6_scanWord_45 FU _ _ (ia_I_2_6 (ia_I_2_4 (ia_J_2_3 is hb))) (by omega)) (fr_I_2 (fr_I_2 (fr_I_2 fs)))


theorem k_X6_advance_113 (σ : ST) (hI : IA σ) (hp0 : (σ.1 2 5).toInt < 1000)  : OK (f_X6_advance_113  σ) (RS σ) := by
  unfold f_X6_advance_113
  have lt_0 := li_0
  have lt_1 := li_1
  have lFU : ((FU : Nat) : Int) = 100000 := rfl
  have g1 : 0 ≤ (σ.1 2 5).toInt ∧ (σ.1 2 5).toInt ≤ 1030 := hI.tstart
  have g2 : 0 ≤ (σ.1 2 2).toInt ∧ (σ.1 2 2).toInt ≤ 1000 := hI.tend
  refine OK.bndS (k_X6_scanNumber _ hI (show (σ.1 2 5).toInt < 1000 from by omega)) Fr.rf (fun s3 is3 fs3 => ?_)
  try dsimp only
  exact OK.sret is3 fs3

theorem k_X6_advance_169 (x1 : Int32) (σ : ST) (hI : IA σ) (hp0 : (σ.1 2 5).toInt < 1000)  : OK (f_X6_advance_169  x1 σ) (RS σ) := by
  unfold f_X6_advance_169
  have lt_0 := li_0
  have lt_1 := li_1
  have lFU : ((FU : Nat) : Int) = 100000 := rfl
  have g1 : 0 ≤ (σ.1 2 5).toInt ∧ (σ.1 2 5).toInt ≤ 1030 := hI.tstart
  obtain ⟨a2k, a2, a2l, a2r⟩ := i_add (σ.1 2 5) 1
  try (refine k0el (k := a2k) ?_ (fun e0 => ?_); (focus omega); subst e0)
  exact OK.sret (ia_J_2_3 (ia_I_2_4 hI) (show bI ((σ.1 2 5) + 1) 0 1030 from ⟨by omega, by omega⟩)) (fr_I_2 (fr_I_2 Fr.rf))

theorem k_X6_advance_50 (σ : ST) (hI : IA σ)  : OK (f_X6_advance_50  σ) (RS σ) := by
  unfold f_X6_advance_50
  have lt_0 := li_0
  have lt_1 := li_1
  have lt_34 := li_34
  have lt_44 := li_44
  have lt_45 := li_45
  have lt_59 := li_59
  have lt_91 := li_91
  have lt_93 := li_93
  have lt_123 := li_123
  have lt_125 := li_125
  have lFU : ((FU : Nat) : Int) = 100000 := rfl
  have g1 : 0 ≤ (σ.1 2 3).toInt ∧ (σ.1 2 3).toInt ≤ 1030 := hI.tnext
  have iz4 : IA (stI σ 2 5 (σ.1 2 3)) := (ia_J_2_5 hI (show bI (σ.1 2 3) 0 1030 from ⟨by omega, by omega⟩))
  have fz4 : Fr σ (stI σ 2 5 (σ.1 2 3)) := (fr_I_2 Fr.rf)
  generalize (stI σ 2 5 (σ.1 2 3)) = z4 at iz4 fz4 ⊢
  refine OK.bndR (k_X6_signAt _ _ iz4 ) (fun v2 h3 => ?_)
  dsimp only
  have g5 : 0 ≤ (z4.1 2 5).toInt ∧ (z4.1 2 5).toInt ≤ 1030 := iz4.tstart
  have g6 : 0 ≤ (z4.1 2 2).toInt ∧ (z4.1 2 2).toInt ≤ 1000 := iz4.tend
  refine OK.ilt (fun h7 => ?_) (fun h7 => ?_)
  · skip
    refine OK.bndR (k_X6_isLetter _ _ iz4 ) (fun v8 h9 => ?_)
    dsimp only
    refine OK.ieq (fun h10 => ?_) (fun h10 => ?_)
    · skip
      refine OK.ieq (fun h11 => ?_) (fun h11 => ?_)
      · skip
        exact OK.trS (k_X6_advance_113 _ iz4 (show (z4.1 2 5).toInt < 1000 from by omega)) fz4
      · skip
        refine OK.bndR (k_X6_isDigit _ _ iz4 ) (fun v12 h13 => ?_)
        dsimp only
        refine OK.ieq (fun h14 => ?_) (fun h14 => ?_)
        · skip
          refine OK.ieq (fun h15 => ?_) (fun h15 => ?_)
          · skip
            refine OK.bndS (k_X6_scanLettered _ iz4 (show (z4.1 2 5).toInt < 1000 from by omega)) fz4 (fun s16 is16 fs16 => ?_)
            try dsimp only
            exact OK.sret is16 fs16
          · skip
            refine OK.ieq (fun h17 => ?_) (fun h17 => ?_)
            · skip
              exact OK.trS (k_X6_advance_169 _ _ iz4 (show (z4.1 2 5).toInt < 1000 from by omega)) fz4
            · skip
              refine OK.ieq (fun h18 => ?_) (fun h18 => ?_)
              · skip
                exact OK.trS (k_X6_advance_169 _ _ iz4 (show (z4.1 2 5).toInt < 1000 from by omega)) fz4
              · skip
                refine OK.ieq (fun h19 => ?_) (fun h19 => ?_)
                · skip
                  exact OK.trS (k_X6_advance_169 _ _ iz4 (show (z4.1 2 5).toInt < 1000 from by omega)) fz4
                · skip
                  refine OK.ieq (fun h20 => ?_) (fun h20 => ?_)
                  · skip
                    exact OK.trS (k_X6_advance_169 _ _ iz4 (show (z4.1 2 5).toInt < 1000 from by omega)) fz4
                  · skip
                    refine OK.ieq (fun h21 => ?_) (fun h21 => ?_)
                    · skip
                      exact OK.trS (k_X6_advance_169 _ _ iz4 (show (z4.1 2 5).toInt < 1000 from by omega)) fz4
                    · skip
                      refine OK.ieq (fun h22 => ?_) (fun h22 => ?_)
                      · skip
                        exact OK.trS (k_X6_advance_169 _ _ iz4 (show (z4.1 2 5).toInt < 1000 from by omega)) fz4
                      · skip
                        exact OK.sret (ia_I_2_4 iz4) (fr_I_2 fz4)
        · skip
          exact OK.trS (k_X6_advance_113 _ iz4 (show (z4.1 2 5).toInt < 1000 from by omega)) fz4
    · skip
      refine OK.bndS (k_X6_scanWord _ iz4 (show (z4.1 2 5).toInt < 1000 from by omega)) fz4 (fun s23 is23 fs23 => ?_)
      try dsimp only
      exact OK.sret is23 fs23
  · skip
    exact OK.sret (ia_I_2_4 iz4) (fr_I_2 fz4)

theorem k_X6_advance_0 : ∀ (n : Nat) (σ : ST), IA σ → ((1001 : Int) - (σ.1 2 3).toInt < n) → 0 < n → OK (f_X6_advance_0 n σ) (RS σ) := by
  intro n
  induction n with
  | zero => intro σ hI hv h0; omega
  | succ n ih =>
    intro σ hI hv h0
    rw [f_X6_advance_0]
    have lt_1 := li_1
    have g : 0 ≤ (σ.1 2 2).toInt ∧ (σ.1 2 2).toInt ≤ 1000 := hI.tend
    have g3 : 0 ≤ (σ.1 2 3).toInt ∧ (σ.1 2 3).toInt ≤ 1030 := hI.tnext
    refine OK.ile (fun h => k_X6_advance_50 _ hI) (fun h => ?_)
    obtain ⟨ak, a, al, ar⟩ := i_add (σ.1 2 3) 1
    try (refine k0el (k := ak) ?_ (fun e0 => ?_); (focus omega); subst e0)
    have h37 : OK (f_X6_advance_37 (f_X6_advance_0 n) σ) (RS σ) := by
      unfold f_X6_advance_37
      exact OK.trS (ih _ (ia_J_2_3 hI ⟨by omega, by omega⟩) (show (1001 : Int) - (σ.1 2 3 + 1).toInt < n from by omega) (by omega)) (fr_I_2 Fr.rf)
    refine OK.bndR (k_X6_signAt _ _ hI) (fun w hw => ?_)
    dsimp only
    refine OK.ieq (fun _ => h37) (fun _ => ?_)
    refine OK.bndR (k_X6_signAt _ _ hI) (fun w hw => ?_)
    dsimp only
    exact OK.ieq (fun _ => h37) (fun _ => k_X6_advance_50 _ hI)


theorem k_X6_advance (σ : ST) (hI : IA σ) : OK (f_X6_advance σ) (RS σ) := by
  have lFU : ((FU : Nat) : Int) = 100000 := rfl
  have g3 : 0 ≤ (σ.1 2 3).toInt ∧ (σ.1 2 3).toInt ≤ 1030 := hI.tnext
  exact k_X6_advance_0 FU σ hI (by omega) (by decide)


theorem k_X6_refuseAt (p0 : Int32) (p1 : Int32) (σ : ST) (hI : IA σ)  : OK (f_X6_refuseAt  p0 p1 σ) (RW σ fun v => v.toInt = 0 ∨ v.toInt = 1) := by
  unfold f_X6_refuseAt
  have lt_0 := li_0
  have lt_1 := li_1
  have lFU : ((FU : Nat) : Int) = 100000 := rfl
  refine OK.ieq (fun h1 => ?_) (fun h1 => ?_)
  · skip
    exact OK.wret (ia_I_2_13 (ia_I_2_12 hI)) (fr_I_2 (fr_I_2 Fr.rf)) (by first | trivial | omega | exact hI.flds _ | exact hI.dflds _ | exact hI.recs _ | exact hI.drecs _ | exact hI.droot _ | omega)
  · skip
    exact OK.wret hI Fr.rf (by first | trivial | omega | exact hI.flds _ | exact hI.dflds _ | exact hI.recs _ | exact hI.drecs _ | exact hI.droot _ | omega)

theorem k_X6_refuse (p0 : Int32) (σ : ST) (hI : IA σ)  : OK (f_X6_refuse  p0 σ) (RW σ fun v => v.toInt = 0 ∨ v.toInt = 1) := by
  unfold f_X6_refuse
  have lt_0 := li_0
  have lt_1 := li_1
  have lFU : ((FU : Nat) : Int) = 100000 := rfl
  refine OK.bndW (k_X6_refuseAt _ _ _ hI ) Fr.rf (fun v1 s3 is3 fs3 h2 => ?_)
  dsimp only
  refine OK.grd (b01 (by omega)) ?_
  exact OK.wret is3 fs3 (by first | trivial | omega | exact hI.flds _ | exact hI.dflds _ | exact hI.recs _ | exact hI.drecs _ | exact hI.droot _ | omega)

theorem k_X3_beginPlan (p0 : Int32) (σ : ST) (hI : IA σ)  : OK (f_X3_beginPlan  p0 σ) (RW σ fun v => v.toInt = 0 ∨ v.toInt = 1) := by
  unfold f_X3_beginPlan
  have lt_0 := li_0
  have lt_1 := li_1
  have lt_6 := li_6
  have lt_59 := li_59
  have lFU : ((FU : Nat) : Int) = 100000 := rfl
  refine OK.ilt (fun h1 => ?_) (fun h1 => ?_)
  · skip
    refine OK.bndS (k_X5_addPlan_20 _ _ hI ) Fr.rf (fun s2 is2 fs2 => ?_)
    try dsimp only
    refine OK.bndS (k_X6_advance _ is2 ) fs2 (fun s3 is3 fs3 => ?_)
    try dsimp only
    refine OK.ieq (fun h4 => ?_) (fun h4 => ?_)
    · skip
      refine OK.bndS (k_X6_advance _ is3 ) fs3 (fun s5 is5 fs5 => ?_)
      try dsimp only
      exact OK.wret is5 fs5 (by first | trivial | omega | exact hI.flds _ | exact hI.dflds _ | exact hI.recs _ | exact hI.drecs _ | exact hI.droot _ | omega)
    · skip
      refine OK.bndW (k_X6_refuse _ _ is3 ) fs3 (fun v6 s8 is8 fs8 h7 => ?_)
      dsimp only
      refine OK.grd (b01 (by omega)) ?_
      exact OK.wret is8 fs8 (by first | trivial | omega | exact hI.flds _ | exact hI.dflds _ | exact hI.recs _ | exact hI.drecs _ | exact hI.droot _ | omega)
  · skip
    refine OK.bndW (k_X6_refuse _ _ hI ) Fr.rf (fun v9 s11 is11 fs11 h10 => ?_)
    dsimp only
    refine OK.grd (b01 (by omega)) ?_
    exact OK.wret is11 fs11 (by first | trivial | omega | exact hI.flds _ | exact hI.dflds _ | exact hI.recs _ | exact hI.drecs _ | exact hI.droot _ | omega)

theorem k_X5_setElse_20 (p0 : Int32) (p1 : Int32) (p2 : Int64) (σ : ST) (hI : IA σ)  : OK (f_X5_setElse 20 p0 p1 p2 σ) (RS σ) := by
  unfold f_X5_setElse
  have lt_0 := li_0
  have lt_1 := li_1
  have lt_8 := li_8
  have lFU : ((FU : Nat) : Int) = 100000 := rfl
  refine OK.bndR (k_X5_isFieldOf _ _ _ hI ) (fun v1 h2 => ?_)
  dsimp only
  refine OK.ieq (fun h3 => ?_) (fun h3 => ?_)
  · skip
    exact OK.sret hI Fr.rf
  · skip
    refine OK.grd ⟨by omega, by omega⟩ ?_
    refine OK.lt (fun z4 h5 => ?_)
    have iz4 : IA z4 := by rw [h5]; exact (ia_I_25 hI)
    have fz4 : Fr σ z4 := by rw [h5]; exact (fr_I_25 Fr.rf)
    obtain ⟨a6k, a6, a6l, a6r⟩ := i_mul p0 8
    rw [li_8] at a6
    try (refine k0el (k := a6k) ?_ (fun e0 => ?_); (focus omega); subst e0)
    obtain ⟨a7k, a7, a7l, a7r⟩ := i_add (p0 * 8) p1
    try (refine k0el (k := a7k) ?_ (fun e0 => ?_); (focus omega); subst e0)
    refine OK.grd ⟨by omega, by omega⟩ ?_
    exact OK.sret (ia_L iz4) (fr_L fz4)

theorem k_X6_isKeyword (p0 : Int32) (σ : ST) (hI : IA σ)  : OK (f_X6_isKeyword  p0 σ) (RO σ fun v => v.toInt = 0 ∨ v.toInt = 1) := by
  unfold f_X6_isKeyword
  have lt_0 := li_0
  have lt_1 := li_1
  have lt_2 := li_2
  have lFU : ((FU : Nat) : Int) = 100000 := rfl
  refine OK.ieq (fun h1 => ?_) (fun h1 => ?_)
  · skip
    refine OK.ieq (fun h2 => ?_) (fun h2 => ?_)
    · skip
      exact OK.roret (by first | trivial | omega | exact hI.flds _ | exact hI.dflds _ | exact hI.recs _ | exact hI.drecs _ | exact hI.droot _ | omega)
    · skip
      exact OK.roret (by first | trivial | omega | exact hI.flds _ | exact hI.dflds _ | exact hI.recs _ | exact hI.drecs _ | exact hI.droot _ | omega)
  · skip
    exact OK.roret (by first | trivial | omega | exact hI.flds _ | exact hI.dflds _ | exact hI.recs _ | exact hI.drecs _ | exact hI.droot _ | omega)

theorem k_X6_beginsLiteral_52 (σ : ST) (hI : IA σ)  : OK (f_X6_beginsLiteral_52  σ) (RO σ fun v => v.toInt = 0 ∨ v.toInt = 1) := by
  unfold f_X6_beginsLiteral_52
  have lt_0 := li_0
  have lt_1 := li_1
  have lFU : ((FU : Nat) : Int) = 100000 := rfl
  exact OK.roret (by first | trivial | omega | exact hI.flds _ | exact hI.dflds _ | exact hI.recs _ | exact hI.drecs _ | exact hI.droot _ | omega)

theorem k_X6_beginsLiteral (σ : ST) (hI : IA σ)  : OK (f_X6_beginsLiteral  σ) (RO σ fun v => v.toInt = 0 ∨ v.toInt = 1) := by
  unfold f_X6_beginsLiteral
  have lt_0 := li_0
  have lt_1 := li_1
  have lt_4 := li_4
  have lt_5 := li_5
  have lt_91 := li_91
  have lFU : ((FU : Nat) : Int) = 100000 := rfl
  refine OK.ieq (fun h1 => ?_) (fun h1 => ?_)
  · skip
    exact OK.roq (k_X6_beginsLiteral_52 _ hI ) (fun v hv => by first | trivial | omega | exact hI.flds _ | exact hI.dflds _ | exact hI.recs _ | exact hI.drecs _ | exact hI.droot _ | omega)
  · skip
    refine OK.ieq (fun h2 => ?_) (fun h2 => ?_)
    · skip
      exact OK.roq (k_X6_beginsLiteral_52 _ hI ) (fun v hv => by first | trivial | omega | exact hI.flds _ | exact hI.dflds _ | exact hI.recs _ | exact hI.drecs _ | exact hI.droot _ | omega)
    · skip
      refine OK.ieq (fun h3 => ?_) (fun h3 => ?_)
      · skip
        exact OK.roq (k_X6_beginsLiteral_52 _ hI ) (fun v hv => by first | trivial | omega | exact hI.flds _ | exact hI.dflds _ | exact hI.recs _ | exact hI.drecs _ | exact hI.droot _ | omega)
      · skip
        refine OK.bndR (k_X6_isKeyword _ _ hI ) (fun v4 h5 => ?_)
        dsimp only
        refine OK.ieq (fun h6 => ?_) (fun h6 => ?_)
        · skip
          refine OK.bndR (k_X6_isKeyword _ _ hI ) (fun v7 h8 => ?_)
          dsimp only
          refine OK.ieq (fun h9 => ?_) (fun h9 => ?_)
          · skip
            refine OK.bndR (k_X6_isKeyword _ _ hI ) (fun v10 h11 => ?_)
            dsimp only
            refine OK.ieq (fun h12 => ?_) (fun h12 => ?_)
            · skip
              exact OK.roret (by first | trivial | omega | exact hI.flds _ | exact hI.dflds _ | exact hI.recs _ | exact hI.drecs _ | exact hI.droot _ | omega)
            · skip
              exact OK.roq (k_X6_beginsLiteral_52 _ hI ) (fun v hv => by first | trivial | omega | exact hI.flds _ | exact hI.dflds _ | exact hI.recs _ | exact hI.drecs _ | exact hI.droot _ | omega)
          · skip
            exact OK.roq (k_X6_beginsLiteral_52 _ hI ) (fun v hv => by first | trivial | omega | exact hI.flds _ | exact hI.dflds _ | exact hI.recs _ | exact hI.drecs _ | exact hI.droot _ | omega)
        · skip
          exact OK.roq (k_X6_beginsLiteral_52 _ hI ) (fun v hv => by first | trivial | omega | exact hI.flds _ | exact hI.dflds _ | exact hI.recs _ | exact hI.drecs _ | exact hI.droot _ | omega)

theorem k_X6_whole (σ : ST) (hI : IA σ)  : OK (f_X6_whole  σ) (RO σ fun v => True) := by
  unfold f_X6_whole
  have lt_0 := li_0
  have lt_1 := li_1
  have lFU : ((FU : Nat) : Int) = 100000 := rfl
  refine OK.ieq (fun h1 => ?_) (fun h1 => ?_)
  · skip
    exact OK.roret (by first | trivial | omega | exact hI.flds _ | exact hI.dflds _ | exact hI.recs _ | exact hI.drecs _ | exact hI.droot _ | omega)
  · skip
    exact OK.roret (by first | trivial | omega | exact hI.flds _ | exact hI.dflds _ | exact hI.recs _ | exact hI.drecs _ | exact hI.droot _ | omega)

theorem k_X6_fits_73 (σ : ST) (hI : IA σ)  : OK (f_X6_fits_73  σ) (RO σ fun v => v.toInt = 0 ∨ v.toInt = 1) := by
  unfold f_X6_fits_73
  have lt_0 := li_0
  have lt_1 := li_1
  have lFU : ((FU : Nat) : Int) = 100000 := rfl
  exact OK.roret (by first | trivial | omega | exact hI.flds _ | exact hI.dflds _ | exact hI.recs _ | exact hI.drecs _ | exact hI.droot _ | omega)

theorem k_X6_fits (p0 : Int32) (σ : ST) (hI : IA σ)  : OK (f_X6_fits  p0 σ) (RO σ fun v => v.toInt = 0 ∨ v.toInt = 1) := by
  unfold f_X6_fits
  have lt_0 := li_0
  have lt_1 := li_1
  have lt_2 := li_2
  have lt_3 := li_3
  have lt_4 := li_4
  have lt_5 := li_5
  have lt_6 := li_6
  have lt_7 := li_7
  have lt_91 := li_91
  have lt_123 := li_123
  have lFU : ((FU : Nat) : Int) = 100000 := rfl
  refine OK.ieq (fun h1 => ?_) (fun h1 => ?_)
  · skip
    refine OK.bndR (k_X6_isKeyword _ _ hI ) (fun v2 h3 => ?_)
    dsimp only
    refine OK.grd (b01 (by omega)) ?_
    exact OK.roret (by first | trivial | omega | exact hI.flds _ | exact hI.dflds _ | exact hI.recs _ | exact hI.drecs _ | exact hI.droot _ | omega)
  · skip
    refine OK.ieq (fun h4 => ?_) (fun h4 => ?_)
    · skip
      refine OK.bndR (k_X6_isKeyword _ _ hI ) (fun v5 h6 => ?_)
      dsimp only
      refine OK.ieq (fun h7 => ?_) (fun h7 => ?_)
      · skip
        refine OK.bndR (k_X6_isKeyword _ _ hI ) (fun v8 h9 => ?_)
        dsimp only
        refine OK.ieq (fun h10 => ?_) (fun h10 => ?_)
        · skip
          exact OK.roret (by first | trivial | omega | exact hI.flds _ | exact hI.dflds _ | exact hI.recs _ | exact hI.drecs _ | exact hI.droot _ | omega)
        · skip
          exact OK.roq (k_X6_fits_73 _ hI ) (fun v hv => by first | trivial | omega | exact hI.flds _ | exact hI.dflds _ | exact hI.recs _ | exact hI.drecs _ | exact hI.droot _ | omega)
      · skip
        exact OK.roq (k_X6_fits_73 _ hI ) (fun v hv => by first | trivial | omega | exact hI.flds _ | exact hI.dflds _ | exact hI.recs _ | exact hI.drecs _ | exact hI.droot _ | omega)
    · skip
      refine OK.ieq (fun h11 => ?_) (fun h11 => ?_)
      · skip
        refine OK.ieq (fun h12 => ?_) (fun h12 => ?_)
        · skip
          refine OK.ieq (fun h13 => ?_) (fun h13 => ?_)
          · skip
            refine OK.bndR (k_X6_whole _ hI ) (fun v14 h15 => ?_)
            dsimp only
            refine OK.bndR (k_X10_isInt _ _ hI ) (fun v16 h17 => ?_)
            dsimp only
            refine OK.ieq (fun h18 => ?_) (fun h18 => ?_)
            · skip
              exact OK.roret (by first | trivial | omega | exact hI.flds _ | exact hI.dflds _ | exact hI.recs _ | exact hI.drecs _ | exact hI.droot _ | omega)
            · skip
              exact OK.roret (by first | trivial | omega | exact hI.flds _ | exact hI.dflds _ | exact hI.recs _ | exact hI.drecs _ | exact hI.droot _ | omega)
          · skip
            exact OK.roret (by first | trivial | omega | exact hI.flds _ | exact hI.dflds _ | exact hI.recs _ | exact hI.drecs _ | exact hI.droot _ | omega)
        · skip
          exact OK.roret (by first | trivial | omega | exact hI.flds _ | exact hI.dflds _ | exact hI.recs _ | exact hI.drecs _ | exact hI.droot _ | omega)
      · skip
        refine OK.ieq (fun h19 => ?_) (fun h19 => ?_)
        · skip
          refine OK.ieq (fun h20 => ?_) (fun h20 => ?_)
          · skip
            refine OK.ieq (fun h21 => ?_) (fun h21 => ?_)
            · skip
              exact OK.roret (by first | trivial | omega | exact hI.flds _ | exact hI.dflds _ | exact hI.recs _ | exact hI.drecs _ | exact hI.droot _ | omega)
            · skip
              exact OK.roret (by first | trivial | omega | exact hI.flds _ | exact hI.dflds _ | exact hI.recs _ | exact hI.drecs _ | exact hI.droot _ | omega)
          · skip
            exact OK.roret (by first | trivial | omega | exact hI.flds _ | exact hI.dflds _ | exact hI.recs _ | exact hI.drecs _ | exact hI.droot _ | omega)
        · skip
          refine OK.ieq (fun h22 => ?_) (fun h22 => ?_)
          · skip
            refine OK.ieq (fun h23 => ?_) (fun h23 => ?_)
            · skip
              exact OK.roret (by first | trivial | omega | exact hI.flds _ | exact hI.dflds _ | exact hI.recs _ | exact hI.drecs _ | exact hI.droot _ | omega)
            · skip
              exact OK.roret (by first | trivial | omega | exact hI.flds _ | exact hI.dflds _ | exact hI.recs _ | exact hI.drecs _ | exact hI.droot _ | omega)
          · skip
            refine OK.ieq (fun h24 => ?_) (fun h24 => ?_)
            · skip
              refine OK.ieq (fun h25 => ?_) (fun h25 => ?_)
              · skip
                exact OK.roret (by first | trivial | omega | exact hI.flds _ | exact hI.dflds _ | exact hI.recs _ | exact hI.drecs _ | exact hI.droot _ | omega)
              · skip
                exact OK.roret (by first | trivial | omega | exact hI.flds _ | exact hI.dflds _ | exact hI.recs _ | exact hI.drecs _ | exact hI.droot _ | omega)
            · skip
              refine OK.ieq (fun h26 => ?_) (fun h26 => ?_)
              · skip
                refine OK.ieq (fun h27 => ?_) (fun h27 => ?_)
                · skip
                  exact OK.roret (by first | trivial | omega | exact hI.flds _ | exact hI.dflds _ | exact hI.recs _ | exact hI.drecs _ | exact hI.droot _ | omega)
                · skip
                  exact OK.roret (by first | trivial | omega | exact hI.flds _ | exact hI.dflds _ | exact hI.recs _ | exact hI.drecs _ | exact hI.droot _ | omega)
              · skip
                refine OK.ieq (fun h28 => ?_) (fun h28 => ?_)
                · skip
                  refine OK.ieq (fun h29 => ?_) (fun h29 => ?_)
                  · skip
                    exact OK.roret (by first | trivial | omega | exact hI.flds _ | exact hI.dflds _ | exact hI.recs _ | exact hI.drecs _ | exact hI.droot _ | omega)
                  · skip
                    exact OK.roret (by first | trivial | omega | exact hI.flds _ | exact hI.dflds _ | exact hI.recs _ | exact hI.drecs _ | exact hI.droot _ | omega)
                · skip
                  exact OK.roret (by first | trivial | omega | exact hI.flds _ | exact hI.dflds _ | exact hI.recs _ | exact hI.drecs _ | exact hI.droot _ | omega)

theorem k_X6_realBits_42 (x1 : Int64) (σ : ST) (hI : IA σ)  : OK (f_X6_realBits_42  x1 σ) (RO σ fun v => True) := by
  unfold f_X6_realBits_42
  have lt_0 := li_0
  have lt_1 := li_1
  have lFU : ((FU : Nat) : Int) = 100000 := rfl
  exact OK.roret (by first | trivial | omega | exact hI.flds _ | exact hI.dflds _ | exact hI.recs _ | exact hI.drecs _ | exact hI.droot _ | omega)

theorem k_X6_realBits (σ : ST) (hI : IA σ) : OK (f_X6_realBits σ) (RO σ fun _ => True) := by
  unfold f_X6_realBits
  have h1 := FP.Core.ddiv_out (FP.Core.i2d_fin (σ.1 2 11)).notNaN fp10_fin fp10_nz
  have h2 := FP.Core.dadd_out' (FP.Core.l2d_fin (σ.2.1 2 8)) h1
  refine OK.grd (fl_num h1) ?_
  refine OK.grd (fl_num h2) ?_
  refine OK.bndR (k_X10_bitsOfPositive _ _ h2) (fun v h3 => ?_)
  dsimp only
  refine OK.ieq (fun h => OK.roret trivial) (fun h => ?_)
  refine OK.ieq (fun h => ?_) (fun h => ?_)
  · exact OK.ieq (fun h => OK.roret trivial) (fun h => OK.roret trivial)
  · exact OK.roret trivial


theorem k_X6_worth (p0 : Int32) (σ : ST) (hI : IA σ)  : OK (f_X6_worth  p0 σ) (RO σ fun v => True) := by
  unfold f_X6_worth
  have lt_0 := li_0
  have lt_1 := li_1
  have lt_2 := li_2
  have lt_3 := li_3
  have lt_4 := li_4
  have lt_5 := li_5
  have lFU : ((FU : Nat) : Int) = 100000 := rfl
  refine OK.ieq (fun h1 => ?_) (fun h1 => ?_)
  · skip
    refine OK.bndR (k_X6_isKeyword _ _ hI ) (fun v2 h3 => ?_)
    dsimp only
    refine OK.ieq (fun h4 => ?_) (fun h4 => ?_)
    · skip
      exact OK.roret (by first | trivial | omega | exact hI.flds _ | exact hI.dflds _ | exact hI.recs _ | exact hI.drecs _ | exact hI.droot _ | omega)
    · skip
      exact OK.roret (by first | trivial | omega | exact hI.flds _ | exact hI.dflds _ | exact hI.recs _ | exact hI.drecs _ | exact hI.droot _ | omega)
  · skip
    refine OK.ieq (fun h5 => ?_) (fun h5 => ?_)
    · skip
      refine OK.bndR (k_X6_whole _ hI ) (fun v6 h7 => ?_)
      dsimp only
      exact OK.roret (by first | trivial | omega | exact hI.flds _ | exact hI.dflds _ | exact hI.recs _ | exact hI.drecs _ | exact hI.droot _ | omega)
    · skip
      refine OK.ieq (fun h8 => ?_) (fun h8 => ?_)
      · skip
        refine OK.bndR (k_X6_whole _ hI ) (fun v9 h10 => ?_)
        dsimp only
        exact OK.roret (by first | trivial | omega | exact hI.flds _ | exact hI.dflds _ | exact hI.recs _ | exact hI.drecs _ | exact hI.droot _ | omega)
      · skip
        refine OK.ieq (fun h11 => ?_) (fun h11 => ?_)
        · skip
          refine OK.bndR (k_X6_realBits _ hI ) (fun v12 h13 => ?_)
          dsimp only
          exact OK.roret (by first | trivial | omega | exact hI.flds _ | exact hI.dflds _ | exact hI.recs _ | exact hI.drecs _ | exact hI.droot _ | omega)
        · skip
          refine OK.ieq (fun h14 => ?_) (fun h14 => ?_)
          · skip
            exact OK.roret (by first | trivial | omega | exact hI.flds _ | exact hI.dflds _ | exact hI.recs _ | exact hI.drecs _ | exact hI.droot _ | omega)
          · skip
            exact OK.roret (by first | trivial | omega | exact hI.flds _ | exact hI.dflds _ | exact hI.recs _ | exact hI.drecs _ | exact hI.droot _ | omega)

theorem k_X3_parseElse (p0 : Int32) (p1 : Int32) (σ : ST) (hI : IA σ)  : OK (f_X3_parseElse  p0 p1 σ) (RW σ fun v => v.toInt = 0 ∨ v.toInt = 1) := by
  unfold f_X3_parseElse
  have lt_0 := li_0
  have lt_1 := li_1
  have lt_6 := li_6
  have lt_93 := li_93
  have lFU : ((FU : Nat) : Int) = 100000 := rfl
  refine OK.bndR (k_X6_isKeyword _ _ hI ) (fun v1 h2 => ?_)
  dsimp only
  refine OK.ieq (fun h3 => ?_) (fun h3 => ?_)
  · skip
    exact OK.wret hI Fr.rf (by first | trivial | omega | exact hI.flds _ | exact hI.dflds _ | exact hI.recs _ | exact hI.drecs _ | exact hI.droot _ | omega)
  · skip
    refine OK.bndS (k_X6_advance _ hI ) Fr.rf (fun s4 is4 fs4 => ?_)
    try dsimp only
    refine OK.bndR (k_X6_beginsLiteral _ is4 ) (fun v5 h6 => ?_)
    dsimp only
    refine OK.ieq (fun h7 => ?_) (fun h7 => ?_)
    · skip
      refine OK.bndW (k_X6_refuse _ _ is4 ) fs4 (fun v8 s10 is10 fs10 h9 => ?_)
      dsimp only
      refine OK.grd (b01 (by omega)) ?_
      exact OK.wret is10 fs10 (by first | trivial | omega | exact hI.flds _ | exact hI.dflds _ | exact hI.recs _ | exact hI.drecs _ | exact hI.droot _ | omega)
    · skip
      refine OK.bndR (k_X5_typeOf_20 _ _ _ is4 ) (fun v11 h12 => ?_)
      dsimp only
      refine OK.bndR (k_X5_firstChoice_20 _ _ is4 ) (fun v13 h14 => ?_)
      dsimp only
      refine OK.bndR (k_X5_sortOf_20 _ _ is4 ) (fun v15 h16 => ?_)
      dsimp only
      refine OK.bndR (k_X6_fits _ _ is4 ) (fun v17 h18 => ?_)
      dsimp only
      refine OK.ieq (fun h19 => ?_) (fun h19 => ?_)
      · skip
        refine OK.bndW (k_X6_refuse _ _ is4 ) fs4 (fun v20 s22 is22 fs22 h21 => ?_)
        dsimp only
        refine OK.grd (b01 (by omega)) ?_
        exact OK.wret is22 fs22 (by first | trivial | omega | exact hI.flds _ | exact hI.dflds _ | exact hI.recs _ | exact hI.drecs _ | exact hI.droot _ | omega)
      · skip
        refine OK.bndR (k_X6_worth _ _ is4 ) (fun v23 h24 => ?_)
        dsimp only
        refine OK.bndS (k_X5_setElse_20 _ _ _ _ is4 ) fs4 (fun s25 is25 fs25 => ?_)
        try dsimp only
        refine OK.bndS (k_X6_advance _ is25 ) fs25 (fun s26 is26 fs26 => ?_)
        try dsimp only
        refine OK.ieq (fun h27 => ?_) (fun h27 => ?_)
        · skip
          refine OK.ieq (fun h28 => ?_) (fun h28 => ?_)
          · skip
            refine OK.bndS (k_X6_advance _ is26 ) fs26 (fun s29 is29 fs29 => ?_)
            try dsimp only
            exact OK.wret is29 fs29 (by first | trivial | omega | exact hI.flds _ | exact hI.dflds _ | exact hI.recs _ | exact hI.drecs _ | exact hI.droot _ | omega)
          · skip
            refine OK.bndW (k_X6_refuse _ _ is26 ) fs26 (fun v30 s32 is32 fs32 h31 => ?_)
            dsimp only
            refine OK.grd (b01 (by omega)) ?_
            exact OK.wret is32 fs32 (by first | trivial | omega | exact hI.flds _ | exact hI.dflds _ | exact hI.recs _ | exact hI.drecs _ | exact hI.droot _ | omega)
        · skip
          exact OK.wret is26 fs26 (by first | trivial | omega | exact hI.flds _ | exact hI.dflds _ | exact hI.recs _ | exact hI.drecs _ | exact hI.droot _ | omega)

theorem k_X5_setFormerName_20 (p0 : Int32) (p1 : Int32) (p2 : Int64) (σ : ST) (hI : IA σ)  : OK (f_X5_setFormerName 20 p0 p1 p2 σ) (RS σ) := by
  unfold f_X5_setFormerName
  have lt_0 := li_0
  have lt_1 := li_1
  have lt_8 := li_8
  have lFU : ((FU : Nat) : Int) = 100000 := rfl
  refine OK.bndR (k_X5_isFieldOf _ _ _ hI ) (fun v1 h2 => ?_)
  dsimp only
  refine OK.ieq (fun h3 => ?_) (fun h3 => ?_)
  · skip
    exact OK.sret hI Fr.rf
  · skip
    obtain ⟨a4k, a4, a4l, a4r⟩ := i_mul p0 8
    rw [li_8] at a4
    try (refine k0el (k := a4k) ?_ (fun e0 => ?_); (focus omega); subst e0)
    obtain ⟨a5k, a5, a5l, a5r⟩ := i_add (p0 * 8) p1
    try (refine k0el (k := a5k) ?_ (fun e0 => ?_); (focus omega); subst e0)
    refine OK.grd ⟨by omega, by omega⟩ ?_
    exact OK.sret (ia_L hI) (fr_L Fr.rf)

theorem k_X3_parseFormerName (p0 : Int32) (p1 : Int32) (σ : ST) (hI : IA σ)  : OK (f_X3_parseFormerName  p0 p1 σ) (RW σ fun v => v.toInt = 0 ∨ v.toInt = 1) := by
  unfold f_X3_parseFormerName
  have lt_0 := li_0
  have lt_1 := li_1
  have lt_3 := li_3
  have lFU : ((FU : Nat) : Int) = 100000 := rfl
  refine OK.bndR (k_X6_isKeyword _ _ hI ) (fun v1 h2 => ?_)
  dsimp only
  refine OK.ieq (fun h3 => ?_) (fun h3 => ?_)
  · skip
    exact OK.wret hI Fr.rf (by first | trivial | omega | exact hI.flds _ | exact hI.dflds _ | exact hI.recs _ | exact hI.drecs _ | exact hI.droot _ | omega)
  · skip
    refine OK.bndS (k_X6_advance _ hI ) Fr.rf (fun s4 is4 fs4 => ?_)
    try dsimp only
    refine OK.ieq (fun h5 => ?_) (fun h5 => ?_)
    · skip
      refine OK.bndR (k_X5_fieldName_20 _ _ _ is4 ) (fun v6 h7 => ?_)
      dsimp only
      refine OK.ieq (fun h8 => ?_) (fun h8 => ?_)
      · skip
        refine OK.bndW (k_X6_refuse _ _ is4 ) fs4 (fun v9 s11 is11 fs11 h10 => ?_)
        dsimp only
        refine OK.grd (b01 (by omega)) ?_
        exact OK.wret is11 fs11 (by first | trivial | omega | exact hI.flds _ | exact hI.dflds _ | exact hI.recs _ | exact hI.drecs _ | exact hI.droot _ | omega)
      · skip
        refine OK.bndS (k_X5_setFormerName_20 _ _ _ _ is4 ) fs4 (fun s12 is12 fs12 => ?_)
        try dsimp only
        refine OK.bndS (k_X6_advance _ is12 ) fs12 (fun s13 is13 fs13 => ?_)
        try dsimp only
        exact OK.wret is13 fs13 (by first | trivial | omega | exact hI.flds _ | exact hI.dflds _ | exact hI.recs _ | exact hI.drecs _ | exact hI.droot _ | omega)
    · skip
      refine OK.bndW (k_X6_refuse _ _ is4 ) fs4 (fun v14 s16 is16 fs16 h15 => ?_)
      dsimp only
      refine OK.grd (b01 (by omega)) ?_
      exact OK.wret is16 fs16 (by first | trivial | omega | exact hI.flds _ | exact hI.dflds _ | exact hI.recs _ | exact hI.drecs _ | exact hI.droot _ | omega)

theorem k_X5_setBranchAfter_20 (p0 : Int32) (p1 : Int32) (σ : ST) (hI : IA σ)  : OK (f_X5_setBranchAfter 20 p0 p1 σ) (RS σ) := by
  unfold f_X5_setBranchAfter
  have lt_0 := li_0
  have lt_1 := li_1
  have lFU : ((FU : Nat) : Int) = 100000 := rfl
  refine OK.bndR (k_X5_isType_20 _ _ hI ) (fun v1 h2 => ?_)
  dsimp only
  refine OK.ieq (fun h3 => ?_) (fun h3 => ?_)
  · skip
    exact OK.sret hI Fr.rf
  · skip
    refine OK.grd ⟨by omega, by omega⟩ ?_
    exact OK.sret (ia_I_33 hI) (fr_I_33 Fr.rf)

theorem k_X5_setAsked_20 (p0 : Int32) (p1 : Int64) (p2 : Int32) (σ : ST) (hI : IA σ)  : OK (f_X5_setAsked 20 p0 p1 p2 σ) (RS σ) := by
  unfold f_X5_setAsked
  have lt_0 := li_0
  have lt_1 := li_1
  have lFU : ((FU : Nat) : Int) = 100000 := rfl
  refine OK.bndR (k_X5_isType_20 _ _ hI ) (fun v1 h2 => ?_)
  dsimp only
  refine OK.ieq (fun h3 => ?_) (fun h3 => ?_)
  · skip
    exact OK.sret hI Fr.rf
  · skip
    refine OK.grd ⟨by omega, by omega⟩ ?_
    exact OK.sret (ia_I_35 (ia_L hI)) (fr_I_35 (fr_L Fr.rf))

theorem k_X6_sortBegun (σ : ST) (hI : IA σ)  : OK (f_X6_sortBegun  σ) (RO σ fun v => True) := by
  unfold f_X6_sortBegun
  have lt_m1 := li_m1
  have lt_0 := li_0
  have lt_1 := li_1
  have lt_2 := li_2
  have lt_3 := li_3
  have lt_4 := li_4
  have lt_5 := li_5
  have lt_6 := li_6
  have lt_7 := li_7
  have lt_8 := li_8
  have lt_12 := li_12
  have lFU : ((FU : Nat) : Int) = 100000 := rfl
  refine OK.ieq (fun h1 => ?_) (fun h1 => ?_)
  · skip
    exact OK.roret (by first | trivial | omega | exact hI.flds _ | exact hI.dflds _ | exact hI.recs _ | exact hI.drecs _ | exact hI.droot _ | omega)
  · skip
    refine OK.ieq (fun h2 => ?_) (fun h2 => ?_)
    · skip
      refine OK.ieq (fun h3 => ?_) (fun h3 => ?_)
      · skip
        exact OK.roret (by first | trivial | omega | exact hI.flds _ | exact hI.dflds _ | exact hI.recs _ | exact hI.drecs _ | exact hI.droot _ | omega)
      · skip
        refine OK.ieq (fun h4 => ?_) (fun h4 => ?_)
        · skip
          exact OK.roret (by first | trivial | omega | exact hI.flds _ | exact hI.dflds _ | exact hI.recs _ | exact hI.drecs _ | exact hI.droot _ | omega)
        · skip
          refine OK.ilt (fun h5 => ?_) (fun h5 => ?_)
          · skip
            exact OK.roret (by first | trivial | omega | exact hI.flds _ | exact hI.dflds _ | exact hI.recs _ | exact hI.drecs _ | exact hI.droot _ | omega)
          · skip
            refine OK.ilt (fun h6 => ?_) (fun h6 => ?_)
            · skip
              exact OK.roret (by first | trivial | omega | exact hI.flds _ | exact hI.dflds _ | exact hI.recs _ | exact hI.drecs _ | exact hI.droot _ | omega)
            · skip
              exact OK.roret (by first | trivial | omega | exact hI.flds _ | exact hI.dflds _ | exact hI.recs _ | exact hI.drecs _ | exact hI.droot _ | omega)
    · skip
      exact OK.roret (by first | trivial | omega | exact hI.flds _ | exact hI.dflds _ | exact hI.recs _ | exact hI.drecs _ | exact hI.droot _ | omega)

theorem k_X3_parseBranches_10 {N0 : Nat} {r_X3_parseBranches : Int32 → Int32 → ST → Option (Int32 × ST)} (hr_X3_parseBranches : ∀ (p0 : Int32) (p1 : Int32) (σ : ST), IA σ → 0 ≤ p1.toInt ∧ p1.toInt ≤ 3 ∧ (9 : Int) ≤ (N0 : Nat) + 2 * p1.toInt → OK (r_X3_parseBranches p0 p1 σ) (RW σ fun v => v.toInt = 0 ∨ v.toInt = 1)) {r_X3_parseType : Int32 → Int32 → ST → Option (Int32 × ST)} (hr_X3_parseType : ∀ (p0 : Int32) (p1 : Int32) (σ : ST), IA σ → 0 ≤ p0.toInt ∧ p0.toInt ≤ 4 ∧ (10 : Int) ≤ (N0 : Nat) + 2 * p0.toInt → OK (r_X3_parseType p0 p1 σ) (RW σ fun v => True)) : ∀ (n : Nat) (x1 : Int32) (x2 : Int32) (x3 : Int32) (x4 : Int32) (x5 : Int32) (σ : ST), IA σ → ((0 ≤ x2.toInt ∧ x2.toInt ≤ 3 ∧ (9 : Int) ≤ (N0 + 1 : Nat) + 2 * x2.toInt) ∧ 0 ≤ x5.toInt ∧ x5.toInt ≤ 5 ∧ (5 : Int) - x5.toInt < n) → OK (f_X3_parseBranches_10 r_X3_parseBranches r_X3_parseType  n x1 x2 x3 x4 x5 σ) (RW σ fun v => v.toInt = 0 ∨ v.toInt = 1) := by
  intro n
  induction n with
  | zero =>
    intro x1 x2 x3 x4 x5 σ hI hv
    omega
  | succ n ih =>
    intro x1 x2 x3 x4 x5 σ hI hv
    rw [f_X3_parseBranches_10]
    have lt_m1 := li_m1
    have lt_0 := li_0
    have lt_1 := li_1
    have lt_4 := li_4
    have lFU : ((FU : Nat) : Int) = 100000 := rfl
    have lFR : ((FR : Nat) : Int) = 160 := rfl
    refine OK.ilt (fun h1 => ?_) (fun h1 => ?_)
    · skip
      exact OK.wret hI Fr.rf (by first | trivial | omega | exact hI.flds _ | exact hI.dflds _ | exact hI.recs _ | exact hI.drecs _ | exact hI.droot _ | omega)
    · skip
      obtain ⟨a2k, a2, a2l, a2r⟩ := i_add x2 1
      try (refine k0el (k := a2k) ?_ (fun e0 => ?_); (focus omega); subst e0)
      refine OK.bndW (hr_X3_parseType _ _ _ hI (by omega)) Fr.rf (fun v3 s5 is5 fs5 h4 => ?_)
      dsimp only
      refine OK.ieq (fun h6 => ?_) (fun h6 => ?_)
      · skip
        exact OK.wret is5 fs5 (by first | trivial | omega | exact hI.flds _ | exact hI.dflds _ | exact hI.recs _ | exact hI.drecs _ | exact hI.droot _ | omega)
      · skip
        refine OK.ieq (fun h7 => ?_) (fun h7 => ?_)
        · skip
          refine OK.bndS (k_X5_setInner_20 _ _ _ is5 ) fs5 (fun s8 is8 fs8 => ?_)
          try dsimp only
          unfold f_X3_parseBranches_64
          try dsimp only
          refine OK.bndR (k_X5_sortOf_20 _ _ is8 ) (fun v9 h10 => ?_)
          dsimp only
          refine OK.bndR (k_X6_isKeyword _ _ is8 ) (fun v11 h12 => ?_)
          dsimp only
          refine OK.ieq (fun h13 => ?_) (fun h13 => ?_)
          · skip
            refine OK.ilt (fun h14 => ?_) (fun h14 => ?_)
            · skip
              unfold f_X3_parseBranches_110
              try dsimp only
              exact OK.wret is8 fs8 (by first | trivial | omega | exact hI.flds _ | exact hI.dflds _ | exact hI.recs _ | exact hI.drecs _ | exact hI.droot _ | omega)
            · skip
              refine OK.bndW (k_X6_refuse _ _ is8 ) fs8 (fun v15 s17 is17 fs17 h16 => ?_)
              dsimp only
              refine OK.ieq (fun h18 => ?_) (fun h18 => ?_)
              · skip
                exact OK.wret is17 fs17 (by first | trivial | omega | exact hI.flds _ | exact hI.dflds _ | exact hI.recs _ | exact hI.drecs _ | exact hI.droot _ | omega)
              · skip
                unfold f_X3_parseBranches_110
                try dsimp only
                exact OK.wret is17 fs17 (by first | trivial | omega | exact hI.flds _ | exact hI.dflds _ | exact hI.recs _ | exact hI.drecs _ | exact hI.droot _ | omega)
          · skip
            refine OK.bndS (k_X6_advance _ is8 ) fs8 (fun s19 is19 fs19 => ?_)
            try dsimp only
            obtain ⟨a20k, a20, a20l, a20r⟩ := i_add x5 1
            try (refine k0el (k := a20k) ?_ (fun e0 => ?_); (focus omega); subst e0)
            exact OK.trW (ih _ _ _ _ _ _ is19 (by omega)) fs19 (fun v hv => by first | trivial | omega | exact hI.flds _ | exact hI.dflds _ | exact hI.recs _ | exact hI.drecs _ | exact hI.droot _ | omega)
        · skip
          refine OK.bndS (k_X5_setBranchAfter_20 _ _ _ is5 ) fs5 (fun s21 is21 fs21 => ?_)
          try dsimp only
          unfold f_X3_parseBranches_64
          try dsimp only
          refine OK.bndR (k_X5_sortOf_20 _ _ is21 ) (fun v22 h23 => ?_)
          dsimp only
          refine OK.bndR (k_X6_isKeyword _ _ is21 ) (fun v24 h25 => ?_)
          dsimp only
          refine OK.ieq (fun h26 => ?_) (fun h26 => ?_)
          · skip
            refine OK.ilt (fun h27 => ?_) (fun h27 => ?_)
            · skip
              unfold f_X3_parseBranches_110
              try dsimp only
              exact OK.wret is21 fs21 (by first | trivial | omega | exact hI.flds _ | exact hI.dflds _ | exact hI.recs _ | exact hI.drecs _ | exact hI.droot _ | omega)
            · skip
              refine OK.bndW (k_X6_refuse _ _ is21 ) fs21 (fun v28 s30 is30 fs30 h29 => ?_)
              dsimp only
              refine OK.ieq (fun h31 => ?_) (fun h31 => ?_)
              · skip
                exact OK.wret is30 fs30 (by first | trivial | omega | exact hI.flds _ | exact hI.dflds _ | exact hI.recs _ | exact hI.drecs _ | exact hI.droot _ | omega)
              · skip
                unfold f_X3_parseBranches_110
                try dsimp only
                exact OK.wret is30 fs30 (by first | trivial | omega | exact hI.flds _ | exact hI.dflds _ | exact hI.recs _ | exact hI.drecs _ | exact hI.droot _ | omega)
          · skip
            refine OK.bndS (k_X6_advance _ is21 ) fs21 (fun s32 is32 fs32 => ?_)
            try dsimp only
            obtain ⟨a33k, a33, a33l, a33r⟩ := i_add x5 1
            try (refine k0el (k := a33k) ?_ (fun e0 => ?_); (focus omega); subst e0)
            exact OK.trW (ih _ _ _ _ _ _ is32 (by omega)) fs32 (fun v hv => by first | trivial | omega | exact hI.flds _ | exact hI.dflds _ | exact hI.recs _ | exact hI.drecs _ | exact hI.droot _ | omega)

theorem k_X3_parseBranches {N0 : Nat} {r_X3_parseBranches : Int32 → Int32 → ST → Option (Int32 × ST)} (hr_X3_parseBranches : ∀ (p0 : Int32) (p1 : Int32) (σ : ST), IA σ → 0 ≤ p1.toInt ∧ p1.toInt ≤ 3 ∧ (9 : Int) ≤ (N0 : Nat) + 2 * p1.toInt → OK (r_X3_parseBranches p0 p1 σ) (RW σ fun v => v.toInt = 0 ∨ v.toInt = 1)) {r_X3_parseType : Int32 → Int32 → ST → Option (Int32 × ST)} (hr_X3_parseType : ∀ (p0 : Int32) (p1 : Int32) (σ : ST), IA σ → 0 ≤ p0.toInt ∧ p0.toInt ≤ 4 ∧ (10 : Int) ≤ (N0 : Nat) + 2 * p0.toInt → OK (r_X3_parseType p0 p1 σ) (RW σ fun v => True)) (p0 : Int32) (p1 : Int32) (σ : ST) (hI : IA σ) (hv : 0 ≤ p1.toInt ∧ p1.toInt ≤ 3 ∧ (9 : Int) ≤ (N0 + 1 : Nat) + 2 * p1.toInt)  : OK (f_X3_parseBranches r_X3_parseBranches r_X3_parseType  p0 p1 σ) (RW σ fun v => v.toInt = 0 ∨ v.toInt = 1) := by
  unfold f_X3_parseBranches
  have lt_m1 := li_m1
  have lt_0 := li_0
  have lt_1 := li_1
  have lt_256 := li_256
  have lFU : ((FU : Nat) : Int) = 100000 := rfl
  have lFR : ((FR : Nat) : Int) = 160 := rfl
  exact OK.trW (k_X3_parseBranches_10 hr_X3_parseBranches hr_X3_parseType FU _ _ _ _ _ _ hI (by omega)) Fr.rf (fun v hv => by first | trivial | omega | exact hI.flds _ | exact hI.dflds _ | exact hI.recs _ | exact hI.drecs _ | exact hI.droot _ | omega)

theorem k_X3_parseType {N0 : Nat} {r_X3_parseBranches : Int32 → Int32 → ST → Option (Int32 × ST)} (hr_X3_parseBranches : ∀ (p0 : Int32) (p1 : Int32) (σ : ST), IA σ → 0 ≤ p1.toInt ∧ p1.toInt ≤ 3 ∧ (9 : Int) ≤ (N0 : Nat) + 2 * p1.toInt → OK (r_X3_parseBranches p0 p1 σ) (RW σ fun v => v.toInt = 0 ∨ v.toInt = 1)) {r_X3_parseType : Int32 → Int32 → ST → Option (Int32 × ST)} (hr_X3_parseType : ∀ (p0 : Int32) (p1 : Int32) (σ : ST), IA σ → 0 ≤ p0.toInt ∧ p0.toInt ≤ 4 ∧ (10 : Int) ≤ (N0 : Nat) + 2 * p0.toInt → OK (r_X3_parseType p0 p1 σ) (RW σ fun v => True)) (p0 : Int32) (p1 : Int32) (σ : ST) (hI : IA σ) (hv : 0 ≤ p0.toInt ∧ p0.toInt ≤ 4 ∧ (10 : Int) ≤ (N0 + 1 : Nat) + 2 * p0.toInt)  : OK (f_X3_parseType r_X3_parseBranches r_X3_parseType  p0 p1 σ) (RW σ fun v => True) := by
  unfold f_X3_parseType
  have lt_m1 := li_m1
  have lt_0 := li_0
  have lt_1 := li_1
  have lt_3 := li_3
  have lt_4 := li_4
  have lt_6 := li_6
  have lt_7 := li_7
  have lt_8 := li_8
  have lt_31 := li_31
  have lFU : ((FU : Nat) : Int) = 100000 := rfl
  have lFR : ((FR : Nat) : Int) = 160 := rfl
  refine OK.bndR (k_X6_sortBegun _ hI ) (fun v1 h2 => ?_)
  dsimp only
  refine OK.ieq (fun h3 => ?_) (fun h3 => ?_)
  · skip
    refine OK.bndW (k_X6_refuse _ _ hI ) Fr.rf (fun v4 s6 is6 fs6 h5 => ?_)
    dsimp only
    exact OK.wret is6 fs6 (by first | trivial | omega | exact hI.flds _ | exact hI.dflds _ | exact hI.recs _ | exact hI.drecs _ | exact hI.droot _ | omega)
  · skip
    refine OK.ilt (fun h7 => ?_) (fun h7 => ?_)
    · skip
      unfold f_X3_parseType_37
      try dsimp only
      unfold f_X3_parseType_49
      try dsimp only
      refine OK.ieq (fun h8 => ?_) (fun h8 => ?_)
      · skip
        refine OK.bndW (k_X6_refuse _ _ hI ) Fr.rf (fun v9 s11 is11 fs11 h10 => ?_)
        dsimp only
        exact OK.wret is11 fs11 (by first | trivial | omega | exact hI.flds _ | exact hI.dflds _ | exact hI.recs _ | exact hI.drecs _ | exact hI.droot _ | omega)
      · skip
        refine OK.ieq (fun h12 => ?_) (fun h12 => ?_)
        · skip
          refine OK.ieq (fun h13 => ?_) (fun h13 => ?_)
          · skip
            refine OK.bndS (k_X5_setAsked_20 _ _ _ _ hI ) Fr.rf (fun s14 is14 fs14 => ?_)
            try dsimp only
            unfold f_X3_parseType_116
            try dsimp only
            refine OK.bndS (k_X6_advance _ is14 ) fs14 (fun s15 is15 fs15 => ?_)
            try dsimp only
            refine OK.ieq (fun h16 => ?_) (fun h16 => ?_)
            · skip
              refine OK.bndW (hr_X3_parseBranches _ _ _ is15 (by omega)) fs15 (fun v17 s19 is19 fs19 h18 => ?_)
              dsimp only
              refine OK.ieq (fun h20 => ?_) (fun h20 => ?_)
              · skip
                exact OK.wret is19 fs19 (by first | trivial | omega | exact hI.flds _ | exact hI.dflds _ | exact hI.recs _ | exact hI.drecs _ | exact hI.droot _ | omega)
              · skip
                exact OK.wret is19 fs19 (by first | trivial | omega | exact hI.flds _ | exact hI.dflds _ | exact hI.recs _ | exact hI.drecs _ | exact hI.droot _ | omega)
            · skip
              refine OK.ieq (fun h21 => ?_) (fun h21 => ?_)
              · skip
                obtain ⟨a22k, a22, a22l, a22r⟩ := i_add p0 1
                try (refine k0el (k := a22k) ?_ (fun e0 => ?_); (focus omega); subst e0)
                refine OK.bndW (hr_X3_parseType _ _ _ is15 (by omega)) fs15 (fun v23 s25 is25 fs25 h24 => ?_)
                dsimp only
                refine OK.bndS (k_X5_setInner_20 _ _ _ is25 ) fs25 (fun s26 is26 fs26 => ?_)
                try dsimp only
                refine OK.ieq (fun h27 => ?_) (fun h27 => ?_)
                · skip
                  exact OK.wret is26 fs26 (by first | trivial | omega | exact hI.flds _ | exact hI.dflds _ | exact hI.recs _ | exact hI.drecs _ | exact hI.droot _ | omega)
                · skip
                  exact OK.wret is26 fs26 (by first | trivial | omega | exact hI.flds _ | exact hI.dflds _ | exact hI.recs _ | exact hI.drecs _ | exact hI.droot _ | omega)
              · skip
                exact OK.wret is15 fs15 (by first | trivial | omega | exact hI.flds _ | exact hI.dflds _ | exact hI.recs _ | exact hI.drecs _ | exact hI.droot _ | omega)
          · skip
            unfold f_X3_parseType_116
            try dsimp only
            refine OK.bndS (k_X6_advance _ hI ) Fr.rf (fun s28 is28 fs28 => ?_)
            try dsimp only
            refine OK.ieq (fun h29 => ?_) (fun h29 => ?_)
            · skip
              refine OK.bndW (hr_X3_parseBranches _ _ _ is28 (by omega)) fs28 (fun v30 s32 is32 fs32 h31 => ?_)
              dsimp only
              refine OK.ieq (fun h33 => ?_) (fun h33 => ?_)
              · skip
                exact OK.wret is32 fs32 (by first | trivial | omega | exact hI.flds _ | exact hI.dflds _ | exact hI.recs _ | exact hI.drecs _ | exact hI.droot _ | omega)
              · skip
                exact OK.wret is32 fs32 (by first | trivial | omega | exact hI.flds _ | exact hI.dflds _ | exact hI.recs _ | exact hI.drecs _ | exact hI.droot _ | omega)
            · skip
              refine OK.ieq (fun h34 => ?_) (fun h34 => ?_)
              · skip
                obtain ⟨a35k, a35, a35l, a35r⟩ := i_add p0 1
                try (refine k0el (k := a35k) ?_ (fun e0 => ?_); (focus omega); subst e0)
                refine OK.bndW (hr_X3_parseType _ _ _ is28 (by omega)) fs28 (fun v36 s38 is38 fs38 h37 => ?_)
                dsimp only
                refine OK.bndS (k_X5_setInner_20 _ _ _ is38 ) fs38 (fun s39 is39 fs39 => ?_)
                try dsimp only
                refine OK.ieq (fun h40 => ?_) (fun h40 => ?_)
                · skip
                  exact OK.wret is39 fs39 (by first | trivial | omega | exact hI.flds _ | exact hI.dflds _ | exact hI.recs _ | exact hI.drecs _ | exact hI.droot _ | omega)
                · skip
                  exact OK.wret is39 fs39 (by first | trivial | omega | exact hI.flds _ | exact hI.dflds _ | exact hI.recs _ | exact hI.drecs _ | exact hI.droot _ | omega)
              · skip
                exact OK.wret is28 fs28 (by first | trivial | omega | exact hI.flds _ | exact hI.dflds _ | exact hI.recs _ | exact hI.drecs _ | exact hI.droot _ | omega)
        · skip
          refine OK.bndW (k_X6_refuse _ _ hI ) Fr.rf (fun v41 s43 is43 fs43 h42 => ?_)
          dsimp only
          exact OK.wret is43 fs43 (by first | trivial | omega | exact hI.flds _ | exact hI.dflds _ | exact hI.recs _ | exact hI.drecs _ | exact hI.droot _ | omega)
    · skip
      refine OK.bndR (k_J6_bitCount_0f7a4 _ _ hI ) (fun v44 h45 => ?_)
      dsimp only
      refine OK.ile (fun h46 => ?_) (fun h46 => ?_)
      · skip
        refine OK.bndW (k_X5_addType_20 _ _ hI ) Fr.rf (fun v47 s49 is49 fs49 h48 => ?_)
        dsimp only
        unfold f_X3_parseType_49
        try dsimp only
        refine OK.ieq (fun h50 => ?_) (fun h50 => ?_)
        · skip
          refine OK.bndW (k_X6_refuse _ _ is49 ) fs49 (fun v51 s53 is53 fs53 h52 => ?_)
          dsimp only
          exact OK.wret is53 fs53 (by first | trivial | omega | exact hI.flds _ | exact hI.dflds _ | exact hI.recs _ | exact hI.drecs _ | exact hI.droot _ | omega)
        · skip
          refine OK.ieq (fun h54 => ?_) (fun h54 => ?_)
          · skip
            refine OK.ieq (fun h55 => ?_) (fun h55 => ?_)
            · skip
              refine OK.bndS (k_X5_setAsked_20 _ _ _ _ is49 ) fs49 (fun s56 is56 fs56 => ?_)
              try dsimp only
              unfold f_X3_parseType_116
              try dsimp only
              refine OK.bndS (k_X6_advance _ is56 ) fs56 (fun s57 is57 fs57 => ?_)
              try dsimp only
              refine OK.ieq (fun h58 => ?_) (fun h58 => ?_)
              · skip
                refine OK.bndW (hr_X3_parseBranches _ _ _ is57 (by omega)) fs57 (fun v59 s61 is61 fs61 h60 => ?_)
                dsimp only
                refine OK.ieq (fun h62 => ?_) (fun h62 => ?_)
                · skip
                  exact OK.wret is61 fs61 (by first | trivial | omega | exact hI.flds _ | exact hI.dflds _ | exact hI.recs _ | exact hI.drecs _ | exact hI.droot _ | omega)
                · skip
                  exact OK.wret is61 fs61 (by first | trivial | omega | exact hI.flds _ | exact hI.dflds _ | exact hI.recs _ | exact hI.drecs _ | exact hI.droot _ | omega)
              · skip
                refine OK.ieq (fun h63 => ?_) (fun h63 => ?_)
                · skip
                  obtain ⟨a64k, a64, a64l, a64r⟩ := i_add p0 1
                  try (refine k0el (k := a64k) ?_ (fun e0 => ?_); (focus omega); subst e0)
                  refine OK.bndW (hr_X3_parseType _ _ _ is57 (by omega)) fs57 (fun v65 s67 is67 fs67 h66 => ?_)
                  dsimp only
                  refine OK.bndS (k_X5_setInner_20 _ _ _ is67 ) fs67 (fun s68 is68 fs68 => ?_)
                  try dsimp only
                  refine OK.ieq (fun h69 => ?_) (fun h69 => ?_)
                  · skip
                    exact OK.wret is68 fs68 (by first | trivial | omega | exact hI.flds _ | exact hI.dflds _ | exact hI.recs _ | exact hI.drecs _ | exact hI.droot _ | omega)
                  · skip
                    exact OK.wret is68 fs68 (by first | trivial | omega | exact hI.flds _ | exact hI.dflds _ | exact hI.recs _ | exact hI.drecs _ | exact hI.droot _ | omega)
                · skip
                  exact OK.wret is57 fs57 (by first | trivial | omega | exact hI.flds _ | exact hI.dflds _ | exact hI.recs _ | exact hI.drecs _ | exact hI.droot _ | omega)
            · skip
              unfold f_X3_parseType_116
              try dsimp only
              refine OK.bndS (k_X6_advance _ is49 ) fs49 (fun s70 is70 fs70 => ?_)
              try dsimp only
              refine OK.ieq (fun h71 => ?_) (fun h71 => ?_)
              · skip
                refine OK.bndW (hr_X3_parseBranches _ _ _ is70 (by omega)) fs70 (fun v72 s74 is74 fs74 h73 => ?_)
                dsimp only
                refine OK.ieq (fun h75 => ?_) (fun h75 => ?_)
                · skip
                  exact OK.wret is74 fs74 (by first | trivial | omega | exact hI.flds _ | exact hI.dflds _ | exact hI.recs _ | exact hI.drecs _ | exact hI.droot _ | omega)
                · skip
                  exact OK.wret is74 fs74 (by first | trivial | omega | exact hI.flds _ | exact hI.dflds _ | exact hI.recs _ | exact hI.drecs _ | exact hI.droot _ | omega)
              · skip
                refine OK.ieq (fun h76 => ?_) (fun h76 => ?_)
                · skip
                  obtain ⟨a77k, a77, a77l, a77r⟩ := i_add p0 1
                  try (refine k0el (k := a77k) ?_ (fun e0 => ?_); (focus omega); subst e0)
                  refine OK.bndW (hr_X3_parseType _ _ _ is70 (by omega)) fs70 (fun v78 s80 is80 fs80 h79 => ?_)
                  dsimp only
                  refine OK.bndS (k_X5_setInner_20 _ _ _ is80 ) fs80 (fun s81 is81 fs81 => ?_)
                  try dsimp only
                  refine OK.ieq (fun h82 => ?_) (fun h82 => ?_)
                  · skip
                    exact OK.wret is81 fs81 (by first | trivial | omega | exact hI.flds _ | exact hI.dflds _ | exact hI.recs _ | exact hI.drecs _ | exact hI.droot _ | omega)
                  · skip
                    exact OK.wret is81 fs81 (by first | trivial | omega | exact hI.flds _ | exact hI.dflds _ | exact hI.recs _ | exact hI.drecs _ | exact hI.droot _ | omega)
                · skip
                  exact OK.wret is70 fs70 (by first | trivial | omega | exact hI.flds _ | exact hI.dflds _ | exact hI.recs _ | exact hI.drecs _ | exact hI.droot _ | omega)
          · skip
            refine OK.bndW (k_X6_refuse _ _ is49 ) fs49 (fun v83 s85 is85 fs85 h84 => ?_)
            dsimp only
            exact OK.wret is85 fs85 (by first | trivial | omega | exact hI.flds _ | exact hI.dflds _ | exact hI.recs _ | exact hI.drecs _ | exact hI.droot _ | omega)
      · skip
        unfold f_X3_parseType_37
        try dsimp only
        unfold f_X3_parseType_49
        try dsimp only
        refine OK.ieq (fun h86 => ?_) (fun h86 => ?_)
        · skip
          refine OK.bndW (k_X6_refuse _ _ hI ) Fr.rf (fun v87 s89 is89 fs89 h88 => ?_)
          dsimp only
          exact OK.wret is89 fs89 (by first | trivial | omega | exact hI.flds _ | exact hI.dflds _ | exact hI.recs _ | exact hI.drecs _ | exact hI.droot _ | omega)
        · skip
          refine OK.ieq (fun h90 => ?_) (fun h90 => ?_)
          · skip
            refine OK.ieq (fun h91 => ?_) (fun h91 => ?_)
            · skip
              refine OK.bndS (k_X5_setAsked_20 _ _ _ _ hI ) Fr.rf (fun s92 is92 fs92 => ?_)
              try dsimp only
              unfold f_X3_parseType_116
              try dsimp only
              refine OK.bndS (k_X6_advance _ is92 ) fs92 (fun s93 is93 fs93 => ?_)
              try dsimp only
              refine OK.ieq (fun h94 => ?_) (fun h94 => ?_)
              · skip
                refine OK.bndW (hr_X3_parseBranches _ _ _ is93 (by omega)) fs93 (fun v95 s97 is97 fs97 h96 => ?_)
                dsimp only
                refine OK.ieq (fun h98 => ?_) (fun h98 => ?_)
                · skip
                  exact OK.wret is97 fs97 (by first | trivial | omega | exact hI.flds _ | exact hI.dflds _ | exact hI.recs _ | exact hI.drecs _ | exact hI.droot _ | omega)
                · skip
                  exact OK.wret is97 fs97 (by first | trivial | omega | exact hI.flds _ | exact hI.dflds _ | exact hI.recs _ | exact hI.drecs _ | exact hI.droot _ | omega)
              · skip
                refine OK.ieq (fun h99 => ?_) (fun h99 => ?_)
                · skip
                  obtain ⟨a100k, a100, a100l, a100r⟩ := i_add p0 1
                  try (refine k0el (k := a100k) ?_ (fun e0 => ?_); (focus omega); subst e0)
                  refine OK.bndW (hr_X3_parseType _ _ _ is93 (by omega)) fs93 (fun v101 s103 is103 fs103 h102 => ?_)
                  dsimp only
                  refine OK.bndS (k_X5_setInner_20 _ _ _ is103 ) fs103 (fun s104 is104 fs104 => ?_)
                  try dsimp only
                  refine OK.ieq (fun h105 => ?_) (fun h105 => ?_)
                  · skip
                    exact OK.wret is104 fs104 (by first | trivial | omega | exact hI.flds _ | exact hI.dflds _ | exact hI.recs _ | exact hI.drecs _ | exact hI.droot _ | omega)
                  · skip
                    exact OK.wret is104 fs104 (by first | trivial | omega | exact hI.flds _ | exact hI.dflds _ | exact hI.recs _ | exact hI.drecs _ | exact hI.droot _ | omega)
                · skip
                  exact OK.wret is93 fs93 (by first | trivial | omega | exact hI.flds _ | exact hI.dflds _ | exact hI.recs _ | exact hI.drecs _ | exact hI.droot _ | omega)
            · skip
              unfold f_X3_parseType_116
              try dsimp only
              refine OK.bndS (k_X6_advance _ hI ) Fr.rf (fun s106 is106 fs106 => ?_)
              try dsimp only
              refine OK.ieq (fun h107 => ?_) (fun h107 => ?_)
              · skip
                refine OK.bndW (hr_X3_parseBranches _ _ _ is106 (by omega)) fs106 (fun v108 s110 is110 fs110 h109 => ?_)
                dsimp only
                refine OK.ieq (fun h111 => ?_) (fun h111 => ?_)
                · skip
                  exact OK.wret is110 fs110 (by first | trivial | omega | exact hI.flds _ | exact hI.dflds _ | exact hI.recs _ | exact hI.drecs _ | exact hI.droot _ | omega)
                · skip
                  exact OK.wret is110 fs110 (by first | trivial | omega | exact hI.flds _ | exact hI.dflds _ | exact hI.recs _ | exact hI.drecs _ | exact hI.droot _ | omega)
              · skip
                refine OK.ieq (fun h112 => ?_) (fun h112 => ?_)
                · skip
                  obtain ⟨a113k, a113, a113l, a113r⟩ := i_add p0 1
                  try (refine k0el (k := a113k) ?_ (fun e0 => ?_); (focus omega); subst e0)
                  refine OK.bndW (hr_X3_parseType _ _ _ is106 (by omega)) fs106 (fun v114 s116 is116 fs116 h115 => ?_)
                  dsimp only
                  refine OK.bndS (k_X5_setInner_20 _ _ _ is116 ) fs116 (fun s117 is117 fs117 => ?_)
                  try dsimp only
                  refine OK.ieq (fun h118 => ?_) (fun h118 => ?_)
                  · skip
                    exact OK.wret is117 fs117 (by first | trivial | omega | exact hI.flds _ | exact hI.dflds _ | exact hI.recs _ | exact hI.drecs _ | exact hI.droot _ | omega)
                  · skip
                    exact OK.wret is117 fs117 (by first | trivial | omega | exact hI.flds _ | exact hI.dflds _ | exact hI.recs _ | exact hI.drecs _ | exact hI.droot _ | omega)
                · skip
                  exact OK.wret is106 fs106 (by first | trivial | omega | exact hI.flds _ | exact hI.dflds _ | exact hI.recs _ | exact hI.drecs _ | exact hI.droot _ | omega)
          · skip
            refine OK.bndW (k_X6_refuse _ _ hI ) Fr.rf (fun v119 s121 is121 fs121 h120 => ?_)
            dsimp only
            exact OK.wret is121 fs121 (by first | trivial | omega | exact hI.flds _ | exact hI.dflds _ | exact hI.recs _ | exact hI.drecs _ | exact hI.droot _ | omega)
