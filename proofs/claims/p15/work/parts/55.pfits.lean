/-! a literal fits a sort: both say the same -/
theorem a_isInt (p0 : Int64) (σ : ST) : OK (f_X10_isInt p0 σ) (RO σ fun v => v.toInt = 0 ∧ ¬ (-2147483648 ≤ p0.toInt ∧ p0.toInt ≤ 2147483647) ∨ v.toInt = 1 ∧ -2147483648 ≤ p0.toInt ∧ p0.toInt ≤ 2147483647) := by
  unfold f_X10_isInt
  have lt_0 := li_0
  have lt_1 := li_1
  have a1 : (-2147483648 : Int64).toInt = -2147483648 := by decide
  have a2 : (2147483647 : Int64).toInt = 2147483647 := by decide
  refine OK.ite (fun h => ?_) (fun h => OK.ite (fun k => ?_) (fun k => ?_))
  · have := Int64.lt_iff_toInt_lt.mp ((lg_cmp_lt _ _).mp h)
    exact OK.roret (by omega)
  · have := Int64.lt_iff_toInt_lt.mp ((lg_cmp_gt _ _).mp k)
    exact OK.roret (by omega)
  · rw [lg_cmp_lt, Int64.lt_iff_toInt_lt] at h
    rw [lg_cmp_gt, Int64.lt_iff_toInt_lt] at k
    exact OK.roret (by omega)
theorem ft_0 {τ : ST} : FT_ τ 0 ↔ (W_ τ v_none) := by
  unfold FT_
  constructor
  · intro h
    rcases h with h | h | h | h | h | h | h | h
    · exact h.2
    · exact absurd h.1 (by decide)
    · exact absurd h.1 (by decide)
    · exact absurd h.1 (by decide)
    · exact absurd h.1 (by decide)
    · exact absurd h.1 (by decide)
    · exact absurd h.1 (by decide)
    · exact absurd h.1 (by decide)
  · intro h
    exact .inl ⟨rfl, h⟩
theorem ft_1 {τ : ST} : FT_ τ 1 ↔ (W_ τ v_yes ∨ W_ τ v_no) := by
  unfold FT_
  constructor
  · intro h
    rcases h with h | h | h | h | h | h | h | h
    · exact absurd h.1 (by decide)
    · exact h.2
    · exact absurd h.1 (by decide)
    · exact absurd h.1 (by decide)
    · exact absurd h.1 (by decide)
    · exact absurd h.1 (by decide)
    · exact absurd h.1 (by decide)
    · exact absurd h.1 (by decide)
  · intro h
    exact .inr (.inl ⟨rfl, h⟩)
theorem ft_2 {τ : ST} : FT_ τ 2 ↔ ((τ.1 0 6).toInt = 2 ∧ (τ.1 0 10).toInt = 0 ∧ -2147483648 ≤ (τ.2.1 0 9).toInt ∧ (τ.2.1 0 9).toInt ≤ 2147483647) := by
  unfold FT_
  constructor
  · intro h
    rcases h with h | h | h | h | h | h | h | h
    · exact absurd h.1 (by decide)
    · exact absurd h.1 (by decide)
    · exact h.2
    · exact absurd h.1 (by decide)
    · exact absurd h.1 (by decide)
    · exact absurd h.1 (by decide)
    · exact absurd h.1 (by decide)
    · exact absurd h.1 (by decide)
  · intro h
    exact .inr (.inr (.inl ⟨rfl, h⟩))
theorem ft_3 {τ : ST} : FT_ τ 3 ↔ ((τ.1 0 6).toInt = 2 ∧ (τ.1 0 10).toInt = 0) := by
  unfold FT_
  constructor
  · intro h
    rcases h with h | h | h | h | h | h | h | h
    · exact absurd h.1 (by decide)
    · exact absurd h.1 (by decide)
    · exact absurd h.1 (by decide)
    · exact h.2
    · exact absurd h.1 (by decide)
    · exact absurd h.1 (by decide)
    · exact absurd h.1 (by decide)
    · exact absurd h.1 (by decide)
  · intro h
    exact .inr (.inr (.inr (.inl ⟨rfl, h⟩)))
theorem ft_4 {τ : ST} : FT_ τ 4 ↔ ((τ.1 0 6).toInt = 2) := by
  unfold FT_
  constructor
  · intro h
    rcases h with h | h | h | h | h | h | h | h
    · exact absurd h.1 (by decide)
    · exact absurd h.1 (by decide)
    · exact absurd h.1 (by decide)
    · exact absurd h.1 (by decide)
    · exact h.2
    · exact absurd h.1 (by decide)
    · exact absurd h.1 (by decide)
    · exact absurd h.1 (by decide)
  · intro h
    exact .inr (.inr (.inr (.inr (.inl ⟨rfl, h⟩))))
theorem ft_5 {τ : ST} : FT_ τ 5 ↔ ((τ.1 0 6).toInt = 3) := by
  unfold FT_
  constructor
  · intro h
    rcases h with h | h | h | h | h | h | h | h
    · exact absurd h.1 (by decide)
    · exact absurd h.1 (by decide)
    · exact absurd h.1 (by decide)
    · exact absurd h.1 (by decide)
    · exact absurd h.1 (by decide)
    · exact h.2
    · exact absurd h.1 (by decide)
    · exact absurd h.1 (by decide)
  · intro h
    exact .inr (.inr (.inr (.inr (.inr (.inl ⟨rfl, h⟩)))))
theorem ft_6 {τ : ST} : FT_ τ 6 ↔ ((τ.1 0 13).toInt = 91) := by
  unfold FT_
  constructor
  · intro h
    rcases h with h | h | h | h | h | h | h | h
    · exact absurd h.1 (by decide)
    · exact absurd h.1 (by decide)
    · exact absurd h.1 (by decide)
    · exact absurd h.1 (by decide)
    · exact absurd h.1 (by decide)
    · exact absurd h.1 (by decide)
    · exact h.2
    · exact absurd h.1 (by decide)
  · intro h
    exact .inr (.inr (.inr (.inr (.inr (.inr (.inl ⟨rfl, h⟩))))))
theorem ft_7 {τ : ST} : FT_ τ 7 ↔ ((τ.1 0 13).toInt = 123) := by
  unfold FT_
  constructor
  · intro h
    rcases h with h | h | h | h | h | h | h | h
    · exact absurd h.1 (by decide)
    · exact absurd h.1 (by decide)
    · exact absurd h.1 (by decide)
    · exact absurd h.1 (by decide)
    · exact absurd h.1 (by decide)
    · exact absurd h.1 (by decide)
    · exact absurd h.1 (by decide)
    · exact h.2
  · intro h
    exact .inr (.inr (.inr (.inr (.inr (.inr (.inr (⟨rfl, h⟩)))))))
theorem ft_8 {τ : ST} {s : Int} (hs : ¬ (0 ≤ s ∧ s ≤ 7)) : ¬ FT_ τ s := by
  unfold FT_
  intro h
  rcases h with h | h | h | h | h | h | h | h
  · exact absurd h.1 (by omega)
  · exact absurd h.1 (by omega)
  · exact absurd h.1 (by omega)
  · exact absurd h.1 (by omega)
  · exact absurd h.1 (by omega)
  · exact absurd h.1 (by omega)
  · exact absurd h.1 (by omega)
  · exact absurd h.1 (by omega)
theorem a_fits (p0 : Int32) (σ τ : ST) (h : TK σ τ) (h1 : ¬ (σ.1 2 4).toInt = 1) : OK (f_X6_fits p0 σ) (RO σ fun v => v.toInt = 0 ∧ ¬ FT_ τ p0.toInt ∨ v.toInt = 1 ∧ FT_ τ p0.toInt) := by
  unfold f_X6_fits f_X6_fits_73
  have l0 := li_0
  have l1 := li_1
  have l2 := li_2
  have l3 := li_3
  have l4 := li_4
  have l5 := li_5
  have l6 := li_6
  have l7 := li_7
  have l13 : (13 : Int32).toInt = 13 := by decide
  have l14 : (14 : Int32).toInt = 14 := by decide
  have l91 : (91 : Int32).toInt = 91 := by decide
  have l123 : (123 : Int32).toInt = 123 := by decide
  obtain ⟨w1, w2, w3, _⟩ := h.bw h1
  have s91 := h.sg (c := 91) (by omega)
  have s123 := h.sg (c := 123) (by omega)
  refine OK.ieq (fun e => ?_) (fun e0 => ?_)
  · rw [e, l0, ft_0]
    refine OK.bndR (a_isKeyword 7 σ τ h (k := 7) (by omega) l7) (fun v hv => ?_)
    dsimp only
    exact OK.grd (b01 (hv.elim (fun h => .inl h.1) (fun h => .inr h.1))) (OK.roret hv)
  refine OK.ieq (fun e => ?_) (fun e1 => ?_)
  · rw [e, l1, ft_1]
    refine OK.bndR (a_isKeyword 13 σ τ h (k := 13) (by omega) l13) (fun v hv => ?_)
    dsimp only
    refine OK.ieq (fun hv0 => ?_) (fun hv1 => ?_)
    · have n13 : ¬ W_ τ v_yes := by
        rcases hv with hv | hv
        · exact hv.2
        · have := hv.1; clear hv; omega
      refine OK.bndR (a_isKeyword 14 σ τ h (k := 14) (by omega) l14) (fun v2 hv2 => ?_)
      dsimp only
      refine OK.ieq (fun hv0' => OK.roret (.inl ⟨l0, ?_⟩)) (fun hv1 => OK.roret (.inr ⟨l1, .inr ?_⟩))
      · rcases hv2 with hv2 | hv2
        · exact fun h9 => h9.elim n13 hv2.2
        · have := hv2.1; clear hv hv2; omega
      · rcases hv2 with hv2 | hv2
        · exact absurd hv2.1 hv1
        · exact hv2.2
    · refine OK.roret (.inr ⟨l1, .inl ?_⟩)
      rcases hv with hv | hv
      · exact absurd hv.1 hv1
      · exact hv.2
  refine OK.ieq (fun e => ?_) (fun e2 => ?_)
  · rw [e, l2, ft_2]
    refine OK.ieq (fun k4 => ?_) (fun k4 => OK.roret (.inl ⟨l0, fun h9 => by have := w1.mp h9.1; omega⟩))
    obtain ⟨x10, x9⟩ := w3 (by omega)
    have x10' : (σ.1 2 10).toInt = (τ.1 0 10).toInt := by rw [x10]
    refine OK.ieq (fun k10 => ?_) (fun k10 => OK.roret (.inl ⟨l0, fun h9 => by have := h9.2.1; omega⟩))
    unfold f_X6_whole
    have fin : ∀ y : Int64, y = τ.2.1 0 9 → OK ((f_X10_isInt y σ).bind fun q17 => if q17.1 = 0 then some ((0 : Int32), q17.2) else some ((1 : Int32), q17.2)) (RO σ fun v => v.toInt = 0 ∧ ¬ ((τ.1 0 6).toInt = 2 ∧ (τ.1 0 10).toInt = 0 ∧ -2147483648 ≤ (τ.2.1 0 9).toInt ∧ (τ.2.1 0 9).toInt ≤ 2147483647) ∨ v.toInt = 1 ∧ ((τ.1 0 6).toInt = 2 ∧ (τ.1 0 10).toInt = 0 ∧ -2147483648 ≤ (τ.2.1 0 9).toInt ∧ (τ.2.1 0 9).toInt ≤ 2147483647)) := fun y hy => by
      subst hy
      refine OK.bndR (a_isInt _ σ) (fun v hv => ?_)
      dsimp only
      have t2 := w1.mpr (by omega)
      exact OK.ieq (fun h9 => OK.roret (.inl ⟨l0, by omega⟩)) (fun h9 => OK.roret (.inr ⟨l1, by omega⟩))
    by_cases hneg : σ.1 2 9 = 0
    · rw [if_pos hneg]
      have hneg' : (σ.1 2 9).toInt = 0 := by rw [hneg]; exact l0
      refine fin _ ?_
      rcases x9 with x9 | x9
      · have := x9.1; omega
      · exact x9.2.symm
    · rw [if_neg hneg]
      refine fin _ ?_
      rcases x9 with x9 | x9
      · exact x9.2.symm
      · exact absurd (Int32.toInt_inj.mp (by rw [x9.1, l0])) hneg
  refine OK.ieq (fun e => ?_) (fun e3 => ?_)
  · rw [e, l3, ft_3]
    refine OK.ieq (fun k4 => ?_) (fun k4 => OK.roret (.inl ⟨l0, fun h9 => by have := w1.mp h9.1; omega⟩))
    obtain ⟨x10, _⟩ := w3 (by omega)
    have x10' : (σ.1 2 10).toInt = (τ.1 0 10).toInt := by rw [x10]
    exact OK.ieq (fun k10 => OK.roret (.inr ⟨l1, w1.mpr (by omega), by omega⟩)) (fun k10 => OK.roret (.inl ⟨l0, fun h9 => by have := h9.2; omega⟩))
  refine OK.ieq (fun e => ?_) (fun e4 => ?_)
  · rw [e, l4, ft_4]
    exact OK.ieq (fun k4 => OK.roret (.inr ⟨l1, w1.mpr (by omega)⟩)) (fun k4 => OK.roret (.inl ⟨l0, fun h9 => by have := w1.mp h9; omega⟩))
  refine OK.ieq (fun e => ?_) (fun e5 => ?_)
  · rw [e, l5, ft_5]
    exact OK.ieq (fun k4 => OK.roret (.inr ⟨l1, w2.mpr (by omega)⟩)) (fun k4 => OK.roret (.inl ⟨l0, fun h9 => by have := w2.mp h9; omega⟩))
  refine OK.ieq (fun e => ?_) (fun e6 => ?_)
  · rw [e, l6, ft_6]
    exact OK.ieq (fun k4 => OK.roret (.inr ⟨l1, s91.mpr (by omega)⟩)) (fun k4 => OK.roret (.inl ⟨l0, fun h9 => by have := s91.mp h9; omega⟩))
  refine OK.ieq (fun e => ?_) (fun e7 => ?_)
  · rw [e, l7, ft_7]
    exact OK.ieq (fun k4 => OK.roret (.inr ⟨l1, s123.mpr (by omega)⟩)) (fun k4 => OK.roret (.inl ⟨l0, fun h9 => by have := s123.mp h9; omega⟩))
  exact OK.roret (.inl ⟨l0, ft_8 (by omega)⟩)
