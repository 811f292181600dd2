/-! what a reading leaves alone (wip/st5/frames9.py) -/
/-- a reading and its tree: the latest one's, the trial's -/
def BT (B0 T0 : Nat) : Prop := B0 = 89 ∧ T0 = 50 ∨ B0 = 92 ∧ (T0 = 62 ∨ T0 = 74)
/-- the class's: all but where it reads, its path, its sources and its tree; a failure stays one -/
def KRA (B0 T0 : Nat) (s σ : ST) : Prop := BT B0 T0 ∧ (∀ c, (c < B0 ∨ B0 + 2 < c) → (c < T0 ∨ T0 + 11 < c) → σ.1 c = s.1 c) ∧ ((∀ i, i ≠ 5 → i ≠ 7 → i ≠ 8 → i ≠ 10 → σ.1 B0 i = s.1 B0 i) ∧ ∀ i, i ≠ 1 → σ.1 T0 i = s.1 T0 i) ∧ (∀ c, c ≠ T0 + 6 → σ.2.1 c = s.2.1 c) ∧ σ.2.2 = s.2.2 ∧ (¬ s.1 B0 7 = 0 → ¬ σ.1 B0 7 = 0)
theorem KRA.rf {B0 T0 : Nat} {s : ST} (h : BT B0 T0) : KRA B0 T0 s s := ⟨h, fun _ _ _ => rfl, ⟨fun _ _ _ _ _ => rfl, fun _ _ => rfl⟩, fun _ _ => rfl, rfl, fun h => h⟩
theorem KRA.trans {B0 T0 : Nat} {s σ u : ST} (h : KRA B0 T0 s σ) (k : KRA B0 T0 σ u) : KRA B0 T0 s u := ⟨h.1, fun c a d => (k.2.1 c a d).trans (h.2.1 c a d), ⟨fun i a b c d => (k.2.2.1.1 i a b c d).trans (h.2.2.1.1 i a b c d), fun i a => (k.2.2.1.2 i a).trans (h.2.2.1.2 i a)⟩, fun c a => (k.2.2.2.1 c a).trans (h.2.2.2.1 c a), k.2.2.2.2.1.trans h.2.2.2.2.1, fun n => k.2.2.2.2.2 (h.2.2.2.2.2 n)⟩
theorem KRA.i {B0 T0 : Nat} {s σ : ST} {c i : Nat} {v : Int32} (hc : c = B0 ∧ (i = 5 ∨ i = 8 ∨ i = 10) ∨ B0 + 1 ≤ c ∧ c ≤ B0 + 2 ∨ c = T0 ∧ i = 1 ∨ T0 + 1 ≤ c ∧ c ≤ T0 + 11) (h : KRA B0 T0 s σ) : KRA B0 T0 s (stI σ c i v) := by
  obtain ⟨hb, h1, ⟨h2, h3⟩, h4, h5, h6⟩ := h
  have hb' := hb
  unfold BT at hb'
  refine ⟨hb, fun d a e => ?_, ⟨fun j j1 j2 j3 j4 => ?_, fun j j1 => ?_⟩, h4, h5, fun hn => ?_⟩
  · rw [stI_ne (by omega)]
    exact h1 d a e
  · by_cases e : c = B0
    · subst e
      rw [stI_at, upN (by omega)]
      exact h2 j j1 j2 j3 j4
    · rw [stI_ne (fun h => e h.symm)]
      exact h2 j j1 j2 j3 j4
  · by_cases e : c = T0
    · subst e
      rw [stI_at, upN (by omega)]
      exact h3 j j1
    · rw [stI_ne (fun h => e h.symm)]
      exact h3 j j1
  · by_cases e : c = B0
    · subst e
      rw [stI_at, upN (by omega)]
      exact h6 hn
    · rw [stI_ne (fun h => e h.symm)]
      exact h6 hn
theorem KRA.l {B0 T0 : Nat} {s σ : ST} {c i : Nat} {v : Int64} (hc : c = T0 + 6) (h : KRA B0 T0 s σ) : KRA B0 T0 s (stL σ c i v) := by
  refine ⟨h.1, h.2.1, h.2.2.1, fun d h1 => ?_, h.2.2.2.2⟩
  rw [stL_ne (by omega)]
  exact h.2.2.2.1 d h1
theorem KRA.f7 {B0 T0 : Nat} {s σ : ST} {v : Int32} (hz : σ.1 B0 7 = 0) (h : KRA B0 T0 s σ) : KRA B0 T0 s (stI σ B0 7 v) := by
  obtain ⟨hb, h1, ⟨h2, h3⟩, h4, h5, h6⟩ := h
  have hb' := hb
  unfold BT at hb'
  refine ⟨hb, fun d a e => ?_, ⟨fun j j1 j2 j3 j4 => ?_, fun j j1 => ?_⟩, h4, h5, fun hn => absurd hz (h6 hn)⟩
  · rw [stI_ne (by omega)]
    exact h1 d a e
  · rw [stI_at, upN j2]
    exact h2 j j1 j2 j3 j4
  · rw [stI_ne (by omega)]
    exact h3 j j1
theorem wr_X4_fail {B0 T0 : Nat} {s : ST} {b : Nat} {t : Nat} {p0 : Int32} {p1 : Int32} {σ : ST} (h_b : B0 = b) (h : KRA B0 T0 s σ) : PF st0 (KRA B0 T0 s) (f_X4_fail b t p0 p1 σ) := by
  subst h_b
  have k : σ.1 B0 7 = 0 → KRA B0 T0 s (stI (stI σ B0 7 p0) B0 8 p1) := fun hz => KRA.i (.inl ⟨rfl, .inr (.inl rfl)⟩) (h.f7 hz)
  unfold f_X4_fail f_X4_fail_29
  exact PF.ite (fun hz => PF.ite (fun _ => PF.ret0 (KRA.i (.inl ⟨rfl, .inr (.inr rfl)⟩) (k hz))) (fun _ => PF.ite (fun _ => PF.ret0 (KRA.i (.inl ⟨rfl, .inr (.inr rfl)⟩) (k hz))) (fun _ => PF.ret0 (k hz)))) (fun _ => PF.ret0 h)
theorem wr_X5_isType {B0 T0 : Nat} {s : ST} {b : Nat} {p0 : Int32} {σ : ST}   (h : KRA B0 T0 s σ) : PF st1 (KRA B0 T0 s) (f_X5_isType b p0 σ) := by
  unfold f_X5_isType
  exact (PF.ite (fun _ => (PF.ret1 h)) (fun _ => (PF.ite (fun _ => (PF.ret1 h)) (fun _ => (PF.ite (fun _ => (PF.ret1 h)) (fun _ => (PF.ret1 h)))))))
theorem wr_X5_sortOf {B0 T0 : Nat} {s : ST} {b : Nat} {p0 : Int32} {σ : ST}   (h : KRA B0 T0 s σ) : PF st1 (KRA B0 T0 s) (f_X5_sortOf b p0 σ) := by
  unfold f_X5_sortOf
  exact (PF.bnd (wr_X5_isType  h) (fun q1 hq1 => (PF.ite (fun _ => (PF.ret1 hq1)) (fun _ => (PF.ite (fun _ => (PF.ret1 hq1)) (fun _ => PF.none))))))
theorem wr_X5_innerOf {B0 T0 : Nat} {s : ST} {b : Nat} {p0 : Int32} {σ : ST}   (h : KRA B0 T0 s σ) : PF st1 (KRA B0 T0 s) (f_X5_innerOf b p0 σ) := by
  unfold f_X5_innerOf
  exact (PF.bnd (wr_X5_isType  h) (fun q1 hq1 => (PF.ite (fun _ => (PF.ret1 hq1)) (fun _ => (PF.ite (fun _ => (PF.ret1 hq1)) (fun _ => PF.none))))))
theorem wr_X5_isRecord {B0 T0 : Nat} {s : ST} {p0 : Int32} {σ : ST}   (h : KRA B0 T0 s σ) : PF st1 (KRA B0 T0 s) (f_X5_isRecord p0 σ) := by
  unfold f_X5_isRecord
  exact (PF.ite (fun _ => (PF.ret1 h)) (fun _ => (PF.ite (fun _ => (PF.ret1 h)) (fun _ => (PF.ret1 h)))))
theorem wr_X5_emptyHeight {B0 T0 : Nat} {s : ST} {b : Nat} {p0 : Int32} {σ : ST}   (h : KRA B0 T0 s σ) : PF st1 (KRA B0 T0 s) (f_X5_emptyHeight b p0 σ) := by
  unfold f_X5_emptyHeight
  exact (PF.bnd (wr_X5_sortOf  h) (fun q1 hq1 => (PF.ite (fun _ => (PF.ret1 hq1)) (fun _ => (PF.bnd (wr_X5_innerOf  hq1) (fun q3 hq3 => (PF.bnd (wr_X5_sortOf  hq3) (fun q5 hq5 => (PF.ite (fun _ => (PF.bnd (wr_X5_isRecord  hq5) (fun q7 hq7 => (PF.ite (fun _ => (PF.ret1 hq7)) (fun _ => (PF.ite (fun _ => (PF.ret1 hq7)) (fun _ => PF.none))))))) (fun _ => (PF.ret1 hq5)))))))))))
theorem wr_X4_isEmptyThere {B0 T0 : Nat} {s : ST} {b : Nat} {t : Nat} {p0 : Int32} {p1 : Int32} {σ : ST}   (h : KRA B0 T0 s σ) : PF st1 (KRA B0 T0 s) (f_X4_isEmptyThere b t p0 p1 σ) := by
  unfold f_X4_isEmptyThere
  exact (PF.bnd (wr_X5_emptyHeight  h) (fun q1 hq1 => (PF.ite (fun _ => (PF.ret1 hq1)) (fun _ => (PF.ite (fun _ => (PF.ret1 hq1)) (fun _ => (PF.ret1 hq1)))))))
theorem wr_X5_branchAfter {B0 T0 : Nat} {s : ST} {b : Nat} {p0 : Int32} {σ : ST}   (h : KRA B0 T0 s σ) : PF st1 (KRA B0 T0 s) (f_X5_branchAfter b p0 σ) := by
  unfold f_X5_branchAfter
  exact (PF.bnd (wr_X5_isType  h) (fun q1 hq1 => (PF.ite (fun _ => (PF.ret1 hq1)) (fun _ => (PF.ite (fun _ => (PF.ret1 hq1)) (fun _ => PF.none))))))
theorem wr_X5_branchesOf_20 {B0 T0 : Nat} {s : ST} {b : Nat}   : ∀ (n : Nat) (x1 : Int32) (x2 : Int32) (σ : ST), KRA B0 T0 s σ → PF st1 (KRA B0 T0 s) (f_X5_branchesOf_20 b n x1 x2 σ) := by
  intro n
  induction n with
  | zero => intro x1 x2 σ h; rw [f_X5_branchesOf_20]; exact PF.none
  | succ n ih =>
    intro x1 x2 σ h
    rw [f_X5_branchesOf_20]
    exact (PF.ite (fun _ => (PF.ret1 h)) (fun _ => (PF.ite (fun _ => (PF.ret1 h)) (fun _ => (PF.bnd (wr_X5_branchAfter  h) (fun q1 hq1 => (ih _ _ _ hq1)))))))
theorem wr_X5_branchesOf {B0 T0 : Nat} {s : ST} {b : Nat} {p0 : Int32} {σ : ST}   (h : KRA B0 T0 s σ) : PF st1 (KRA B0 T0 s) (f_X5_branchesOf b p0 σ) := by
  unfold f_X5_branchesOf
  exact (PF.bnd (wr_X5_sortOf  h) (fun q1 hq1 => (PF.ite (fun _ => (PF.bnd (wr_X5_innerOf  hq1) (fun q3 hq3 => (wr_X5_branchesOf_20  _ _ _ _ hq3)))) (fun _ => (PF.ret1 hq1)))))
theorem wr_X4_takeNumber_70 {B0 T0 : Nat} {s : ST} {b : Nat} {t : Nat} {x2 : Int64} {σ : ST}   (h : KRA B0 T0 s σ) : PF st1 (KRA B0 T0 s) (f_X4_takeNumber_70 b t x2 σ) := by
  unfold f_X4_takeNumber_70
  exact (PF.ite (fun _ => (PF.ret1 h)) (fun _ => (PF.ret1 h)))
theorem wr_X1_byteOf {B0 T0 : Nat} {s : ST} {p0 : Int32} {p1 : Int32} {σ : ST}   (h : KRA B0 T0 s σ) : PF st1 (KRA B0 T0 s) (f_X1_byteOf p0 p1 σ) := by
  unfold f_X1_byteOf
  exact (PF.ite (fun _ => (PF.ret1 h)) (fun _ => (PF.ite (fun _ => (PF.ret1 h)) (fun _ => (PF.ite (fun _ => (PF.ret1 h)) (fun _ => PF.none))))))
theorem wr_X4_takeByte {B0 T0 : Nat} {s : ST} {b : Nat} {t : Nat} {σ : ST}  (h_b : B0 = b) (h : KRA B0 T0 s σ) : PF st1 (KRA B0 T0 s) (f_X4_takeByte b t σ) := by
  unfold f_X4_takeByte
  exact (PF.ite (fun _ => (PF.ite (fun _ => (PF.bnd (wr_X1_byteOf  h) (fun q1 hq1 => (PF.ret1 (KRA.i (by omega) hq1))))) (fun _ => (PF.bnd (wr_X4_fail (by omega) h) (fun q3 hq3 => (PF.ret1 hq3)))))) (fun _ => (PF.ret1 h)))
theorem wr_X4_takeNumber_38 {B0 T0 : Nat} {s : ST} {k5 : Int32 → Int64 → Int32 → ST → Option (Int64 × ST)} {b : Nat} {t : Nat} {x1 : Int32} {x2 : Int64} {x4 : Int32} {x5 : Int32} {σ : ST} (h_k5 : ∀ (x1 : Int32) (x2 : Int64) (x3 : Int32) (σ : ST), KRA B0 T0 s σ → PF st1 (KRA B0 T0 s) (k5 x1 x2 x3 σ))  (h : KRA B0 T0 s σ) : PF st1 (KRA B0 T0 s) (f_X4_takeNumber_38 k5 b t x1 x2 x4 x5 σ) := by
  unfold f_X4_takeNumber_38
  exact (PF.ite (fun _ => (h_k5 _ _ _ _ h)) (fun _ => (wr_X4_takeNumber_70  h)))
theorem wr_X4_takeNumber_5 {B0 T0 : Nat} {s : ST} {b : Nat} {t : Nat}  (h_b : B0 = b) : ∀ (n : Nat) (x1 : Int32) (x2 : Int64) (x3 : Int32) (σ : ST), KRA B0 T0 s σ → PF st1 (KRA B0 T0 s) (f_X4_takeNumber_5 b t n x1 x2 x3 σ) := by
  intro n
  induction n with
  | zero => intro x1 x2 x3 σ h; rw [f_X4_takeNumber_5]; exact PF.none
  | succ n ih =>
    intro x1 x2 x3 σ h
    rw [f_X4_takeNumber_5]
    exact (PF.ite (fun _ => (wr_X4_takeNumber_70  h)) (fun _ => (PF.bnd (wr_X4_takeByte (by omega) h) (fun q1 hq1 => (PF.ite (fun _ => (PF.ite (fun _ => (wr_X4_takeNumber_38 ih hq1)) (fun _ => (PF.bnd (wr_X4_fail (by omega) hq1) (fun q3 hq3 => (wr_X4_takeNumber_38 ih hq3)))))) (fun _ => (wr_X4_takeNumber_38 ih hq1)))))))
theorem wr_X4_takeNumber {B0 T0 : Nat} {s : ST} {b : Nat} {t : Nat} {p0 : Int32} {σ : ST}  (h_b : B0 = b) (h : KRA B0 T0 s σ) : PF st1 (KRA B0 T0 s) (f_X4_takeNumber b t p0 σ) := by
  unfold f_X4_takeNumber
  exact (wr_X4_takeNumber_5 (by omega) _ _ _ _ _ h)
theorem wr_X4_takeCount_26 {B0 T0 : Nat} {s : ST} {b : Nat} {t : Nat} {x3 : Int64} {σ : ST}   (h : KRA B0 T0 s σ) : PF st1 (KRA B0 T0 s) (f_X4_takeCount_26 b t x3 σ) := by
  unfold f_X4_takeCount_26
  exact (PF.ite (fun _ => (PF.ret1 h)) (fun _ => (PF.ret1 h)))
theorem wr_X4_takeCount_19 {B0 T0 : Nat} {s : ST} {b : Nat} {t : Nat} {x1 : Int32} {x3 : Int64} {σ : ST}  (h_b : B0 = b) (h : KRA B0 T0 s σ) : PF st1 (KRA B0 T0 s) (f_X4_takeCount_19 b t x1 x3 σ) := by
  unfold f_X4_takeCount_19
  exact (PF.bnd (wr_X4_fail (by omega) h) (fun q1 hq1 => (wr_X4_takeCount_26  hq1)))
theorem wr_X4_takeCount {B0 T0 : Nat} {s : ST} {b : Nat} {t : Nat} {p0 : Int32} {p1 : Int32} {σ : ST}  (h_b : B0 = b) (h : KRA B0 T0 s σ) : PF st1 (KRA B0 T0 s) (f_X4_takeCount b t p0 p1 σ) := by
  unfold f_X4_takeCount
  exact (PF.bnd (wr_X4_takeNumber (by omega) h) (fun q1 hq1 => (PF.ite (fun _ => (wr_X4_takeCount_19 (by omega) hq1)) (fun _ => (PF.ite (fun _ => (wr_X4_takeCount_26  hq1)) (fun _ => (wr_X4_takeCount_19 (by omega) hq1)))))))
theorem wr_X5_branchOf_23 {B0 T0 : Nat} {s : ST} {b : Nat}   : ∀ (n : Nat) (x1 : Int32) (x2 : Int32) (x3 : Int32) (σ : ST), KRA B0 T0 s σ → PF st1 (KRA B0 T0 s) (f_X5_branchOf_23 b n x1 x2 x3 σ) := by
  intro n
  induction n with
  | zero => intro x1 x2 x3 σ h; rw [f_X5_branchOf_23]; exact PF.none
  | succ n ih =>
    intro x1 x2 x3 σ h
    rw [f_X5_branchOf_23]
    exact (PF.ite (fun _ => (PF.ret1 h)) (fun _ => (PF.ite (fun _ => (PF.ret1 h)) (fun _ => (PF.bnd (wr_X5_branchAfter  h) (fun q1 hq1 => (ih _ _ _ _ hq1)))))))
theorem wr_X5_branchOf_19 {B0 T0 : Nat} {s : ST} {b : Nat} {x2 : Int32} {y0 : Int32} {σ : ST}   (h : KRA B0 T0 s σ) : PF st1 (KRA B0 T0 s) (f_X5_branchOf_19 b x2 y0 σ) := by
  unfold f_X5_branchOf_19
  exact (wr_X5_branchOf_23  _ _ _ _ _ h)
theorem wr_X5_branchOf {B0 T0 : Nat} {s : ST} {b : Nat} {p0 : Int32} {p1 : Int32} {σ : ST}   (h : KRA B0 T0 s σ) : PF st1 (KRA B0 T0 s) (f_X5_branchOf b p0 p1 σ) := by
  unfold f_X5_branchOf
  exact (PF.bnd (wr_X5_sortOf  h) (fun q1 hq1 => (PF.ite (fun _ => (PF.bnd (wr_X5_innerOf  hq1) (fun q3 hq3 => (wr_X5_branchOf_19  hq3)))) (fun _ => (wr_X5_branchOf_19  hq1)))))
theorem wr_X4_step_26 {B0 T0 : Nat} {s : ST} {b : Nat} {t : Nat} {σ : ST}  (h_b : B0 = b) (h : KRA B0 T0 s σ) : PF st0 (KRA B0 T0 s) (f_X4_step_26 b t σ) := by
  unfold f_X4_step_26
  exact (PF.ret0 (KRA.i (by omega) h))
theorem wr_X4_step {B0 T0 : Nat} {s : ST} {b : Nat} {t : Nat} {p0 : Int32} {σ : ST}  (h_b : B0 = b) (h : KRA B0 T0 s σ) : PF st0 (KRA B0 T0 s) (f_X4_step b t p0 σ) := by
  unfold f_X4_step
  exact (PF.ite (fun _ => (wr_X4_step_26 (by omega) h)) (fun _ => (PF.ite (fun _ => (wr_X4_step_26 (by omega) h)) (fun _ => (PF.ite (fun _ => (wr_X4_step_26 (by omega) (KRA.i (by omega) h))) (fun _ => PF.none))))))
theorem wr_X4_stepBack {B0 T0 : Nat} {s : ST} {b : Nat} {t : Nat} {σ : ST}  (h_b : B0 = b) (h : KRA B0 T0 s σ) : PF st0 (KRA B0 T0 s) (f_X4_stepBack b t σ) := by
  unfold f_X4_stepBack
  exact (PF.ite (fun _ => (PF.ret0 (KRA.i (by omega) h))) (fun _ => (PF.ret0 h)))
theorem wr_X4_take_140 {B0 T0 : Nat} {s : ST} {r_X4_take : Nat → Nat → Int32 → Int32 → Int32 → Int32 → Int32 → ST → Option (ST)} {r_X4_takeField : Nat → Nat → Int32 → Int32 → Int32 → Int32 → Int32 → ST → Option (ST)} {r_X4_takeList : Nat → Nat → Int32 → Int32 → Int32 → Int32 → Int32 → ST → Option (ST)} {r_X4_takeOwn : Nat → Nat → Int32 → Int32 → Int32 → Int32 → Int32 → ST → Option (ST)} {r_X4_takeRecord : Nat → Nat → Int32 → Int32 → Int32 → Int32 → Int32 → ST → Option (ST)} {b : Nat} {t : Nat} {x2 : Int32} {x3 : Int32} {x4 : Int32} {x5 : Int32} {x8 : Int32} {σ : ST} (h_r_X4_take : ∀ (x1 : Nat) (x2 : Nat) (x3 : Int32) (x4 : Int32) (x5 : Int32) (x6 : Int32) (x7 : Int32) (σ : ST), B0 = x1 → T0 = x2 → KRA B0 T0 s σ → PF st0 (KRA B0 T0 s) (r_X4_take x1 x2 x3 x4 x5 x6 x7 σ)) (h_r_X4_takeField : ∀ (x1 : Nat) (x2 : Nat) (x3 : Int32) (x4 : Int32) (x5 : Int32) (x6 : Int32) (x7 : Int32) (σ : ST), B0 = x1 → T0 = x2 → KRA B0 T0 s σ → PF st0 (KRA B0 T0 s) (r_X4_takeField x1 x2 x3 x4 x5 x6 x7 σ)) (h_r_X4_takeList : ∀ (x1 : Nat) (x2 : Nat) (x3 : Int32) (x4 : Int32) (x5 : Int32) (x6 : Int32) (x7 : Int32) (σ : ST), B0 = x1 → T0 = x2 → KRA B0 T0 s σ → PF st0 (KRA B0 T0 s) (r_X4_takeList x1 x2 x3 x4 x5 x6 x7 σ)) (h_r_X4_takeOwn : ∀ (x1 : Nat) (x2 : Nat) (x3 : Int32) (x4 : Int32) (x5 : Int32) (x6 : Int32) (x7 : Int32) (σ : ST), B0 = x1 → T0 = x2 → KRA B0 T0 s σ → PF st0 (KRA B0 T0 s) (r_X4_takeOwn x1 x2 x3 x4 x5 x6 x7 σ)) (h_r_X4_takeRecord : ∀ (x1 : Nat) (x2 : Nat) (x3 : Int32) (x4 : Int32) (x5 : Int32) (x6 : Int32) (x7 : Int32) (σ : ST), B0 = x1 → T0 = x2 → KRA B0 T0 s σ → PF st0 (KRA B0 T0 s) (r_X4_takeRecord x1 x2 x3 x4 x5 x6 x7 σ)) (h_b : B0 = b) (h_t : T0 = t) (h : KRA B0 T0 s σ) : PF st0 (KRA B0 T0 s) (f_X4_take_140 r_X4_take r_X4_takeField r_X4_takeList r_X4_takeOwn r_X4_takeRecord b t x2 x3 x4 x5 x8 σ) := by
  unfold f_X4_take_140
  exact (PF.bnd (h_r_X4_takeOwn _ _ _ _ _ _ _ _ (by omega) (by omega) h) (fun q1 hq1 => (PF.bnd (wr_X4_stepBack (by omega) hq1) (fun q3 hq3 => (PF.ret0 hq3)))))
theorem wr_X0_chosenWithin_79 {B0 T0 : Nat} {s : ST} {r_X0_chosenWithin : Int32 → Int32 → Int32 → ST → Option (Int32 × ST)} {r_X0_fitsWithin : Int32 → Int32 → Int32 → ST → Option (Int32 × ST)} {k16 : Int32 → Int32 → Int32 → Int32 → Int32 → ST → Option (Int32 × ST)} {x1 : Int32} {x3 : Int32} {x4 : Int32} {x5 : Int32} {x6 : Int32} {σ : ST} (h_r_X0_chosenWithin : ∀ (x1 : Int32) (x2 : Int32) (x3 : Int32) (σ : ST), KRA B0 T0 s σ → PF st1 (KRA B0 T0 s) (r_X0_chosenWithin x1 x2 x3 σ)) (h_r_X0_fitsWithin : ∀ (x1 : Int32) (x2 : Int32) (x3 : Int32) (σ : ST), KRA B0 T0 s σ → PF st1 (KRA B0 T0 s) (r_X0_fitsWithin x1 x2 x3 σ)) (h_k16 : ∀ (x1 : Int32) (x2 : Int32) (x3 : Int32) (x4 : Int32) (x5 : Int32) (σ : ST), KRA B0 T0 s σ → PF st1 (KRA B0 T0 s) (k16 x1 x2 x3 x4 x5 σ))  (h : KRA B0 T0 s σ) : PF st1 (KRA B0 T0 s) (f_X0_chosenWithin_79 r_X0_chosenWithin r_X0_fitsWithin k16 x1 x3 x4 x5 x6 σ) := by
  unfold f_X0_chosenWithin_79
  exact (PF.bnd (wr_X5_branchAfter  h) (fun q1 hq1 => (h_k16 _ _ _ _ _ _ hq1)))
theorem wr_X0_chosenWithin_77 {B0 T0 : Nat} {s : ST} {r_X0_chosenWithin : Int32 → Int32 → Int32 → ST → Option (Int32 × ST)} {r_X0_fitsWithin : Int32 → Int32 → Int32 → ST → Option (Int32 × ST)} {k16 : Int32 → Int32 → Int32 → Int32 → Int32 → ST → Option (Int32 × ST)} {x1 : Int32} {x3 : Int32} {x5 : Int32} {x6 : Int32} {y0 : Int32} {σ : ST} (h_r_X0_chosenWithin : ∀ (x1 : Int32) (x2 : Int32) (x3 : Int32) (σ : ST), KRA B0 T0 s σ → PF st1 (KRA B0 T0 s) (r_X0_chosenWithin x1 x2 x3 σ)) (h_r_X0_fitsWithin : ∀ (x1 : Int32) (x2 : Int32) (x3 : Int32) (σ : ST), KRA B0 T0 s σ → PF st1 (KRA B0 T0 s) (r_X0_fitsWithin x1 x2 x3 σ)) (h_k16 : ∀ (x1 : Int32) (x2 : Int32) (x3 : Int32) (x4 : Int32) (x5 : Int32) (σ : ST), KRA B0 T0 s σ → PF st1 (KRA B0 T0 s) (k16 x1 x2 x3 x4 x5 σ))  (h : KRA B0 T0 s σ) : PF st1 (KRA B0 T0 s) (f_X0_chosenWithin_77 r_X0_chosenWithin r_X0_fitsWithin k16 x1 x3 x5 x6 y0 σ) := by
  unfold f_X0_chosenWithin_77
  exact (wr_X0_chosenWithin_79 h_r_X0_chosenWithin h_r_X0_fitsWithin h_k16 h)
theorem wr_X0_chosenWithin_16 {B0 T0 : Nat} {s : ST} {r_X0_chosenWithin : Int32 → Int32 → Int32 → ST → Option (Int32 × ST)} {r_X0_fitsWithin : Int32 → Int32 → Int32 → ST → Option (Int32 × ST)} (h_r_X0_chosenWithin : ∀ (x1 : Int32) (x2 : Int32) (x3 : Int32) (σ : ST), KRA B0 T0 s σ → PF st1 (KRA B0 T0 s) (r_X0_chosenWithin x1 x2 x3 σ)) (h_r_X0_fitsWithin : ∀ (x1 : Int32) (x2 : Int32) (x3 : Int32) (σ : ST), KRA B0 T0 s σ → PF st1 (KRA B0 T0 s) (r_X0_fitsWithin x1 x2 x3 σ))  : ∀ (n : Nat) (x1 : Int32) (x2 : Int32) (x3 : Int32) (x4 : Int32) (x5 : Int32) (σ : ST), KRA B0 T0 s σ → PF st1 (KRA B0 T0 s) (f_X0_chosenWithin_16 r_X0_chosenWithin r_X0_fitsWithin n x1 x2 x3 x4 x5 σ) := by
  intro n
  induction n with
  | zero => intro x1 x2 x3 x4 x5 σ h; rw [f_X0_chosenWithin_16]; exact PF.none
  | succ n ih =>
    intro x1 x2 x3 x4 x5 σ h
    rw [f_X0_chosenWithin_16]
    exact (PF.ite (fun _ => (PF.ret1 h)) (fun _ => (PF.ite (fun _ => (PF.ret1 h)) (fun _ => (PF.bnd (h_r_X0_fitsWithin _ _ _ _ h) (fun q1 hq1 => (PF.ite (fun _ => (wr_X0_chosenWithin_79 h_r_X0_chosenWithin h_r_X0_fitsWithin ih hq1)) (fun _ => (PF.bnd (wr_X5_sortOf  hq1) (fun q3 hq3 => (PF.bnd (wr_X5_sortOf  hq3) (fun q5 hq5 => (PF.ite (fun _ => (PF.ret1 hq5)) (fun _ => (PF.ite (fun _ => (wr_X0_chosenWithin_77 h_r_X0_chosenWithin h_r_X0_fitsWithin ih hq5)) (fun _ => (wr_X0_chosenWithin_77 h_r_X0_chosenWithin h_r_X0_fitsWithin ih hq5)))))))))))))))))
theorem wr_X0_chosenWithin {B0 T0 : Nat} {s : ST} {r_X0_chosenWithin : Int32 → Int32 → Int32 → ST → Option (Int32 × ST)} {r_X0_fitsWithin : Int32 → Int32 → Int32 → ST → Option (Int32 × ST)} {p0 : Int32} {p1 : Int32} {p2 : Int32} {σ : ST} (h_r_X0_chosenWithin : ∀ (x1 : Int32) (x2 : Int32) (x3 : Int32) (σ : ST), KRA B0 T0 s σ → PF st1 (KRA B0 T0 s) (r_X0_chosenWithin x1 x2 x3 σ)) (h_r_X0_fitsWithin : ∀ (x1 : Int32) (x2 : Int32) (x3 : Int32) (σ : ST), KRA B0 T0 s σ → PF st1 (KRA B0 T0 s) (r_X0_fitsWithin x1 x2 x3 σ))  (h : KRA B0 T0 s σ) : PF st1 (KRA B0 T0 s) (f_X0_chosenWithin r_X0_chosenWithin r_X0_fitsWithin p0 p1 p2 σ) := by
  unfold f_X0_chosenWithin
  exact (PF.bnd (wr_X5_innerOf  h) (fun q1 hq1 => (wr_X0_chosenWithin_16 h_r_X0_chosenWithin h_r_X0_fitsWithin _ _ _ _ _ _ _ hq1)))
theorem wr_X0_fitsWithin_48 {B0 T0 : Nat} {s : ST} {r_X0_chosenWithin : Int32 → Int32 → Int32 → ST → Option (Int32 × ST)} {r_X0_fitsWithin : Int32 → Int32 → Int32 → ST → Option (Int32 × ST)} (h_r_X0_chosenWithin : ∀ (x1 : Int32) (x2 : Int32) (x3 : Int32) (σ : ST), KRA B0 T0 s σ → PF st1 (KRA B0 T0 s) (r_X0_chosenWithin x1 x2 x3 σ)) (h_r_X0_fitsWithin : ∀ (x1 : Int32) (x2 : Int32) (x3 : Int32) (σ : ST), KRA B0 T0 s σ → PF st1 (KRA B0 T0 s) (r_X0_fitsWithin x1 x2 x3 σ))  : ∀ (n : Nat) (x1 : Int32) (x2 : Int32) (x3 : Int32) (x4 : Int32) (σ : ST), KRA B0 T0 s σ → PF st1 (KRA B0 T0 s) (f_X0_fitsWithin_48 r_X0_chosenWithin r_X0_fitsWithin n x1 x2 x3 x4 σ) := by
  intro n
  induction n with
  | zero => intro x1 x2 x3 x4 σ h; rw [f_X0_fitsWithin_48]; exact PF.none
  | succ n ih =>
    intro x1 x2 x3 x4 σ h
    rw [f_X0_fitsWithin_48]
    exact (PF.ite (fun _ => (PF.ret1 h)) (fun _ => (PF.ite (fun _ => (PF.ret1 h)) (fun _ => (PF.bnd (h_r_X0_fitsWithin _ _ _ _ h) (fun q1 hq1 => (PF.ite (fun _ => (PF.bnd (wr_X5_branchAfter  hq1) (fun q3 hq3 => (ih _ _ _ _ _ hq3)))) (fun _ => (PF.ret1 hq1)))))))))
theorem wr_J9_floorMod_7cf53 {B0 T0 : Nat} {s : ST} {p0 : Int32} {p1 : Int32} {σ : ST}   (h : KRA B0 T0 s σ) : PF st1 (KRA B0 T0 s) (f_J9_floorMod_7cf53 p0 p1 σ) := by
  unfold f_J9_floorMod_7cf53
  exact (PF.ite (fun _ => (PF.ite (fun _ => (PF.ret1 h)) (fun _ => (PF.ite (fun _ => (PF.ret1 h)) (fun _ => (PF.ret1 h)))))) (fun _ => PF.none))
theorem wr_X0_bitOf {B0 T0 : Nat} {s : ST} {p0 : Int32} {p1 : Int32} {σ : ST}   (h : KRA B0 T0 s σ) : PF st1 (KRA B0 T0 s) (f_X0_bitOf p0 p1 σ) := by
  unfold f_X0_bitOf
  exact (PF.bnd (wr_J9_floorMod_7cf53  h) (fun q1 hq1 => (PF.bnd (wr_J9_floorMod_7cf53  hq1) (fun q3 hq3 => (PF.ret1 hq3)))))
theorem wr_X0_plainFits_41 {B0 T0 : Nat} {s : ST}  {σ : ST}   (h : KRA B0 T0 s σ) : PF st1 (KRA B0 T0 s) (f_X0_plainFits_41 σ) := by
  unfold f_X0_plainFits_41
  exact (PF.ret1 h)
theorem wr_X0_plainFits_31 {B0 T0 : Nat} {s : ST} {x0 : Int32} {x1 : Int32} {σ : ST}   (h : KRA B0 T0 s σ) : PF st1 (KRA B0 T0 s) (f_X0_plainFits_31 x0 x1 σ) := by
  unfold f_X0_plainFits_31
  exact (PF.ite (fun _ => (PF.ite (fun _ => (wr_X0_plainFits_41  h)) (fun _ => (PF.ret1 h)))) (fun _ => (PF.ret1 h)))
theorem wr_X0_plainFits {B0 T0 : Nat} {s : ST} {p0 : Int32} {p1 : Int32} {σ : ST}   (h : KRA B0 T0 s σ) : PF st1 (KRA B0 T0 s) (f_X0_plainFits p0 p1 σ) := by
  unfold f_X0_plainFits
  exact (PF.ite (fun _ => (PF.ret1 h)) (fun _ => (PF.ite (fun _ => (PF.ite (fun _ => (wr_X0_plainFits_41  h)) (fun _ => (PF.ite (fun _ => (PF.ite (fun _ => (wr_X0_plainFits_41  h)) (fun _ => (PF.ite (fun _ => (wr_X0_plainFits_41  h)) (fun _ => (wr_X0_plainFits_31  h)))))) (fun _ => (wr_X0_plainFits_31  h)))))) (fun _ => (PF.ret1 h)))))
theorem wr_X0_fitsWithin_207 {B0 T0 : Nat} {s : ST} {r_X0_chosenWithin : Int32 → Int32 → Int32 → ST → Option (Int32 × ST)} {r_X0_fitsWithin : Int32 → Int32 → Int32 → ST → Option (Int32 × ST)} {x4 : Int32} {x5 : Int32} {σ : ST} (h_r_X0_chosenWithin : ∀ (x1 : Int32) (x2 : Int32) (x3 : Int32) (σ : ST), KRA B0 T0 s σ → PF st1 (KRA B0 T0 s) (r_X0_chosenWithin x1 x2 x3 σ)) (h_r_X0_fitsWithin : ∀ (x1 : Int32) (x2 : Int32) (x3 : Int32) (σ : ST), KRA B0 T0 s σ → PF st1 (KRA B0 T0 s) (r_X0_fitsWithin x1 x2 x3 σ))  (h : KRA B0 T0 s σ) : PF st1 (KRA B0 T0 s) (f_X0_fitsWithin_207 r_X0_chosenWithin r_X0_fitsWithin x4 x5 σ) := by
  unfold f_X0_fitsWithin_207
  exact (PF.bnd (wr_X0_plainFits  h) (fun q1 hq1 => (PF.ite (fun _ => (PF.ret1 hq1)) (fun _ => PF.none))))
theorem wr_X0_fitsWithin_158 {B0 T0 : Nat} {s : ST} {r_X0_chosenWithin : Int32 → Int32 → Int32 → ST → Option (Int32 × ST)} {r_X0_fitsWithin : Int32 → Int32 → Int32 → ST → Option (Int32 × ST)} {x1 : Int32} {x2 : Int32} {x4 : Int32} {x5 : Int32} {σ : ST} (h_r_X0_chosenWithin : ∀ (x1 : Int32) (x2 : Int32) (x3 : Int32) (σ : ST), KRA B0 T0 s σ → PF st1 (KRA B0 T0 s) (r_X0_chosenWithin x1 x2 x3 σ)) (h_r_X0_fitsWithin : ∀ (x1 : Int32) (x2 : Int32) (x3 : Int32) (σ : ST), KRA B0 T0 s σ → PF st1 (KRA B0 T0 s) (r_X0_fitsWithin x1 x2 x3 σ))  (h : KRA B0 T0 s σ) : PF st1 (KRA B0 T0 s) (f_X0_fitsWithin_158 r_X0_chosenWithin r_X0_fitsWithin x1 x2 x4 x5 σ) := by
  unfold f_X0_fitsWithin_158
  exact (PF.ite (fun _ => (PF.ite (fun _ => (PF.bnd (wr_X5_innerOf  h) (fun q1 hq1 => (PF.bnd (wr_X5_innerOf  hq1) (fun q3 hq3 => (PF.bnd (wr_X0_bitOf  hq3) (fun q5 hq5 => (PF.ite (fun _ => (PF.ret1 hq5)) (fun _ => (PF.ret1 hq5)))))))))) (fun _ => (wr_X0_fitsWithin_207 h_r_X0_chosenWithin h_r_X0_fitsWithin h)))) (fun _ => (wr_X0_fitsWithin_207 h_r_X0_chosenWithin h_r_X0_fitsWithin h)))
theorem wr_X0_fitsWithin {B0 T0 : Nat} {s : ST} {r_X0_chosenWithin : Int32 → Int32 → Int32 → ST → Option (Int32 × ST)} {r_X0_fitsWithin : Int32 → Int32 → Int32 → ST → Option (Int32 × ST)} {p0 : Int32} {p1 : Int32} {p2 : Int32} {σ : ST} (h_r_X0_chosenWithin : ∀ (x1 : Int32) (x2 : Int32) (x3 : Int32) (σ : ST), KRA B0 T0 s σ → PF st1 (KRA B0 T0 s) (r_X0_chosenWithin x1 x2 x3 σ)) (h_r_X0_fitsWithin : ∀ (x1 : Int32) (x2 : Int32) (x3 : Int32) (σ : ST), KRA B0 T0 s σ → PF st1 (KRA B0 T0 s) (r_X0_fitsWithin x1 x2 x3 σ))  (h : KRA B0 T0 s σ) : PF st1 (KRA B0 T0 s) (f_X0_fitsWithin r_X0_chosenWithin r_X0_fitsWithin p0 p1 p2 σ) := by
  unfold f_X0_fitsWithin
  exact (PF.ite (fun _ => (PF.bnd (wr_X5_sortOf  h) (fun q1 hq1 => (PF.bnd (wr_X5_sortOf  hq1) (fun q3 hq3 => (PF.ite (fun _ => (PF.bnd (wr_X5_innerOf  hq3) (fun q13 hq13 => (wr_X0_fitsWithin_48 h_r_X0_chosenWithin h_r_X0_fitsWithin _ _ _ _ _ _ hq13)))) (fun _ => (PF.ite (fun _ => (PF.bnd (h_r_X0_chosenWithin _ _ _ _ hq3) (fun q11 hq11 => (PF.ite (fun _ => (PF.ret1 hq11)) (fun _ => (PF.ret1 hq11)))))) (fun _ => (PF.ite (fun _ => (PF.ite (fun _ => (PF.bnd (wr_X5_innerOf  hq3) (fun q5 hq5 => (PF.bnd (wr_X5_innerOf  hq5) (fun q7 hq7 => (PF.bnd (h_r_X0_fitsWithin _ _ _ _ hq7) (fun q9 hq9 => (PF.ite (fun _ => (PF.ret1 hq9)) (fun _ => PF.none))))))))) (fun _ => (wr_X0_fitsWithin_158 h_r_X0_chosenWithin h_r_X0_fitsWithin hq3)))) (fun _ => (wr_X0_fitsWithin_158 h_r_X0_chosenWithin h_r_X0_fitsWithin hq3)))))))))))) (fun _ => (PF.ret1 h)))
theorem wrR_X0_chosenWithin {B0 T0 : Nat} {s : ST} : ∀ n : Nat, (∀ (p0 : Int32) (p1 : Int32) (p2 : Int32) (σ : ST), KRA B0 T0 s σ → PF st1 (KRA B0 T0 s) ((R_X0_chosenWithin n).1 p0 p1 p2 σ)) ∧ (∀ (p0 : Int32) (p1 : Int32) (p2 : Int32) (σ : ST), KRA B0 T0 s σ → PF st1 (KRA B0 T0 s) ((R_X0_chosenWithin n).2 p0 p1 p2 σ)) := by
  intro n
  induction n with
  | zero => exact ⟨fun _ _ _ _ _ => PF.none, fun _ _ _ _ _ => PF.none⟩
  | succ n ih => exact ⟨fun _ _ _ _ h => wr_X0_chosenWithin (ih.1) (ih.2)  h, fun _ _ _ _ h => wr_X0_fitsWithin (ih.1) (ih.2)  h⟩
theorem wr_T_X0_fitsWithin {B0 T0 : Nat} {s : ST} {p0 : Int32} {p1 : Int32} {p2 : Int32} {σ : ST} (h : KRA B0 T0 s σ) : PF st1 (KRA B0 T0 s) (f_T_X0_fitsWithin p0 p1 p2 σ) := (wrR_X0_chosenWithin FR).2 _ _ _ _  h
theorem wr_X0_fits {B0 T0 : Nat} {s : ST} {p0 : Int32} {p1 : Int32} {σ : ST}   (h : KRA B0 T0 s σ) : PF st1 (KRA B0 T0 s) (f_X0_fits p0 p1 σ) := by
  unfold f_X0_fits
  exact (PF.bnd (wr_T_X0_fitsWithin h) (fun q1 hq1 => (PF.ite (fun _ => (PF.ret1 hq1)) (fun _ => PF.none))))
theorem wr_X4_take_34 {B0 T0 : Nat} {s : ST} {r_X4_take : Nat → Nat → Int32 → Int32 → Int32 → Int32 → Int32 → ST → Option (ST)} {r_X4_takeField : Nat → Nat → Int32 → Int32 → Int32 → Int32 → Int32 → ST → Option (ST)} {r_X4_takeList : Nat → Nat → Int32 → Int32 → Int32 → Int32 → Int32 → ST → Option (ST)} {r_X4_takeOwn : Nat → Nat → Int32 → Int32 → Int32 → Int32 → Int32 → ST → Option (ST)} {r_X4_takeRecord : Nat → Nat → Int32 → Int32 → Int32 → Int32 → Int32 → ST → Option (ST)} {b : Nat} {t : Nat} {x1 : Int32} {x2 : Int32} {x3 : Int32} {x4 : Int32} {x5 : Int32} {σ : ST} (h_r_X4_take : ∀ (x1 : Nat) (x2 : Nat) (x3 : Int32) (x4 : Int32) (x5 : Int32) (x6 : Int32) (x7 : Int32) (σ : ST), B0 = x1 → T0 = x2 → KRA B0 T0 s σ → PF st0 (KRA B0 T0 s) (r_X4_take x1 x2 x3 x4 x5 x6 x7 σ)) (h_r_X4_takeField : ∀ (x1 : Nat) (x2 : Nat) (x3 : Int32) (x4 : Int32) (x5 : Int32) (x6 : Int32) (x7 : Int32) (σ : ST), B0 = x1 → T0 = x2 → KRA B0 T0 s σ → PF st0 (KRA B0 T0 s) (r_X4_takeField x1 x2 x3 x4 x5 x6 x7 σ)) (h_r_X4_takeList : ∀ (x1 : Nat) (x2 : Nat) (x3 : Int32) (x4 : Int32) (x5 : Int32) (x6 : Int32) (x7 : Int32) (σ : ST), B0 = x1 → T0 = x2 → KRA B0 T0 s σ → PF st0 (KRA B0 T0 s) (r_X4_takeList x1 x2 x3 x4 x5 x6 x7 σ)) (h_r_X4_takeOwn : ∀ (x1 : Nat) (x2 : Nat) (x3 : Int32) (x4 : Int32) (x5 : Int32) (x6 : Int32) (x7 : Int32) (σ : ST), B0 = x1 → T0 = x2 → KRA B0 T0 s σ → PF st0 (KRA B0 T0 s) (r_X4_takeOwn x1 x2 x3 x4 x5 x6 x7 σ)) (h_r_X4_takeRecord : ∀ (x1 : Nat) (x2 : Nat) (x3 : Int32) (x4 : Int32) (x5 : Int32) (x6 : Int32) (x7 : Int32) (σ : ST), B0 = x1 → T0 = x2 → KRA B0 T0 s σ → PF st0 (KRA B0 T0 s) (r_X4_takeRecord x1 x2 x3 x4 x5 x6 x7 σ)) (h_b : B0 = b) (h_t : T0 = t) (h : KRA B0 T0 s σ) : PF st0 (KRA B0 T0 s) (f_X4_take_34 r_X4_take r_X4_takeField r_X4_takeList r_X4_takeOwn r_X4_takeRecord b t x1 x2 x3 x4 x5 σ) := by
  unfold f_X4_take_34
  exact (PF.bnd (wr_X5_sortOf  h) (fun q1 hq1 => (PF.ite (fun _ => (PF.bnd (wr_X5_branchesOf  hq1) (fun q3 hq3 => (PF.bnd (wr_X4_takeCount (by omega) hq3) (fun q5 hq5 => (PF.ite (fun _ => (PF.bnd (wr_X5_branchOf  hq5) (fun q7 hq7 => (PF.bnd (wr_X4_step (by omega) hq7) (fun q9 hq9 => (PF.ite (fun _ => (wr_X4_take_140 h_r_X4_take h_r_X4_takeField h_r_X4_takeList h_r_X4_takeOwn h_r_X4_takeRecord (by omega) (by omega) hq9)) (fun _ => (PF.bnd (wr_X0_fits  hq9) (fun q11 hq11 => (PF.ite (fun _ => (PF.bnd (wr_X4_fail (by omega) hq11) (fun q13 hq13 => (PF.ret0 hq13)))) (fun _ => (wr_X4_take_140 h_r_X4_take h_r_X4_takeField h_r_X4_takeList h_r_X4_takeOwn h_r_X4_takeRecord (by omega) (by omega) hq11)))))))))))) (fun _ => (PF.ret0 hq5)))))))) (fun _ => (PF.bnd (h_r_X4_takeOwn _ _ _ _ _ _ _ _ (by omega) (by omega) hq1) (fun q15 hq15 => (PF.ret0 hq15)))))))
theorem wr_X4_take {B0 T0 : Nat} {s : ST} {r_X4_take : Nat → Nat → Int32 → Int32 → Int32 → Int32 → Int32 → ST → Option (ST)} {r_X4_takeField : Nat → Nat → Int32 → Int32 → Int32 → Int32 → Int32 → ST → Option (ST)} {r_X4_takeList : Nat → Nat → Int32 → Int32 → Int32 → Int32 → Int32 → ST → Option (ST)} {r_X4_takeOwn : Nat → Nat → Int32 → Int32 → Int32 → Int32 → Int32 → ST → Option (ST)} {r_X4_takeRecord : Nat → Nat → Int32 → Int32 → Int32 → Int32 → Int32 → ST → Option (ST)} {b : Nat} {t : Nat} {p0 : Int32} {p1 : Int32} {p2 : Int32} {p3 : Int32} {p4 : Int32} {σ : ST} (h_r_X4_take : ∀ (x1 : Nat) (x2 : Nat) (x3 : Int32) (x4 : Int32) (x5 : Int32) (x6 : Int32) (x7 : Int32) (σ : ST), B0 = x1 → T0 = x2 → KRA B0 T0 s σ → PF st0 (KRA B0 T0 s) (r_X4_take x1 x2 x3 x4 x5 x6 x7 σ)) (h_r_X4_takeField : ∀ (x1 : Nat) (x2 : Nat) (x3 : Int32) (x4 : Int32) (x5 : Int32) (x6 : Int32) (x7 : Int32) (σ : ST), B0 = x1 → T0 = x2 → KRA B0 T0 s σ → PF st0 (KRA B0 T0 s) (r_X4_takeField x1 x2 x3 x4 x5 x6 x7 σ)) (h_r_X4_takeList : ∀ (x1 : Nat) (x2 : Nat) (x3 : Int32) (x4 : Int32) (x5 : Int32) (x6 : Int32) (x7 : Int32) (σ : ST), B0 = x1 → T0 = x2 → KRA B0 T0 s σ → PF st0 (KRA B0 T0 s) (r_X4_takeList x1 x2 x3 x4 x5 x6 x7 σ)) (h_r_X4_takeOwn : ∀ (x1 : Nat) (x2 : Nat) (x3 : Int32) (x4 : Int32) (x5 : Int32) (x6 : Int32) (x7 : Int32) (σ : ST), B0 = x1 → T0 = x2 → KRA B0 T0 s σ → PF st0 (KRA B0 T0 s) (r_X4_takeOwn x1 x2 x3 x4 x5 x6 x7 σ)) (h_r_X4_takeRecord : ∀ (x1 : Nat) (x2 : Nat) (x3 : Int32) (x4 : Int32) (x5 : Int32) (x6 : Int32) (x7 : Int32) (σ : ST), B0 = x1 → T0 = x2 → KRA B0 T0 s σ → PF st0 (KRA B0 T0 s) (r_X4_takeRecord x1 x2 x3 x4 x5 x6 x7 σ)) (h_b : B0 = b) (h_t : T0 = t) (h : KRA B0 T0 s σ) : PF st0 (KRA B0 T0 s) (f_X4_take r_X4_take r_X4_takeField r_X4_takeList r_X4_takeOwn r_X4_takeRecord b t p0 p1 p2 p3 p4 σ) := by
  unfold f_X4_take
  exact (PF.ite (fun _ => (PF.ite (fun _ => (PF.bnd (wr_X4_isEmptyThere  h) (fun q1 hq1 => (PF.ite (fun _ => (wr_X4_take_34 h_r_X4_take h_r_X4_takeField h_r_X4_takeList h_r_X4_takeOwn h_r_X4_takeRecord (by omega) (by omega) hq1)) (fun _ => (PF.ret0 hq1)))))) (fun _ => (wr_X4_take_34 h_r_X4_take h_r_X4_takeField h_r_X4_takeList h_r_X4_takeOwn h_r_X4_takeRecord (by omega) (by omega) h)))) (fun _ => (PF.bnd (wr_X4_fail (by omega) h) (fun q3 hq3 => (PF.ret0 hq3)))))
theorem wr_X5_fieldsOf {B0 T0 : Nat} {s : ST} {b : Nat} {p0 : Int32} {σ : ST}   (h : KRA B0 T0 s σ) : PF st1 (KRA B0 T0 s) (f_X5_fieldsOf b p0 σ) := by
  unfold f_X5_fieldsOf
  exact (PF.bnd (wr_X5_isRecord  h) (fun q1 hq1 => (PF.ite (fun _ => (PF.ret1 hq1)) (fun _ => (PF.ite (fun _ => (PF.ret1 hq1)) (fun _ => PF.none))))))
theorem wr_X4_takeField_82 {B0 T0 : Nat} {s : ST} {r_X4_take : Nat → Nat → Int32 → Int32 → Int32 → Int32 → Int32 → ST → Option (ST)} {r_X4_takeField : Nat → Nat → Int32 → Int32 → Int32 → Int32 → Int32 → ST → Option (ST)} {r_X4_takeList : Nat → Nat → Int32 → Int32 → Int32 → Int32 → Int32 → ST → Option (ST)} {r_X4_takeOwn : Nat → Nat → Int32 → Int32 → Int32 → Int32 → Int32 → ST → Option (ST)} {r_X4_takeRecord : Nat → Nat → Int32 → Int32 → Int32 → Int32 → Int32 → ST → Option (ST)} {b : Nat} {t : Nat} {x1 : Int32} {x5 : Int32} {x7 : Int32} {σ : ST} (h_r_X4_take : ∀ (x1 : Nat) (x2 : Nat) (x3 : Int32) (x4 : Int32) (x5 : Int32) (x6 : Int32) (x7 : Int32) (σ : ST), B0 = x1 → T0 = x2 → KRA B0 T0 s σ → PF st0 (KRA B0 T0 s) (r_X4_take x1 x2 x3 x4 x5 x6 x7 σ)) (h_r_X4_takeField : ∀ (x1 : Nat) (x2 : Nat) (x3 : Int32) (x4 : Int32) (x5 : Int32) (x6 : Int32) (x7 : Int32) (σ : ST), B0 = x1 → T0 = x2 → KRA B0 T0 s σ → PF st0 (KRA B0 T0 s) (r_X4_takeField x1 x2 x3 x4 x5 x6 x7 σ)) (h_r_X4_takeList : ∀ (x1 : Nat) (x2 : Nat) (x3 : Int32) (x4 : Int32) (x5 : Int32) (x6 : Int32) (x7 : Int32) (σ : ST), B0 = x1 → T0 = x2 → KRA B0 T0 s σ → PF st0 (KRA B0 T0 s) (r_X4_takeList x1 x2 x3 x4 x5 x6 x7 σ)) (h_r_X4_takeOwn : ∀ (x1 : Nat) (x2 : Nat) (x3 : Int32) (x4 : Int32) (x5 : Int32) (x6 : Int32) (x7 : Int32) (σ : ST), B0 = x1 → T0 = x2 → KRA B0 T0 s σ → PF st0 (KRA B0 T0 s) (r_X4_takeOwn x1 x2 x3 x4 x5 x6 x7 σ)) (h_r_X4_takeRecord : ∀ (x1 : Nat) (x2 : Nat) (x3 : Int32) (x4 : Int32) (x5 : Int32) (x6 : Int32) (x7 : Int32) (σ : ST), B0 = x1 → T0 = x2 → KRA B0 T0 s σ → PF st0 (KRA B0 T0 s) (r_X4_takeRecord x1 x2 x3 x4 x5 x6 x7 σ)) (h_b : B0 = b) (h_t : T0 = t) (h : KRA B0 T0 s σ) : PF st0 (KRA B0 T0 s) (f_X4_takeField_82 r_X4_take r_X4_takeField r_X4_takeList r_X4_takeOwn r_X4_takeRecord b t x1 x5 x7 σ) := by
  unfold f_X4_takeField_82
  exact (PF.ite (fun _ => (PF.bnd (h_r_X4_take _ _ _ _ _ _ _ _ (by omega) (by omega) h) (fun q1 hq1 => (PF.ret0 hq1)))) (fun _ => (PF.ret0 h)))
theorem wr_X4_sourceAt {B0 T0 : Nat} {s : ST} {b : Nat} {t : Nat} {p0 : Int32} {p1 : Int32} {σ : ST}   (h : KRA B0 T0 s σ) : PF st1 (KRA B0 T0 s) (f_X4_sourceAt b t p0 p1 σ) := by
  unfold f_X4_sourceAt
  exact (PF.ite (fun _ => (PF.ret1 h)) (fun _ => (PF.ite (fun _ => (PF.ret1 h)) (fun _ => (PF.ite (fun _ => (PF.ret1 h)) (fun _ => (PF.ite (fun _ => (PF.ret1 h)) (fun _ => (PF.ite (fun _ => (PF.ret1 h)) (fun _ => PF.none))))))))))
theorem wr_X5_isFieldOf {B0 T0 : Nat} {s : ST} {p0 : Int32} {p1 : Int32} {σ : ST}   (h : KRA B0 T0 s σ) : PF st1 (KRA B0 T0 s) (f_X5_isFieldOf p0 p1 σ) := by
  unfold f_X5_isFieldOf
  exact (PF.ite (fun _ => (PF.ret1 h)) (fun _ => (PF.ite (fun _ => (PF.ret1 h)) (fun _ => (PF.ite (fun _ => (PF.ret1 h)) (fun _ => (PF.ite (fun _ => (PF.ret1 h)) (fun _ => (PF.ret1 h)))))))))
theorem wr_X5_typeOf {B0 T0 : Nat} {s : ST} {b : Nat} {p0 : Int32} {p1 : Int32} {σ : ST}   (h : KRA B0 T0 s σ) : PF st1 (KRA B0 T0 s) (f_X5_typeOf b p0 p1 σ) := by
  unfold f_X5_typeOf
  exact (PF.bnd (wr_X5_isFieldOf  h) (fun q1 hq1 => (PF.ite (fun _ => (PF.ret1 hq1)) (fun _ => (PF.ite (fun _ => (PF.ret1 hq1)) (fun _ => PF.none))))))
theorem wr_X4_takeField_76 {B0 T0 : Nat} {s : ST} {r_X4_take : Nat → Nat → Int32 → Int32 → Int32 → Int32 → Int32 → ST → Option (ST)} {r_X4_takeField : Nat → Nat → Int32 → Int32 → Int32 → Int32 → Int32 → ST → Option (ST)} {r_X4_takeList : Nat → Nat → Int32 → Int32 → Int32 → Int32 → Int32 → ST → Option (ST)} {r_X4_takeOwn : Nat → Nat → Int32 → Int32 → Int32 → Int32 → Int32 → ST → Option (ST)} {r_X4_takeRecord : Nat → Nat → Int32 → Int32 → Int32 → Int32 → Int32 → ST → Option (ST)} {k12 : Int32 → Int32 → Int32 → Int32 → Int32 → Int32 → Int32 → Int32 → ST → Option (ST)} {b : Nat} {t : Nat} {x1 : Int32} {x2 : Int32} {x3 : Int32} {x4 : Int32} {x5 : Int32} {x6 : Int32} {x7 : Int32} {x8 : Int32} {σ : ST} (h_r_X4_take : ∀ (x1 : Nat) (x2 : Nat) (x3 : Int32) (x4 : Int32) (x5 : Int32) (x6 : Int32) (x7 : Int32) (σ : ST), B0 = x1 → T0 = x2 → KRA B0 T0 s σ → PF st0 (KRA B0 T0 s) (r_X4_take x1 x2 x3 x4 x5 x6 x7 σ)) (h_r_X4_takeField : ∀ (x1 : Nat) (x2 : Nat) (x3 : Int32) (x4 : Int32) (x5 : Int32) (x6 : Int32) (x7 : Int32) (σ : ST), B0 = x1 → T0 = x2 → KRA B0 T0 s σ → PF st0 (KRA B0 T0 s) (r_X4_takeField x1 x2 x3 x4 x5 x6 x7 σ)) (h_r_X4_takeList : ∀ (x1 : Nat) (x2 : Nat) (x3 : Int32) (x4 : Int32) (x5 : Int32) (x6 : Int32) (x7 : Int32) (σ : ST), B0 = x1 → T0 = x2 → KRA B0 T0 s σ → PF st0 (KRA B0 T0 s) (r_X4_takeList x1 x2 x3 x4 x5 x6 x7 σ)) (h_r_X4_takeOwn : ∀ (x1 : Nat) (x2 : Nat) (x3 : Int32) (x4 : Int32) (x5 : Int32) (x6 : Int32) (x7 : Int32) (σ : ST), B0 = x1 → T0 = x2 → KRA B0 T0 s σ → PF st0 (KRA B0 T0 s) (r_X4_takeOwn x1 x2 x3 x4 x5 x6 x7 σ)) (h_r_X4_takeRecord : ∀ (x1 : Nat) (x2 : Nat) (x3 : Int32) (x4 : Int32) (x5 : Int32) (x6 : Int32) (x7 : Int32) (σ : ST), B0 = x1 → T0 = x2 → KRA B0 T0 s σ → PF st0 (KRA B0 T0 s) (r_X4_takeRecord x1 x2 x3 x4 x5 x6 x7 σ)) (h_k12 : ∀ (x1 : Int32) (x2 : Int32) (x3 : Int32) (x4 : Int32) (x5 : Int32) (x6 : Int32) (x7 : Int32) (x8 : Int32) (σ : ST), KRA B0 T0 s σ → PF st0 (KRA B0 T0 s) (k12 x1 x2 x3 x4 x5 x6 x7 x8 σ))  (h : KRA B0 T0 s σ) : PF st0 (KRA B0 T0 s) (f_X4_takeField_76 r_X4_take r_X4_takeField r_X4_takeList r_X4_takeOwn r_X4_takeRecord k12 b t x1 x2 x3 x4 x5 x6 x7 x8 σ) := by
  unfold f_X4_takeField_76
  exact (h_k12 _ _ _ _ _ _ _ _ _ h)
theorem wr_X4_takeField_12 {B0 T0 : Nat} {s : ST} {r_X4_take : Nat → Nat → Int32 → Int32 → Int32 → Int32 → Int32 → ST → Option (ST)} {r_X4_takeField : Nat → Nat → Int32 → Int32 → Int32 → Int32 → Int32 → ST → Option (ST)} {r_X4_takeList : Nat → Nat → Int32 → Int32 → Int32 → Int32 → Int32 → ST → Option (ST)} {r_X4_takeOwn : Nat → Nat → Int32 → Int32 → Int32 → Int32 → Int32 → ST → Option (ST)} {r_X4_takeRecord : Nat → Nat → Int32 → Int32 → Int32 → Int32 → Int32 → ST → Option (ST)} {b : Nat} {t : Nat} (h_r_X4_take : ∀ (x1 : Nat) (x2 : Nat) (x3 : Int32) (x4 : Int32) (x5 : Int32) (x6 : Int32) (x7 : Int32) (σ : ST), B0 = x1 → T0 = x2 → KRA B0 T0 s σ → PF st0 (KRA B0 T0 s) (r_X4_take x1 x2 x3 x4 x5 x6 x7 σ)) (h_r_X4_takeField : ∀ (x1 : Nat) (x2 : Nat) (x3 : Int32) (x4 : Int32) (x5 : Int32) (x6 : Int32) (x7 : Int32) (σ : ST), B0 = x1 → T0 = x2 → KRA B0 T0 s σ → PF st0 (KRA B0 T0 s) (r_X4_takeField x1 x2 x3 x4 x5 x6 x7 σ)) (h_r_X4_takeList : ∀ (x1 : Nat) (x2 : Nat) (x3 : Int32) (x4 : Int32) (x5 : Int32) (x6 : Int32) (x7 : Int32) (σ : ST), B0 = x1 → T0 = x2 → KRA B0 T0 s σ → PF st0 (KRA B0 T0 s) (r_X4_takeList x1 x2 x3 x4 x5 x6 x7 σ)) (h_r_X4_takeOwn : ∀ (x1 : Nat) (x2 : Nat) (x3 : Int32) (x4 : Int32) (x5 : Int32) (x6 : Int32) (x7 : Int32) (σ : ST), B0 = x1 → T0 = x2 → KRA B0 T0 s σ → PF st0 (KRA B0 T0 s) (r_X4_takeOwn x1 x2 x3 x4 x5 x6 x7 σ)) (h_r_X4_takeRecord : ∀ (x1 : Nat) (x2 : Nat) (x3 : Int32) (x4 : Int32) (x5 : Int32) (x6 : Int32) (x7 : Int32) (σ : ST), B0 = x1 → T0 = x2 → KRA B0 T0 s σ → PF st0 (KRA B0 T0 s) (r_X4_takeRecord x1 x2 x3 x4 x5 x6 x7 σ)) (h_b : B0 = b) (h_t : T0 = t) : ∀ (n : Nat) (x1 : Int32) (x2 : Int32) (x3 : Int32) (x4 : Int32) (x5 : Int32) (x6 : Int32) (x7 : Int32) (x8 : Int32) (σ : ST), KRA B0 T0 s σ → PF st0 (KRA B0 T0 s) (f_X4_takeField_12 r_X4_take r_X4_takeField r_X4_takeList r_X4_takeOwn r_X4_takeRecord b t n x1 x2 x3 x4 x5 x6 x7 x8 σ) := by
  intro n
  induction n with
  | zero => intro x1 x2 x3 x4 x5 x6 x7 x8 σ h; rw [f_X4_takeField_12]; exact PF.none
  | succ n ih =>
    intro x1 x2 x3 x4 x5 x6 x7 x8 σ h
    rw [f_X4_takeField_12]
    exact (PF.bnd (wr_X5_fieldsOf  h) (fun q1 hq1 => (PF.ite (fun _ => (wr_X4_takeField_82 h_r_X4_take h_r_X4_takeField h_r_X4_takeList h_r_X4_takeOwn h_r_X4_takeRecord (by omega) (by omega) hq1)) (fun _ => (PF.ite (fun _ => (PF.bnd (wr_X4_sourceAt  hq1) (fun q3 hq3 => (PF.ite (fun _ => (PF.bnd (wr_X5_typeOf  (KRA.i (by omega) hq3)) (fun q5 hq5 => (PF.bnd (h_r_X4_take _ _ _ _ _ _ _ _ (by omega) (by omega) hq5) (fun q7 hq7 => (wr_X4_takeField_76 h_r_X4_take h_r_X4_takeField h_r_X4_takeList h_r_X4_takeOwn h_r_X4_takeRecord ih hq7)))))) (fun _ => (wr_X4_takeField_76 h_r_X4_take h_r_X4_takeField h_r_X4_takeList h_r_X4_takeOwn h_r_X4_takeRecord ih hq3)))))) (fun _ => (wr_X4_takeField_82 h_r_X4_take h_r_X4_takeField h_r_X4_takeList h_r_X4_takeOwn h_r_X4_takeRecord (by omega) (by omega) hq1)))))))
theorem wr_X4_takeField {B0 T0 : Nat} {s : ST} {r_X4_take : Nat → Nat → Int32 → Int32 → Int32 → Int32 → Int32 → ST → Option (ST)} {r_X4_takeField : Nat → Nat → Int32 → Int32 → Int32 → Int32 → Int32 → ST → Option (ST)} {r_X4_takeList : Nat → Nat → Int32 → Int32 → Int32 → Int32 → Int32 → ST → Option (ST)} {r_X4_takeOwn : Nat → Nat → Int32 → Int32 → Int32 → Int32 → Int32 → ST → Option (ST)} {r_X4_takeRecord : Nat → Nat → Int32 → Int32 → Int32 → Int32 → Int32 → ST → Option (ST)} {b : Nat} {t : Nat} {p0 : Int32} {p1 : Int32} {p2 : Int32} {p3 : Int32} {p4 : Int32} {σ : ST} (h_r_X4_take : ∀ (x1 : Nat) (x2 : Nat) (x3 : Int32) (x4 : Int32) (x5 : Int32) (x6 : Int32) (x7 : Int32) (σ : ST), B0 = x1 → T0 = x2 → KRA B0 T0 s σ → PF st0 (KRA B0 T0 s) (r_X4_take x1 x2 x3 x4 x5 x6 x7 σ)) (h_r_X4_takeField : ∀ (x1 : Nat) (x2 : Nat) (x3 : Int32) (x4 : Int32) (x5 : Int32) (x6 : Int32) (x7 : Int32) (σ : ST), B0 = x1 → T0 = x2 → KRA B0 T0 s σ → PF st0 (KRA B0 T0 s) (r_X4_takeField x1 x2 x3 x4 x5 x6 x7 σ)) (h_r_X4_takeList : ∀ (x1 : Nat) (x2 : Nat) (x3 : Int32) (x4 : Int32) (x5 : Int32) (x6 : Int32) (x7 : Int32) (σ : ST), B0 = x1 → T0 = x2 → KRA B0 T0 s σ → PF st0 (KRA B0 T0 s) (r_X4_takeList x1 x2 x3 x4 x5 x6 x7 σ)) (h_r_X4_takeOwn : ∀ (x1 : Nat) (x2 : Nat) (x3 : Int32) (x4 : Int32) (x5 : Int32) (x6 : Int32) (x7 : Int32) (σ : ST), B0 = x1 → T0 = x2 → KRA B0 T0 s σ → PF st0 (KRA B0 T0 s) (r_X4_takeOwn x1 x2 x3 x4 x5 x6 x7 σ)) (h_r_X4_takeRecord : ∀ (x1 : Nat) (x2 : Nat) (x3 : Int32) (x4 : Int32) (x5 : Int32) (x6 : Int32) (x7 : Int32) (σ : ST), B0 = x1 → T0 = x2 → KRA B0 T0 s σ → PF st0 (KRA B0 T0 s) (r_X4_takeRecord x1 x2 x3 x4 x5 x6 x7 σ)) (h_b : B0 = b) (h_t : T0 = t) (h : KRA B0 T0 s σ) : PF st0 (KRA B0 T0 s) (f_X4_takeField r_X4_take r_X4_takeField r_X4_takeList r_X4_takeOwn r_X4_takeRecord b t p0 p1 p2 p3 p4 σ) := by
  unfold f_X4_takeField
  exact (wr_X4_takeField_12 h_r_X4_take h_r_X4_takeField h_r_X4_takeList h_r_X4_takeOwn h_r_X4_takeRecord (by omega) (by omega) _ _ _ _ _ _ _ _ _ _ h)
theorem wr_X7_isRow {B0 T0 : Nat} {s : ST} {b : Nat} {p0 : Int32} {σ : ST}   (h : KRA B0 T0 s σ) : PF st1 (KRA B0 T0 s) (f_X7_isRow b p0 σ) := by
  unfold f_X7_isRow
  exact (PF.ite (fun _ => (PF.ret1 h)) (fun _ => (PF.ite (fun _ => (PF.ret1 h)) (fun _ => (PF.ite (fun _ => (PF.ret1 h)) (fun _ => (PF.ret1 h)))))))
theorem wr_X7_setWorth {B0 T0 : Nat} {s : ST} {b : Nat} {p0 : Int32} {p1 : Int32} {p2 : Int64} {σ : ST}  (h_b : T0 = b) (h : KRA B0 T0 s σ) : PF st0 (KRA B0 T0 s) (f_X7_setWorth b p0 p1 p2 σ) := by
  unfold f_X7_setWorth
  exact (PF.bnd (wr_X7_isRow  h) (fun q1 hq1 => (PF.ite (fun _ => (PF.ret0 hq1)) (fun _ => (PF.ite (fun _ => (PF.ret0 (KRA.l (by omega) (KRA.i (by omega) hq1)))) (fun _ => PF.none))))))
theorem wr_X4_addNode_63 {B0 T0 : Nat} {s : ST} {b : Nat} {t : Nat} {x4 : Int32} {x5 : Int64} {x7 : Int32} {σ : ST}  (h_t : T0 = t) (h : KRA B0 T0 s σ) : PF st1 (KRA B0 T0 s) (f_X4_addNode_63 b t x4 x5 x7 σ) := by
  unfold f_X4_addNode_63
  exact (PF.ite (fun _ => (PF.bnd (wr_X7_setWorth (by omega) h) (fun q2 hq2 => (PF.ret1 hq2)))) (fun _ => PF.none))
theorem wr_X4_addNode_48 {B0 T0 : Nat} {s : ST} {b : Nat} {t : Nat} {x4 : Int32} {x5 : Int64} {y0 : Int32} {σ : ST}  (h_b : B0 = b) (h_t : T0 = t) (h : KRA B0 T0 s σ) : PF st1 (KRA B0 T0 s) (f_X4_addNode_48 b t x4 x5 y0 σ) := by
  unfold f_X4_addNode_48
  exact (PF.ite (fun _ => (PF.bnd (wr_X4_fail (by omega) h) (fun q1 hq1 => (wr_X4_addNode_63 (by omega) hq1)))) (fun _ => (wr_X4_addNode_63 (by omega) h)))
theorem wr_X7_link_155 {B0 T0 : Nat} {s : ST} {b : Nat} {x1 : Int32} {x2 : Int32} {σ : ST}  (h_b : T0 = b) (h : KRA B0 T0 s σ) : PF st0 (KRA B0 T0 s) (f_X7_link_155 b x1 x2 σ) := by
  unfold f_X7_link_155
  exact (PF.ite (fun _ => (PF.ite (fun _ => (PF.ite (fun _ => (PF.ret0 (KRA.i (by omega) h))) (fun _ => PF.none))) (fun _ => (PF.ret0 h)))) (fun _ => PF.none))
theorem wr_X7_link_103 {B0 T0 : Nat} {s : ST} {b : Nat} {x1 : Int32} {x2 : Int32} {x4 : Int32} {σ : ST}  (h_b : T0 = b) (h : KRA B0 T0 s σ) : PF st0 (KRA B0 T0 s) (f_X7_link_103 b x1 x2 x4 σ) := by
  unfold f_X7_link_103
  exact (PF.bnd (wr_X7_isRow  h) (fun q1 hq1 => (PF.ite (fun _ => (PF.ite (fun _ => (PF.ite (fun _ => (PF.bnd (PF.ret0 (KRA.i (by omega) (KRA.i (by omega) hq1))) (fun z5 hz5 => (wr_X7_link_155 (by omega) hz5)))) (fun _ => PF.none))) (fun _ => PF.none))) (fun _ => (PF.ite (fun _ => (PF.ite (fun _ => (PF.bnd (PF.ret0 (KRA.i (by omega) (KRA.i (by omega) hq1))) (fun z8 hz8 => (wr_X7_link_155 (by omega) hz8)))) (fun _ => PF.none))) (fun _ => PF.none))))))
theorem wr_X7_link_50 {B0 T0 : Nat} {s : ST} {b : Nat}  (h_b : T0 = b) : ∀ (n : Nat) (x1 : Int32) (x2 : Int32) (x3 : Int32) (x4 : Int32) (x5 : Int32) (σ : ST), KRA B0 T0 s σ → PF st0 (KRA B0 T0 s) (f_X7_link_50 b n x1 x2 x3 x4 x5 σ) := by
  intro n
  induction n with
  | zero => intro x1 x2 x3 x4 x5 σ h; rw [f_X7_link_50]; exact PF.none
  | succ n ih =>
    intro x1 x2 x3 x4 x5 σ h
    rw [f_X7_link_50]
    exact (PF.ite (fun _ => (wr_X7_link_103 (by omega) h)) (fun _ => (PF.bnd (wr_X7_isRow  h) (fun q1 hq1 => (PF.ite (fun _ => (wr_X7_link_103 (by omega) hq1)) (fun _ => (PF.ite (fun _ => (PF.ite (fun _ => (PF.ite (fun _ => (wr_X7_link_103 (by omega) hq1)) (fun _ => (ih _ _ _ _ _ _ hq1)))) (fun _ => PF.none))) (fun _ => PF.none))))))))
theorem wr_X7_link_39 {B0 T0 : Nat} {s : ST} {b : Nat} {x1 : Int32} {x2 : Int32} {x4 : Int32} {σ : ST}  (h_b : T0 = b) (h : KRA B0 T0 s σ) : PF st0 (KRA B0 T0 s) (f_X7_link_39 b x1 x2 x4 σ) := by
  unfold f_X7_link_39
  exact (PF.ite (fun _ => (wr_X7_link_50 (by omega) _ _ _ _ _ _ _ h)) (fun _ => PF.none))
theorem wr_X7_link {B0 T0 : Nat} {s : ST} {b : Nat} {p0 : Int32} {p1 : Int32} {σ : ST}  (h_b : T0 = b) (h : KRA B0 T0 s σ) : PF st0 (KRA B0 T0 s) (f_X7_link b p0 p1 σ) := by
  unfold f_X7_link
  exact (PF.ite (fun _ => (PF.bnd (wr_X7_isRow  h) (fun q2 hq2 => (PF.ite (fun _ => (wr_X7_link_39 (by omega) hq2)) (fun _ => (PF.ite (fun _ => (PF.ite (fun _ => (PF.ite (fun _ => (wr_X7_link_39 (by omega) hq2)) (fun _ => (wr_X7_link_103 (by omega) hq2)))) (fun _ => PF.none))) (fun _ => PF.none))))))) (fun _ => PF.none))
theorem wr_X7_grow {B0 T0 : Nat} {s : ST} {b : Nat} {p0 : Int32} {p1 : Int32} {p2 : Int32} {σ : ST}  (h_b : T0 = b) (h : KRA B0 T0 s σ) : PF st1 (KRA B0 T0 s) (f_X7_grow b p0 p1 p2 σ) := by
  unfold f_X7_grow
  exact (PF.ite (fun _ => (PF.ite (fun _ => (PF.bnd (PF.ret0 (KRA.i (by omega) (KRA.i (by omega) (KRA.i (by omega) h)))) (fun z2 hz2 => (PF.bnd (PF.ret0 (KRA.i (by omega) (KRA.i (by omega) (KRA.i (by omega) hz2)))) (fun z3 hz3 => (PF.bnd (PF.ret0 (KRA.i (by omega) (KRA.l (by omega) hz3))) (fun z4 hz4 => (PF.bnd (PF.ret0 (KRA.i (by omega) (KRA.i (by omega) hz4))) (fun z5 hz5 => (PF.bnd (wr_X7_isRow  hz5) (fun q6 hq6 => (PF.ite (fun _ => (PF.ret1 hq6)) (fun _ => (PF.bnd (wr_X7_link (by omega) hq6) (fun q8 hq8 => (PF.ret1 hq8)))))))))))))))) (fun _ => PF.none))) (fun _ => (PF.ret1 h)))
theorem wr_X4_addNode {B0 T0 : Nat} {s : ST} {b : Nat} {t : Nat} {p0 : Int32} {p1 : Int32} {p2 : Int32} {p3 : Int32} {p4 : Int64} {σ : ST}  (h_b : B0 = b) (h_t : T0 = t) (h : KRA B0 T0 s σ) : PF st1 (KRA B0 T0 s) (f_X4_addNode b t p0 p1 p2 p3 p4 σ) := by
  unfold f_X4_addNode
  exact (PF.ite (fun _ => (PF.ret1 h)) (fun _ => (PF.ite (fun _ => (PF.ite (fun _ => (PF.ite (fun _ => (wr_X4_addNode_48 (by omega) (by omega) h)) (fun _ => (PF.bnd (wr_X5_sortOf  h) (fun q2 hq2 => (PF.bnd (wr_X7_grow (by omega) hq2) (fun q4 hq4 => (wr_X4_addNode_48 (by omega) (by omega) hq4)))))))) (fun _ => PF.none))) (fun _ => (PF.ret1 h)))))
theorem wr_X4_takeList_48 {B0 T0 : Nat} {s : ST} {r_X4_take : Nat → Nat → Int32 → Int32 → Int32 → Int32 → Int32 → ST → Option (ST)} {r_X4_takeField : Nat → Nat → Int32 → Int32 → Int32 → Int32 → Int32 → ST → Option (ST)} {r_X4_takeList : Nat → Nat → Int32 → Int32 → Int32 → Int32 → Int32 → ST → Option (ST)} {r_X4_takeOwn : Nat → Nat → Int32 → Int32 → Int32 → Int32 → Int32 → ST → Option (ST)} {r_X4_takeRecord : Nat → Nat → Int32 → Int32 → Int32 → Int32 → Int32 → ST → Option (ST)} {b : Nat} {t : Nat} (h_r_X4_take : ∀ (x1 : Nat) (x2 : Nat) (x3 : Int32) (x4 : Int32) (x5 : Int32) (x6 : Int32) (x7 : Int32) (σ : ST), B0 = x1 → T0 = x2 → KRA B0 T0 s σ → PF st0 (KRA B0 T0 s) (r_X4_take x1 x2 x3 x4 x5 x6 x7 σ)) (h_r_X4_takeField : ∀ (x1 : Nat) (x2 : Nat) (x3 : Int32) (x4 : Int32) (x5 : Int32) (x6 : Int32) (x7 : Int32) (σ : ST), B0 = x1 → T0 = x2 → KRA B0 T0 s σ → PF st0 (KRA B0 T0 s) (r_X4_takeField x1 x2 x3 x4 x5 x6 x7 σ)) (h_r_X4_takeList : ∀ (x1 : Nat) (x2 : Nat) (x3 : Int32) (x4 : Int32) (x5 : Int32) (x6 : Int32) (x7 : Int32) (σ : ST), B0 = x1 → T0 = x2 → KRA B0 T0 s σ → PF st0 (KRA B0 T0 s) (r_X4_takeList x1 x2 x3 x4 x5 x6 x7 σ)) (h_r_X4_takeOwn : ∀ (x1 : Nat) (x2 : Nat) (x3 : Int32) (x4 : Int32) (x5 : Int32) (x6 : Int32) (x7 : Int32) (σ : ST), B0 = x1 → T0 = x2 → KRA B0 T0 s σ → PF st0 (KRA B0 T0 s) (r_X4_takeOwn x1 x2 x3 x4 x5 x6 x7 σ)) (h_r_X4_takeRecord : ∀ (x1 : Nat) (x2 : Nat) (x3 : Int32) (x4 : Int32) (x5 : Int32) (x6 : Int32) (x7 : Int32) (σ : ST), B0 = x1 → T0 = x2 → KRA B0 T0 s σ → PF st0 (KRA B0 T0 s) (r_X4_takeRecord x1 x2 x3 x4 x5 x6 x7 σ)) (h_b : B0 = b) (h_t : T0 = t) : ∀ (n : Nat) (x1 : Int32) (x2 : Int32) (x3 : Int32) (x4 : Int32) (x5 : Int32) (x6 : Int32) (σ : ST), KRA B0 T0 s σ → PF st0 (KRA B0 T0 s) (f_X4_takeList_48 r_X4_take r_X4_takeField r_X4_takeList r_X4_takeOwn r_X4_takeRecord b t n x1 x2 x3 x4 x5 x6 σ) := by
  intro n
  induction n with
  | zero => intro x1 x2 x3 x4 x5 x6 σ h; rw [f_X4_takeList_48]; exact PF.none
  | succ n ih =>
    intro x1 x2 x3 x4 x5 x6 σ h
    rw [f_X4_takeList_48]
    exact (PF.ite (fun _ => (PF.ret0 h)) (fun _ => (PF.ite (fun _ => (PF.bnd (wr_X4_step (by omega) h) (fun q1 hq1 => (PF.bnd (h_r_X4_take _ _ _ _ _ _ _ _ (by omega) (by omega) hq1) (fun q3 hq3 => (PF.bnd (wr_X4_stepBack (by omega) hq3) (fun q5 hq5 => (ih _ _ _ _ _ _ _ hq5)))))))) (fun _ => (PF.ret0 h)))))
theorem wr_X4_takeList_43 {B0 T0 : Nat} {s : ST} {r_X4_take : Nat → Nat → Int32 → Int32 → Int32 → Int32 → Int32 → ST → Option (ST)} {r_X4_takeField : Nat → Nat → Int32 → Int32 → Int32 → Int32 → Int32 → ST → Option (ST)} {r_X4_takeList : Nat → Nat → Int32 → Int32 → Int32 → Int32 → Int32 → ST → Option (ST)} {r_X4_takeOwn : Nat → Nat → Int32 → Int32 → Int32 → Int32 → Int32 → ST → Option (ST)} {r_X4_takeRecord : Nat → Nat → Int32 → Int32 → Int32 → Int32 → Int32 → ST → Option (ST)} {b : Nat} {t : Nat} {x1 : Int32} {x5 : Int32} {x6 : Int32} {x7 : Int32} {y0 : Int32} {σ : ST} (h_r_X4_take : ∀ (x1 : Nat) (x2 : Nat) (x3 : Int32) (x4 : Int32) (x5 : Int32) (x6 : Int32) (x7 : Int32) (σ : ST), B0 = x1 → T0 = x2 → KRA B0 T0 s σ → PF st0 (KRA B0 T0 s) (r_X4_take x1 x2 x3 x4 x5 x6 x7 σ)) (h_r_X4_takeField : ∀ (x1 : Nat) (x2 : Nat) (x3 : Int32) (x4 : Int32) (x5 : Int32) (x6 : Int32) (x7 : Int32) (σ : ST), B0 = x1 → T0 = x2 → KRA B0 T0 s σ → PF st0 (KRA B0 T0 s) (r_X4_takeField x1 x2 x3 x4 x5 x6 x7 σ)) (h_r_X4_takeList : ∀ (x1 : Nat) (x2 : Nat) (x3 : Int32) (x4 : Int32) (x5 : Int32) (x6 : Int32) (x7 : Int32) (σ : ST), B0 = x1 → T0 = x2 → KRA B0 T0 s σ → PF st0 (KRA B0 T0 s) (r_X4_takeList x1 x2 x3 x4 x5 x6 x7 σ)) (h_r_X4_takeOwn : ∀ (x1 : Nat) (x2 : Nat) (x3 : Int32) (x4 : Int32) (x5 : Int32) (x6 : Int32) (x7 : Int32) (σ : ST), B0 = x1 → T0 = x2 → KRA B0 T0 s σ → PF st0 (KRA B0 T0 s) (r_X4_takeOwn x1 x2 x3 x4 x5 x6 x7 σ)) (h_r_X4_takeRecord : ∀ (x1 : Nat) (x2 : Nat) (x3 : Int32) (x4 : Int32) (x5 : Int32) (x6 : Int32) (x7 : Int32) (σ : ST), B0 = x1 → T0 = x2 → KRA B0 T0 s σ → PF st0 (KRA B0 T0 s) (r_X4_takeRecord x1 x2 x3 x4 x5 x6 x7 σ)) (h_b : B0 = b) (h_t : T0 = t) (h : KRA B0 T0 s σ) : PF st0 (KRA B0 T0 s) (f_X4_takeList_43 r_X4_take r_X4_takeField r_X4_takeList r_X4_takeOwn r_X4_takeRecord b t x1 x5 x6 x7 y0 σ) := by
  unfold f_X4_takeList_43
  exact (wr_X4_takeList_48 h_r_X4_take h_r_X4_takeField h_r_X4_takeList h_r_X4_takeOwn h_r_X4_takeRecord (by omega) (by omega) _ _ _ _ _ _ _ _ h)
theorem wr_X4_takeList {B0 T0 : Nat} {s : ST} {r_X4_take : Nat → Nat → Int32 → Int32 → Int32 → Int32 → Int32 → ST → Option (ST)} {r_X4_takeField : Nat → Nat → Int32 → Int32 → Int32 → Int32 → Int32 → ST → Option (ST)} {r_X4_takeList : Nat → Nat → Int32 → Int32 → Int32 → Int32 → Int32 → ST → Option (ST)} {r_X4_takeOwn : Nat → Nat → Int32 → Int32 → Int32 → Int32 → Int32 → ST → Option (ST)} {r_X4_takeRecord : Nat → Nat → Int32 → Int32 → Int32 → Int32 → Int32 → ST → Option (ST)} {b : Nat} {t : Nat} {p0 : Int32} {p1 : Int32} {p2 : Int32} {p3 : Int32} {p4 : Int32} {σ : ST} (h_r_X4_take : ∀ (x1 : Nat) (x2 : Nat) (x3 : Int32) (x4 : Int32) (x5 : Int32) (x6 : Int32) (x7 : Int32) (σ : ST), B0 = x1 → T0 = x2 → KRA B0 T0 s σ → PF st0 (KRA B0 T0 s) (r_X4_take x1 x2 x3 x4 x5 x6 x7 σ)) (h_r_X4_takeField : ∀ (x1 : Nat) (x2 : Nat) (x3 : Int32) (x4 : Int32) (x5 : Int32) (x6 : Int32) (x7 : Int32) (σ : ST), B0 = x1 → T0 = x2 → KRA B0 T0 s σ → PF st0 (KRA B0 T0 s) (r_X4_takeField x1 x2 x3 x4 x5 x6 x7 σ)) (h_r_X4_takeList : ∀ (x1 : Nat) (x2 : Nat) (x3 : Int32) (x4 : Int32) (x5 : Int32) (x6 : Int32) (x7 : Int32) (σ : ST), B0 = x1 → T0 = x2 → KRA B0 T0 s σ → PF st0 (KRA B0 T0 s) (r_X4_takeList x1 x2 x3 x4 x5 x6 x7 σ)) (h_r_X4_takeOwn : ∀ (x1 : Nat) (x2 : Nat) (x3 : Int32) (x4 : Int32) (x5 : Int32) (x6 : Int32) (x7 : Int32) (σ : ST), B0 = x1 → T0 = x2 → KRA B0 T0 s σ → PF st0 (KRA B0 T0 s) (r_X4_takeOwn x1 x2 x3 x4 x5 x6 x7 σ)) (h_r_X4_takeRecord : ∀ (x1 : Nat) (x2 : Nat) (x3 : Int32) (x4 : Int32) (x5 : Int32) (x6 : Int32) (x7 : Int32) (σ : ST), B0 = x1 → T0 = x2 → KRA B0 T0 s σ → PF st0 (KRA B0 T0 s) (r_X4_takeRecord x1 x2 x3 x4 x5 x6 x7 σ)) (h_b : B0 = b) (h_t : T0 = t) (h : KRA B0 T0 s σ) : PF st0 (KRA B0 T0 s) (f_X4_takeList r_X4_take r_X4_takeField r_X4_takeList r_X4_takeOwn r_X4_takeRecord b t p0 p1 p2 p3 p4 σ) := by
  unfold f_X4_takeList
  exact (PF.bnd (wr_X4_takeCount (by omega) h) (fun q1 hq1 => (PF.bnd (wr_X4_addNode (by omega) (by omega) hq1) (fun q3 hq3 => (PF.ite (fun _ => (wr_X4_takeList_43 h_r_X4_take h_r_X4_takeField h_r_X4_takeList h_r_X4_takeOwn h_r_X4_takeRecord (by omega) (by omega) hq3)) (fun _ => (PF.bnd (wr_X5_innerOf  hq3) (fun q5 hq5 => (wr_X4_takeList_43 h_r_X4_take h_r_X4_takeField h_r_X4_takeList h_r_X4_takeOwn h_r_X4_takeRecord (by omega) (by omega) hq5)))))))))
theorem wr_T_X0_chosenWithin {B0 T0 : Nat} {s : ST} {p0 : Int32} {p1 : Int32} {p2 : Int32} {σ : ST} (h : KRA B0 T0 s σ) : PF st1 (KRA B0 T0 s) (f_T_X0_chosenWithin p0 p1 p2 σ) := (wrR_X0_chosenWithin FR).1 _ _ _ _  h
theorem wr_X0_chosen {B0 T0 : Nat} {s : ST} {p0 : Int32} {p1 : Int32} {σ : ST}   (h : KRA B0 T0 s σ) : PF st1 (KRA B0 T0 s) (f_X0_chosen p0 p1 σ) := by
  unfold f_X0_chosen
  exact (PF.bnd (wr_T_X0_chosenWithin h) (fun q1 hq1 => (PF.ret1 hq1)))
theorem wr_X4_takePlain_183 {B0 T0 : Nat} {s : ST} {b : Nat} {t : Nat} {y0 : Int64} {y1 : Int32} {y2 : Int32} {y3 : Int32} {y4 : Int32} {σ : ST}  (h_b : B0 = b) (h_t : T0 = t) (h : KRA B0 T0 s σ) : PF st0 (KRA B0 T0 s) (f_X4_takePlain_183 b t y0 y1 y2 y3 y4 σ) := by
  unfold f_X4_takePlain_183
  exact (PF.bnd (wr_X4_addNode (by omega) (by omega) h) (fun q1 hq1 => (PF.ret0 hq1)))
theorem wr_X10_bitsOfPositive_81 {B0 T0 : Nat} {s : ST} {x2 : UInt64} {x4 : Int32} {σ : ST}   (h : KRA B0 T0 s σ) : PF st1 (KRA B0 T0 s) (f_X10_bitsOfPositive_81 x2 x4 σ) := by
  unfold f_X10_bitsOfPositive_81
  exact (PF.ret1 h)
theorem wr_X10_bitsOfPositive_51 {B0 T0 : Nat} {s : ST}    : ∀ (n : Nat) (x1 : UInt64) (x2 : Int32) (x3 : Int32) (σ : ST), KRA B0 T0 s σ → PF st1 (KRA B0 T0 s) (f_X10_bitsOfPositive_51  n x1 x2 x3 σ) := by
  intro n
  induction n with
  | zero => intro x1 x2 x3 σ h; rw [f_X10_bitsOfPositive_51]; exact PF.none
  | succ n ih =>
    intro x1 x2 x3 σ h
    rw [f_X10_bitsOfPositive_51]
    exact (PF.ite (fun _ => (wr_X10_bitsOfPositive_81  h)) (fun _ => (PF.ite (fun _ => (wr_X10_bitsOfPositive_81  h)) (fun _ => (PF.ite (fun _ => (ih _ _ _ _ h)) (fun _ => PF.none))))))
theorem wr_X10_bitsOfPositive_48 {B0 T0 : Nat} {s : ST} {x2 : UInt64} {x4 : Int32} {σ : ST}   (h : KRA B0 T0 s σ) : PF st1 (KRA B0 T0 s) (f_X10_bitsOfPositive_48 x2 x4 σ) := by
  unfold f_X10_bitsOfPositive_48
  exact (wr_X10_bitsOfPositive_51  _ _ _ _ _ h)
theorem wr_X10_bitsOfPositive_18 {B0 T0 : Nat} {s : ST}    : ∀ (n : Nat) (x1 : UInt64) (x2 : Int32) (x3 : Int32) (σ : ST), KRA B0 T0 s σ → PF st1 (KRA B0 T0 s) (f_X10_bitsOfPositive_18  n x1 x2 x3 σ) := by
  intro n
  induction n with
  | zero => intro x1 x2 x3 σ h; rw [f_X10_bitsOfPositive_18]; exact PF.none
  | succ n ih =>
    intro x1 x2 x3 σ h
    rw [f_X10_bitsOfPositive_18]
    exact (PF.ite (fun _ => (wr_X10_bitsOfPositive_48  h)) (fun _ => (PF.ite (fun _ => (wr_X10_bitsOfPositive_48  h)) (fun _ => (PF.ite (fun _ => (ih _ _ _ _ h)) (fun _ => PF.none))))))
theorem wr_X10_bitsOfPositive {B0 T0 : Nat} {s : ST} {p0 : UInt64} {σ : ST}   (h : KRA B0 T0 s σ) : PF st1 (KRA B0 T0 s) (f_X10_bitsOfPositive p0 σ) := by
  unfold f_X10_bitsOfPositive
  exact (PF.ite (fun _ => (wr_X10_bitsOfPositive_18  _ _ _ _ _ h)) (fun _ => (PF.ret1 h)))
theorem wr_X10_bitsOfWhole {B0 T0 : Nat} {s : ST} {p0 : Int64} {σ : ST}   (h : KRA B0 T0 s σ) : PF st1 (KRA B0 T0 s) (f_X10_bitsOfWhole p0 σ) := by
  unfold f_X10_bitsOfWhole
  exact (PF.ite (fun _ => (PF.ite (fun _ => (PF.bnd (wr_X10_bitsOfPositive  h) (fun q2 hq2 => (PF.ret1 hq2)))) (fun _ => PF.none))) (fun _ => (PF.bnd (wr_X10_bitsOfPositive  h) (fun q4 hq4 => (PF.ret1 hq4)))))
theorem wr_X4_takePlain_159 {B0 T0 : Nat} {s : ST} {b : Nat} {t : Nat} {x2 : Int32} {x3 : Int32} {x4 : Int32} {x6 : Int32} {x7 : Int64} {y0 : Int32} {σ : ST}  (h_b : B0 = b) (h_t : T0 = t) (h : KRA B0 T0 s σ) : PF st0 (KRA B0 T0 s) (f_X4_takePlain_159 b t x2 x3 x4 x6 x7 y0 σ) := by
  unfold f_X4_takePlain_159
  exact (PF.ite (fun _ => (wr_X4_takePlain_183 (by omega) (by omega) h)) (fun _ => (PF.bnd (wr_X10_bitsOfWhole  h) (fun q1 hq1 => (wr_X4_takePlain_183 (by omega) (by omega) hq1)))))
theorem wr_X4_takePlain_158 {B0 T0 : Nat} {s : ST} {b : Nat} {t : Nat} {x2 : Int32} {x3 : Int32} {x4 : Int32} {x6 : Int32} {x7 : Int64} {σ : ST}  (h_b : B0 = b) (h_t : T0 = t) (h : KRA B0 T0 s σ) : PF st0 (KRA B0 T0 s) (f_X4_takePlain_158 b t x2 x3 x4 x6 x7 σ) := by
  unfold f_X4_takePlain_158
  exact (wr_X4_takePlain_159 (by omega) (by omega) h)
theorem wr_X4_takePlain_137 {B0 T0 : Nat} {s : ST} {b : Nat} {t : Nat} {x1 : Int32} {x2 : Int32} {x3 : Int32} {x4 : Int32} {x6 : Int32} {x7 : Int64} {σ : ST}  (h_b : B0 = b) (h_t : T0 = t) (h : KRA B0 T0 s σ) : PF st0 (KRA B0 T0 s) (f_X4_takePlain_137 b t x1 x2 x3 x4 x6 x7 σ) := by
  unfold f_X4_takePlain_137
  exact (PF.ite (fun _ => (wr_X4_takePlain_158 (by omega) (by omega) h)) (fun _ => (PF.bnd (wr_X5_sortOf  h) (fun q1 hq1 => (PF.ite (fun _ => (wr_X4_takePlain_159 (by omega) (by omega) hq1)) (fun _ => (wr_X4_takePlain_158 (by omega) (by omega) hq1)))))))
theorem wr_X10_isInt {B0 T0 : Nat} {s : ST} {p0 : Int64} {σ : ST}   (h : KRA B0 T0 s σ) : PF st1 (KRA B0 T0 s) (f_X10_isInt p0 σ) := by
  unfold f_X10_isInt
  exact (PF.ite (fun _ => (PF.ret1 h)) (fun _ => (PF.ite (fun _ => (PF.ret1 h)) (fun _ => (PF.ret1 h)))))
theorem wr_X4_takeReal_44 {B0 T0 : Nat} {s : ST} {b : Nat} {t : Nat} {x1 : Int64} {y0 : Int32} {σ : ST}   (h : KRA B0 T0 s σ) : PF st1 (KRA B0 T0 s) (f_X4_takeReal_44 b t x1 y0 σ) := by
  unfold f_X4_takeReal_44
  exact (PF.ite (fun _ => (PF.ret1 h)) (fun _ => (PF.ret1 h)))
theorem wr_X4_takeReal_4 {B0 T0 : Nat} {s : ST} {b : Nat} {t : Nat}  (h_b : B0 = b) : ∀ (n : Nat) (x1 : Int64) (x2 : Int32) (σ : ST), KRA B0 T0 s σ → PF st1 (KRA B0 T0 s) (f_X4_takeReal_4 b t n x1 x2 σ) := by
  intro n
  induction n with
  | zero => intro x1 x2 σ h; rw [f_X4_takeReal_4]; exact PF.none
  | succ n ih =>
    intro x1 x2 σ h
    rw [f_X4_takeReal_4]
    exact (PF.ite (fun _ => (PF.ite (fun _ => (wr_X4_takeReal_44  h)) (fun _ => (wr_X4_takeReal_44  h)))) (fun _ => (PF.bnd (wr_X4_takeByte (by omega) h) (fun q1 hq1 => (ih _ _ _ hq1)))))
theorem wr_X4_takeReal {B0 T0 : Nat} {s : ST} {b : Nat} {t : Nat} {σ : ST}  (h_b : B0 = b) (h : KRA B0 T0 s σ) : PF st1 (KRA B0 T0 s) (f_X4_takeReal b t σ) := by
  unfold f_X4_takeReal
  exact (wr_X4_takeReal_4 (by omega) _ _ _ _ h)
theorem wr_X4_takeLetters_45 {B0 T0 : Nat} {s : ST} {k5 : Int32 → Int32 → Int64 → Int32 → ST → Option (Int64 × ST)} {b : Nat} {t : Nat} {x1 : Int32} {x2 : Int32} {x3 : Int64} {x5 : Int32} {x6 : Int32} {σ : ST} (h_k5 : ∀ (x1 : Int32) (x2 : Int32) (x3 : Int64) (x4 : Int32) (σ : ST), KRA B0 T0 s σ → PF st1 (KRA B0 T0 s) (k5 x1 x2 x3 x4 σ))  (h : KRA B0 T0 s σ) : PF st1 (KRA B0 T0 s) (f_X4_takeLetters_45 k5 b t x1 x2 x3 x5 x6 σ) := by
  unfold f_X4_takeLetters_45
  exact (PF.val (h_k5 _ _ _ _ _ h))
theorem wr_X4_takeLetters_38 {B0 T0 : Nat} {s : ST} {k5 : Int32 → Int32 → Int64 → Int32 → ST → Option (Int64 × ST)} {b : Nat} {t : Nat} {x1 : Int32} {x2 : Int32} {x3 : Int64} {x5 : Int32} {x6 : Int32} {σ : ST} (h_k5 : ∀ (x1 : Int32) (x2 : Int32) (x3 : Int64) (x4 : Int32) (σ : ST), KRA B0 T0 s σ → PF st1 (KRA B0 T0 s) (k5 x1 x2 x3 x4 σ)) (h_b : B0 = b) (h : KRA B0 T0 s σ) : PF st1 (KRA B0 T0 s) (f_X4_takeLetters_38 k5 b t x1 x2 x3 x5 x6 σ) := by
  unfold f_X4_takeLetters_38
  exact (PF.bnd (wr_X4_fail (by omega) h) (fun q1 hq1 => (wr_X4_takeLetters_45 h_k5 hq1)))
theorem wr_X4_takeLetters_5 {B0 T0 : Nat} {s : ST} {b : Nat} {t : Nat}  (h_b : B0 = b) : ∀ (n : Nat) (x1 : Int32) (x2 : Int32) (x3 : Int64) (x4 : Int32) (σ : ST), KRA B0 T0 s σ → PF st1 (KRA B0 T0 s) (f_X4_takeLetters_5 b t n x1 x2 x3 x4 σ) := by
  intro n
  induction n with
  | zero => intro x1 x2 x3 x4 σ h; rw [f_X4_takeLetters_5]; exact PF.none
  | succ n ih =>
    intro x1 x2 x3 x4 σ h
    rw [f_X4_takeLetters_5]
    exact (PF.ite (fun _ => (PF.ret1 h)) (fun _ => (PF.ite (fun _ => (PF.bnd (wr_X4_takeByte (by omega) h) (fun q1 hq1 => (PF.ite (fun _ => (wr_X4_takeLetters_38 ih (by omega) hq1)) (fun _ => (PF.ite (fun _ => (wr_X4_takeLetters_45 ih hq1)) (fun _ => (wr_X4_takeLetters_38 ih (by omega) hq1)))))))) (fun _ => (PF.ret1 h)))))
theorem wr_X4_takeLetters {B0 T0 : Nat} {s : ST} {b : Nat} {t : Nat} {p0 : Int32} {p1 : Int32} {σ : ST}  (h_b : B0 = b) (h : KRA B0 T0 s σ) : PF st1 (KRA B0 T0 s) (f_X4_takeLetters b t p0 p1 σ) := by
  unfold f_X4_takeLetters
  exact (wr_X4_takeLetters_5 (by omega) _ _ _ _ _ _ h)
theorem wr_X4_takePlain {B0 T0 : Nat} {s : ST} {b : Nat} {t : Nat} {p0 : Int32} {p1 : Int32} {p2 : Int32} {p3 : Int32} {σ : ST}  (h_b : B0 = b) (h_t : T0 = t) (h : KRA B0 T0 s σ) : PF st0 (KRA B0 T0 s) (f_X4_takePlain b t p0 p1 p2 p3 σ) := by
  unfold f_X4_takePlain
  exact (PF.ite (fun _ => (PF.bnd (wr_X4_takeByte (by omega) h) (fun q6 hq6 => (PF.ite (fun _ => (wr_X4_takePlain_137 (by omega) (by omega) hq6)) (fun _ => (PF.bnd (wr_X4_fail (by omega) hq6) (fun q8 hq8 => (wr_X4_takePlain_137 (by omega) (by omega) hq8)))))))) (fun _ => (PF.ite (fun _ => (PF.bnd (wr_X4_takeNumber (by omega) h) (fun q10 hq10 => (PF.ite (fun _ => (PF.bnd (wr_X10_isInt  hq10) (fun q12 hq12 => (PF.ite (fun _ => (PF.bnd (wr_X4_fail (by omega) hq12) (fun q14 hq14 => (wr_X4_takePlain_137 (by omega) (by omega) hq14)))) (fun _ => (wr_X4_takePlain_137 (by omega) (by omega) hq12)))))) (fun _ => (wr_X4_takePlain_137 (by omega) (by omega) hq10)))))) (fun _ => (PF.ite (fun _ => (PF.bnd (wr_X4_takeNumber (by omega) h) (fun q16 hq16 => (PF.ite (fun _ => (PF.bnd (wr_X10_isInt  hq16) (fun q18 hq18 => (PF.ite (fun _ => (PF.bnd (wr_X4_fail (by omega) hq18) (fun q20 hq20 => (wr_X4_takePlain_137 (by omega) (by omega) hq20)))) (fun _ => (wr_X4_takePlain_137 (by omega) (by omega) hq18)))))) (fun _ => (wr_X4_takePlain_137 (by omega) (by omega) hq16)))))) (fun _ => (PF.ite (fun _ => (PF.bnd (wr_X4_takeReal (by omega) h) (fun q22 hq22 => (wr_X4_takePlain_137 (by omega) (by omega) hq22)))) (fun _ => (PF.ite (fun _ => (PF.bnd (wr_X4_takeCount (by omega) h) (fun q24 hq24 => (PF.bnd (wr_X4_takeLetters (by omega) hq24) (fun q26 hq26 => (wr_X4_takePlain_137 (by omega) (by omega) hq26)))))) (fun _ => (wr_X4_takePlain_137 (by omega) (by omega) h)))))))))))
theorem wr_X4_takeOwn_26 {B0 T0 : Nat} {s : ST} {r_X4_take : Nat → Nat → Int32 → Int32 → Int32 → Int32 → Int32 → ST → Option (ST)} {r_X4_takeField : Nat → Nat → Int32 → Int32 → Int32 → Int32 → Int32 → ST → Option (ST)} {r_X4_takeList : Nat → Nat → Int32 → Int32 → Int32 → Int32 → Int32 → ST → Option (ST)} {r_X4_takeOwn : Nat → Nat → Int32 → Int32 → Int32 → Int32 → Int32 → ST → Option (ST)} {r_X4_takeRecord : Nat → Nat → Int32 → Int32 → Int32 → Int32 → Int32 → ST → Option (ST)} {b : Nat} {t : Nat} {x1 : Int32} {x3 : Int32} {x4 : Int32} {x5 : Int32} {y0 : Int32} {σ : ST} (h_r_X4_take : ∀ (x1 : Nat) (x2 : Nat) (x3 : Int32) (x4 : Int32) (x5 : Int32) (x6 : Int32) (x7 : Int32) (σ : ST), B0 = x1 → T0 = x2 → KRA B0 T0 s σ → PF st0 (KRA B0 T0 s) (r_X4_take x1 x2 x3 x4 x5 x6 x7 σ)) (h_r_X4_takeField : ∀ (x1 : Nat) (x2 : Nat) (x3 : Int32) (x4 : Int32) (x5 : Int32) (x6 : Int32) (x7 : Int32) (σ : ST), B0 = x1 → T0 = x2 → KRA B0 T0 s σ → PF st0 (KRA B0 T0 s) (r_X4_takeField x1 x2 x3 x4 x5 x6 x7 σ)) (h_r_X4_takeList : ∀ (x1 : Nat) (x2 : Nat) (x3 : Int32) (x4 : Int32) (x5 : Int32) (x6 : Int32) (x7 : Int32) (σ : ST), B0 = x1 → T0 = x2 → KRA B0 T0 s σ → PF st0 (KRA B0 T0 s) (r_X4_takeList x1 x2 x3 x4 x5 x6 x7 σ)) (h_r_X4_takeOwn : ∀ (x1 : Nat) (x2 : Nat) (x3 : Int32) (x4 : Int32) (x5 : Int32) (x6 : Int32) (x7 : Int32) (σ : ST), B0 = x1 → T0 = x2 → KRA B0 T0 s σ → PF st0 (KRA B0 T0 s) (r_X4_takeOwn x1 x2 x3 x4 x5 x6 x7 σ)) (h_r_X4_takeRecord : ∀ (x1 : Nat) (x2 : Nat) (x3 : Int32) (x4 : Int32) (x5 : Int32) (x6 : Int32) (x7 : Int32) (σ : ST), B0 = x1 → T0 = x2 → KRA B0 T0 s σ → PF st0 (KRA B0 T0 s) (r_X4_takeRecord x1 x2 x3 x4 x5 x6 x7 σ)) (h_b : B0 = b) (h_t : T0 = t) (h : KRA B0 T0 s σ) : PF st0 (KRA B0 T0 s) (f_X4_takeOwn_26 r_X4_take r_X4_takeField r_X4_takeList r_X4_takeOwn r_X4_takeRecord b t x1 x3 x4 x5 y0 σ) := by
  unfold f_X4_takeOwn_26
  exact (PF.bnd (wr_X5_sortOf  h) (fun q1 hq1 => (PF.ite (fun _ => (PF.bnd (wr_X5_innerOf  hq1) (fun q9 hq9 => (PF.bnd (h_r_X4_takeRecord _ _ _ _ _ _ _ _ (by omega) (by omega) hq9) (fun q11 hq11 => (PF.ret0 hq11)))))) (fun _ => (PF.ite (fun _ => (PF.bnd (wr_X5_innerOf  hq1) (fun q5 hq5 => (PF.bnd (h_r_X4_takeList _ _ _ _ _ _ _ _ (by omega) (by omega) hq5) (fun q7 hq7 => (PF.ret0 hq7)))))) (fun _ => (PF.bnd (wr_X4_takePlain (by omega) (by omega) hq1) (fun q3 hq3 => (PF.ret0 hq3)))))))))
theorem wr_X4_takeOwn {B0 T0 : Nat} {s : ST} {r_X4_take : Nat → Nat → Int32 → Int32 → Int32 → Int32 → Int32 → ST → Option (ST)} {r_X4_takeField : Nat → Nat → Int32 → Int32 → Int32 → Int32 → Int32 → ST → Option (ST)} {r_X4_takeList : Nat → Nat → Int32 → Int32 → Int32 → Int32 → Int32 → ST → Option (ST)} {r_X4_takeOwn : Nat → Nat → Int32 → Int32 → Int32 → Int32 → Int32 → ST → Option (ST)} {r_X4_takeRecord : Nat → Nat → Int32 → Int32 → Int32 → Int32 → Int32 → ST → Option (ST)} {b : Nat} {t : Nat} {p0 : Int32} {p1 : Int32} {p2 : Int32} {p3 : Int32} {p4 : Int32} {σ : ST} (h_r_X4_take : ∀ (x1 : Nat) (x2 : Nat) (x3 : Int32) (x4 : Int32) (x5 : Int32) (x6 : Int32) (x7 : Int32) (σ : ST), B0 = x1 → T0 = x2 → KRA B0 T0 s σ → PF st0 (KRA B0 T0 s) (r_X4_take x1 x2 x3 x4 x5 x6 x7 σ)) (h_r_X4_takeField : ∀ (x1 : Nat) (x2 : Nat) (x3 : Int32) (x4 : Int32) (x5 : Int32) (x6 : Int32) (x7 : Int32) (σ : ST), B0 = x1 → T0 = x2 → KRA B0 T0 s σ → PF st0 (KRA B0 T0 s) (r_X4_takeField x1 x2 x3 x4 x5 x6 x7 σ)) (h_r_X4_takeList : ∀ (x1 : Nat) (x2 : Nat) (x3 : Int32) (x4 : Int32) (x5 : Int32) (x6 : Int32) (x7 : Int32) (σ : ST), B0 = x1 → T0 = x2 → KRA B0 T0 s σ → PF st0 (KRA B0 T0 s) (r_X4_takeList x1 x2 x3 x4 x5 x6 x7 σ)) (h_r_X4_takeOwn : ∀ (x1 : Nat) (x2 : Nat) (x3 : Int32) (x4 : Int32) (x5 : Int32) (x6 : Int32) (x7 : Int32) (σ : ST), B0 = x1 → T0 = x2 → KRA B0 T0 s σ → PF st0 (KRA B0 T0 s) (r_X4_takeOwn x1 x2 x3 x4 x5 x6 x7 σ)) (h_r_X4_takeRecord : ∀ (x1 : Nat) (x2 : Nat) (x3 : Int32) (x4 : Int32) (x5 : Int32) (x6 : Int32) (x7 : Int32) (σ : ST), B0 = x1 → T0 = x2 → KRA B0 T0 s σ → PF st0 (KRA B0 T0 s) (r_X4_takeRecord x1 x2 x3 x4 x5 x6 x7 σ)) (h_b : B0 = b) (h_t : T0 = t) (h : KRA B0 T0 s σ) : PF st0 (KRA B0 T0 s) (f_X4_takeOwn r_X4_take r_X4_takeField r_X4_takeList r_X4_takeOwn r_X4_takeRecord b t p0 p1 p2 p3 p4 σ) := by
  unfold f_X4_takeOwn
  exact (PF.bnd (wr_X5_sortOf  h) (fun q1 hq1 => (PF.ite (fun _ => (PF.bnd (wr_X0_chosen  hq1) (fun q3 hq3 => (wr_X4_takeOwn_26 h_r_X4_take h_r_X4_takeField h_r_X4_takeList h_r_X4_takeOwn h_r_X4_takeRecord (by omega) (by omega) hq3)))) (fun _ => (wr_X4_takeOwn_26 h_r_X4_take h_r_X4_takeField h_r_X4_takeList h_r_X4_takeOwn h_r_X4_takeRecord (by omega) (by omega) hq1)))))
theorem wr_X4_findSources_56 {B0 T0 : Nat} {s : ST} {k3 : Int32 → Int32 → Int32 → Int32 → ST → Option (ST)} {b : Nat} {t : Nat} {x1 : Int32} {x2 : Int32} {x3 : Int32} {x4 : Int32} {σ : ST} (h_k3 : ∀ (x1 : Int32) (x2 : Int32) (x3 : Int32) (x4 : Int32) (σ : ST), KRA B0 T0 s σ → PF st0 (KRA B0 T0 s) (k3 x1 x2 x3 x4 σ))  (h : KRA B0 T0 s σ) : PF st0 (KRA B0 T0 s) (f_X4_findSources_56 k3 b t x1 x2 x3 x4 σ) := by
  unfold f_X4_findSources_56
  exact (h_k3 _ _ _ _ _ h)
theorem wr_X5_fieldName {B0 T0 : Nat} {s : ST} {b : Nat} {p0 : Int32} {p1 : Int32} {σ : ST}   (h : KRA B0 T0 s σ) : PF st1 (KRA B0 T0 s) (f_X5_fieldName b p0 p1 σ) := by
  unfold f_X5_fieldName
  exact (PF.bnd (wr_X5_isFieldOf  h) (fun q1 hq1 => (PF.ite (fun _ => (PF.ret1 hq1)) (fun _ => (PF.ite (fun _ => (PF.ret1 hq1)) (fun _ => PF.none))))))
theorem wr_X5_fieldNamed_29 {B0 T0 : Nat} {s : ST} {b : Nat}   : ∀ (n : Nat) (x1 : Int64) (x2 : Int32) (x3 : Int32) (x4 : Int32) (σ : ST), KRA B0 T0 s σ → PF st1 (KRA B0 T0 s) (f_X5_fieldNamed_29 b n x1 x2 x3 x4 σ) := by
  intro n
  induction n with
  | zero => intro x1 x2 x3 x4 σ h; rw [f_X5_fieldNamed_29]; exact PF.none
  | succ n ih =>
    intro x1 x2 x3 x4 σ h
    rw [f_X5_fieldNamed_29]
    exact (PF.ite (fun _ => (PF.ret1 h)) (fun _ => (PF.ite (fun _ => (PF.ret1 h)) (fun _ => (PF.ite (fun _ => (PF.ite (fun _ => (PF.ret1 h)) (fun _ => (ih _ _ _ _ _ h)))) (fun _ => PF.none))))))
theorem wr_X5_fieldNamed_24 {B0 T0 : Nat} {s : ST} {b : Nat} {x2 : Int64} {x4 : Int32} {y0 : Int32} {σ : ST}   (h : KRA B0 T0 s σ) : PF st1 (KRA B0 T0 s) (f_X5_fieldNamed_24 b x2 x4 y0 σ) := by
  unfold f_X5_fieldNamed_24
  exact (wr_X5_fieldNamed_29  _ _ _ _ _ _ h)
theorem wr_X5_fieldNamed {B0 T0 : Nat} {s : ST} {b : Nat} {p0 : Int32} {p1 : Int64} {σ : ST}   (h : KRA B0 T0 s σ) : PF st1 (KRA B0 T0 s) (f_X5_fieldNamed b p0 p1 σ) := by
  unfold f_X5_fieldNamed
  exact (PF.bnd (wr_X5_isFieldOf  h) (fun q1 hq1 => (PF.ite (fun _ => (wr_X5_fieldNamed_24  hq1)) (fun _ => (PF.ite (fun _ => (wr_X5_fieldNamed_24  hq1)) (fun _ => PF.none))))))
theorem wr_X5_formerName {B0 T0 : Nat} {s : ST} {b : Nat} {p0 : Int32} {p1 : Int32} {σ : ST}   (h : KRA B0 T0 s σ) : PF st1 (KRA B0 T0 s) (f_X5_formerName b p0 p1 σ) := by
  unfold f_X5_formerName
  exact (PF.bnd (wr_X5_isFieldOf  h) (fun q1 hq1 => (PF.ite (fun _ => (PF.ret1 hq1)) (fun _ => (PF.ite (fun _ => (PF.ret1 hq1)) (fun _ => PF.none))))))
theorem wr_X5_sourceOf {B0 T0 : Nat} {s : ST} {b : Nat} {p0 : Int32} {p1 : Int32} {p2 : Int32} {σ : ST}   (h : KRA B0 T0 s σ) : PF st1 (KRA B0 T0 s) (f_X5_sourceOf b p0 p1 p2 σ) := by
  unfold f_X5_sourceOf
  exact (PF.bnd (wr_X5_fieldName  h) (fun q1 hq1 => (PF.bnd (wr_X5_fieldNamed  hq1) (fun q3 hq3 => (PF.bnd (wr_X5_formerName  hq3) (fun q5 hq5 => (PF.ite (fun _ => (PF.ite (fun _ => (PF.ret1 hq5)) (fun _ => (PF.bnd (wr_X5_fieldNamed  hq5) (fun q7 hq7 => (PF.ret1 hq7)))))) (fun _ => (PF.ret1 hq5)))))))))
theorem wr_X4_findSources_3 {B0 T0 : Nat} {s : ST} {b : Nat} {t : Nat}  (h_b : B0 = b) : ∀ (n : Nat) (x1 : Int32) (x2 : Int32) (x3 : Int32) (x4 : Int32) (σ : ST), KRA B0 T0 s σ → PF st0 (KRA B0 T0 s) (f_X4_findSources_3 b t n x1 x2 x3 x4 σ) := by
  intro n
  induction n with
  | zero => intro x1 x2 x3 x4 σ h; rw [f_X4_findSources_3]; exact PF.none
  | succ n ih =>
    intro x1 x2 x3 x4 σ h
    rw [f_X4_findSources_3]
    exact (PF.bnd (wr_X5_fieldsOf  h) (fun q1 hq1 => (PF.ite (fun _ => (PF.ret0 hq1)) (fun _ => (PF.ite (fun _ => (wr_X4_findSources_56 ih hq1)) (fun _ => (PF.ite (fun _ => (wr_X4_findSources_56 ih hq1)) (fun _ => (PF.ite (fun _ => (wr_X4_findSources_56 ih hq1)) (fun _ => (PF.bnd (wr_X5_sourceOf  hq1) (fun q3 hq3 => (PF.ite (fun _ => (wr_X4_findSources_56 ih (KRA.i (by omega) hq3))) (fun _ => PF.none))))))))))))))
theorem wr_X4_findSources {B0 T0 : Nat} {s : ST} {b : Nat} {t : Nat} {p0 : Int32} {p1 : Int32} {p2 : Int32} {σ : ST}  (h_b : B0 = b) (h : KRA B0 T0 s σ) : PF st0 (KRA B0 T0 s) (f_X4_findSources b t p0 p1 p2 σ) := by
  unfold f_X4_findSources
  exact (wr_X4_findSources_3 (by omega) _ _ _ _ _ _ h)
theorem wr_X5_firstChoice {B0 T0 : Nat} {s : ST} {b : Nat} {p0 : Int32} {σ : ST}   (h : KRA B0 T0 s σ) : PF st1 (KRA B0 T0 s) (f_X5_firstChoice b p0 σ) := by
  unfold f_X5_firstChoice
  exact (PF.bnd (wr_X5_sortOf  h) (fun q1 hq1 => (PF.ite (fun _ => (PF.bnd (wr_X5_innerOf  hq1) (fun q3 hq3 => (PF.ret1 hq3)))) (fun _ => (PF.ret1 hq1)))))
theorem wr_X5_elseWorth {B0 T0 : Nat} {s : ST} {b : Nat} {p0 : Int32} {p1 : Int32} {σ : ST}   (h : KRA B0 T0 s σ) : PF st1 (KRA B0 T0 s) (f_X5_elseWorth b p0 p1 σ) := by
  unfold f_X5_elseWorth
  exact (PF.bnd (wr_X5_isFieldOf  h) (fun q1 hq1 => (PF.ite (fun _ => (PF.ret1 hq1)) (fun _ => (PF.ite (fun _ => (PF.ret1 hq1)) (fun _ => PF.none))))))
theorem wr_X10_letterOf_10 {B0 T0 : Nat} {s : ST}  {σ : ST}   (h : KRA B0 T0 s σ) : PF st1 (KRA B0 T0 s) (f_X10_letterOf_10 σ) := by
  unfold f_X10_letterOf_10
  exact (PF.ret1 h)
theorem wr_X10_letterOf {B0 T0 : Nat} {s : ST} {p0 : Int64} {p1 : Int32} {σ : ST}   (h : KRA B0 T0 s σ) : PF st1 (KRA B0 T0 s) (f_X10_letterOf p0 p1 σ) := by
  unfold f_X10_letterOf
  exact (PF.ite (fun _ => (wr_X10_letterOf_10  h)) (fun _ => (PF.ite (fun _ => (PF.ret1 h)) (fun _ => (wr_X10_letterOf_10  h)))))
theorem wr_X10_lettersIn_2 {B0 T0 : Nat} {s : ST}    : ∀ (n : Nat) (x1 : Int64) (x2 : Int32) (σ : ST), KRA B0 T0 s σ → PF st1 (KRA B0 T0 s) (f_X10_lettersIn_2  n x1 x2 σ) := by
  intro n
  induction n with
  | zero => intro x1 x2 σ h; rw [f_X10_lettersIn_2]; exact PF.none
  | succ n ih =>
    intro x1 x2 σ h
    rw [f_X10_lettersIn_2]
    exact (PF.ite (fun _ => (PF.ret1 h)) (fun _ => (PF.bnd (wr_X10_letterOf  h) (fun q1 hq1 => (PF.ite (fun _ => (PF.ret1 hq1)) (fun _ => (ih _ _ _ hq1)))))))
theorem wr_X10_lettersIn {B0 T0 : Nat} {s : ST} {p0 : Int64} {σ : ST}   (h : KRA B0 T0 s σ) : PF st1 (KRA B0 T0 s) (f_X10_lettersIn p0 σ) := by
  unfold f_X10_lettersIn
  exact (wr_X10_lettersIn_2  _ _ _ _ h)
theorem wr_X7_setFilled {B0 T0 : Nat} {s : ST} {b : Nat} {p0 : Int32} {σ : ST}  (h_b : T0 = b) (h : KRA B0 T0 s σ) : PF st0 (KRA B0 T0 s) (f_X7_setFilled b p0 σ) := by
  unfold f_X7_setFilled
  exact (PF.bnd (wr_X7_isRow  h) (fun q1 hq1 => (PF.ite (fun _ => (PF.ret0 hq1)) (fun _ => (PF.ite (fun _ => (PF.ret0 (KRA.i (by omega) hq1))) (fun _ => PF.none))))))
theorem wr_X4_fillIn_51 {B0 T0 : Nat} {s : ST} {b : Nat} {t : Nat} {x2 : Int32} {x3 : Int32} {x4 : Int32} {x5 : Int64} {y0 : Int32} {σ : ST}  (h_b : B0 = b) (h_t : T0 = t) (h : KRA B0 T0 s σ) : PF st0 (KRA B0 T0 s) (f_X4_fillIn_51 b t x2 x3 x4 x5 y0 σ) := by
  unfold f_X4_fillIn_51
  exact (PF.ite (fun _ => (PF.bnd (wr_X4_addNode (by omega) (by omega) h) (fun q2 hq2 => (PF.bnd (wr_X7_setFilled (by omega) hq2) (fun q4 hq4 => (PF.ret0 hq4)))))) (fun _ => PF.none))
theorem wr_X4_fillIn {B0 T0 : Nat} {s : ST} {b : Nat} {t : Nat} {p0 : Int32} {p1 : Int32} {p2 : Int32} {σ : ST}  (h_b : B0 = b) (h_t : T0 = t) (h : KRA B0 T0 s σ) : PF st0 (KRA B0 T0 s) (f_X4_fillIn b t p0 p1 p2 σ) := by
  unfold f_X4_fillIn
  exact (PF.bnd (wr_X5_typeOf  h) (fun q1 hq1 => (PF.bnd (wr_X5_firstChoice  hq1) (fun q3 hq3 => (PF.bnd (wr_X5_elseWorth  hq3) (fun q5 hq5 => (PF.bnd (wr_X5_sortOf  hq5) (fun q7 hq7 => (PF.ite (fun _ => (PF.bnd (wr_X10_lettersIn  hq7) (fun q9 hq9 => (wr_X4_fillIn_51 (by omega) (by omega) hq9)))) (fun _ => (wr_X4_fillIn_51 (by omega) (by omega) hq7)))))))))))
theorem wr_X4_takeRecord_155 {B0 T0 : Nat} {s : ST} {r_X4_take : Nat → Nat → Int32 → Int32 → Int32 → Int32 → Int32 → ST → Option (ST)} {r_X4_takeField : Nat → Nat → Int32 → Int32 → Int32 → Int32 → Int32 → ST → Option (ST)} {r_X4_takeList : Nat → Nat → Int32 → Int32 → Int32 → Int32 → Int32 → ST → Option (ST)} {r_X4_takeOwn : Nat → Nat → Int32 → Int32 → Int32 → Int32 → Int32 → ST → Option (ST)} {r_X4_takeRecord : Nat → Nat → Int32 → Int32 → Int32 → Int32 → Int32 → ST → Option (ST)} {k112 : Int32 → Int32 → Int32 → Int32 → ST → Option (ST)} {b : Nat} {t : Nat} {x5 : Int32} {x6 : Int32} {x7 : Int32} {x8 : Int32} {σ : ST} (h_r_X4_take : ∀ (x1 : Nat) (x2 : Nat) (x3 : Int32) (x4 : Int32) (x5 : Int32) (x6 : Int32) (x7 : Int32) (σ : ST), B0 = x1 → T0 = x2 → KRA B0 T0 s σ → PF st0 (KRA B0 T0 s) (r_X4_take x1 x2 x3 x4 x5 x6 x7 σ)) (h_r_X4_takeField : ∀ (x1 : Nat) (x2 : Nat) (x3 : Int32) (x4 : Int32) (x5 : Int32) (x6 : Int32) (x7 : Int32) (σ : ST), B0 = x1 → T0 = x2 → KRA B0 T0 s σ → PF st0 (KRA B0 T0 s) (r_X4_takeField x1 x2 x3 x4 x5 x6 x7 σ)) (h_r_X4_takeList : ∀ (x1 : Nat) (x2 : Nat) (x3 : Int32) (x4 : Int32) (x5 : Int32) (x6 : Int32) (x7 : Int32) (σ : ST), B0 = x1 → T0 = x2 → KRA B0 T0 s σ → PF st0 (KRA B0 T0 s) (r_X4_takeList x1 x2 x3 x4 x5 x6 x7 σ)) (h_r_X4_takeOwn : ∀ (x1 : Nat) (x2 : Nat) (x3 : Int32) (x4 : Int32) (x5 : Int32) (x6 : Int32) (x7 : Int32) (σ : ST), B0 = x1 → T0 = x2 → KRA B0 T0 s σ → PF st0 (KRA B0 T0 s) (r_X4_takeOwn x1 x2 x3 x4 x5 x6 x7 σ)) (h_r_X4_takeRecord : ∀ (x1 : Nat) (x2 : Nat) (x3 : Int32) (x4 : Int32) (x5 : Int32) (x6 : Int32) (x7 : Int32) (σ : ST), B0 = x1 → T0 = x2 → KRA B0 T0 s σ → PF st0 (KRA B0 T0 s) (r_X4_takeRecord x1 x2 x3 x4 x5 x6 x7 σ)) (h_k112 : ∀ (x1 : Int32) (x2 : Int32) (x3 : Int32) (x4 : Int32) (σ : ST), KRA B0 T0 s σ → PF st0 (KRA B0 T0 s) (k112 x1 x2 x3 x4 σ))  (h : KRA B0 T0 s σ) : PF st0 (KRA B0 T0 s) (f_X4_takeRecord_155 r_X4_take r_X4_takeField r_X4_takeList r_X4_takeOwn r_X4_takeRecord k112 b t x5 x6 x7 x8 σ) := by
  unfold f_X4_takeRecord_155
  exact (h_k112 _ _ _ _ _ h)
theorem wr_X4_takeRecord_112 {B0 T0 : Nat} {s : ST} {r_X4_take : Nat → Nat → Int32 → Int32 → Int32 → Int32 → Int32 → ST → Option (ST)} {r_X4_takeField : Nat → Nat → Int32 → Int32 → Int32 → Int32 → Int32 → ST → Option (ST)} {r_X4_takeList : Nat → Nat → Int32 → Int32 → Int32 → Int32 → Int32 → ST → Option (ST)} {r_X4_takeOwn : Nat → Nat → Int32 → Int32 → Int32 → Int32 → Int32 → ST → Option (ST)} {r_X4_takeRecord : Nat → Nat → Int32 → Int32 → Int32 → Int32 → Int32 → ST → Option (ST)} {b : Nat} {t : Nat} (h_r_X4_take : ∀ (x1 : Nat) (x2 : Nat) (x3 : Int32) (x4 : Int32) (x5 : Int32) (x6 : Int32) (x7 : Int32) (σ : ST), B0 = x1 → T0 = x2 → KRA B0 T0 s σ → PF st0 (KRA B0 T0 s) (r_X4_take x1 x2 x3 x4 x5 x6 x7 σ)) (h_r_X4_takeField : ∀ (x1 : Nat) (x2 : Nat) (x3 : Int32) (x4 : Int32) (x5 : Int32) (x6 : Int32) (x7 : Int32) (σ : ST), B0 = x1 → T0 = x2 → KRA B0 T0 s σ → PF st0 (KRA B0 T0 s) (r_X4_takeField x1 x2 x3 x4 x5 x6 x7 σ)) (h_r_X4_takeList : ∀ (x1 : Nat) (x2 : Nat) (x3 : Int32) (x4 : Int32) (x5 : Int32) (x6 : Int32) (x7 : Int32) (σ : ST), B0 = x1 → T0 = x2 → KRA B0 T0 s σ → PF st0 (KRA B0 T0 s) (r_X4_takeList x1 x2 x3 x4 x5 x6 x7 σ)) (h_r_X4_takeOwn : ∀ (x1 : Nat) (x2 : Nat) (x3 : Int32) (x4 : Int32) (x5 : Int32) (x6 : Int32) (x7 : Int32) (σ : ST), B0 = x1 → T0 = x2 → KRA B0 T0 s σ → PF st0 (KRA B0 T0 s) (r_X4_takeOwn x1 x2 x3 x4 x5 x6 x7 σ)) (h_r_X4_takeRecord : ∀ (x1 : Nat) (x2 : Nat) (x3 : Int32) (x4 : Int32) (x5 : Int32) (x6 : Int32) (x7 : Int32) (σ : ST), B0 = x1 → T0 = x2 → KRA B0 T0 s σ → PF st0 (KRA B0 T0 s) (r_X4_takeRecord x1 x2 x3 x4 x5 x6 x7 σ)) (h_b : B0 = b) (h_t : T0 = t) : ∀ (n : Nat) (x1 : Int32) (x2 : Int32) (x3 : Int32) (x4 : Int32) (σ : ST), KRA B0 T0 s σ → PF st0 (KRA B0 T0 s) (f_X4_takeRecord_112 r_X4_take r_X4_takeField r_X4_takeList r_X4_takeOwn r_X4_takeRecord b t n x1 x2 x3 x4 σ) := by
  intro n
  induction n with
  | zero => intro x1 x2 x3 x4 σ h; rw [f_X4_takeRecord_112]; exact PF.none
  | succ n ih =>
    intro x1 x2 x3 x4 σ h
    rw [f_X4_takeRecord_112]
    exact (PF.bnd (wr_X5_fieldsOf  h) (fun q1 hq1 => (PF.ite (fun _ => (PF.ret0 hq1)) (fun _ => (PF.ite (fun _ => (PF.bnd (wr_X4_sourceAt  hq1) (fun q3 hq3 => (PF.ite (fun _ => (PF.bnd (wr_X4_fillIn (by omega) (by omega) hq3) (fun q5 hq5 => (wr_X4_takeRecord_155 h_r_X4_take h_r_X4_takeField h_r_X4_takeList h_r_X4_takeOwn h_r_X4_takeRecord ih hq5)))) (fun _ => (wr_X4_takeRecord_155 h_r_X4_take h_r_X4_takeField h_r_X4_takeList h_r_X4_takeOwn h_r_X4_takeRecord ih hq3)))))) (fun _ => (PF.ret0 hq1)))))))
theorem wr_X4_takeRecord_109 {B0 T0 : Nat} {s : ST} {r_X4_take : Nat → Nat → Int32 → Int32 → Int32 → Int32 → Int32 → ST → Option (ST)} {r_X4_takeField : Nat → Nat → Int32 → Int32 → Int32 → Int32 → Int32 → ST → Option (ST)} {r_X4_takeList : Nat → Nat → Int32 → Int32 → Int32 → Int32 → Int32 → ST → Option (ST)} {r_X4_takeOwn : Nat → Nat → Int32 → Int32 → Int32 → Int32 → Int32 → ST → Option (ST)} {r_X4_takeRecord : Nat → Nat → Int32 → Int32 → Int32 → Int32 → Int32 → ST → Option (ST)} {b : Nat} {t : Nat} {x5 : Int32} {x6 : Int32} {x7 : Int32} {σ : ST} (h_r_X4_take : ∀ (x1 : Nat) (x2 : Nat) (x3 : Int32) (x4 : Int32) (x5 : Int32) (x6 : Int32) (x7 : Int32) (σ : ST), B0 = x1 → T0 = x2 → KRA B0 T0 s σ → PF st0 (KRA B0 T0 s) (r_X4_take x1 x2 x3 x4 x5 x6 x7 σ)) (h_r_X4_takeField : ∀ (x1 : Nat) (x2 : Nat) (x3 : Int32) (x4 : Int32) (x5 : Int32) (x6 : Int32) (x7 : Int32) (σ : ST), B0 = x1 → T0 = x2 → KRA B0 T0 s σ → PF st0 (KRA B0 T0 s) (r_X4_takeField x1 x2 x3 x4 x5 x6 x7 σ)) (h_r_X4_takeList : ∀ (x1 : Nat) (x2 : Nat) (x3 : Int32) (x4 : Int32) (x5 : Int32) (x6 : Int32) (x7 : Int32) (σ : ST), B0 = x1 → T0 = x2 → KRA B0 T0 s σ → PF st0 (KRA B0 T0 s) (r_X4_takeList x1 x2 x3 x4 x5 x6 x7 σ)) (h_r_X4_takeOwn : ∀ (x1 : Nat) (x2 : Nat) (x3 : Int32) (x4 : Int32) (x5 : Int32) (x6 : Int32) (x7 : Int32) (σ : ST), B0 = x1 → T0 = x2 → KRA B0 T0 s σ → PF st0 (KRA B0 T0 s) (r_X4_takeOwn x1 x2 x3 x4 x5 x6 x7 σ)) (h_r_X4_takeRecord : ∀ (x1 : Nat) (x2 : Nat) (x3 : Int32) (x4 : Int32) (x5 : Int32) (x6 : Int32) (x7 : Int32) (σ : ST), B0 = x1 → T0 = x2 → KRA B0 T0 s σ → PF st0 (KRA B0 T0 s) (r_X4_takeRecord x1 x2 x3 x4 x5 x6 x7 σ)) (h_b : B0 = b) (h_t : T0 = t) (h : KRA B0 T0 s σ) : PF st0 (KRA B0 T0 s) (f_X4_takeRecord_109 r_X4_take r_X4_takeField r_X4_takeList r_X4_takeOwn r_X4_takeRecord b t x5 x6 x7 σ) := by
  unfold f_X4_takeRecord_109
  exact (wr_X4_takeRecord_112 h_r_X4_take h_r_X4_takeField h_r_X4_takeList h_r_X4_takeOwn h_r_X4_takeRecord (by omega) (by omega) _ _ _ _ _ _ h)
theorem wr_X4_takeRecord_51 {B0 T0 : Nat} {s : ST} {r_X4_take : Nat → Nat → Int32 → Int32 → Int32 → Int32 → Int32 → ST → Option (ST)} {r_X4_takeField : Nat → Nat → Int32 → Int32 → Int32 → Int32 → Int32 → ST → Option (ST)} {r_X4_takeList : Nat → Nat → Int32 → Int32 → Int32 → Int32 → Int32 → ST → Option (ST)} {r_X4_takeOwn : Nat → Nat → Int32 → Int32 → Int32 → Int32 → Int32 → ST → Option (ST)} {r_X4_takeRecord : Nat → Nat → Int32 → Int32 → Int32 → Int32 → Int32 → ST → Option (ST)} {b : Nat} {t : Nat} (h_r_X4_take : ∀ (x1 : Nat) (x2 : Nat) (x3 : Int32) (x4 : Int32) (x5 : Int32) (x6 : Int32) (x7 : Int32) (σ : ST), B0 = x1 → T0 = x2 → KRA B0 T0 s σ → PF st0 (KRA B0 T0 s) (r_X4_take x1 x2 x3 x4 x5 x6 x7 σ)) (h_r_X4_takeField : ∀ (x1 : Nat) (x2 : Nat) (x3 : Int32) (x4 : Int32) (x5 : Int32) (x6 : Int32) (x7 : Int32) (σ : ST), B0 = x1 → T0 = x2 → KRA B0 T0 s σ → PF st0 (KRA B0 T0 s) (r_X4_takeField x1 x2 x3 x4 x5 x6 x7 σ)) (h_r_X4_takeList : ∀ (x1 : Nat) (x2 : Nat) (x3 : Int32) (x4 : Int32) (x5 : Int32) (x6 : Int32) (x7 : Int32) (σ : ST), B0 = x1 → T0 = x2 → KRA B0 T0 s σ → PF st0 (KRA B0 T0 s) (r_X4_takeList x1 x2 x3 x4 x5 x6 x7 σ)) (h_r_X4_takeOwn : ∀ (x1 : Nat) (x2 : Nat) (x3 : Int32) (x4 : Int32) (x5 : Int32) (x6 : Int32) (x7 : Int32) (σ : ST), B0 = x1 → T0 = x2 → KRA B0 T0 s σ → PF st0 (KRA B0 T0 s) (r_X4_takeOwn x1 x2 x3 x4 x5 x6 x7 σ)) (h_r_X4_takeRecord : ∀ (x1 : Nat) (x2 : Nat) (x3 : Int32) (x4 : Int32) (x5 : Int32) (x6 : Int32) (x7 : Int32) (σ : ST), B0 = x1 → T0 = x2 → KRA B0 T0 s σ → PF st0 (KRA B0 T0 s) (r_X4_takeRecord x1 x2 x3 x4 x5 x6 x7 σ)) (h_b : B0 = b) (h_t : T0 = t) : ∀ (n : Nat) (x1 : Int32) (x2 : Int32) (x3 : Int32) (x4 : Int32) (x5 : Int32) (σ : ST), KRA B0 T0 s σ → PF st0 (KRA B0 T0 s) (f_X4_takeRecord_51 r_X4_take r_X4_takeField r_X4_takeList r_X4_takeOwn r_X4_takeRecord b t n x1 x2 x3 x4 x5 σ) := by
  intro n
  induction n with
  | zero => intro x1 x2 x3 x4 x5 σ h; rw [f_X4_takeRecord_51]; exact PF.none
  | succ n ih =>
    intro x1 x2 x3 x4 x5 σ h
    rw [f_X4_takeRecord_51]
    exact (PF.bnd (wr_X5_fieldsOf  h) (fun q1 hq1 => (PF.ite (fun _ => (wr_X4_takeRecord_109 h_r_X4_take h_r_X4_takeField h_r_X4_takeList h_r_X4_takeOwn h_r_X4_takeRecord (by omega) (by omega) hq1)) (fun _ => (PF.ite (fun _ => (PF.bnd (wr_X4_step (by omega) hq1) (fun q3 hq3 => (PF.bnd (wr_X5_typeOf  hq3) (fun q5 hq5 => (PF.bnd (h_r_X4_takeField _ _ _ _ _ _ _ _ (by omega) (by omega) hq5) (fun q7 hq7 => (PF.bnd (wr_X4_stepBack (by omega) hq7) (fun q9 hq9 => (ih _ _ _ _ _ _ hq9)))))))))) (fun _ => (wr_X4_takeRecord_109 h_r_X4_take h_r_X4_takeField h_r_X4_takeList h_r_X4_takeOwn h_r_X4_takeRecord (by omega) (by omega) hq1)))))))
theorem wr_X4_takeRecord_17 {B0 T0 : Nat} {s : ST} {r_X4_take : Nat → Nat → Int32 → Int32 → Int32 → Int32 → Int32 → ST → Option (ST)} {r_X4_takeField : Nat → Nat → Int32 → Int32 → Int32 → Int32 → Int32 → ST → Option (ST)} {r_X4_takeList : Nat → Nat → Int32 → Int32 → Int32 → Int32 → Int32 → ST → Option (ST)} {r_X4_takeOwn : Nat → Nat → Int32 → Int32 → Int32 → Int32 → Int32 → ST → Option (ST)} {r_X4_takeRecord : Nat → Nat → Int32 → Int32 → Int32 → Int32 → Int32 → ST → Option (ST)} {b : Nat} {t : Nat} {x1 : Int32} {x2 : Int32} {x3 : Int32} {x4 : Int32} {x5 : Int32} {y0 : Int32} {σ : ST} (h_r_X4_take : ∀ (x1 : Nat) (x2 : Nat) (x3 : Int32) (x4 : Int32) (x5 : Int32) (x6 : Int32) (x7 : Int32) (σ : ST), B0 = x1 → T0 = x2 → KRA B0 T0 s σ → PF st0 (KRA B0 T0 s) (r_X4_take x1 x2 x3 x4 x5 x6 x7 σ)) (h_r_X4_takeField : ∀ (x1 : Nat) (x2 : Nat) (x3 : Int32) (x4 : Int32) (x5 : Int32) (x6 : Int32) (x7 : Int32) (σ : ST), B0 = x1 → T0 = x2 → KRA B0 T0 s σ → PF st0 (KRA B0 T0 s) (r_X4_takeField x1 x2 x3 x4 x5 x6 x7 σ)) (h_r_X4_takeList : ∀ (x1 : Nat) (x2 : Nat) (x3 : Int32) (x4 : Int32) (x5 : Int32) (x6 : Int32) (x7 : Int32) (σ : ST), B0 = x1 → T0 = x2 → KRA B0 T0 s σ → PF st0 (KRA B0 T0 s) (r_X4_takeList x1 x2 x3 x4 x5 x6 x7 σ)) (h_r_X4_takeOwn : ∀ (x1 : Nat) (x2 : Nat) (x3 : Int32) (x4 : Int32) (x5 : Int32) (x6 : Int32) (x7 : Int32) (σ : ST), B0 = x1 → T0 = x2 → KRA B0 T0 s σ → PF st0 (KRA B0 T0 s) (r_X4_takeOwn x1 x2 x3 x4 x5 x6 x7 σ)) (h_r_X4_takeRecord : ∀ (x1 : Nat) (x2 : Nat) (x3 : Int32) (x4 : Int32) (x5 : Int32) (x6 : Int32) (x7 : Int32) (σ : ST), B0 = x1 → T0 = x2 → KRA B0 T0 s σ → PF st0 (KRA B0 T0 s) (r_X4_takeRecord x1 x2 x3 x4 x5 x6 x7 σ)) (h_b : B0 = b) (h_t : T0 = t) (h : KRA B0 T0 s σ) : PF st0 (KRA B0 T0 s) (f_X4_takeRecord_17 r_X4_take r_X4_takeField r_X4_takeList r_X4_takeOwn r_X4_takeRecord b t x1 x2 x3 x4 x5 y0 σ) := by
  unfold f_X4_takeRecord_17
  exact (PF.bnd (wr_X5_fieldsOf  h) (fun q1 hq1 => (PF.bnd (wr_X4_addNode (by omega) (by omega) hq1) (fun q3 hq3 => (PF.bnd (wr_X4_findSources (by omega) hq3) (fun q5 hq5 => (wr_X4_takeRecord_51 h_r_X4_take h_r_X4_takeField h_r_X4_takeList h_r_X4_takeOwn h_r_X4_takeRecord (by omega) (by omega) _ _ _ _ _ _ _ hq5)))))))
theorem wr_X4_takeRecord {B0 T0 : Nat} {s : ST} {r_X4_take : Nat → Nat → Int32 → Int32 → Int32 → Int32 → Int32 → ST → Option (ST)} {r_X4_takeField : Nat → Nat → Int32 → Int32 → Int32 → Int32 → Int32 → ST → Option (ST)} {r_X4_takeList : Nat → Nat → Int32 → Int32 → Int32 → Int32 → Int32 → ST → Option (ST)} {r_X4_takeOwn : Nat → Nat → Int32 → Int32 → Int32 → Int32 → Int32 → ST → Option (ST)} {r_X4_takeRecord : Nat → Nat → Int32 → Int32 → Int32 → Int32 → Int32 → ST → Option (ST)} {b : Nat} {t : Nat} {p0 : Int32} {p1 : Int32} {p2 : Int32} {p3 : Int32} {p4 : Int32} {σ : ST} (h_r_X4_take : ∀ (x1 : Nat) (x2 : Nat) (x3 : Int32) (x4 : Int32) (x5 : Int32) (x6 : Int32) (x7 : Int32) (σ : ST), B0 = x1 → T0 = x2 → KRA B0 T0 s σ → PF st0 (KRA B0 T0 s) (r_X4_take x1 x2 x3 x4 x5 x6 x7 σ)) (h_r_X4_takeField : ∀ (x1 : Nat) (x2 : Nat) (x3 : Int32) (x4 : Int32) (x5 : Int32) (x6 : Int32) (x7 : Int32) (σ : ST), B0 = x1 → T0 = x2 → KRA B0 T0 s σ → PF st0 (KRA B0 T0 s) (r_X4_takeField x1 x2 x3 x4 x5 x6 x7 σ)) (h_r_X4_takeList : ∀ (x1 : Nat) (x2 : Nat) (x3 : Int32) (x4 : Int32) (x5 : Int32) (x6 : Int32) (x7 : Int32) (σ : ST), B0 = x1 → T0 = x2 → KRA B0 T0 s σ → PF st0 (KRA B0 T0 s) (r_X4_takeList x1 x2 x3 x4 x5 x6 x7 σ)) (h_r_X4_takeOwn : ∀ (x1 : Nat) (x2 : Nat) (x3 : Int32) (x4 : Int32) (x5 : Int32) (x6 : Int32) (x7 : Int32) (σ : ST), B0 = x1 → T0 = x2 → KRA B0 T0 s σ → PF st0 (KRA B0 T0 s) (r_X4_takeOwn x1 x2 x3 x4 x5 x6 x7 σ)) (h_r_X4_takeRecord : ∀ (x1 : Nat) (x2 : Nat) (x3 : Int32) (x4 : Int32) (x5 : Int32) (x6 : Int32) (x7 : Int32) (σ : ST), B0 = x1 → T0 = x2 → KRA B0 T0 s σ → PF st0 (KRA B0 T0 s) (r_X4_takeRecord x1 x2 x3 x4 x5 x6 x7 σ)) (h_b : B0 = b) (h_t : T0 = t) (h : KRA B0 T0 s σ) : PF st0 (KRA B0 T0 s) (f_X4_takeRecord r_X4_take r_X4_takeField r_X4_takeList r_X4_takeOwn r_X4_takeRecord b t p0 p1 p2 p3 p4 σ) := by
  unfold f_X4_takeRecord
  exact (PF.ite (fun _ => (wr_X4_takeRecord_17 h_r_X4_take h_r_X4_takeField h_r_X4_takeList h_r_X4_takeOwn h_r_X4_takeRecord (by omega) (by omega) h)) (fun _ => (PF.bnd (wr_X5_innerOf  h) (fun q1 hq1 => (wr_X4_takeRecord_17 h_r_X4_take h_r_X4_takeField h_r_X4_takeList h_r_X4_takeOwn h_r_X4_takeRecord (by omega) (by omega) hq1)))))
theorem wrR_X4_take {B0 T0 : Nat} {s : ST} : ∀ n : Nat, (∀ (b : Nat) (t : Nat) (p0 : Int32) (p1 : Int32) (p2 : Int32) (p3 : Int32) (p4 : Int32) (σ : ST), B0 = b → T0 = t → KRA B0 T0 s σ → PF st0 (KRA B0 T0 s) ((R_X4_take n).1 b t p0 p1 p2 p3 p4 σ)) ∧ (∀ (b : Nat) (t : Nat) (p0 : Int32) (p1 : Int32) (p2 : Int32) (p3 : Int32) (p4 : Int32) (σ : ST), B0 = b → T0 = t → KRA B0 T0 s σ → PF st0 (KRA B0 T0 s) ((R_X4_take n).2.1 b t p0 p1 p2 p3 p4 σ)) ∧ (∀ (b : Nat) (t : Nat) (p0 : Int32) (p1 : Int32) (p2 : Int32) (p3 : Int32) (p4 : Int32) (σ : ST), B0 = b → T0 = t → KRA B0 T0 s σ → PF st0 (KRA B0 T0 s) ((R_X4_take n).2.2.1 b t p0 p1 p2 p3 p4 σ)) ∧ (∀ (b : Nat) (t : Nat) (p0 : Int32) (p1 : Int32) (p2 : Int32) (p3 : Int32) (p4 : Int32) (σ : ST), B0 = b → T0 = t → KRA B0 T0 s σ → PF st0 (KRA B0 T0 s) ((R_X4_take n).2.2.2.1 b t p0 p1 p2 p3 p4 σ)) ∧ (∀ (b : Nat) (t : Nat) (p0 : Int32) (p1 : Int32) (p2 : Int32) (p3 : Int32) (p4 : Int32) (σ : ST), B0 = b → T0 = t → KRA B0 T0 s σ → PF st0 (KRA B0 T0 s) ((R_X4_take n).2.2.2.2 b t p0 p1 p2 p3 p4 σ)) := by
  intro n
  induction n with
  | zero => exact ⟨fun _ _ _ _ _ _ _ _ _ _ _ => PF.none, fun _ _ _ _ _ _ _ _ _ _ _ => PF.none, fun _ _ _ _ _ _ _ _ _ _ _ => PF.none, fun _ _ _ _ _ _ _ _ _ _ _ => PF.none, fun _ _ _ _ _ _ _ _ _ _ _ => PF.none⟩
  | succ n ih => exact ⟨fun _ _ _ _ _ _ _ _ h_b h_t h => wr_X4_take (ih.1) (ih.2.1) (ih.2.2.1) (ih.2.2.2.1) (ih.2.2.2.2) h_b h_t h, fun _ _ _ _ _ _ _ _ h_b h_t h => wr_X4_takeField (ih.1) (ih.2.1) (ih.2.2.1) (ih.2.2.2.1) (ih.2.2.2.2) h_b h_t h, fun _ _ _ _ _ _ _ _ h_b h_t h => wr_X4_takeList (ih.1) (ih.2.1) (ih.2.2.1) (ih.2.2.2.1) (ih.2.2.2.2) h_b h_t h, fun _ _ _ _ _ _ _ _ h_b h_t h => wr_X4_takeOwn (ih.1) (ih.2.1) (ih.2.2.1) (ih.2.2.2.1) (ih.2.2.2.2) h_b h_t h, fun _ _ _ _ _ _ _ _ h_b h_t h => wr_X4_takeRecord (ih.1) (ih.2.1) (ih.2.2.1) (ih.2.2.2.1) (ih.2.2.2.2) h_b h_t h⟩
theorem wr_T_X4_take {B0 T0 : Nat} {s : ST} {b : Nat} {t : Nat} {p0 : Int32} {p1 : Int32} {p2 : Int32} {p3 : Int32} {p4 : Int32} {σ : ST} (h_b : B0 = b) (h_t : T0 = t) (h : KRA B0 T0 s σ) : PF st0 (KRA B0 T0 s) (f_T_X4_take b t p0 p1 p2 p3 p4 σ) := (wrR_X4_take FR).1 _ _ _ _ _ _ _ _ h_b h_t h
theorem wr_X7_clear {B0 T0 : Nat} {s : ST} {b : Nat} {σ : ST}  (h_b : T0 = b) (h : KRA B0 T0 s σ) : PF st0 (KRA B0 T0 s) (f_X7_clear b σ) := by
  unfold f_X7_clear
  exact (PF.ret0 (KRA.i (by omega) h))
theorem wr_X7_firstOf {B0 T0 : Nat} {s : ST} {b : Nat} {p0 : Int32} {σ : ST}   (h : KRA B0 T0 s σ) : PF st1 (KRA B0 T0 s) (f_X7_firstOf b p0 σ) := by
  unfold f_X7_firstOf
  exact (PF.bnd (wr_X7_isRow  h) (fun q1 hq1 => (PF.ite (fun _ => (PF.ret1 hq1)) (fun _ => (PF.ite (fun _ => (PF.ret1 hq1)) (fun _ => PF.none))))))
theorem wr_X7_nextOf {B0 T0 : Nat} {s : ST} {b : Nat} {p0 : Int32} {σ : ST}   (h : KRA B0 T0 s σ) : PF st1 (KRA B0 T0 s) (f_X7_nextOf b p0 σ) := by
  unfold f_X7_nextOf
  exact (PF.bnd (wr_X7_isRow  h) (fun q1 hq1 => (PF.ite (fun _ => (PF.ret1 hq1)) (fun _ => (PF.ite (fun _ => (PF.ret1 hq1)) (fun _ => PF.none))))))
theorem wr_X7_rowBehind_51 {B0 T0 : Nat} {s : ST} {b : Nat} {x2 : Int32} {σ : ST}   (h : KRA B0 T0 s σ) : PF st1 (KRA B0 T0 s) (f_X7_rowBehind_51 b x2 σ) := by
  unfold f_X7_rowBehind_51
  exact (PF.bnd (wr_X7_nextOf  h) (fun q1 hq1 => (PF.ret1 hq1)))
theorem wr_X7_parentOf {B0 T0 : Nat} {s : ST} {b : Nat} {p0 : Int32} {σ : ST}   (h : KRA B0 T0 s σ) : PF st1 (KRA B0 T0 s) (f_X7_parentOf b p0 σ) := by
  unfold f_X7_parentOf
  exact (PF.bnd (wr_X7_isRow  h) (fun q1 hq1 => (PF.ite (fun _ => (PF.ret1 hq1)) (fun _ => (PF.ite (fun _ => (PF.ret1 hq1)) (fun _ => PF.none))))))
theorem wr_X7_rowBehind_19 {B0 T0 : Nat} {s : ST} {b : Nat}   : ∀ (n : Nat) (x1 : Int32) (x2 : Int32) (σ : ST), KRA B0 T0 s σ → PF st1 (KRA B0 T0 s) (f_X7_rowBehind_19 b n x1 x2 σ) := by
  intro n
  induction n with
  | zero => intro x1 x2 σ h; rw [f_X7_rowBehind_19]; exact PF.none
  | succ n ih =>
    intro x1 x2 σ h
    rw [f_X7_rowBehind_19]
    exact (PF.ite (fun _ => (wr_X7_rowBehind_51  h)) (fun _ => (PF.ite (fun _ => (wr_X7_rowBehind_51  h)) (fun _ => (PF.bnd (wr_X7_nextOf  h) (fun q1 hq1 => (PF.ite (fun _ => (PF.bnd (wr_X7_parentOf  hq1) (fun q3 hq3 => (ih _ _ _ hq3)))) (fun _ => (wr_X7_rowBehind_51  hq1)))))))))
theorem wr_X7_rowBehind {B0 T0 : Nat} {s : ST} {b : Nat} {p0 : Int32} {σ : ST}   (h : KRA B0 T0 s σ) : PF st1 (KRA B0 T0 s) (f_X7_rowBehind b p0 σ) := by
  unfold f_X7_rowBehind
  exact (PF.bnd (wr_X7_firstOf  h) (fun q1 hq1 => (PF.ite (fun _ => (wr_X7_rowBehind_19  _ _ _ _ hq1)) (fun _ => (PF.bnd (wr_X7_firstOf  hq1) (fun q3 hq3 => (PF.ret1 hq3)))))))
theorem wr_X7_putInOrder_4 {B0 T0 : Nat} {s : ST} {b : Nat}  (h_b : T0 = b) : ∀ (n : Nat) (x1 : Int32) (x2 : Int32) (σ : ST), KRA B0 T0 s σ → PF st0 (KRA B0 T0 s) (f_X7_putInOrder_4 b n x1 x2 σ) := by
  intro n
  induction n with
  | zero => intro x1 x2 σ h; rw [f_X7_putInOrder_4]; exact PF.none
  | succ n ih =>
    intro x1 x2 σ h
    rw [f_X7_putInOrder_4]
    exact (PF.ite (fun _ => (PF.ret0 h)) (fun _ => (PF.bnd (wr_X7_isRow  h) (fun q1 hq1 => (PF.ite (fun _ => (PF.ret0 hq1)) (fun _ => (PF.ite (fun _ => (PF.ite (fun _ => (PF.bnd (wr_X7_rowBehind  (KRA.i (by omega) (KRA.i (by omega) hq1))) (fun q5 hq5 => (ih _ _ _ hq5)))) (fun _ => PF.none))) (fun _ => PF.none))))))))
theorem wr_X7_putInOrder {B0 T0 : Nat} {s : ST} {b : Nat} {σ : ST}  (h_b : T0 = b) (h : KRA B0 T0 s σ) : PF st0 (KRA B0 T0 s) (f_X7_putInOrder b σ) := by
  unfold f_X7_putInOrder
  exact (wr_X7_putInOrder_4 (by omega) _ _ _ _ h)
