/-! the draft becomes what holds: the class -/
def K5A (s σ : ST) : Prop := ∀ c, 4 ≤ c → c < 20 → c ≠ 10 → σ.1 c = s.1 c ∧ σ.2.1 c = s.2.1 c
theorem K5A.rf {s : ST} : K5A s s := fun _ _ _ _ => ⟨rfl, rfl⟩
theorem K5A.i {s σ : ST} {c i : Nat} {v : Int32} (hc : c < 4 ∨ 20 ≤ c ∨ c = 10) (h : K5A s σ) : K5A s (stI σ c i v) := fun d h1 h2 h3 => by
  rw [stI_ne (by omega)]
  exact h d h1 h2 h3
theorem K5A.l {s σ : ST} {c i : Nat} {v : Int64} (hc : c < 4 ∨ 20 ≤ c ∨ c = 10) (h : K5A s σ) : K5A s (stL σ c i v) := fun d h1 h2 h3 => by
  rw [stL_ne (by omega)]
  exact h d h1 h2 h3
theorem K5A.f {s σ : ST} {c : Nat} {f : Nat → Int32} (hc : c < 4 ∨ 20 ≤ c ∨ c = 10) (h : K5A s σ) : K5A s (stF σ c f) := fun d h1 h2 h3 => by
  rw [stF_ne5 (by omega)]
  exact h d h1 h2 h3
theorem K5A.fl {s σ : ST} {c : Nat} {f : Nat → Int64} (hc : c < 4 ∨ 20 ≤ c ∨ c = 10) (h : K5A s σ) : K5A s (stFL σ c f) := fun d h1 h2 h3 => by
  rw [stFL_ne5 (by omega)]
  exact h d h1 h2 h3
theorem K5A.d {s σ : ST} {c i : Nat} {v : UInt64} (h : K5A s σ) : K5A s (stD σ c i v) := h
theorem K5A.r {s σ : ST} {c v : Nat} (h : K5A s σ) : K5A s (stR σ c v) := h
theorem v_J7_fill_53178_5 {s : ST} {u : Nat}  (h_u : (u = 10 ∨ 20 ≤ u)) : ∀ (n : Nat) (x1 : Int32) (x2 : Int32) (x3 : Int32) (σ : ST), K5A s σ → PF st0 (K5A s) (f_J7_fill_53178_5 u n x1 x2 x3 σ) := by
  intro n
  induction n with
  | zero => intro x1 x2 x3 σ h; rw [f_J7_fill_53178_5]; exact PF.none
  | succ n ih =>
    intro x1 x2 x3 σ h
    rw [f_J7_fill_53178_5]
    exact (PF.ite (fun _ => (PF.ret0 h)) (fun _ => (PF.ite (fun _ => (ih _ _ _ _ (K5A.i (by omega) h))) (fun _ => PF.none))))
theorem v_J7_fill_53178 {s : ST} {u : Nat} {p1 : Int32} {σ : ST}  (h_u : (u = 10 ∨ 20 ≤ u)) (h : K5A s σ) : PF st0 (K5A s) (f_J7_fill_53178 u p1 σ) := by
  unfold f_J7_fill_53178
  exact (v_J7_fill_53178_5 (by omega) _ _ _ _ _ h)
theorem v_X5_recordsOf {s : ST} {b : Nat} {p0 : Int32} {σ : ST}   (h : K5A s σ) : PF st1 (K5A s) (f_X5_recordsOf b p0 σ) := by
  unfold f_X5_recordsOf
  exact (PF.ite (fun _ => (PF.ret1 h)) (fun _ => (PF.ite (fun _ => (PF.ret1 h)) (fun _ => (PF.ite (fun _ => (PF.ret1 h)) (fun _ => PF.none))))))
theorem v_X5_isRecord {s : ST} {p0 : Int32} {σ : ST}   (h : K5A s σ) : PF st1 (K5A s) (f_X5_isRecord p0 σ) := by
  unfold f_X5_isRecord
  exact (PF.ite (fun _ => (PF.ret1 h)) (fun _ => (PF.ite (fun _ => (PF.ret1 h)) (fun _ => (PF.ret1 h)))))
theorem v_X5_findEmptyRecords_77 {s : ST} {k10 : Int32 → ST → Option (ST)} {k18 : Int32 → Int32 → ST → Option (ST)} {k28 : Int32 → Int32 → Int32 → ST → Option (ST)} {b : Nat} {x1 : Int32} {x2 : Int32} {x3 : Int32} {σ : ST} (h_k10 : ∀ (x1 : Int32) (σ : ST), K5A s σ → PF st0 (K5A s) (k10 x1 σ)) (h_k18 : ∀ (x1 : Int32) (x2 : Int32) (σ : ST), K5A s σ → PF st0 (K5A s) (k18 x1 x2 σ)) (h_k28 : ∀ (x1 : Int32) (x2 : Int32) (x3 : Int32) (σ : ST), K5A s σ → PF st0 (K5A s) (k28 x1 x2 x3 σ))  (h : K5A s σ) : PF st0 (K5A s) (f_X5_findEmptyRecords_77 k10 k18 k28 b x1 x2 x3 σ) := by
  unfold f_X5_findEmptyRecords_77
  exact (h_k28 _ _ _ _ h)
theorem v_X5_fieldsOf {s : ST} {b : Nat} {p0 : Int32} {σ : ST}   (h : K5A s σ) : PF st1 (K5A s) (f_X5_fieldsOf b p0 σ) := by
  unfold f_X5_fieldsOf
  exact (PF.bnd (v_X5_isRecord  h) (fun q1 hq1 => (PF.ite (fun _ => (PF.ret1 hq1)) (fun _ => (PF.ite (fun _ => (PF.ret1 hq1)) (fun _ => PF.none))))))
theorem v_X5_isFieldOf {s : ST} {p0 : Int32} {p1 : Int32} {σ : ST}   (h : K5A s σ) : PF st1 (K5A s) (f_X5_isFieldOf p0 p1 σ) := by
  unfold f_X5_isFieldOf
  exact (PF.ite (fun _ => (PF.ret1 h)) (fun _ => (PF.ite (fun _ => (PF.ret1 h)) (fun _ => (PF.ite (fun _ => (PF.ret1 h)) (fun _ => (PF.ite (fun _ => (PF.ret1 h)) (fun _ => (PF.ret1 h)))))))))
theorem v_X5_typeOf {s : ST} {b : Nat} {p0 : Int32} {p1 : Int32} {σ : ST}   (h : K5A s σ) : PF st1 (K5A s) (f_X5_typeOf b p0 p1 σ) := by
  unfold f_X5_typeOf
  exact (PF.bnd (v_X5_isFieldOf  h) (fun q1 hq1 => (PF.ite (fun _ => (PF.ret1 hq1)) (fun _ => (PF.ite (fun _ => (PF.ret1 hq1)) (fun _ => PF.none))))))
theorem v_X5_isType {s : ST} {b : Nat} {p0 : Int32} {σ : ST}   (h : K5A s σ) : PF st1 (K5A s) (f_X5_isType b p0 σ) := by
  unfold f_X5_isType
  exact (PF.ite (fun _ => (PF.ret1 h)) (fun _ => (PF.ite (fun _ => (PF.ret1 h)) (fun _ => (PF.ite (fun _ => (PF.ret1 h)) (fun _ => (PF.ret1 h)))))))
theorem v_X5_sortOf {s : ST} {b : Nat} {p0 : Int32} {σ : ST}   (h : K5A s σ) : PF st1 (K5A s) (f_X5_sortOf b p0 σ) := by
  unfold f_X5_sortOf
  exact (PF.bnd (v_X5_isType  h) (fun q1 hq1 => (PF.ite (fun _ => (PF.ret1 hq1)) (fun _ => (PF.ite (fun _ => (PF.ret1 hq1)) (fun _ => PF.none))))))
theorem v_X5_innerOf {s : ST} {b : Nat} {p0 : Int32} {σ : ST}   (h : K5A s σ) : PF st1 (K5A s) (f_X5_innerOf b p0 σ) := by
  unfold f_X5_innerOf
  exact (PF.bnd (v_X5_isType  h) (fun q1 hq1 => (PF.ite (fun _ => (PF.ret1 hq1)) (fun _ => (PF.ite (fun _ => (PF.ret1 hq1)) (fun _ => PF.none))))))
theorem v_X5_emptyHeight {s : ST} {b : Nat} {p0 : Int32} {σ : ST}   (h : K5A s σ) : PF st1 (K5A s) (f_X5_emptyHeight b p0 σ) := by
  unfold f_X5_emptyHeight
  exact (PF.bnd (v_X5_sortOf  h) (fun q1 hq1 => (PF.ite (fun _ => (PF.ret1 hq1)) (fun _ => (PF.bnd (v_X5_innerOf  hq1) (fun q3 hq3 => (PF.bnd (v_X5_sortOf  hq3) (fun q5 hq5 => (PF.ite (fun _ => (PF.bnd (v_X5_isRecord  hq5) (fun q7 hq7 => (PF.ite (fun _ => (PF.ret1 hq7)) (fun _ => (PF.ite (fun _ => (PF.ret1 hq7)) (fun _ => PF.none))))))) (fun _ => (PF.ret1 hq5)))))))))))
theorem v_X5_heightOfFields_4 {s : ST} {b : Nat}   : ∀ (n : Nat) (x1 : Int32) (x2 : Int32) (x3 : Int32) (σ : ST), K5A s σ → PF st1 (K5A s) (f_X5_heightOfFields_4 b n x1 x2 x3 σ) := by
  intro n
  induction n with
  | zero => intro x1 x2 x3 σ h; rw [f_X5_heightOfFields_4]; exact PF.none
  | succ n ih =>
    intro x1 x2 x3 σ h
    rw [f_X5_heightOfFields_4]
    exact (PF.bnd (v_X5_fieldsOf  h) (fun q1 hq1 => (PF.ite (fun _ => (PF.ret1 hq1)) (fun _ => (PF.bnd (v_X5_typeOf  hq1) (fun q3 hq3 => (PF.bnd (v_X5_emptyHeight  hq3) (fun q5 hq5 => (PF.ite (fun _ => (PF.ret1 hq5)) (fun _ => (ih _ _ _ _ hq5)))))))))))
theorem v_X5_heightOfFields {s : ST} {b : Nat} {p0 : Int32} {σ : ST}   (h : K5A s σ) : PF st1 (K5A s) (f_X5_heightOfFields b p0 σ) := by
  unfold f_X5_heightOfFields
  exact (v_X5_heightOfFields_4  _ _ _ _ _ h)
theorem v_X5_findEmptyRecords_28 {s : ST} {k10 : Int32 → ST → Option (ST)} {k18 : Int32 → Int32 → ST → Option (ST)} {b : Nat} (h_k10 : ∀ (x1 : Int32) (σ : ST), K5A s σ → PF st0 (K5A s) (k10 x1 σ)) (h_k18 : ∀ (x1 : Int32) (x2 : Int32) (σ : ST), K5A s σ → PF st0 (K5A s) (k18 x1 x2 σ)) (h_b : (b = 4 ∨ 20 ≤ b)) : ∀ (n : Nat) (x1 : Int32) (x2 : Int32) (x3 : Int32) (σ : ST), K5A s σ → PF st0 (K5A s) (f_X5_findEmptyRecords_28 k10 k18 b n x1 x2 x3 σ) := by
  intro n
  induction n with
  | zero => intro x1 x2 x3 σ h; rw [f_X5_findEmptyRecords_28]; exact PF.none
  | succ n ih =>
    intro x1 x2 x3 σ h
    rw [f_X5_findEmptyRecords_28]
    exact (PF.bnd (v_X5_recordsOf  h) (fun q1 hq1 => (PF.ite (fun _ => (h_k18 _ _ _ hq1)) (fun _ => (PF.bnd (v_X5_isRecord  hq1) (fun q3 hq3 => (PF.ite (fun _ => (v_X5_findEmptyRecords_77 h_k10 h_k18 ih hq3)) (fun _ => (PF.ite (fun _ => (PF.ite (fun _ => (PF.bnd (v_X5_heightOfFields  hq3) (fun q6 hq6 => (v_X5_findEmptyRecords_77 h_k10 h_k18 ih (K5A.i (by omega) hq6))))) (fun _ => (v_X5_findEmptyRecords_77 h_k10 h_k18 ih hq3)))) (fun _ => PF.none))))))))))
theorem v_X5_findEmptyRecords_18 {s : ST} {k10 : Int32 → ST → Option (ST)} {b : Nat} (h_k10 : ∀ (x1 : Int32) (σ : ST), K5A s σ → PF st0 (K5A s) (k10 x1 σ)) (h_b : (b = 4 ∨ 20 ≤ b)) : ∀ (n : Nat) (x1 : Int32) (x2 : Int32) (σ : ST), K5A s σ → PF st0 (K5A s) (f_X5_findEmptyRecords_18 k10 b n x1 x2 σ) := by
  intro n
  induction n with
  | zero => intro x1 x2 σ h; rw [f_X5_findEmptyRecords_18]; exact PF.none
  | succ n ih =>
    intro x1 x2 σ h
    rw [f_X5_findEmptyRecords_18]
    exact (PF.ite (fun _ => (h_k10 _ _ h)) (fun _ => (v_X5_findEmptyRecords_28 h_k10 ih (by omega) _ _ _ _ _ h)))
theorem v_X5_findEmptyRecords_10 {s : ST} {b : Nat}  (h_b : (b = 4 ∨ 20 ≤ b)) : ∀ (n : Nat) (x1 : Int32) (σ : ST), K5A s σ → PF st0 (K5A s) (f_X5_findEmptyRecords_10 b n x1 σ) := by
  intro n
  induction n with
  | zero => intro x1 σ h; rw [f_X5_findEmptyRecords_10]; exact PF.none
  | succ n ih =>
    intro x1 σ h
    rw [f_X5_findEmptyRecords_10]
    exact (PF.ite (fun _ => (PF.ret0 h)) (fun _ => (v_X5_findEmptyRecords_18 ih (by omega) _ _ _ _ h)))
theorem v_X5_findEmptyRecords {s : ST} {b : Nat} {σ : ST}  (h_b : (b = 4 ∨ 20 ≤ b)) (h : K5A s σ) : PF st0 (K5A s) (f_X5_findEmptyRecords b σ) := by
  unfold f_X5_findEmptyRecords
  exact (PF.bnd (v_J7_fill_53178 (by omega) h) (fun q1 hq1 => (v_X5_findEmptyRecords_10 (by omega) _ _ _ hq1)))
theorem v_X1_clear {s : ST}  {σ : ST}   (h : K5A s σ) : PF st0 (K5A s) (f_X1_clear σ) := by
  unfold f_X1_clear
  exact (PF.bnd (v_J7_fill_53178 (by omega) h) (fun q1 hq1 => (PF.ret0 hq1)))
theorem v_X0_clear {s : ST}  {σ : ST}   (h : K5A s σ) : PF st0 (K5A s) (f_X0_clear σ) := by
  unfold f_X0_clear
  exact (PF.bnd (v_J7_fill_53178 (by omega) (K5A.l (by omega) h)) (fun q1 hq1 => (PF.ret0 (K5A.i (by omega) (K5A.i (by omega) hq1)))))
theorem v_X9_clear {s : ST}  {σ : ST}   (h : K5A s σ) : PF st0 (K5A s) (f_X9_clear σ) := by
  unfold f_X9_clear
  exact (PF.ret0 (K5A.i (by omega) (K5A.i (by omega) (K5A.i (by omega) h))))
theorem v_X7_clear {s : ST} {b : Nat} {σ : ST}  (h_b : 20 ≤ b) (h : K5A s σ) : PF st0 (K5A s) (f_X7_clear b σ) := by
  unfold f_X7_clear
  exact (PF.ret0 (K5A.i (by omega) h))
/-- cells of the class's draft, copied -/
def CPS (D E : List (Nat × Nat)) (σ z : ST) : Prop := (z.1 4 1 = σ.1 20 1) ∧ (∀ c, 20 ≤ c → z.1 c = σ.1 c ∧ z.2.1 c = σ.2.1 c) ∧ (∀ q, q ∈ D → ∀ i, i < q.2 → z.1 (4 + q.1) i = σ.1 (20 + q.1) i) ∧ (∀ q, q ∈ E → ∀ i, i < q.2 → z.2.1 (4 + q.1) i = σ.2.1 (20 + q.1) i)
theorem CPS.stepF {D E : List (Nat × Nat)} {σ z : ST} (h : CPS D E σ z) (k n src a b m : Nat) (hs : src = 20 + k) (ha : a = 0) (hb : b = 0) (hm : m = n) (hk : k < 16) (hk0 : 0 < k) (hD : ∀ q, q ∈ D → q.1 ≠ k) : CPS ((k, n) :: D) E σ (stF z (4 + k) (va_cpy (z.1 src) (z.1 (4 + k)) a b m)) := by
  subst hs ha hb hm
  obtain ⟨h0, h1, h2, h3⟩ := h
  refine ⟨by rw [stF_ne5 (by omega)]; exact h0, fun c hc => ⟨by rw [stF_ne5 (by omega)]; exact (h1 c hc).1, (h1 c hc).2⟩, fun q hq i hi => ?_, h3⟩
  rcases List.mem_cons.mp hq with e | e
  · subst e
    have e9 : (stF z (4 + k) (va_cpy (z.1 (20 + k)) (z.1 (4 + k)) 0 0 m)).1 (4 + k) = va_cpy (z.1 (20 + k)) (z.1 (4 + k)) 0 0 m := by
      show (bif Nat.beq (4 + k) (4 + k) then _ else _) = _
      rw [Nat.beq_refl]
      rfl
    show (stF z (4 + k) _).1 (4 + k) i = _
    rw [e9]
    unfold va_cpy
    have hi : i < m := hi
    rw [if_pos ⟨by omega, by omega⟩, (h1 (20 + k) (by omega)).1]
    show σ.1 (20 + k) (0 + (i - 0)) = σ.1 (20 + k) i
    rw [Nat.zero_add, Nat.sub_zero]
  · have hne := hD q e
    rw [stF_ne5 (by omega)]
    exact h2 q e i hi
theorem CPS.stepL {D E : List (Nat × Nat)} {σ z : ST} (h : CPS D E σ z) (k n src a b m : Nat) (hs : src = 20 + k) (ha : a = 0) (hb : b = 0) (hm : m = n) (hk : k < 16) (hk0 : 0 < k) (hE : ∀ q, q ∈ E → q.1 ≠ k) : CPS D ((k, n) :: E) σ (stFL z (4 + k) (va_cpy (z.2.1 src) (z.2.1 (4 + k)) a b m)) := by
  subst hs ha hb hm
  obtain ⟨h0, h1, h2, h3⟩ := h
  refine ⟨h0, fun c hc => ⟨(h1 c hc).1, by rw [stFL_ne5 (by omega)]; exact (h1 c hc).2⟩, h2, fun q hq i hi => ?_⟩
  rcases List.mem_cons.mp hq with e | e
  · subst e
    have e9 : (stFL z (4 + k) (va_cpy (z.2.1 (20 + k)) (z.2.1 (4 + k)) 0 0 m)).2.1 (4 + k) = va_cpy (z.2.1 (20 + k)) (z.2.1 (4 + k)) 0 0 m := by
      show (bif Nat.beq (4 + k) (4 + k) then _ else _) = _
      rw [Nat.beq_refl]
      rfl
    show (stFL z (4 + k) _).2.1 (4 + k) i = _
    rw [e9]
    unfold va_cpy
    have hi : i < m := hi
    rw [if_pos ⟨by omega, by omega⟩, (h1 (20 + k) (by omega)).2]
    show σ.2.1 (20 + k) (0 + (i - 0)) = σ.2.1 (20 + k) i
    rw [Nat.zero_add, Nat.sub_zero]
  · have hne := hE q e
    rw [stFL_ne5 (by omega)]
    exact h3 q e i hi
theorem a_copy (σ z : ST) (h : f_X5_copyFrom 4 σ = some z) : CPS [(13, 262), (12, 262), (11, 262), (9, 288), (5, 36), (3, 36), (2, 6), (1, 6)] [(10, 288), (8, 288), (7, 288), (4, 36)] σ z := by
  unfold f_X5_copyFrom at h
  have n0 : (0 : Int32).toNatClampNeg = 0 := by decide
  have n6 : (6 : Int32).toNatClampNeg = 6 := by decide
  have n36 : (36 : Int32).toNatClampNeg = 36 := by decide
  have n288 : (288 : Int32).toNatClampNeg = 288 := by decide
  have n262 : (262 : Int32).toNatClampNeg = 262 := by decide
  obtain ⟨z1, e1, h⟩ := bnd_some h
  have c1 : CPS [] [] σ z1 := by
    rw [← Option.some.inj e1]
    refine ⟨rfl, fun c hc => ⟨?_, rfl⟩, fun q hq => absurd hq (List.not_mem_nil), fun q hq => absurd hq (List.not_mem_nil)⟩
    rw [stI_ne (by omega), stI_ne (by omega)]
  clear e1
  rw [if_pos (by decide)] at h
  obtain ⟨z2, e2, h⟩ := bnd_some h
  have c2 := c1.stepF 1 6 21 _ _ _ rfl n0 n0 n6 (by decide) (by decide) (by decide)
  rw [Option.some.inj e2] at c2
  clear e2 c1
  rw [if_pos (by decide)] at h
  obtain ⟨z3, e3, h⟩ := bnd_some h
  have c3 := c2.stepF 2 6 22 _ _ _ rfl n0 n0 n6 (by decide) (by decide) (by decide)
  rw [Option.some.inj e3] at c3
  clear e3 c2
  rw [if_pos (by decide)] at h
  obtain ⟨z4, e4, h⟩ := bnd_some h
  have c4 := c3.stepF 3 36 23 _ _ _ rfl n0 n0 n36 (by decide) (by decide) (by decide)
  rw [Option.some.inj e4] at c4
  clear e4 c3
  rw [if_pos (by decide)] at h
  obtain ⟨z5, e5, h⟩ := bnd_some h
  have c5 := c4.stepL 4 36 24 _ _ _ rfl n0 n0 n36 (by decide) (by decide) (by decide)
  rw [Option.some.inj e5] at c5
  clear e5 c4
  rw [if_pos (by decide)] at h
  obtain ⟨z6, e6, h⟩ := bnd_some h
  have c6 := c5.stepF 5 36 25 _ _ _ rfl n0 n0 n36 (by decide) (by decide) (by decide)
  rw [Option.some.inj e6] at c6
  clear e6 c5
  rw [if_pos (by decide)] at h
  obtain ⟨z7, e7, h⟩ := bnd_some h
  have c7 := c6.stepL 7 288 27 _ _ _ rfl n0 n0 n288 (by decide) (by decide) (by decide)
  rw [Option.some.inj e7] at c7
  clear e7 c6
  rw [if_pos (by decide)] at h
  obtain ⟨z8, e8, h⟩ := bnd_some h
  have c8 := c7.stepL 8 288 28 _ _ _ rfl n0 n0 n288 (by decide) (by decide) (by decide)
  rw [Option.some.inj e8] at c8
  clear e8 c7
  rw [if_pos (by decide)] at h
  obtain ⟨z9, e9, h⟩ := bnd_some h
  have c9 := c8.stepF 9 288 29 _ _ _ rfl n0 n0 n288 (by decide) (by decide) (by decide)
  rw [Option.some.inj e9] at c9
  clear e9 c8
  rw [if_pos (by decide)] at h
  obtain ⟨z10, e10, h⟩ := bnd_some h
  have c10 := c9.stepL 10 288 30 _ _ _ rfl n0 n0 n288 (by decide) (by decide) (by decide)
  rw [Option.some.inj e10] at c10
  clear e10 c9
  rw [if_pos (by decide)] at h
  obtain ⟨z11, e11, h⟩ := bnd_some h
  have c11 := c10.stepF 11 262 31 _ _ _ rfl n0 n0 n262 (by decide) (by decide) (by decide)
  rw [Option.some.inj e11] at c11
  clear e11 c10
  rw [if_pos (by decide)] at h
  obtain ⟨z12, e12, h⟩ := bnd_some h
  have c12 := c11.stepF 12 262 32 _ _ _ rfl n0 n0 n262 (by decide) (by decide) (by decide)
  rw [Option.some.inj e12] at c12
  clear e12 c11
  rw [if_pos (by decide)] at h
  obtain ⟨z13, e13, h⟩ := bnd_some h
  have c13 := c12.stepF 13 262 33 _ _ _ rfl n0 n0 n262 (by decide) (by decide) (by decide)
  rw [Option.some.inj e13] at c13
  clear e13 c12
  rw [← Option.some.inj h]
  exact c13
