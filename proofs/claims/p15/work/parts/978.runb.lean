/-! a message read as another plan's, both sides -/
/-- the order of a tree: nothing but it is told -/
def KPO (t : Nat) (s σ : ST) : Prop := (∀ c, c ≠ t + 10 → c ≠ t + 11 → σ.1 c = s.1 c) ∧ σ.2 = s.2
theorem KPO.rf {t : Nat} {s : ST} : KPO t s s := ⟨fun _ _ _ => rfl, rfl⟩
theorem KPO.i {t : Nat} {s σ : ST} {c i : Nat} {v : Int32} (hc : c = t + 10 ∨ c = t + 11) (h : KPO t s σ) : KPO t s (stI σ c i v) := ⟨fun d a b => (stI_ne (by omega)).trans (h.1 d a b), h.2⟩
theorem wo_X7_isRow {T0 : Nat} {s : ST} {b : Nat} {p0 : Int32} {σ : ST}   (h : KPO T0 s σ) : PF st1 (KPO T0 s) (f_X7_isRow b p0 σ) := by
  unfold f_X7_isRow
  exact (PF.ite (fun _ => (PF.ret1 h)) (fun _ => (PF.ite (fun _ => (PF.ret1 h)) (fun _ => (PF.ite (fun _ => (PF.ret1 h)) (fun _ => (PF.ret1 h)))))))
theorem wo_X7_firstOf {T0 : Nat} {s : ST} {b : Nat} {p0 : Int32} {σ : ST}   (h : KPO T0 s σ) : PF st1 (KPO T0 s) (f_X7_firstOf b p0 σ) := by
  unfold f_X7_firstOf
  exact (PF.bnd (wo_X7_isRow  h) (fun q1 hq1 => (PF.ite (fun _ => (PF.ret1 hq1)) (fun _ => (PF.ite (fun _ => (PF.ret1 hq1)) (fun _ => PF.none))))))
theorem wo_X7_nextOf {T0 : Nat} {s : ST} {b : Nat} {p0 : Int32} {σ : ST}   (h : KPO T0 s σ) : PF st1 (KPO T0 s) (f_X7_nextOf b p0 σ) := by
  unfold f_X7_nextOf
  exact (PF.bnd (wo_X7_isRow  h) (fun q1 hq1 => (PF.ite (fun _ => (PF.ret1 hq1)) (fun _ => (PF.ite (fun _ => (PF.ret1 hq1)) (fun _ => PF.none))))))
theorem wo_X7_rowBehind_51 {T0 : Nat} {s : ST} {b : Nat} {x2 : Int32} {σ : ST}   (h : KPO T0 s σ) : PF st1 (KPO T0 s) (f_X7_rowBehind_51 b x2 σ) := by
  unfold f_X7_rowBehind_51
  exact (PF.bnd (wo_X7_nextOf  h) (fun q1 hq1 => (PF.ret1 hq1)))
theorem wo_X7_parentOf {T0 : Nat} {s : ST} {b : Nat} {p0 : Int32} {σ : ST}   (h : KPO T0 s σ) : PF st1 (KPO T0 s) (f_X7_parentOf b p0 σ) := by
  unfold f_X7_parentOf
  exact (PF.bnd (wo_X7_isRow  h) (fun q1 hq1 => (PF.ite (fun _ => (PF.ret1 hq1)) (fun _ => (PF.ite (fun _ => (PF.ret1 hq1)) (fun _ => PF.none))))))
theorem wo_X7_rowBehind_19 {T0 : Nat} {s : ST} {b : Nat}   : ∀ (n : Nat) (x1 : Int32) (x2 : Int32) (σ : ST), KPO T0 s σ → PF st1 (KPO T0 s) (f_X7_rowBehind_19 b n x1 x2 σ) := by
  intro n
  induction n with
  | zero => intro x1 x2 σ h; rw [f_X7_rowBehind_19]; exact PF.none
  | succ n ih =>
    intro x1 x2 σ h
    rw [f_X7_rowBehind_19]
    exact (PF.ite (fun _ => (wo_X7_rowBehind_51  h)) (fun _ => (PF.ite (fun _ => (wo_X7_rowBehind_51  h)) (fun _ => (PF.bnd (wo_X7_nextOf  h) (fun q1 hq1 => (PF.ite (fun _ => (PF.bnd (wo_X7_parentOf  hq1) (fun q3 hq3 => (ih _ _ _ hq3)))) (fun _ => (wo_X7_rowBehind_51  hq1)))))))))
theorem wo_X7_rowBehind {T0 : Nat} {s : ST} {b : Nat} {p0 : Int32} {σ : ST}   (h : KPO T0 s σ) : PF st1 (KPO T0 s) (f_X7_rowBehind b p0 σ) := by
  unfold f_X7_rowBehind
  exact (PF.bnd (wo_X7_firstOf  h) (fun q1 hq1 => (PF.ite (fun _ => (wo_X7_rowBehind_19  _ _ _ _ hq1)) (fun _ => (PF.bnd (wo_X7_firstOf  hq1) (fun q3 hq3 => (PF.ret1 hq3)))))))
theorem wo_X7_putInOrder_4 {T0 : Nat} {s : ST} {b : Nat}  (h_b : T0 = b) : ∀ (n : Nat) (x1 : Int32) (x2 : Int32) (σ : ST), KPO T0 s σ → PF st0 (KPO T0 s) (f_X7_putInOrder_4 b n x1 x2 σ) := by
  intro n
  induction n with
  | zero => intro x1 x2 σ h; rw [f_X7_putInOrder_4]; exact PF.none
  | succ n ih =>
    intro x1 x2 σ h
    rw [f_X7_putInOrder_4]
    exact (PF.ite (fun _ => (PF.ret0 h)) (fun _ => (PF.bnd (wo_X7_isRow  h) (fun q1 hq1 => (PF.ite (fun _ => (PF.ret0 hq1)) (fun _ => (PF.ite (fun _ => (PF.ite (fun _ => (PF.bnd (wo_X7_rowBehind  (KPO.i (by omega) (KPO.i (by omega) hq1))) (fun q5 hq5 => (ih _ _ _ hq5)))) (fun _ => PF.none))) (fun _ => PF.none))))))))
theorem wo_X7_putInOrder {T0 : Nat} {s : ST} {b : Nat} {σ : ST}  (h_b : T0 = b) (h : KPO T0 s σ) : PF st0 (KPO T0 s) (f_X7_putInOrder b σ) := by
  unfold f_X7_putInOrder
  exact (wo_X7_putInOrder_4 (by omega) _ _ _ _ h)
/-- the root's type is laid: nothing else is another one -/
theorem PSX.put {σ : ST} {PR : Nat → Int32} (hM : ME σ) (hP : PSX σ PR) (x y : Int32) : PSX (stI (stI σ 2 799 x) 3 799 y) PR := by
  intro w r a1 a2 a3 a4 a5
  obtain ⟨x1, x2, x3⟩ := hP w r a1 a2 a3 a4 a5
  refine ⟨x1, x2, fun k f v k1 k2 k3 => ?_⟩
  have k3' := ff_tr (σ := stI (stI σ 2 799 x) 3 799 y) (τ := σ) rfl rfl rfl rfl w f v k3
  have k1' : (k : Int) < (σ.1 11 (6 * (σ.1 0 54).toNatClampNeg + r.toNatClampNeg)).toInt := k1
  have k2' : f.toInt = 8 * (6 * (σ.1 0 54).toInt + r.toInt) + k := k2
  obtain ⟨c1, c2⟩ := x3 k f v k1' k2' k3'
  refine ⟨fun h0 => ?_, c2⟩
  have m := c1 h0
  have n1 := nN_ a1
  have n2 := nN_ a3
  have hw : wrec σ w := wrec_i a1 (by omega)
  have hr : rrec σ r := rrec_i a3 (by omega)
  obtain ⟨b1, b2, b3, b4⟩ := hM.w
  have r2 : r.toInt < rmR σ := hr.2
  have b21 := b2.1
  have b22 := b2.2
  obtain ⟨f1, f2⟩ := hM.rf4 hr
  have f12 := f1.2
  have n3 := nN_ b21
  have ef : f.toNatClampNeg = 8 * (6 * (σ.1 0 54).toNatClampNeg + r.toNatClampNeg) + k := nC (by omega)
  have hf := f2 k k1'
  rw [← ef] at hf
  obtain ⟨⟨v', s⟩, e1, e2, e3⟩ := hM.ff4 hw (f := f) (by omega)
  rw [k3'] at e1
  have ev : v = v' := (Prod.mk.inj (Option.some.inj e1)).1
  rw [← ev] at e3
  have e3 : v.toInt = -1 ∨ (0 ≤ v.toInt ∧ v.toInt < 576) ∧ VC σ (rmW σ) 4 (σ.1 15 v.toNatClampNeg) := e3
  rcases e3 with e3 | e3
  · omega
  · obtain ⟨n, hn⟩ := m
    exact ⟨n, MT.put (i := 799) (by decide) e3.2 hf hn⟩
theorem put_back (σ : ST) (x y : Int32) : stI (stI (stI (stI σ 2 799 x) 3 799 y) 2 799 (σ.1 2 799)) 3 799 (σ.1 3 799) = σ := by
  have e : ∀ c i, (stI (stI (stI (stI σ 2 799 x) 3 799 y) 2 799 (σ.1 2 799)) 3 799 (σ.1 3 799)).1 c i = σ.1 c i := fun c i => by
    by_cases h3 : c = 3
    · subst h3
      rw [stI_at]
      by_cases hi : i = 799
      · rw [upA hi, hi]
      · rw [upN hi, stI_ne (by omega), stI_at, upN hi, stI_ne (by omega)]
    · rw [stI_ne h3]
      by_cases h2 : c = 2
      · subst h2
        rw [stI_at]
        by_cases hi : i = 799
        · rw [upA hi, hi]
        · rw [upN hi, stI_ne (by omega), stI_at, upN hi]
      · rw [stI_ne h2, stI_ne h3, stI_ne h2]
  exact Prod.ext (funext fun c => funext fun i => e c i) rfl
theorem PPX.root {σ : ST} (h : PPX σ) : PPX (stI (stI σ 2 799 7) 3 799 0) := by
  have hM : ME (stI (stI σ 2 799 7) 3 799 0) := ⟨h.1.1.root, h.1.2.1, h.1.2.2⟩
  refine ⟨hM, h.2.1, PSX.put h.1 h.2.2.1 7 0, fun PR' hQ k hk hne => ?_⟩
  have := PSX.put hM hQ (σ.1 2 799) (σ.1 3 799)
  rw [put_back σ 7 0] at this
  exact h.2.2.2 PR' this k hk hne
theorem PPX.ch {I : List Nat} {σ t : ST} (h : PPX σ) (c : CH [] I σ t) (hI : ∀ i, i ∈ [32, 53, 54] → i ∉ I) : PPX t := by
  obtain ⟨h1, h2, h3⟩ := h
  obtain ⟨e1, e2⟩ := rm_ch c (by decide) (hI 53 (by decide)) (hI 54 (by decide))
  have e35 : t.1 35 = σ.1 35 := c.1 35 (by decide) (by decide)
  refine ⟨h1.ch c (fun _ _ h => by cases h) hI, ?_, ?_⟩
  · unfold PC
    rw [e1, e2, e35]
    exact h2
  · rw [e35]
    exact h3.tr c (fun _ _ h => by cases h) (hI 53 (by decide)) (hI 54 (by decide))
/-- what a run of the class leaves as it was -/
def KRN (b t : Nat) (σ s : ST) : Prop := (∀ c, (c < b ∨ b + 2 < c) → (c < t ∨ t + 11 < c) → s.1 c = σ.1 c) ∧ (∀ i, i ≠ 1 → s.1 t i = σ.1 t i) ∧ (∀ c, c ≠ 41 → c ≠ 42 → c ≠ t + 6 → s.2.1 c = σ.2.1 c) ∧ s.2.2.1 = σ.2.2.1 ∧ ∀ c, c ≠ b → s.2.2.2 c = σ.2.2.2 c
theorem KRN.kra {b t : Nat} {σ s u : ST} (h : KRN b t σ s) (k : KRA b t s u) : KRN b t σ u := by
  obtain ⟨_, k1, ⟨_, k2⟩, k3, k4, _⟩ := k
  refine ⟨fun c a d => (k1 c a d).trans (h.1 c a d), fun i hi => (k2 i hi).trans (h.2.1 i hi), fun c a d e => (k3 c e).trans (h.2.2.1 c a d e), by rw [k4]; exact h.2.2.2.1, fun c hc => by rw [k4]; exact h.2.2.2.2 c hc⟩
theorem KRN.clr {b t : Nat} {σ s : ST} (h : KRN b t σ s) (v : Int32) : KRN b t σ (stI s t 1 v) := by
  refine ⟨fun c a d => (stI_ne (by omega)).trans (h.1 c a d), fun i hi => ?_, h.2.2⟩
  rw [stI_at, upN hi]
  exact h.2.1 i hi
/-- and one of the reference -/
def KRM (τ w : ST) : Prop := (∀ c, c ≠ 0 → c ≠ 2 → c ≠ 3 → c ≠ 20 → (c < 23 ∨ 30 < c) → c ≠ 35 → c ≠ 36 → c ≠ 41 → w.1 c = τ.1 c) ∧ ∀ i, i ∉ [46, 53, 54, 57, 63, 64, 65, 66, 67, 68, 72] → w.1 0 i = τ.1 0 i
theorem KRM.krb {τ w z : ST} (h : KRM τ w) (k : KRB w z) : KRM τ z := by
  refine ⟨fun c h0 h2 h3 h20 h23 h35 h36 h41 => (k.1 c h0 h20 h23 h36 h41).trans (h.1 c h0 h2 h3 h20 h23 h35 h36 h41), fun i hi => ?_⟩
  simp only [List.mem_cons, List.not_mem_nil, or_false, not_or] at hi
  exact (k.2.1 i (by omega) (by omega) (by omega) (by omega) (by omega) (by omega) (by omega)).trans (h.2 i (by simp only [List.mem_cons, List.not_mem_nil, or_false, not_or]; omega))
/-- what both answer of a message read: refused alike, or one tree -/
def RDT (b t q : Nat) (qa qb : Int32 × ST) : Prop := qb.1 = 0 ∧ ∃ (S T s : ST) (e : Nat), (PHB 4 q S T ∧ q < 6 ∧ TG q (T.1 8 q).toInt S T 0 (S.1 6 q) 799) ∧ (KTA S s ∧ KRA b t S s ∧ KRB T qb.2) ∧ (f_X7_putInOrder t s = some qa.2 ∧ KPO t s qa.2) ∧ VAL True t q S T s qb.2 32 (S.1 6 q) 799 (0, e) (0, e) ∧ ((0 < e ∧ e ≤ 400) ∧ (s.1 t 1).toInt = e ∧ (qb.2.1 0 46).toInt = e ∧ qa.1.toInt = e) ∧ (s.1 (t + 2) 0).toInt = -1 ∧ (s.1 (t + 3) 0).toInt = 0 ∧ (qb.2.1 24 0).toInt = -1 ∧ (qb.2.1 25 0).toInt = 0 ∧ s.1 (t + 5) 0 = qb.2.1 27 0
def RDN (b t q : Nat) (σ τ : ST) (qa qb : Int32 × ST) : Prop := (KRN b t σ qa.2 ∧ KRM τ qb.2) ∧ ((qa.1 = qb.1 ∧ (qa.1.toInt = -2 ∨ qa.1.toInt = -3) ∧ (qa.2.1 t 1).toInt = 0) ∨ RDT b t q qa qb)
theorem q_sizeOfM (p0 : Int32) (σ : ST) (h : 0 ≤ p0.toInt ∧ p0.toInt < 4) : QT (f_X1_sizeOf p0 σ) (fun q => q = (σ.1 39 p0.toNatClampNeg, σ)) := by
  unfold f_X1_sizeOf f_X1_isNumber
  have l0 := li_0
  have l4 := li_4
  rw [if_neg (by rw [Int32.lt_iff_toInt_lt]; omega), if_neg (by rw [Int32.le_iff_toInt_le]; omega), sbnd]
  dsimp only
  rw [if_neg n1_0]
  exact QT.grd (fun _ => QT.ret rfl)
/-- behind the end of a run -/
theorem a_run129F {b t : Nat} {s : ST} (h : ¬ s.1 b 7 = 0) : QT (f_X4_run_129 b t s) (fun qa => qa.1.toInt = -3 ∧ qa.2 = stI s t 1 0) := by
  unfold f_X4_run_129 f_X7_clear
  refine QT.ite (fun h0 => absurd h0 h) (fun _ => QT.grd (fun _ => ?_))
  rw [sbnd]
  exact QT.ret ⟨show (-3 : Int32).toInt = -3 by decide, rfl⟩
theorem a_run129S {b t : Nat} {s : ST} (h : s.1 b 7 = 0) : QT (f_X4_run_129 b t s) (fun qa => f_X7_putInOrder t s = some qa.2 ∧ KPO t s qa.2 ∧ qa.1 = s.1 t 1) := by
  unfold f_X4_run_129
  refine QT.ite (fun _ => QT.grd (fun _ => ?_)) (fun h0 => absurd h h0)
  refine QT.bnd (Q := fun z => f_X7_putInOrder t s = some z ∧ KPO t s z) (fun z e => ⟨e, wo_X7_putInOrder rfl KPO.rf z e⟩) (fun z hz => QT.grd (fun _ => QT.ret ⟨hz.1, hz.2, ?_⟩))
  show z.1 t 1 = s.1 t 1
  rw [hz.2.1 t (by omega) (by omega)]
