/-! what is asked of what is shown, and of a message's bytes: both sides -/
theorem a_rowAt (p0 : Int32) (σ : ST) {n : Nat} (h1 : (σ.1 50 1).toInt = n) (h0 : (n : Int) ≤ (σ.1 50 0).toInt) : QT (f_X7_rowAt 50 p0 σ) (fun q => q.2 = σ ∧ ((q.1 = -1 ∧ ¬ (0 ≤ p0.toInt ∧ p0.toInt < n)) ∨ (0 ≤ p0.toInt ∧ p0.toInt < n) ∧ q.1 = σ.1 60 p0.toNatClampNeg)) := by
  have l0 := li_0
  unfold f_X7_rowAt
  refine QT.ilt (fun h => QT.ret ⟨rfl, .inl ⟨rfl, by omega⟩⟩) (fun h => ?_)
  refine QT.ile (fun h => QT.ret ⟨rfl, .inl ⟨rfl, by omega⟩⟩) (fun h2 => ?_)
  refine QT.ile (fun h => QT.ret ⟨rfl, .inl ⟨rfl, by omega⟩⟩) (fun h3 => ?_)
  exact QT.grd (fun _ => QT.ret ⟨rfl, .inr ⟨⟨by omega, by omega⟩, rfl⟩⟩)
/-- what of a node is told -/
def TVN (τ : ST) (i : Nat) (p1 : Int32) : Int32 := if p1 = 0 then τ.1 42 i else if p1 = 1 then τ.1 43 i else if p1 = 2 then τ.1 44 i else if p1 = 3 then τ.1 45 i else if τ.1 46 i = 0 then 0 else 1
theorem q_isFilledRow {b : Nat} {x : Int32} {σ : ST} {r : Nat} (h : x.toInt = r) (h1 : (r : Int) < (σ.1 b 1).toInt) (h0 : (r : Int) < (σ.1 b 0).toInt) : QT (f_X7_isFilled b x σ) (fun q => q = (if σ.1 (b + 5) r = 0 then 0 else 1, σ)) := by
  have l0 := li_0
  have n := nC h
  unfold f_X7_isFilled
  rw [n]
  refine QT.bnd (q_isRow b x σ h h1 h0) (fun q hq => ?_)
  obtain ⟨w, s⟩ := q
  obtain ⟨e, hw⟩ := hq
  have e : s = σ := e
  subst e
  have hw : w.toInt = 1 := hw
  refine QT.ieq (fun h => by omega) (fun _ => QT.grd (fun _ => ?_))
  refine QT.ite (fun h9 => QT.ret ?_) (fun h9 => QT.ret ?_)
  · rw [if_pos h9]
  · rw [if_neg h9]
theorem q_numberRow {b : Nat} {x : Int32} {σ : ST} {r : Nat} (h : x.toInt = r) (h1 : (r : Int) < (σ.1 b 1).toInt) (h0 : (r : Int) < (σ.1 b 0).toInt) : QT (f_X7_numberOf b x σ) (fun q => q = (σ.1 (b + 11) r, σ)) := by
  have l0 := li_0
  have n := nC h
  unfold f_X7_numberOf
  rw [n]
  refine QT.bnd (q_isRow b x σ h h1 h0) (fun q hq => ?_)
  obtain ⟨w, s⟩ := q
  obtain ⟨e, hw⟩ := hq
  have e : s = σ := e
  subst e
  have hw : w.toInt = 1 := hw
  exact QT.ieq (fun h => by omega) (fun _ => QT.grd (fun _ => QT.ret rfl))
theorem q_number_m1 (b : Nat) (x : Int32) (σ : ST) (h : x.toInt = -1) : QT (f_X7_numberOf b x σ) (fun q => q = (-1, σ)) := by
  have l0 := li_0
  unfold f_X7_numberOf f_X7_isRow
  rw [if_pos (by rw [Int32.lt_iff_toInt_lt]; omega), sbnd]
  dsimp only
  refine QT.ite (fun _ => QT.ret rfl) (fun h => absurd rfl h)
theorem a_node {σ τ : ST} (hS : SHW 50 σ τ) (hcap : (σ.1 50 0).toInt = 400) (p0 p1 : Int32) : QT (f_X10_node p0 p1 σ) (fun q => (((0 ≤ p0.toInt ∧ p0.toInt < (τ.1 0 73).toInt) ∧ 0 ≤ p1.toInt ∧ p1.toInt ≤ 4) ∧ q.1 = some (TVN τ p0.toNatClampNeg p1)) ∨ ¬ ((0 ≤ p0.toInt ∧ p0.toInt < (τ.1 0 73).toInt) ∧ 0 ≤ p1.toInt ∧ p1.toInt ≤ 4) ∧ q.1 = none) := by
  have l0 := li_0
  have l4 := li_4
  have lm := li_m1
  obtain ⟨n, n4, h1, h2, h3⟩ := hS
  unfold f_X10_node f_X10_node_23
  refine QT.bnd (a_rowAt p0 σ h1 (by omega)) (fun q hq => ?_)
  obtain ⟨v, s⟩ := q
  obtain ⟨e, hv⟩ := hq
  have e : s = σ := e
  have hv : (v = -1 ∧ ¬ (0 ≤ p0.toInt ∧ p0.toInt < n)) ∨ (0 ≤ p0.toInt ∧ p0.toInt < n) ∧ v = σ.1 60 p0.toNatClampNeg := hv
  rw [e, h2]
  dsimp only
  rcases hv with ⟨hv, hno⟩ | ⟨hp, hv⟩
  · refine QT.ite (fun _ => QT.ret (.inr ⟨fun h => hno h.1, rfl⟩)) (fun h => absurd hv h)
  have np := nN_ hp.1
  obtain ⟨r, r1, r2, r3⟩ := h3 p0.toNatClampNeg (by omega)
  have hvr : v.toInt = r := by rw [hv]; exact r2
  refine QT.ieq (fun h => by omega) (fun _ => ?_)
  refine QT.ilt (fun h => QT.ret (.inr ⟨fun h9 => by omega, rfl⟩)) (fun hp1 => ?_)
  refine QT.ile (fun hp4 => ?_) (fun h => QT.ret (.inr ⟨fun h9 => by omega, rfl⟩))
  have hin : (0 ≤ p0.toInt ∧ p0.toInt < n) ∧ 0 ≤ p1.toInt ∧ p1.toInt ≤ 4 := ⟨hp, by omega, by omega⟩
  have g1 : (r : Int) < (σ.1 50 1).toInt := by omega
  have g0 : (r : Int) < (σ.1 50 0).toInt := by omega
  obtain ⟨⟨s1, _⟩, s2, s3, s4, s5, _⟩ := r3
  unfold TVN
  by_cases c0 : p1 = 0
  · rw [if_pos c0]
    refine QT.bnd (q_sortAt hvr g1 g0) (fun q hq => QT.ret (.inl ⟨hin, ?_⟩))
    rw [hq, if_pos c0]
    show some (σ.1 (50 + 1) r) = _
    rw [s1]
  rw [if_neg c0]
  by_cases c1 : p1 = 1
  · rw [if_pos c1]
    refine QT.bnd (q_parentRow hvr g1 g0) (fun q hq => ?_)
    rw [hq]
    dsimp only
    rcases s2 with ⟨s2, s6⟩ | ⟨k, k1, k2, k3⟩
    · refine QT.bnd (q_number_m1 50 _ σ s2) (fun z hz => QT.ret (.inl ⟨hin, ?_⟩))
      rw [hz, if_neg c0, if_pos c1]
      show some (-1 : Int32) = _
      rw [Int32.toInt_inj.mp (s6.trans lm.symm)]
    · refine QT.bnd (q_numberRow k2 (by omega) (by omega)) (fun z hz => QT.ret (.inl ⟨hin, ?_⟩))
      rw [hz, if_neg c0, if_pos c1]
      show some (σ.1 (50 + 11) k) = _
      rw [k3]
  rw [if_neg c1]
  by_cases c2 : p1 = 2
  · rw [if_pos c2]
    refine QT.bnd (q_placeOf hvr g1 g0) (fun q hq => QT.ret (.inl ⟨hin, ?_⟩))
    rw [hq, if_neg c0, if_neg c1, if_pos c2]
    show some (σ.1 (50 + 3) r) = _
    rw [Int32.toInt_inj.mp s3]
  rw [if_neg c2]
  by_cases c3 : p1 = 3
  · rw [if_pos c3]
    refine QT.bnd (q_sizeOf hvr g1 g0) (fun q hq => QT.ret (.inl ⟨hin, ?_⟩))
    rw [hq, if_neg c0, if_neg c1, if_neg c2, if_pos c3]
    show some (σ.1 (50 + 4) r) = _
    rw [Int32.toInt_inj.mp s4]
  rw [if_neg c3]
  refine QT.bnd (q_isFilledRow hvr g1 g0) (fun q hq => ?_)
  rw [hq]
  dsimp only
  by_cases hf : σ.1 (50 + 5) r = 0
  · rw [if_pos hf]
    refine QT.ite (fun _ => QT.ret (.inl ⟨hin, ?_⟩)) (fun h => absurd rfl h)
    rw [if_neg c0, if_neg c1, if_neg c2, if_neg c3, if_pos (s5.mp hf)]
  · rw [if_neg hf]
    refine QT.ite (fun h => absurd h one_ne) (fun _ => QT.ret (.inl ⟨hin, ?_⟩))
    rw [if_neg c0, if_neg c1, if_neg c2, if_neg c3, if_neg (fun h => hf (s5.mpr h))]
theorem q_node {τ : ST} (hn : (τ.1 0 73).toInt ≤ 400) (h0 : 0 ≤ (τ.1 0 73).toInt) (p0 p1 : Int32) : QT (f_X11_node p0 p1 τ) (fun q => (((0 ≤ p0.toInt ∧ p0.toInt < (τ.1 0 73).toInt) ∧ 0 ≤ p1.toInt ∧ p1.toInt ≤ 4) ∧ q.1 = TVN τ p0.toNatClampNeg p1 ∧ q.2.1 0 0 = 0) ∨ ¬ ((0 ≤ p0.toInt ∧ p0.toInt < (τ.1 0 73).toInt) ∧ 0 ≤ p1.toInt ∧ p1.toInt ≤ 4) ∧ q.2.1 0 0 = 1) := by
  have l0 := li_0
  have l1 := li_1
  have l0' := l64_0
  have l4' : (4 : Int64).toInt = 4 := by decide
  have i0 := i64 p0
  have i1 := i64 p1
  have es := il_subE (x := τ.1 0 73) (y := 1) (by omega) (by omega)
  have i2 := i64 (τ.1 0 73 - 1)
  have z00 : ∀ y : Int32, (stI τ 0 0 y).1 0 0 = y := fun y => by rw [stI_at, upA rfl]
  have zc : ∀ y c, c ≠ 0 → (stI τ 0 0 y).1 c = τ.1 c := fun y c h => stI_ne h
  unfold f_X11_node f_X11_node_33 f_X11_node_34
  have none_ : ∀ {P : Int32 × ST → Prop}, P (0, stI τ 0 0 1) → QT (if (stI τ 0 0 1).1 0 0 ≤ 0 then (if p1 = 0 then (if 0 ≤ p0.toInt ∧ p0.toInt < 400 then some ((stI τ 0 0 1).1 42 p0.toNatClampNeg, stI τ 0 0 1) else none) else if p1 = 1 then (if 0 ≤ p0.toInt ∧ p0.toInt < 400 then some ((stI τ 0 0 1).1 43 p0.toNatClampNeg, stI τ 0 0 1) else none) else if p1 = 2 then (if 0 ≤ p0.toInt ∧ p0.toInt < 400 then some ((stI τ 0 0 1).1 44 p0.toNatClampNeg, stI τ 0 0 1) else none) else if p1 = 3 then (if 0 ≤ p0.toInt ∧ p0.toInt < 400 then some ((stI τ 0 0 1).1 45 p0.toNatClampNeg, stI τ 0 0 1) else none) else if 0 ≤ p0.toInt ∧ p0.toInt < 400 then (if (stI τ 0 0 1).1 46 p0.toNatClampNeg = 0 then some (0, stI τ 0 0 1) else some (1, stI τ 0 0 1)) else none) else some (0, stI τ 0 0 1)) P := fun h => by
    rw [z00]
    exact QT.ile (fun h9 => by omega) (fun _ => QT.ret h)
  refine QT.bndR (b_within _ _ _ _) (fun v hv => ?_)
  dsimp only
  refine QT.ieq (fun hv0 => none_ (.inr ⟨fun h => by omega, z00 1⟩)) (fun hv0 => ?_)
  refine QT.bndR (b_within _ _ _ _) (fun w hw => ?_)
  dsimp only
  refine QT.ieq (fun hw0 => none_ (.inr ⟨fun h => by omega, z00 1⟩)) (fun hw0 => ?_)
  have hin : (0 ≤ p0.toInt ∧ p0.toInt < (τ.1 0 73).toInt) ∧ 0 ≤ p1.toInt ∧ p1.toInt ≤ 4 := ⟨⟨by omega, by omega⟩, by omega, by omega⟩
  rw [z00, zc 0 42 (by omega), zc 0 43 (by omega), zc 0 44 (by omega), zc 0 45 (by omega), zc 0 46 (by omega)]
  refine QT.ile (fun _ => ?_) (fun h => by omega)
  unfold TVN
  by_cases c0 : p1 = 0
  · rw [if_pos c0]
    exact QT.grd (fun _ => QT.ret (.inl ⟨hin, (if_pos c0).symm, z00 0⟩))
  rw [if_neg c0]
  by_cases c1 : p1 = 1
  · rw [if_pos c1]
    exact QT.grd (fun _ => QT.ret (.inl ⟨hin, by rw [if_neg c0, if_pos c1], z00 0⟩))
  rw [if_neg c1]
  by_cases c2 : p1 = 2
  · rw [if_pos c2]
    exact QT.grd (fun _ => QT.ret (.inl ⟨hin, by rw [if_neg c0, if_neg c1, if_pos c2], z00 0⟩))
  rw [if_neg c2]
  by_cases c3 : p1 = 3
  · rw [if_pos c3]
    exact QT.grd (fun _ => QT.ret (.inl ⟨hin, by rw [if_neg c0, if_neg c1, if_neg c2, if_pos c3], z00 0⟩))
  rw [if_neg c3]
  refine QT.grd (fun _ => QT.ite (fun h9 => QT.ret (.inl ⟨hin, ?_, z00 0⟩)) (fun h9 => QT.ret (.inl ⟨hin, ?_, z00 0⟩)))
  · rw [if_neg c0, if_neg c1, if_neg c2, if_neg c3, if_pos h9]
  · rw [if_neg c0, if_neg c1, if_neg c2, if_neg c3, if_neg h9]
/-- both answer, or both throw -/
theorem ab_node {σ τ : ST} (hS : SHW 50 σ τ) (hcap : (σ.1 50 0).toInt = 400) (p0 p1 : Int32) : QT (f_L_node p0 p1 σ) (fun qa => QT (f_X11_node p0 p1 τ) (fun qb => qa.1 = qb.2.1 0 0 ∧ (qa.1 = 0 → qa.2.2.1 95 0 = qb.1.toInt64))) := by
  have hn : (τ.1 0 73).toInt ≤ 400 ∧ 0 ≤ (τ.1 0 73).toInt := by
    obtain ⟨n, n4, _, h2, _⟩ := hS
    omega
  unfold f_L_node
  refine QT.bnd (a_node hS hcap p0 p1) (fun q hq => ?_)
  obtain ⟨o, s⟩ := q
  rcases hq with ⟨h1, h2⟩ | ⟨h1, h2⟩
  · have h2 : o = some (TVN τ p0.toNatClampNeg p1) := h2
    subst h2
    refine QT.ret ((q_node hn.1 hn.2 p0 p1).mono (fun z hz => ?_))
    rcases hz with ⟨_, z1, z2⟩ | ⟨z1, _⟩
    · refine ⟨z2.symm, fun _ => ?_⟩
      show (stL s 95 (0 : Int32).toNatClampNeg (TVN τ p0.toNatClampNeg p1).toInt64).2.1 95 0 = _
      rw [stL_cell, updLA (by decide), z1]
    · exact absurd h1 z1
  · have h2 : o = none := h2
    subst h2
    refine QT.ret ((q_node hn.1 hn.2 p0 p1).mono (fun z hz => ?_))
    rcases hz with ⟨z1, _⟩ | ⟨_, z2⟩
    · exact absurd z1 h1
    · exact ⟨z2.symm, fun h => absurd h one_ne⟩
theorem ab_valueL {σ τ : ST} (hS : SHW 50 σ τ) (hcap : (σ.1 50 0).toInt = 400) (p0 : Int32) : QT (f_L_value p0 σ) (fun qa => QT (f_X11_value_ p0 τ) (fun qb => qa.1 = qb.2.1 0 0 ∧ (qa.1 = 0 → qa.2.2.1 95 0 = qb.1))) := by
  have l0 := li_0
  have l1 := li_1
  have l5 := li_5
  have lm := li_m1
  have l0' := l64_0
  obtain ⟨n, n4, h1, h2, h3⟩ := hS
  have i0 := i64 p0
  have es := il_subE (x := τ.1 0 73) (y := 1) (by omega) (by omega)
  have i2 := i64 (τ.1 0 73 - 1)
  have z00 : ∀ y : Int32, (stI τ 0 0 y).1 0 0 = y := fun y => by rw [stI_at, upA rfl]
  have hB : QT (f_X11_value_ p0 τ) (fun q => ((0 ≤ p0.toInt ∧ p0.toInt < n) ∧ q.1 = τ.2.1 47 p0.toNatClampNeg ∧ q.2.1 0 0 = 0) ∨ ¬ (0 ≤ p0.toInt ∧ p0.toInt < n) ∧ q.2.1 0 0 = 1) := by
    unfold f_X11_value_ f_X11_value__22
    refine QT.bndR (b_within _ _ _ _) (fun v hv => ?_)
    dsimp only
    refine QT.ieq (fun hv0 => ?_) (fun hv0 => ?_)
    · rw [z00]
      exact QT.ile (fun h9 => by omega) (fun _ => QT.ret (.inr ⟨fun h => by omega, z00 1⟩))
    · rw [z00]
      exact QT.ile (fun h9 => QT.grd (fun _ => QT.ret (.inl ⟨⟨by omega, by omega⟩, rfl, z00 0⟩))) (fun h => by omega)
  have hA : QT (f_X10_value p0 σ) (fun q => ((0 ≤ p0.toInt ∧ p0.toInt < n) ∧ q.1 = some (τ.2.1 47 p0.toNatClampNeg)) ∨ ¬ (0 ≤ p0.toInt ∧ p0.toInt < n) ∧ q.1 = none) := by
    unfold f_X10_value
    refine QT.bnd (a_rowAt p0 σ h1 (by omega)) (fun q hq => ?_)
    obtain ⟨v, s⟩ := q
    obtain ⟨e, hv⟩ := hq
    have e : s = σ := e
    have hv : (v = -1 ∧ ¬ (0 ≤ p0.toInt ∧ p0.toInt < n)) ∨ (0 ≤ p0.toInt ∧ p0.toInt < n) ∧ v = σ.1 60 p0.toNatClampNeg := hv
    rw [e]
    dsimp only
    rcases hv with ⟨hv, hno⟩ | ⟨hp, hv⟩
    · exact QT.ite (fun _ => QT.ret (.inr ⟨hno, rfl⟩)) (fun h => absurd hv h)
    have np := nN_ hp.1
    obtain ⟨r, r1, r2, r3⟩ := h3 p0.toNatClampNeg (by omega)
    have hvr : v.toInt = r := by rw [hv]; exact r2
    have g1 : (r : Int) < (σ.1 50 1).toInt := by omega
    have g0 : (r : Int) < (σ.1 50 0).toInt := by omega
    obtain ⟨⟨s1, s1b⟩, -, -, -, -, s6, s7⟩ := r3
    refine QT.ieq (fun h => by omega) (fun _ => ?_)
    refine QT.bnd (q_sortAt hvr g1 g0) (fun q hq => ?_)
    rw [hq, s1]
    dsimp only
    refine QT.ieq (fun h5 => QT.ret (.inl ⟨hp, ?_⟩)) (fun h5 => ?_)
    · have hE := s6 (by omega)
      unfold EWR at hE
      rw [if_pos (by omega)] at hE
      rw [hE.1]
    · refine QT.bnd (q_worthOf hvr g1 g0) (fun z hz => QT.ret (.inl ⟨hp, ?_⟩))
      rw [hz]
      show some (σ.2.1 (50 + 6) r) = _
      by_cases c : (τ.1 42 p0.toNatClampNeg).toInt ≤ 5
      · have hE := s6 c
        unfold EWR at hE
        rw [if_neg (by omega)] at hE
        rw [hE.1]
      · rw [s7 (by omega)]
  unfold f_L_value
  refine QT.bnd hA (fun q hq => ?_)
  obtain ⟨o, s⟩ := q
  rcases hq with ⟨h4, h5⟩ | ⟨h4, h5⟩
  · have h5 : o = some (τ.2.1 47 p0.toNatClampNeg) := h5
    subst h5
    refine QT.ret (hB.mono (fun z hz => ?_))
    rcases hz with ⟨_, z1, z2⟩ | ⟨z1, _⟩
    · refine ⟨z2.symm, fun _ => ?_⟩
      show (stL s 95 (0 : Int32).toNatClampNeg (τ.2.1 47 p0.toNatClampNeg)).2.1 95 0 = _
      rw [stL_cell, updLA (by decide), z1]
    · exact absurd h4 z1
  · have h5 : o = none := h5
    subst h5
    refine QT.ret (hB.mono (fun z hz => ?_))
    rcases hz with ⟨z1, _⟩ | ⟨_, z2⟩
    · exact absurd z1 h4
    · exact ⟨z2.symm, fun h => absurd h one_ne⟩
/-- the reference's letter k of m -/
theorem q_let75 {m k : Nat} {g : Nat → Nat} (hm : m ≤ 12) (hg : GL g m) (hk : k < m) (x2 : Int32) (h2 : x2.toInt = k) (σ : ST) : ∀ (n i : Nat) (x3 : Int64) (x5 : Int32), x5.toInt = i → k ≤ i → i < m → x3.toInt = ((n27 g m / 27 ^ (m - 1 - i) : Nat) : Int) → QT (f_X11_letter_75 n x2 x3 x5 σ) (fun q => q.1.toInt = (g k : Int) ∧ q.2 = σ) := by
  have lm := li_m1
  have l27 : (27 : Int64).toInt = 27 := by decide
  have hN : n27 g m < 150094635296999121 + 1 := by
    have := n27_lt m g hg
    have := p27 m hm
    omega
  intro n
  induction n with
  | zero =>
    intro i x3 x5 _ _ _ _
    rw [f_X11_letter_75]
    exact QT.none
  | succ n ih =>
    intro i x3 x5 h5 hki him h3
    rw [f_X11_letter_75]
    have hDl : n27 g m / 27 ^ (m - 1 - i) ≤ n27 g m := Nat.div_le_self _ _
    refine QT.ile (fun hle => QT.ret ⟨?_, rfl⟩) (fun hlt => ?_)
    · have eik : i = k := by omega
      subst eik
      have hdig := n27_get m g hg i hk
      have hgk := hg i hk
      generalize n27 g m / 27 ^ (m - 1 - i) = D at h3 hdig hDl
      have hD27 : (x3 / 27).toInt = ((D / 27 : Nat) : Int) := by
        rw [Int64.toInt_div_of_ne_right _ _ (by decide), h3, l27]
        rfl
      have hDm : (x3 / 27 * 27).toInt = ((D / 27 * 27 : Nat) : Int) := by
        rw [Int64.toInt_mul, hD27, l27]
        have e : ((D / 27 : Nat) : Int) * 27 = ((D / 27 * 27 : Nat) : Int) := by omega
        rw [e]
        exact Int.bmod_eq_of_le (by omega) (by omega)
      have hy : (x3 - x3 / 27 * 27).toInt = (g i : Int) := by
        rw [Int64.toInt_sub, h3, hDm]
        have e : (D : Int) - ((D / 27 * 27 : Nat) : Int) = (g i : Int) := by omega
        rw [e]
        exact Int.bmod_eq_of_le (by omega) (by omega)
      show ((x3 - x3 / 27 * 27).toInt32).toInt = _
      rw [Int64.toInt_toInt32, hy]
      exact Int.bmod_eq_of_le (by omega) (by omega)
    · have hki2 : k < i := by
        clear h3 hDl hN ih
        omega
      obtain ⟨j, rfl⟩ : ∃ j, i = j + 1 := ⟨i - 1, by
        clear h3 hDl hN ih
        omega⟩
      have e5 := il_addE (x := x5) (y := -1) (by
        clear h3 hDl hN ih
        omega) (by
        clear h3 hDl hN ih
        omega)
      have e5b : (x5 + -1).toInt = (j : Int) := by
        clear h3 hDl hN ih
        omega
      have e9 : m - 1 - j = (m - 1 - (j + 1)) + 1 := by
        clear h3 hDl hN ih
        omega
      have hx : (x3 / 27).toInt = ((n27 g m / 27 ^ (m - 1 - j) : Nat) : Int) := by
        rw [e9, Nat.pow_succ, ← Nat.div_div_eq_div_mul]
        generalize n27 g m / 27 ^ (m - 1 - (j + 1)) = D at h3 ⊢
        rw [Int64.toInt_div_of_ne_right _ _ (by decide), h3, l27]
        rfl
      exact ih j (x3 / 27) (x5 + -1) e5b (Nat.le_of_lt_succ hki2) (Nat.lt_of_succ_lt him) hx
theorem ab_letter {σ τ : ST} (hS : SHW 50 σ τ) (hcap : (σ.1 50 0).toInt = 400) (p0 p1 : Int32) : QT (f_L_letter p0 p1 σ) (fun qa => QT (f_X11_letter p0 p1 τ) (fun qb => qa.1 = qb.2.1 0 0 ∧ (qa.1 = 0 → qa.2.2.1 95 0 = qb.1.toInt64))) := by
  have l0 := li_0
  have l1 := li_1
  have l5 := li_5
  have lm := li_m1
  have l0' := l64_0
  obtain ⟨n, n4, h1, h2, h3⟩ := hS
  have i0 := i64 p0
  have es := il_subE (x := τ.1 0 73) (y := 1) (by omega) (by omega)
  have i2 := i64 (τ.1 0 73 - 1)
  have z00 : ∀ y : Int32, (stI τ 0 0 y).1 0 0 = y := fun y => by rw [stI_at, upA rfl]
  have zc : ∀ y c, c ≠ 0 → (stI τ 0 0 y).1 c = τ.1 c := fun y c h => stI_ne h
  have hA : QT (f_X10_letter p0 p1 σ) (fun q => QT (f_X11_letter p0 p1 τ) (fun z => (q.1 = none ∧ z.2.1 0 0 = 1) ∨ z.2.1 0 0 = 0 ∧ q.1 = some z.1)) := by
    unfold f_X10_letter f_X10_letter_30 f_X11_letter f_X11_letter_35 f_X11_letter_36
    refine QT.bnd (a_rowAt p0 σ h1 (by omega)) (fun q hq => ?_)
    obtain ⟨v, s⟩ := q
    obtain ⟨e, hv⟩ := hq
    have e : s = σ := e
    have hv : (v = -1 ∧ ¬ (0 ≤ p0.toInt ∧ p0.toInt < n)) ∨ (0 ≤ p0.toInt ∧ p0.toInt < n) ∧ v = σ.1 60 p0.toNatClampNeg := hv
    rw [e]
    dsimp only
    have l1p : (0 : Int32) < 1 := by decide
    refine QT.sw ?_
    refine QT.bndR (b_within _ _ _ _) (fun y hy => ?_)
    dsimp only
    rcases hv with ⟨hv, hno⟩ | ⟨hp, hv⟩
    · refine QT.ieq (fun _ => ?_) (fun h => by omega)
      rw [z00, if_pos l1p]
      exact QT.ret (QT.ite (fun _ => QT.ret (.inl ⟨rfl, z00 1⟩)) (fun h => absurd hv h))
    have np := nN_ hp.1
    have hy1 : ¬ y.toInt = (0 : Int32).toInt := fun h => by omega
    obtain ⟨r, r1, r2, r3⟩ := h3 p0.toNatClampNeg (by omega)
    have hvr : v.toInt = r := by rw [hv]; exact r2
    have g1 : (r : Int) < (σ.1 50 1).toInt := by omega
    have g0 : (r : Int) < (σ.1 50 0).toInt := by omega
    have hv1 : ¬ v.toInt = (-1 : Int32).toInt := fun h => by omega
    obtain ⟨⟨s1, s1b⟩, -, -, s4, -, s6, -⟩ := r3
    refine QT.ieq (fun h => absurd h hy1) (fun _ => QT.grd (fun _ => ?_))
    refine QT.sw ?_
    refine QT.ieq (fun h => absurd h hv1) (fun _ => ?_)
    refine QT.bnd (q_sortAt hvr g1 g0) (fun q hq => ?_)
    rw [hq, s1]
    dsimp only
    by_cases c5 : τ.1 42 p0.toNatClampNeg = 5
    rotate_left
    · rw [if_neg c5, if_neg c5, z00, if_pos l1p]
      exact QT.ret (QT.ret (.inl ⟨rfl, z00 1⟩))
    rw [if_pos c5, if_pos c5]
    have s42 : (τ.1 42 p0.toNatClampNeg).toInt = 5 := by rw [c5]; exact l5
    have hE := s6 (by omega)
    unfold EWR at hE
    rw [if_pos s42] at hE
    obtain ⟨_, m, g, m12, hg, hw, ht, hm⟩ := hE
    have l0p : ¬ (0 : Int32) < 0 := by decide
    refine QT.ile (fun hp1 => ?_) (fun hp1 => ?_)
    rotate_left
    · rw [if_pos (show p1 < 0 by rw [Int32.lt_iff_toInt_lt]; omega), z00, if_pos l1p]
      exact QT.ret (QT.ret (.inl ⟨rfl, z00 1⟩))
    rw [if_neg (show ¬ p1 < 0 by rw [Int32.lt_iff_toInt_lt]; omega), z00, if_neg l0p, zc 0 45 (by omega)]
    refine QT.bnd (q_sizeOf hvr g1 g0) (fun q hq => ?_)
    rw [hq]
    dsimp only
    refine QT.ile (fun hle => ?_) (fun hgt => ?_)
    · refine QT.ret (QT.grd (fun _ => ?_))
      refine QT.ilt (fun h => by omega) (fun _ => QT.ret (.inr ⟨z00 0, rfl⟩))
    · obtain ⟨k, hk⟩ : ∃ k : Nat, p1.toInt = k := ⟨p1.toInt.toNat, by omega⟩
      have hkm : k < m := by omega
      refine QT.bnd (q_worthOf hvr g1 g0) (fun q hq => ?_)
      rw [hq]
      dsimp only
      refine QT.bndR (a_letterOf12 (σ.2.1 (50 + 6) r) p1 σ hw hk (by omega)) (fun l hl => ?_)
      rw [n5_get m g hg k, if_pos hkm] at hl
      dsimp only
      refine QT.ret (QT.grd (fun _ => ?_))
      refine QT.ilt (fun _ => ?_) (fun h => by omega)
      have e45 := il_subE (x := τ.1 45 p0.toNatClampNeg) (y := 1) (by omega) (by omega)
      have z48 : (stI τ 0 0 0).2.1 48 p0.toNatClampNeg = τ.2.1 48 p0.toNatClampNeg := rfl
      rw [z48]
      refine (q_let75 m12 hg hkm p1 hk (stI τ 0 0 0) FU (m - 1) _ _ (by omega) (by omega) (by omega) ?_).mono (fun z hz => .inr ⟨by rw [hz.2]; exact z00 0, ?_⟩)
      · rw [show m - 1 - (m - 1) = 0 by omega, Nat.pow_zero, Nat.div_one]
        exact ht
      · show some l = some z.1
        rw [Int32.toInt_inj.mp (hl.trans hz.1.symm)]
  unfold f_L_letter
  refine QT.bnd hA (fun q hq => ?_)
  obtain ⟨o, s⟩ := q
  cases o with
  | none =>
    refine QT.ret (hq.mono (fun z hz => ?_))
    rcases hz with ⟨_, z2⟩ | ⟨_, z2⟩
    · exact ⟨z2.symm, fun h => absurd h one_ne⟩
    · cases z2
  | some v =>
    refine QT.ret (hq.mono (fun z hz => ?_))
    rcases hz with ⟨z1, _⟩ | ⟨z1, z2⟩
    · cases z1
    · refine ⟨z1.symm, fun _ => ?_⟩
      have z2 : some v = some z.1 := z2
      show (stL s 95 (0 : Int32).toNatClampNeg v.toInt64).2.1 95 0 = _
      rw [stL_cell, updLA (by decide), Option.some.inj z2]
theorem ab_byteAt {σ τ : ST} (hZ : MZ τ σ) (hM : MSG σ τ) (p0 p1 : Int32) : QT (f_L_byteAt p0 p1 σ) (fun qa => QT (f_X11_byteAt_ p0 p1 τ) (fun qb => qa.1 = qb.2.1 0 0 ∧ (qa.1 = 0 → qa.2.2.1 95 0 = qb.1.toInt64))) := by
  have l0 := li_0
  have l1 := li_1
  have l1600 : (1600 : Int32).toInt = 1600 := by decide
  have z00 : ∀ y : Int32, (stI τ 0 0 y).1 0 0 = y := fun y => by rw [stI_at, upA rfl]
  have hA : QT (f_X10_byteAt p0 p1 σ) (fun q => QT (f_X11_byteAt_ p0 p1 τ) (fun z => (q.1 = none ∧ z.2.1 0 0 = 1) ∨ z.2.1 0 0 = 0 ∧ q.1 = some z.1)) := by
    unfold f_X10_byteAt f_X11_byteAt_ f_X11_byteAt__15
    refine QT.bnd2 (ab_hasByte p0 p1 hZ hM) (fun x y hxy => ?_)
    obtain ⟨xv, xs⟩ := x
    obtain ⟨yv, ys⟩ := y
    obtain ⟨⟨e1, e2, e3⟩, hx⟩ := hxy
    have e1 : xs = σ := e1
    have e2 : ys = τ := e2
    have e3 : xv = yv := e3
    have hx : xv = 0 ∨ xv = 1 ∧ ∃ m i : Nat, (p0.toInt = m ∧ m < 4) ∧ ¬ (τ.1 32 m).toInt = -1 ∧ p1.toInt = i ∧ (i : Int) < (τ.1 33 m).toInt ∧ (τ.1 33 m).toInt ≤ 400 := hx
    rw [e1, e2, ← e3]
    dsimp only
    by_cases x0 : xv = 0
    · rw [if_pos x0, if_pos x0, z00]
      exact QT.ret (QT.ile (fun h => by omega) (fun _ => QT.ret (.inl ⟨rfl, z00 1⟩)))
    rw [if_neg x0, if_neg x0, z00]
    obtain ⟨_, m, i, ⟨h0, hm4⟩, hu, h1, hi, hi4⟩ := hx.resolve_left x0
    obtain ⟨a1, a2, a3⟩ := at400 h0 hm4 h1 (by omega)
    obtain ⟨m1, m2⟩ := hM m hm4
    obtain ⟨m3, _, m5⟩ := m2 hu
    unfold f_X1_byteOf
    rw [a3, a2, if_neg (fun h => by have := il_lt h; omega), if_neg (fun h => by have := il_le h; omega), if_pos (by omega), sbnd]
    dsimp only
    have z34 : (stI τ 0 0 0).1 34 = τ.1 34 := stI_ne (by omega)
    refine QT.ret (QT.ile (fun _ => QT.grd (fun _ => QT.ret (.inr ⟨z00 0, ?_⟩))) (fun h => by omega))
    show some (σ.1 38 (400 * m + i) &&& 255) = some ((stI τ 0 0 0).1 34 (400 * m + i) &&& 255)
    rw [z34, m5 i hi]
  unfold f_L_byteAt
  refine QT.bnd hA (fun q hq => ?_)
  obtain ⟨o, s⟩ := q
  cases o with
  | none =>
    refine QT.ret (hq.mono (fun z hz => ?_))
    rcases hz with ⟨_, z2⟩ | ⟨_, z2⟩
    · exact ⟨z2.symm, fun h => absurd h one_ne⟩
    · cases z2
  | some v =>
    refine QT.ret (hq.mono (fun z hz => ?_))
    rcases hz with ⟨z1, _⟩ | ⟨z1, z2⟩
    · cases z1
    · refine ⟨z1.symm, fun _ => ?_⟩
      have z2 : some v = some z.1 := z2
      show (stL s 95 (0 : Int32).toNatClampNeg v.toInt64).2.1 95 0 = _
      rw [stL_cell, updLA (by decide), Option.some.inj z2]
