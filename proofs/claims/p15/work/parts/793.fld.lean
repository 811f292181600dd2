/-! field: both answer alike -/
theorem FMR.pos {x y : Int64} (h : FMR x y) : x = 0 ↔ ¬ 0 < y.toInt := by
  rcases h with ⟨h1, h2⟩ | ⟨⟨m, g, hm, hg, e1, e2⟩, h2⟩
  · rw [h1, h2]
    exact ⟨fun _ => by decide, fun _ => rfl⟩
  · refine ⟨fun h => absurd h h2, fun h => ?_⟩
    exfalso
    apply h2
    have e3 : n27 g m = 0 := by omega
    have e4 : m = 0 := by
      cases m with
      | zero => rfl
      | succ m =>
        have := hg m (by omega)
        have e3 : 27 * n27 g m + g m = 0 := e3
        omega
    subst e4
    have e1 : x.toInt = 0 := e1
    exact Int64.toInt_inj.mp (e1.trans l64_0.symm)
theorem b_field53_0 (x3 x4 y0 : Int32) (s : ST) : f_X11_field__53 x3 x4 0 y0 s = some (-1, s) := by
  unfold f_X11_field__53
  rw [if_pos rfl]
theorem ab_field6 (p0 p1 p2 p3 : Int32) (σ τ : ST) (hc : σ.1 4 0 = τ.1 0 32) (hb : bI (τ.1 0 32) 0 6) (hT : ∀ p : Nat, (p : Int) < (τ.1 0 32).toInt → PHB 4 p σ τ) : OK (f_X10_field p0 p1 p2 p3 σ) (fun qa => OK (f_X11_field_ p0 p1 p2 p3 τ) (fun qb => qa.1 = qb.1)) := by
  unfold f_X10_field f_X11_field_ f_X11_field__35 f_X11_field__36
  have l0 := li_0
  have l1 := li_1
  have l2 := li_2
  have l3 := li_3
  have l4 := li_4
  have l5 := li_5
  have lm := li_m1
  have k0 := l64_0
  have hb' := hb
  unfold bI at hb'
  have hci : (σ.1 4 0).toInt = (τ.1 0 32).toInt := by rw [hc]
  have s32 : (stI τ 0 0 0).1 0 32 = τ.1 0 32 := rfl
  have s1 : ∀ c, c ≠ 0 → (stI τ 0 0 0).1 c = τ.1 c := fun c hc => stI_ne hc
  have sL : (stI τ 0 0 0).2.1 = τ.2.1 := rfl
  generalize stI τ 0 0 0 = s at s32 s1 sL ⊢
  refine OK.bndR (k2_isPlan p0 σ) (fun v hv => ?_)
  dsimp only
  refine OK.sw ?_
  refine OK.bndR (b_isPlanAt p0 s (by rw [s32]; exact hb)) (fun w hw => ?_)
  dsimp only
  rw [s32] at hw
  by_cases hp : 0 ≤ p0.toInt ∧ p0.toInt < (τ.1 0 32).toInt
  rotate_left
  · refine OK.ieq (fun _ => ?_) (fun h => by omega)
    rw [if_pos rfl, b_field53_0]
    refine OK.ret ?_
    refine OK.ieq (fun _ => ?_) (fun h => by omega)
    exact OK.ret rfl
  refine OK.ieq (fun h => by omega) (fun _ => ?_)
  refine OK.grd ⟨by omega, by omega⟩ ?_
  obtain ⟨p, hp9⟩ : ∃ p : Nat, p0.toInt = p := ⟨p0.toInt.toNat, by omega⟩
  obtain ⟨⟨t1, t2⟩, _, t3, t4⟩ := hT p (by omega)
  have t1 : σ.1 5 p = τ.1 8 p := t1
  have np : p0.toNatClampNeg = p := nC hp9
  rw [np, s1 8 (by decide)]
  have es := il_subE (x := τ.1 8 p) (y := 1) (by omega) (by omega)
  have i1 := i64 p1
  have i3 := i64 (τ.1 8 p - 1)
  refine OK.bndR (b_within _ _ _ _) (fun u hu => ?_)
  dsimp only
  rw [k0, i1, i3] at hu
  have t1' : (σ.1 5 p).toInt = (τ.1 8 p).toInt := by rw [t1]
  by_cases h1 : 0 ≤ p1.toInt ∧ p1.toInt < (τ.1 8 p).toInt
  rotate_left
  · refine OK.ieq (fun _ => ?_) (fun h => by omega)
    rw [if_pos rfl, b_field53_0]
    refine OK.ret ?_
    refine OK.ieq (fun h => by omega) (fun _ => ?_)
    refine OK.ilt (fun _ => OK.ret rfl) (fun _ => ?_)
    rw [a4_recordsOf p0 σ hp9 (by omega), sbnd]
    dsimp only
    exact OK.ilt (fun h => by omega) (fun _ => OK.ret rfl)
  refine OK.ieq (fun h => by omega) (fun _ => ?_)
  rw [if_neg n1_0]
  obtain ⟨i, hi9⟩ : ∃ i : Nat, p1.toInt = i := ⟨p1.toInt.toNat, by omega⟩
  obtain ⟨_, _, ⟨x3, x4⟩, x5, x6⟩ := t4 i (by omega)
  have x3 : σ.1 7 (6 * p + i) = τ.1 11 (6 * p + i) := x3
  have x3' : (σ.1 7 (6 * p + i)).toInt = (τ.1 11 (6 * p + i)).toInt := by rw [x3]
  have x4' := x4
  unfold bI at x4'
  have em := mlE (k := 6) (y := p0) 6 (by decide) (by omega) (by omega)
  have ea := il_addE (x := 6 * p0) (y := p1) (by omega) (by omega)
  have cA : p0 * 6 = 6 * p0 := Int32.mul_comm _ _
  have hr : (6 * p0 + p1).toInt = ((6 * p + i : Nat) : Int) := by omega
  have nr : (6 * p0 + p1).toNatClampNeg = 6 * p + i := nC hr
  unfold f_X11_field__53
  rw [if_neg n1_0, cA, nr, s1 11 (by decide)]
  refine OK.grd ⟨by omega, by omega⟩ ?_
  have es2 := il_subE (x := τ.1 11 (6 * p + i)) (y := 1) (by omega) (by omega)
  have i4 := i64 p2
  have i5 := i64 (τ.1 11 (6 * p + i) - 1)
  refine OK.bndR (b_within _ _ _ _) (fun u2 hu2 => ?_)
  dsimp only
  rw [k0, i4, i5] at hu2
  by_cases h2 : 0 ≤ p2.toInt ∧ p2.toInt < (τ.1 11 (6 * p + i)).toInt
  rotate_left
  · refine OK.ieq (fun _ => ?_) (fun h => by omega)
    refine OK.ret ?_
    refine OK.ieq (fun h => by omega) (fun _ => ?_)
    refine OK.ilt (fun h => by omega) (fun _ => ?_)
    rw [a4_recordsOf p0 σ hp9 (by omega), sbnd]
    dsimp only
    refine OK.ilt (fun _ => ?_) (fun h => by omega)
    refine OK.ilt (fun _ => OK.ret rfl) (fun _ => ?_)
    rw [a4_fieldsOf _ σ hr (by omega), sbnd]
    dsimp only
    exact OK.ilt (fun h => by omega) (fun _ => OK.ret rfl)
  refine OK.ieq (fun h => by omega) (fun _ => ?_)
  obtain ⟨j, hj9⟩ : ∃ j : Nat, p2.toInt = j := ⟨p2.toInt.toNat, by omega⟩
  obtain ⟨⟨f1, f1'⟩, f2, f3, f4⟩ := x6 j (by omega)
  have f1' : RLEN (σ.2.1 11 (8 * (6 * p + i) + j)) (τ.1 13 (8 * (6 * p + i) + j)) := f1'
  have f2 : FMR (σ.2.1 12 (8 * (6 * p + i) + j)) (τ.2.1 14 (8 * (6 * p + i) + j)) := f2
  have f3 : TY p (τ.1 8 p).toInt σ τ 4 (σ.1 13 (8 * (6 * p + i) + j)) (τ.1 15 (8 * (6 * p + i) + j)) := f3
  have e8 := mlE (k := 8) (y := 6 * p0 + p1) 8 li_8 (by omega) (by omega)
  have ea8 := il_addE (x := 8 * (6 * p0 + p1)) (y := p2) (by omega) (by omega)
  have n8 : (8 * (6 * p0 + p1) + p2).toNatClampNeg = 8 * (6 * p + i) + j := nC (by omega)
  have fr := f3.rng
  rw [n8, s1 15 (by decide), s1 2 (by decide), s1 16 (by decide), sL, s1 13 (by decide), s1 4 (by decide)]
  -- the class comes as far
  refine OK.sw ?_
  refine OK.ieq (fun h => by omega) (fun _ => ?_)
  refine OK.ilt (fun h => by omega) (fun _ => ?_)
  rw [a4_recordsOf p0 σ hp9 (by omega), sbnd]
  dsimp only
  refine OK.ilt (fun _ => ?_) (fun h => by omega)
  refine OK.ilt (fun h => by omega) (fun _ => ?_)
  rw [a4_fieldsOf _ σ hr (by omega), sbnd]
  dsimp only
  refine OK.ilt (fun _ => ?_) (fun h => by omega)
  rw [a4_typeOf _ p2 σ hr hj9 (by omega) (by omega), sbnd]
  dsimp only
  have g8 : 0 ≤ (8 * (6 * p0 + p1) + p2).toInt ∧ (8 * (6 * p0 + p1) + p2).toInt < 576 := ⟨by omega, by omega⟩
  have g15 : 0 ≤ (τ.1 15 (8 * (6 * p + i) + j)).toInt ∧ (τ.1 15 (8 * (6 * p + i) + j)).toInt < 800 := ⟨by omega, by omega⟩
  refine OK.ieq (fun q0 => ?_) (fun q0 => ?_)
  · rw [a4_sortOf _ σ fr.1 t3, sbnd]
    refine OK.ret ?_
    refine OK.ieq (fun _ => ?_) (fun h => absurd q0 h)
    refine OK.grd g8 ?_
    refine OK.grd g15 ?_
    exact OK.ret f3.2.1
  refine OK.ieq (fun q1 => ?_) (fun q1 => ?_)
  · obtain ⟨w9, w1, w2, w3⟩ := x5
    rw [a4_hasElse _ p2 σ hr hj9 (by omega) (by omega) w1 w2, sbnd]
    dsimp only
    have hw3 := w3 j (by omega)
    cases eb : w9.testBit j with
    | true =>
      have := (hw3.mp eb).2
      rw [if_pos rfl, if_neg n1_0]
      refine OK.ret ?_
      refine OK.ieq (fun h => absurd h q0) (fun _ => ?_)
      refine OK.ieq (fun _ => ?_) (fun h => absurd q1 h)
      refine OK.grd g8 ?_
      refine OK.ieq (fun h => by omega) (fun _ => ?_)
      exact OK.ret rfl
    | false =>
      have hn : ¬ (τ.1 16 (8 * (6 * p + i) + j)).toInt = 1 := fun h => by
        rw [hw3.mpr ⟨by omega, h⟩] at eb
        cases eb
      rw [if_pos (by decide)]
      refine OK.ret ?_
      refine OK.ieq (fun h => absurd h q0) (fun _ => ?_)
      refine OK.ieq (fun _ => ?_) (fun h => absurd q1 h)
      refine OK.grd g8 ?_
      refine OK.ieq (fun _ => ?_) (fun h => ?_)
      · exact OK.ret rfl
      · rcases f4 with h0 | h0
        · omega
        · exact absurd h0.1 hn
  refine OK.ieq (fun q2 => ?_) (fun q2 => ?_)
  · rw [a4_formerName _ p2 σ hr hj9 (by omega) (by omega), sbnd]
    dsimp only
    have hf := f2.pos
    have hlt : (lg_cmp (τ.2.1 14 (8 * (6 * p + i) + j)) 0) ≤ 0 ↔ (τ.2.1 14 (8 * (6 * p + i) + j)).toInt ≤ 0 := by
      rw [lg_cmp_le, Int64.le_iff_toInt_le, k0]
    by_cases e0 : σ.2.1 12 (8 * (6 * p + i) + j) = 0
    · have := hf.mp e0
      rw [if_pos ((lg_cmp_eq _ _).mpr e0)]
      refine OK.ret ?_
      refine OK.ieq (fun h => absurd h q0) (fun _ => ?_)
      refine OK.ieq (fun h => absurd h q1) (fun _ => ?_)
      refine OK.ieq (fun _ => ?_) (fun h => absurd q2 h)
      refine OK.grd g8 ?_
      rw [if_pos (hlt.mpr (by omega))]
      exact OK.ret rfl
    · have h9 : 0 < (τ.2.1 14 (8 * (6 * p + i) + j)).toInt := Decidable.not_not.mp (fun h => e0 (hf.mpr h))
      rw [if_neg (fun h => e0 ((lg_cmp_eq _ _).mp h))]
      refine OK.ret ?_
      refine OK.ieq (fun h => absurd h q0) (fun _ => ?_)
      refine OK.ieq (fun h => absurd h q1) (fun _ => ?_)
      refine OK.ieq (fun _ => ?_) (fun h => absurd q2 h)
      refine OK.grd g8 ?_
      rw [if_neg (fun h => by have := hlt.mp h; omega)]
      exact OK.ret rfl
  refine OK.ieq (fun q3 => ?_) (fun q3 => ?_)
  · rw [a4_fieldName _ p2 σ hr hj9 (by omega) (by omega), sbnd]
    refine OK.bndR (a_lettersIn _ _ σ f1') (fun v9 h9 => ?_)
    refine OK.ret ?_
    refine OK.ieq (fun h => absurd h q0) (fun _ => ?_)
    refine OK.ieq (fun h => absurd h q1) (fun _ => ?_)
    refine OK.ieq (fun h => absurd h q2) (fun _ => ?_)
    refine OK.ieq (fun _ => ?_) (fun h => absurd q3 h)
    refine OK.grd g8 ?_
    exact OK.ret h9
  refine OK.ieq (fun q4 => ?_) (fun q4 => ?_)
  · rw [a4_branchesOf t3 f3, sbnd]
    refine OK.ret ?_
    refine OK.ieq (fun h => absurd h q0) (fun _ => ?_)
    refine OK.ieq (fun h => absurd h q1) (fun _ => ?_)
    refine OK.ieq (fun h => absurd h q2) (fun _ => ?_)
    refine OK.ieq (fun h => absurd h q3) (fun _ => ?_)
    refine OK.ieq (fun _ => ?_) (fun h => absurd q4 h)
    refine OK.grd g8 ?_
    refine OK.grd g15 ?_
    exact OK.ret rfl
  refine OK.ieq (fun q5 => ?_) (fun q5 => ?_)
  · refine OK.sw ?_
    refine OK.ieq (fun h => absurd h q0) (fun _ => ?_)
    refine OK.ieq (fun h => absurd h q1) (fun _ => ?_)
    refine OK.ieq (fun h => absurd h q2) (fun _ => ?_)
    refine OK.ieq (fun h => absurd h q3) (fun _ => ?_)
    refine OK.ieq (fun h => absurd h q4) (fun _ => ?_)
    refine OK.ieq (fun _ => ?_) (fun h => absurd q5 h)
    refine OK.grd g8 ?_
    refine OK.sw ?_
    unfold f_X5_recordWithin f_X11_recordIn
    have lu : 4 ≤ FU := by decide
    have tx : TY p (τ.1 8 p).toInt σ s 4 (σ.1 13 (8 * (6 * p + i) + j)) (τ.1 15 (8 * (6 * p + i) + j)) := by
      unfold TY
      rw [s1 2 (by decide), s1 3 (by decide), s1 4 (by decide), s1 5 (by decide)]
      exact f3
    refine OK.bnd2 (ab_within (p := p) (by omega) (by omega) t3 4 _ _ 0 FU FU tx lu lu (by omega) (by omega)) (fun qa qb hq => ?_)
    exact OK.ret (OK.ret hq)
  · refine OK.ret ?_
    refine OK.ieq (fun h => absurd h q0) (fun _ => ?_)
    refine OK.ieq (fun h => absurd h q1) (fun _ => ?_)
    refine OK.ieq (fun h => absurd h q2) (fun _ => ?_)
    refine OK.ieq (fun h => absurd h q3) (fun _ => ?_)
    refine OK.ieq (fun h => absurd h q4) (fun _ => ?_)
    refine OK.ieq (fun h => absurd h q5) (fun _ => ?_)
    exact OK.ret rfl
