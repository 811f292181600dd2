/-! a plan, from its word on -/
theorem a_addPlan (p0 : Int32) (σ : ST) (k c : Nat) (hp : p0.toInt = k) (hk : k < 6) (hc : (σ.1 20 1).toInt = c) (hc2 : c < 262) : OK (f_X5_addPlan 20 p0 σ) (fun a => (∀ d, d ∉ [20, 21, 22, 31, 32, 33, 35] → a.1 d = σ.1 d) ∧ (∀ d, d ≠ 34 → a.2.1 d = σ.2.1 d) ∧ (a.1 21 k).toInt = 0 ∧ (a.1 22 k).toInt = c ∧ a.2.1 34 c = 0 ∧ (a.1 20 1).toInt = (c : Int) + 1 ∧ (a.1 20 0).toInt = (k : Int) + 1 ∧ (∀ i, i ≠ k → a.1 21 i = σ.1 21 i ∧ a.1 22 i = σ.1 22 i) ∧ (a.1 31 c).toInt = 7 ∧ (a.1 32 c).toInt = 6 * (k : Int) ∧ ∀ i, i < c → a.1 31 i = σ.1 31 i ∧ a.1 32 i = σ.1 32 i ∧ a.1 33 i = σ.1 33 i) := by
  unfold f_X5_addPlan
  have l0 := li_0
  have l1 := li_1
  have l6 := li_6
  have nk : p0.toNatClampNeg = k := nC hp
  refine OK.ilt (fun h => by omega) (fun _ => ?_)
  refine OK.ilt (fun _ => ?_) (fun h => by omega)
  refine OK.grd ⟨by omega, by omega⟩ ?_
  rw [nk]
  have s1 : ∀ d, d ≠ 21 → (stI σ (20 + 1) k 0).1 d = σ.1 d := fun d hd => stI_ne hd
  have s2 : (stI σ (20 + 1) k 0).1 21 k = 0 := by
    have e9 : (stI σ (20 + 1) k 0).1 21 = upd (σ.1 21) k 0 := rfl
    rw [e9, upd_at]
  have s4 : ∀ i, i ≠ k → (stI σ (20 + 1) k 0).1 21 i = σ.1 21 i := fun i hi => by
    have e9 : (stI σ (20 + 1) k 0).1 21 = upd (σ.1 21) k 0 := rfl
    rw [e9, upd_no hi]
  have s3 : (stI σ (20 + 1) k 0).2.1 = σ.2.1 := rfl
  generalize stI σ (20 + 1) k 0 = s at s1 s2 s4 s3 ⊢
  refine OK.bnd (a_addType 7 s c (by rw [s1 20 (by decide)]; exact hc) hc2) (fun q2 hq2 => ?_)
  obtain ⟨q1, qF, qA, qB, qC, qD, qE, qG⟩ := hq2
  have e22 : (stI q2.2 (20 + 2) k q2.1).1 (20 + 2) k = q2.1 := by
    have e9 : (stI q2.2 (20 + 2) k q2.1).1 (20 + 2) = upd (q2.2.1 (20 + 2)) k q2.1 := rfl
    rw [e9, upd_at]
  have r1 : ∀ d, d ≠ 22 → (stI q2.2 (20 + 2) k q2.1).1 d = q2.2.1 d := fun d hd => stI_ne hd
  have r3 : (stI q2.2 (20 + 2) k q2.1).2.1 = q2.2.2.1 := rfl
  have r22 : ∀ i, i ≠ k → (stI q2.2 (20 + 2) k q2.1).1 22 i = q2.2.1 22 i := fun i hi => by
    have e9 : (stI q2.2 (20 + 2) k q2.1).1 (20 + 2) = upd (q2.2.1 (20 + 2)) k q2.1 := rfl
    show (stI q2.2 (20 + 2) k q2.1).1 (20 + 2) i = _
    rw [e9, upd_no hi]
  rw [e22]
  have e22 : (stI q2.2 (20 + 2) k q2.1).1 22 k = q2.1 := e22
  generalize stI q2.2 (20 + 2) k q2.1 = r at e22 r1 r3 r22 ⊢
  rw [a_setInner q2.1 (p0 * 6) r c q1 hc2 (by rw [r1 20 (by decide)]; omega), sbnd]
  have e1 := il_addE (x := p0) (y := 1) (by omega) (by omega)
  have w1 : ∀ d, d ∉ [20, 32] → (stI (stI r 32 c (p0 * 6)) 20 0 (p0 + 1)).1 d = r.1 d := fun d hd => by
    simp only [List.mem_cons, List.not_mem_nil, or_false, not_or] at hd
    rw [stI_ne hd.1, stI_ne hd.2]
  have w20 : (stI (stI r 32 c (p0 * 6)) 20 0 (p0 + 1)).1 20 = upd (r.1 20) 0 (p0 + 1) := rfl
  have w2 : (stI (stI r 32 c (p0 * 6)) 20 0 (p0 + 1)).2.1 = r.2.1 := rfl
  have w32 : (stI (stI r 32 c (p0 * 6)) 20 0 (p0 + 1)).1 32 = upd (r.1 32) c (p0 * 6) := rfl
  have e6 : (p0 * 6).toInt = 6 * (k : Int) := by
    rw [Int32.mul_comm]
    have := mlE (k := 6) (y := p0) 6 l6 (by omega) (by omega)
    omega
  generalize stI (stI r 32 c (p0 * 6)) 20 0 (p0 + 1) = w at w1 w20 w2 w32 ⊢
  refine OK.ret ⟨fun d hd => ?_, fun d hd => ?_, ?_, ?_, ?_, ?_, ?_, fun i hi => ⟨?_, ?_⟩, ?_, ?_, fun i hi => ?_⟩
  · simp only [List.mem_cons, List.not_mem_nil, or_false, not_or] at hd
    obtain ⟨d1, d2, d3, d4, d5, d6, d7⟩ := hd
    rw [w1 d (by simp only [List.mem_cons, List.not_mem_nil, or_false, not_or]; exact ⟨d1, d5⟩), r1 d d3]
    by_cases e : d = 2
    · rw [e, qA]
      exact s1 2 (by decide)
    · rw [qF.1 d (by simp only [List.mem_cons, List.not_mem_nil, or_false, not_or]; exact ⟨e, d1, d4, d5, d6, d7⟩)]
      exact s1 d d2
  · rw [w2, r3]
    by_cases e : d = 2
    · rw [e, qB, s3]
    · rw [qF.2.2.1 d (by simp only [List.mem_cons, List.not_mem_nil, or_false, not_or]; exact ⟨e, hd⟩), s3]
  · rw [w1 21 (by decide), r1 21 (by decide), qF.1 21 (by decide), s2]
    exact l0
  · rw [w1 22 (by decide), e22]
    exact q1
  · rw [w2, r3]
    exact qE
  · rw [w20, upd_no (by decide), r1 20 (by decide)]
    exact qD
  · rw [w20, upd_at]
    omega
  · rw [w1 21 (by decide), r1 21 (by decide), qF.1 21 (by decide)]
    exact s4 i hi
  · rw [w1 22 (by decide), r22 i hi, qF.1 22 (by decide), s1 22 (by decide)]
  · rw [w1 31 (by decide), r1 31 (by decide), qC]
    exact li_7
  · rw [w32, upd_at]
    exact e6
  · have h9 := qF.2.2.2 i hi
    rw [w1 31 (by decide), r1 31 (by decide), h9.1, w32, upd_no (by omega), r1 32 (by decide), h9.2.1, w1 33 (by decide), r1 33 (by decide), h9.2.2.2, s1 31 (by decide), s1 32 (by decide), s1 33 (by decide)]
    exact ⟨rfl, rfl, rfl⟩
theorem b_plan_0 (x1 xl : Int32) (b : ST) : OK (f_X11_plan_75 FU x1 xl 0 b) (fun z => z.1.1.toInt = 0 ∧ z.2 = 0 ∧ z.1.2 = stI b 0 33 (b.1 0 33 + 1)) := by
  have ef : FU = 99999 + 1 := rfl
  rw [ef, f_X11_plan_75, if_pos rfl]
  unfold f_X11_plan_95 f_X11_plan_119
  rw [if_pos rfl, if_pos rfl]
  exact OK.ret ⟨li_0, rfl, rfl⟩
theorem b_record_no (p0 : Int32) (τ : ST) (hW : ¬ W_ τ v_record) : OK (f_X11_record p0 τ) (fun q => q.1.1.toInt = 0 ∧ CH [] [12] τ q.1.2 ∧ q.2 ≤ 1) := by
  unfold f_X11_record
  have l0 := li_0
  refine OK.bndK (b_isRecord τ) (fun v x hv hx => ?_)
  refine OK.kac ?_
  dsimp only
  have hv0 : v.toInt = 0 := by
    rcases hv with hv | hv
    · exact hv.1
    · exact absurd hv.2 hW
  refine OK.ieq (fun _ => ?_) (fun h => by omega)
  refine OK.bndC (b_wrongHere 1 τ) (fun v2 s2 c2 hv2 => ?_)
  refine OK.grd (b01 (.inl hv2)) ?_
  exact OK.ret ⟨hv2, c2, by show x + 0 ≤ 1; omega⟩
theorem ab_plan (k t n : Nat) (xk x2 : Int32) (σ τ : ST) (hX : LX σ τ) (hW : W_ τ v_plan) (hk : k ≤ 6) (h33 : (τ.1 0 33).toInt = k) (h34 : (τ.1 0 34).toInt = t) (ht : 400 ≤ t) (hcA : (σ.1 20 1).toInt = (t : Int) + k - 400) (hat : 4 * ((t : Int) - 400) ≤ (τ.1 0 4).toInt) (hxk : xk.toInt = (k : Int) - 1) (hx2 : 0 ≤ x2.toInt ∧ x2.toInt ≤ 7 * (k : Int)) (hn : 42 < (n : Int) + 1 + x2.toInt) : OK (f_X11_plan τ) (fun z => PLO (k + 1) t k σ τ (NX n xk x2 σ) z ∧ (z.1.1.toInt = 1 → k < 6 ∧ z.2 + 40 * uT z.1.2 ≤ 40 * uT τ)) := by
  unfold f_X11_plan
  have l0 := li_0
  have l1 := li_1
  have l6 := li_6
  have hK := hX.2.2.1
  have hat9 := hX.at
  have e0 : kwV 0 = v_plan := rfl
  have kA := (hK.kw (k := 0) (by omega)).mp (by rw [e0]; exact hW)
  have w1 := hW.1
  have u0 := uT_1 (τ := τ) (by omega)
  have nx := hX.nxt.2 (by omega)
  have ek := il_addE (x := xk) (y := 1) (by omega) (by omega)
  have e2 := il_addE (x := x2) (y := 1) (by omega) (by omega)
  refine OK.bndK (b_isPlan τ) (fun v x hv hx => ?_)
  refine OK.kac ?_
  dsimp only
  have hv1 : v.toInt = 1 := by
    rcases hv with hv | hv
    · exact absurd hW hv.2
    · exact hv.1
  refine OK.ieq (fun h => by omega) (fun _ => ?_)
  by_cases hk6 : k = 6
  · refine OK.ieq (fun _ => ?_) (fun h => by omega)
    refine OK.bndC (b_wrongHere 4 τ) (fun v2 s2 c2 hv2 => ?_)
    refine OK.grd (b01 (.inl hv2)) ?_
    refine OK.ret ⟨⟨(c2.fw (by decide)).fv, .inl ⟨hv2, ?_, ?_⟩⟩, fun h => ?_⟩
    · unfold NX f_X3_beginPlan
      rw [if_neg (by rw [Int32.lt_iff_toInt_lt]; omega)]
      refine OK.bnd (OK.bnd (a_refuse _ _) (fun q hq => OK.grd (b01 (.inl hq)) (OK.ret (P := fun q : Int32 × ST => q.1.toInt = 0) hq))) (fun q hq => ?_)
      exact OK.ieq (fun _ => OK.ret l0) (fun h => by omega)
    · show x + 0 + 40 * uT s2 ≤ _
      rw [uT_eq (c2.2.1 3 (by decide)) (c2.2.1 5 (by decide)) (c2.2.1 6 (by decide))]
      omega
    · have h : v2.toInt = 1 := h
      omega
  refine OK.ieq (fun h => by omega) (fun _ => ?_)
  have e6 := il_addE (x := 6) (y := τ.1 0 33) (by omega) (by omega)
  have n6 : (6 + τ.1 0 33).toNatClampNeg = 6 + k := nC (by omega)
  refine OK.grd ⟨by omega, by omega⟩ ?_
  rw [n6]
  have hx1 : (6 + τ.1 0 33).toInt = 6 + (k : Int) := by omega
  -- a plan begins
  have e8 : (stI τ 8 (6 + k) 0).1 8 = upd (τ.1 8) (6 + k) 0 := rfl
  have g1 : ∀ c, c ≠ 8 → (stI τ 8 (6 + k) 0).1 c = τ.1 c := fun c hc => stI_ne hc
  have g8 : ∀ i, i ≠ 6 + k → (stI τ 8 (6 + k) 0).1 8 i = τ.1 8 i := fun i hi => by rw [e8, upd_no hi]
  have g80 : (stI τ 8 (6 + k) 0).1 8 (6 + k) = 0 := by rw [e8, upd_at]
  have g2 : (stI τ 8 (6 + k) 0).2.1 = τ.2.1 := rfl
  clear e8
  generalize stI τ 8 (6 + k) 0 = b0 at g1 g8 g80 g2 ⊢
  have F0 : FV (6 + k) t (36 + 6 * k) τ b0 := ⟨fun c hc => g1 c (fun e => hc (by rw [e]; decide)), fun i _ => by rw [g1 0 (by decide)], fun j _ => ⟨by rw [g1 2 (by decide)], by rw [g1 3 (by decide)], by rw [g1 4 (by decide)]⟩, fun j _ => by rw [g1 5 (by decide)], fun i hi => g8 i (by omega), fun i _ => by rw [g1 11 (by decide)], fun i _ => ⟨by rw [g1 15 (by decide)], by rw [g1 13 (by decide)], by rw [g1 16 (by decide)], by rw [g1 19 (by decide)]⟩, fun h i => by rw [g1 19 (by decide)]; exact h i, fun i _ => by rw [g1 10 (by decide)], BQ.l0 (fun c _ => by rw [g2])⟩
  obtain ⟨a1, ea1, f1, f2, f3, f4, f5, f6, f7, f8, f9, f10, f11⟩ := a_addPlan (xk + 1) σ k (t + k - 400) (by omega) (by omega) (by omega) (by omega)
  have hAP : AP k (t + k - 400) σ a1 := ⟨fun i hi => f8 i (by omega), fun i _ => ⟨by rw [f1 23 (by decide)], by rw [f2 24 (by decide)], by rw [f1 25 (by decide)]⟩, fun i _ => ⟨by rw [f2 27 (by decide)], by rw [f2 28 (by decide)], by rw [f2 30 (by decide)], by rw [f1 29 (by decide)]⟩, fun i hi => f11 i hi⟩
  have hX0 : LX a1 b0 := hX.ext (f1 1 (by decide)) (f1 2 (by decide)) (f2 3 (by decide)) (f2 2 (by decide)) (g1 1 (by decide)) (fun i _ => by rw [g1 0 (by decide)]) (by rw [g2])
  have hg0 : a1.1 2 3 = b0.1 0 5 := by rw [f1 2 (by decide), g1 0 (by decide)]; exact hK.hg (by omega) (by omega)
  obtain ⟨a2, ea2, b2, eb2, ca, cb, cL, hX2, hat2, _, hu2⟩ := ab_go a1 b0 hX0 hg0
  rw [g1 0 (by decide)] at hat2 hu2
  rw [eb2, sbnd]
  have F2 : FV (6 + k) t (36 + 6 * k) τ b2 := F0.trans ((cb.fw (K := 6 + k) (t0 := t) (R := 36 + 6 * k) (by decide)).fv) (Nat.le_refl _) (Nat.le_refl _) (Nat.le_refl _)
  have hm := ab_mark (c := 59) 59 a2 b2 hX2 (by omega) li_59
  have eN0 : NX n xk x2 σ = (if (a2.1 2 4) = 59 then ((f_X6_advance a2).bind fun q5 => some (1, q5)) else ((f_X6_refuse 1 a2).bind fun q7 => if q7.1 = 0 ∨ q7.1 = 1 then some (q7.1, q7.2) else none)).bind fun q3 => if q3.1 = 0 then some (0, q3.2) else f_X3_parse_11 n (xk + 1) (x2 + 1) q3.2 := by
    unfold NX f_X3_beginPlan
    rw [if_pos (by rw [Int32.lt_iff_toInt_lt]; omega), ea1, sbnd, ea2, sbnd]
  -- how a plan that is refused ends
  have fin0 : ∀ (b : ST) (xx : Nat), FV (6 + k) t (36 + 6 * k) τ b → xx + 40 * uT b ≤ 40 * uT τ + 26 → OK (NX n xk x2 σ) (fun qa => qa.1.toInt = 0) → OK (f_X11_plan_73 (6 + τ.1 0 33) (τ.1 0 34) b) (fun z => PLO (k + 1) t k σ τ (NX n xk x2 σ) (z.1, xx + z.2) ∧ (z.1.1.toInt = 1 → k < 6 ∧ xx + z.2 + 40 * uT z.1.2 ≤ 40 * uT τ)) := fun b xx hF hc hA => by
    unfold f_X11_plan_73 f_X11_plan_74
    refine (b_plan_0 _ _ b).mono (fun z hz => ?_)
    obtain ⟨z1, z2, z3⟩ := hz
    refine ⟨⟨?_, .inl ⟨z1, hA, ?_⟩⟩, fun h => by omega⟩
    · show FV (6 + k) t (36 + 6 * k) τ z.1.2
      rw [z3]
      exact hF.trans (FV.s33 (K := 6 + k) (t0 := t) (R := 36 + 6 * k)) (Nat.le_refl _) (Nat.le_refl _) (Nat.le_refl _)
    · show xx + z.2 + 40 * uT z.1.2 ≤ _
      rw [z2, z3, uT_33]
      omega
  by_cases h59 : (a2.1 2 4).toInt = 59
  rotate_left
  · obtain ⟨q3, eq3, q31, q32⟩ := hm.2 h59
    rw [eq3, sbnd]
    refine OK.ieq (fun _ => ?_) (fun h => by omega)
    refine fin0 q3.2 x (F2.trans ((q32.fw (K := 6 + k) (t0 := t) (R := 36 + 6 * k) (by decide)).fv) (Nat.le_refl _) (Nat.le_refl _) (Nat.le_refl _)) ?_ ?_
    · rw [uT_eq (q32.2.1 3 (by decide)) (q32.2.1 5 (by decide)) (q32.2.1 6 (by decide))]
      omega
    · rw [eN0, if_neg (fun e => h59 (by rw [e]; exact li_59))]
      refine OK.bnd (OK.bnd (a_refuse _ _) (fun q hq => OK.grd (b01 (.inl hq)) (OK.ret (P := fun q : Int32 × ST => q.1.toInt = 0) hq))) (fun q hq => ?_)
      exact OK.ieq (fun _ => OK.ret l0) (fun h => by omega)
  obtain ⟨a3, ea3, q3, eq3, q31, ma, mb, mL, mX, mat, mu⟩ := hm.1 h59
  rw [eq3, sbnd]
  refine OK.ieq (fun h => by omega) (fun _ => ?_)
  have eN : NX n xk x2 σ = f_X3_parse_11 n (xk + 1) (x2 + 1) a3 := by
    rw [eN0, if_pos (Int32.toInt_inj.mp (by rw [h59]; exact li_59.symm)), ea3, sbnd, sbnd]
    dsimp only
    rw [if_neg (by decide)]
  have F3 : FV (6 + k) t (36 + 6 * k) τ q3.2 := F2.trans ((mb.fw (K := 6 + k) (t0 := t) (R := 36 + 6 * k) (by decide)).fv) (Nat.le_refl _) (Nat.le_refl _) (Nat.le_refl _)
  have c33 : q3.2.1 0 33 = τ.1 0 33 := by rw [mb.2.1 33 (by decide), cb.2.1 33 (by decide), g1 0 (by decide)]
  have hp : PB_ (k + 1) t t k 0 a3 q3.2 := by
    refine ⟨⟨⟨by omega, by omega, rfl⟩, ⟨ht, Nat.le_refl _⟩, ?_, ?_, ?_⟩, ⟨?_, ?_, ?_, ?_⟩, fun j h1 h2 => by omega, fun i hi => by omega, fun j h1 h2 => by omega⟩
    · rw [mb.2.1 34 (by decide), cb.2.1 34 (by decide), g1 0 (by decide)]
      exact h34
    · rw [ma.1 20 (by decide), ca.1 20 (by decide)]
      omega
    · rw [ma.1 20 (by decide), ca.1 20 (by decide)]
      omega
    · rw [ma.1 22 (by decide), ca.1 22 (by decide)]
      omega
    · rw [ma.2.2.1 34 (by decide), ca.2.2.1 34 (by decide)]
      exact f5
    · rw [ma.1 31 (by decide), ca.1 31 (by decide)]
      exact f9
    · rw [ma.1 32 (by decide), ca.1 32 (by decide)]
      exact f10
  have h21 : (a3.1 21 k).toInt = ((0 : Nat) : Int) := by rw [ma.1 21 (by decide), ca.1 21 (by decide)]; exact f3
  have h8 : (q3.2.1 8 (6 + k)).toInt = ((0 : Nat) : Int) := by rw [mb.1 8 (by decide) (by decide), cb.1 8 (by decide) (by decide), g80]; exact l0
  have hb : BR_ t t k 0 q3.2 := fun i hi => by omega
  cases n with
  | zero => omega
  | succ n =>
  have eA := a_parse_it n (xk + 1) (x2 + 1) a3 (k := k) (by omega) (by omega) (by omega) h21
  rw [if_pos rfl] at eA
  have e33 := a_parse_33 (f_X3_parse_11 n) (xk + 1) (x2 + 1) 0 a3 q3.2 mX.2.2.1 (by omega)
  by_cases hR : W_ q3.2 v_record
  rotate_left
  · obtain ⟨q8, eq8, q81, q82, q83⟩ := b_record_no (6 + τ.1 0 33) q3.2 hR
    rw [eq8, sbnd]
    refine OK.kac ?_
    refine OK.ieq (fun _ => ?_) (fun h => by omega)
    have h9 := fin0 q8.1.2 (x + q8.2) (F3.trans ((q82.fw (K := 6 + k) (t0 := t) (R := 36 + 6 * k) (by decide)).fv) (Nat.le_refl _) (Nat.le_refl _) (Nat.le_refl _)) (by
      rw [uT_eq (q82.2.1 3 (by decide)) (q82.2.1 5 (by decide)) (q82.2.1 6 (by decide))]
      omega) (by
      rw [eN, eA, e33.2 hR]
      exact a_parse_0 _ _ _ _ (by omega))
    refine h9.mono (fun z hz => ?_)
    rw [Nat.add_assoc] at hz
    exact hz
  obtain ⟨qa, ea, qb, eb, qF, hq⟩ := ab_record (k + 1) t t k 0 (xk + 1) (6 + τ.1 0 33) a3 q3.2 hp hb h21 h8 (by omega) mX hR (by omega) hx1 (by omega)
  rw [eb, sbnd]
  refine OK.kac ?_
  have eA2 : NX (n + 1) xk x2 σ = if qa.1 = 0 then some (0, qa.2) else f_X3_parse_11 n (xk + 1) (x2 + 1 + 1) qa.2 := by
    rw [eN, eA, e33.1 hR, ea, sbnd]
  have F4 : FV (6 + k) t (36 + 6 * k) τ qb.1.2 := F3.trans qF.fv (Nat.le_refl _) (Nat.le_refl _) (by omega)
  rcases hq with ⟨q1, q2, q4⟩ | ⟨q1, q2, q6, ⟨t1, ht1, hp1, hb1, hc1, hX1, hat1⟩, qP, q4⟩
  · refine OK.ieq (fun _ => ?_) (fun h => by omega)
    have h9 := fin0 qb.1.2 (x + qb.2) F4 (by omega) (by
      rw [eA2, if_pos (Int32.toInt_inj.mp (by omega))]
      exact OK.ret l0)
    refine h9.mono (fun z hz => ?_)
    rw [Nat.add_assoc] at hz
    exact hz
  · refine OK.ieq (fun h => by omega) (fun _ => ?_)
    rw [if_neg (fun e => by rw [e] at q1; omega)] at eA2
    unfold f_X11_plan_74
    have e3 := il_addE (x := x2 + 1) (y := 1) (by omega) (by omega)
    have lu := FUi
    refine (ab_recs (k + 1) t k (6 + τ.1 0 33) (τ.1 0 34) (xk + 1) hx1 h34 (by omega) FU 1 n t1 (x2 + 1 + 1) qa.2 qb.1.2 (by omega) (by omega) (by omega) ⟨hp1, hb1, ⟨by rw [hc1.1]; rfl, by rw [hc1.2]; rfl⟩, hX1, hat1⟩ (by omega) (by omega)).mono (fun z hz => ?_)
    obtain ⟨zF, hz⟩ := hz
    rw [eA2]
    rcases hz with ⟨z1, z2, z3⟩ | ⟨z1, z2, z3, z4⟩
    · exact ⟨⟨F4.trans zF (Nat.le_refl _) (Nat.le_refl _) (Nat.le_refl _), .inl ⟨z1, z2, by show x + (qb.2 + z.2) + 40 * uT z.1.2 ≤ _; omega⟩⟩, fun h => by
        have h : z.1.1.toInt = 1 := h
        omega⟩
    · refine ⟨⟨F4.trans zF (Nat.le_refl _) (Nat.le_refl _) (Nat.le_refl _), .inr ⟨z1, z2.pre (((hAP.trans ca.ap).trans ma.ap).trans qP), ?_, by show x + (qb.2 + z.2) + 40 * uT z.1.2 ≤ _; omega⟩⟩, fun _ => ⟨by omega, by show x + (qb.2 + z.2) + 40 * uT z.1.2 ≤ _; omega⟩⟩
      show z.1.2.1 0 33 = _
      rw [z3, qF.2.1 33 (by decide), c33]
