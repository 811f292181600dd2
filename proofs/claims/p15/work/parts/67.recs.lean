/-! the records of a plan, and its end -/
theorem uT_33 {b : ST} {v : Int32} : uT (stI b 0 33 v) = uT b := uT_eq rfl rfl rfl
theorem ab_119 (P lo t k m : Nat) (xk x1 xl : Int32) (σ τ : ST) (hS : PST P lo t k m σ τ) (hm : 1 ≤ m ∧ m ≤ 6) (hxk : xk.toInt = k) (hx1 : x1.toInt = 6 + (k : Int)) (hxl : xl.toInt = lo) : OK (f_X11_plan_119 x1 xl 1 τ) (fun z => z.2 = 0 ∧ FV (6 + k) lo (36 + 6 * k) τ z.1.2 ∧ uT z.1.2 = uT τ ∧ ((z.1.1.toInt = 0 ∧ OK (f_X3_resolve xk σ) (fun qa => qa.1.toInt = 0)) ∨ (z.1.1.toInt = 1 ∧ OK (f_X3_resolve xk σ) (fun qa => qa.1.toInt = 1 ∧ LX qa.2 z.1.2 ∧ qa.2.1 20 = σ.1 20 ∧ AP k (lo + k - 400) σ qa.2 ∧ FPA k t qa.2 z.1.2) ∧ (PLD k t z.1.2 ∧ t ≤ 650 ∧ (z.1.2.1 0 34).toInt = t ∧ ∀ q : Nat, lo ≤ q → q < t → 0 ≤ (z.1.2.1 4 q).toInt ∧ (z.1.2.1 4 q).toInt ≤ 4) ∧ z.1.2.1 0 33 = τ.1 0 33 + 1 ∧ z.1.2.1 0 6 = τ.1 0 6 ∧ z.1.2.1 0 4 = τ.1 0 4 ∧ z.1.2.2.1 = τ.2.1))) := by
  unfold f_X11_plan_119
  have l0 := li_0
  have l1 := li_1
  have n1 : ¬ (1 : Int32) = 0 := by decide
  rw [if_neg n1]
  obtain ⟨hp, hb, ⟨h21, h8⟩, hX, hat⟩ := hS
  have hat9 := hX.at
  have g1 : ∀ c, c ≠ 0 → (stI τ 0 33 (τ.1 0 33 + 1)).1 c = τ.1 c := fun c hc => stI_ne hc
  have e9 : (stI τ 0 33 (τ.1 0 33 + 1)).1 0 = upd (τ.1 0) 33 (τ.1 0 33 + 1) := rfl
  have g0 : ∀ i, i ≠ 33 → (stI τ 0 33 (τ.1 0 33 + 1)).1 0 i = τ.1 0 i := fun i hi => by rw [e9, upd_no hi]
  have g33 : (stI τ 0 33 (τ.1 0 33 + 1)).1 0 33 = τ.1 0 33 + 1 := by rw [e9, upd_at]
  have g2 : (stI τ 0 33 (τ.1 0 33 + 1)).2.1 = τ.2.1 := rfl
  have gF : FV (6 + k) lo (36 + 6 * k) τ (stI τ 0 33 (τ.1 0 33 + 1)) := FV.s33
  generalize stI τ 0 33 (τ.1 0 33 + 1) = s at g1 g0 g33 g2 gF ⊢
  have hps : PB_ P lo t k m σ s := hp.ext (fun _ _ => rfl) (fun _ _ => rfl) (g0 34 (by decide)) (fun c hc => g1 c (fun e => by rw [e] at hc; revert hc; decide)) (fun c _ => by rw [g2])
  have us : uT s = uT τ := uT_eq (g0 3 (by decide)) (g0 5 (by decide)) (g0 6 (by decide))
  have hXs : LX σ s := hX.ext rfl rfl rfl rfl (g1 1 (by decide)) (fun i hi => g0 i (fun e => by rw [e] at hi; revert hi; decide)) (by rw [g2])
  obtain ⟨qa, ea, qb, eb, hq⟩ := ab_resolve P lo t k m xk x1 xl σ s hps h21 (by rw [g1 8 (by decide)]; exact h8) hm.2 (by omega) hxk hx1 hxl
  rw [eb, sbnd]
  rcases hq with ⟨q1, q2, b', q3, q4⟩ | ⟨q1, q2, q3, q4, q5, q6⟩
  · refine OK.ieq (fun _ => ?_) (fun h => by omega)
    refine OK.ret ⟨rfl, (gF.trans (q3.fv (K := 6 + k) (R := 36 + 6 * k)) (Nat.le_refl _) (Nat.le_refl _) (Nat.le_refl _)).trans ((q4.fw (K := 6 + k) (t0 := lo) (R := 36 + 6 * k) (by decide)).fv) (Nat.le_refl _) (Nat.le_refl _) (Nat.le_refl _), ?_, .inl ⟨l0, qa, ea, q1⟩⟩
    show uT qb.2 = _
    rw [uT_eq (q4.2.1 3 (by decide)) (q4.2.1 5 (by decide)) (q4.2.1 6 (by decide)), uT_eq (b := b') (τ := s) (by rw [q3.1 0 (by decide)]) (by rw [q3.1 0 (by decide)]) (by rw [q3.1 0 (by decide)])]
    exact us
  · refine OK.ieq (fun h => by omega) (fun _ => ?_)
    have e0 : qb.2.1 0 = s.1 0 := q4.1 0 (by decide)
    have eb1 : ∀ c, c ≠ 0 → c ≠ 3 → qb.2.1 c = τ.1 c := fun c h0 h3 => (q4.1 c h3).trans (g1 c h0)
    have X9 : LX qa.2 qb.2 := hXs.ext (q3.1 1 (by decide)) (q3.1 2 (by decide)) (by rw [q3.2]) (by rw [q3.2]) (q4.1 1 (by decide)) (fun i _ => by rw [e0]) (by rw [q4.2.2])
    have eb2 : ∀ c, qb.2.2.1 c = τ.2.1 c := fun c => by rw [q4.2.2, g2]
    have r32 : ∀ i : Nat, (i < lo + P - 400 ∨ ¬ (τ.1 2 (i + 400 - P)).toInt = 7) → qa.2.1 32 i = σ.1 32 i := fun i hi => q6.2 i (by rw [g1 2 (by decide)]; exact hi)
    have hPk := hp.1.1
    have hlo := hp.1.2.1
    have b3s : ∀ q, ¬ (τ.1 2 q).toInt = 7 → qb.2.1 3 q = τ.1 3 q := fun q hq => by rw [q4.2.1 q (.inr (by rw [g1 2 (by decide)]; exact hq)), g1 3 (by decide)]
    have eP : k + 1 = P := by omega
    have rlo : ∀ i : Nat, i < lo + k - 400 → qa.2.1 32 i = σ.1 32 i := fun i hi => r32 i (.inl (Nat.lt_of_lt_of_le hi (Nat.sub_le_sub_right (Nat.add_le_add_left (by rw [← eP]; exact Nat.le_succ k) lo) 400)))
    have fpa : FPA k t qa.2 qb.2 := by
      refine ⟨lo, t, ⟨hlo.1, hlo.2, Nat.le_refl _, by omega⟩, ⟨?_, ?_⟩, ⟨?_, ?_, ?_⟩, ?_, ?_, ?_⟩
      · rw [q3.1 21 (by decide), eb1 8 (by decide) (by decide)]
        exact Int32.toInt_inj.mp (by omega)
      · rw [q3.1 21 (by decide)]
        omega
      · rw [q3.1 22 (by decide)]
        exact hp.2.1.1
      · rw [q3.1 31 (by decide)]
        exact hp.2.1.2.2.1
      · rw [r32 _ (.inl (by omega))]
        exact hp.2.1.2.2.2
      · intro j j1 j2
        obtain ⟨x1, x2, x3, x4, x5⟩ := hp.2.2.1 j j1 j2
        rw [q3.1 31 (by decide), q3.1 21 (by decide), eb1 2 (by decide) (by decide), eb1 4 (by decide) (by decide), eb1 5 (by decide) (by decide), eP]
        refine ⟨x1, fun h8 => ?_, fun h7 => ?_, x5⟩
        · have e5 : j + P - 400 + 400 - P = j := by omega
          rw [r32 _ (.inr (by rw [e5]; omega))]
          exact x4 h8
        · have h7b : (qb.2.1 2 j).toInt = 7 := by rw [eb1 2 (by decide) (by decide)]; exact h7
          have y1 := q5 j j1 j2 h7b
          have y2 := q6.1 j j1 j2 h7b
          rw [h21]
          exact ⟨y1, y2⟩
      · rw [eP]
        refine hp.2.2.2.2.ext (fun j j1 j2 => (hp.2.2.1 j j1 j2).2.2.2.2.2) (fun j j1 j2 h6 => ?_) (fun j j1 j2 => by rw [q3.1 33 (by decide)]) (fun j j1 j2 => ⟨by rw [eb1 2 (by decide) (by decide)], fun h6 => b3s j (by omega), by rw [eb1 4 (by decide) (by decide)], fun w _ => by rw [eb1 5 (by decide) (by decide)]⟩)
        have e5 : j + P - 400 + 400 - P = j := by omega
        rw [r32 _ (.inr (by rw [e5]; omega))]
      · rw [q3.1 21 (by decide)]
        intro i hi
        obtain ⟨x1, x2, x3, x4⟩ := hp.2.2.2.1 i (by omega)
        obtain ⟨a1, a2⟩ := hb i (by omega)
        rw [q3.2, eb2 9, eb1 10 (by decide) (by decide), eb1 11 (by decide) (by decide), q3.1 23 (by decide), eP]
        refine ⟨x1, x2, ⟨x3, a1⟩, x4.ext (Nat.le_refl _) (by rw [q3.1 25 (by decide)]) (fun w _ => ⟨by rw [q3.2], by rw [q3.2], by rw [q3.2], by rw [q3.1 29 (by decide)]⟩) (fun w _ => ⟨by rw [eb1 15 (by decide) (by decide)], by rw [eb1 13 (by decide) (by decide)], by rw [eb1 16 (by decide) (by decide)], by rw [eb1 19 (by decide) (by decide)]⟩) (fun w _ => ⟨by rw [eb2 12], by rw [eb2 14], by rw [eb2 17], by rw [eb2 18]⟩) (fun w _ => by rw [eb1 2 (by decide) (by decide)]) (fun w _ => by rw [eb1 5 (by decide) (by decide)]), fun j hj => ?_⟩
        rw [eb1 15 (by decide) (by decide)]
        refine VD.ext (by omega) (Int.le_refl _) (Int.le_refl _) (fun q hq1 hq2 => ?_) _ _ (a2 j hj)
        exact ⟨by rw [eb1 2 (by decide) (by decide)], fun h6 => b3s q (by omega), by rw [eb1 4 (by decide) (by decide)], fun w _ => by rw [eb1 5 (by decide) (by decide)]⟩
    refine OK.ret ⟨rfl, gF.trans (q4.fv (K := 6 + k) (R := 36 + 6 * k)) (Nat.le_refl _) (Nat.le_refl _) (Nat.le_refl _), ?_, .inr ⟨l1, ⟨qa, ea, q1, X9, q3.1 20 (by decide), ⟨fun i _ => ⟨by rw [q3.1 21 (by decide)], by rw [q3.1 22 (by decide)]⟩, fun i _ => ⟨by rw [q3.1 23 (by decide)], by rw [q3.2], by rw [q3.1 25 (by decide)]⟩, fun i _ => ⟨by rw [q3.2], by rw [q3.2], by rw [q3.2], by rw [q3.1 29 (by decide)]⟩, fun i hi => ⟨by rw [q3.1 31 (by decide)], rlo i hi, by rw [q3.1 33 (by decide)]⟩⟩, fpa⟩, ⟨?_, by omega, ?_, ?_⟩, ?_, ?_, ?_, ?_⟩⟩
    · show uT qb.2 = _
      rw [uT_eq (b := qb.2) (τ := s) (by rw [e0]) (by rw [e0]) (by rw [e0])]
      exact us
    · have e8 : (qb.2.1 8 (6 + k)).toInt = m := by rw [eb1 8 (by decide) (by decide)]; exact h8
      refine ⟨lo, t, ⟨hp.1.2.1.1, hp.1.2.1.2, Nat.le_refl _⟩, ?_, ?_, ?_⟩
      · show 1 ≤ (qb.2.1 8 (6 + k)).toInt ∧ (qb.2.1 8 (6 + k)).toInt ≤ 6
        omega
      · show ∀ i : Nat, (i : Int) < (qb.2.1 8 (6 + k)).toInt → bI (qb.2.1 11 (36 + (6 * k + i))) 0 8 ∧ ∀ j : Nat, (j : Int) < (qb.2.1 11 (36 + (6 * k + i))).toInt → VD lo t (qb.2.1 2) (qb.2.1 3) (qb.2.1 4) (qb.2.1 5) 4 (qb.2.1 15 (8 * (36 + (6 * k + i)) + j))
        rw [e8, eb1 11 (by decide) (by decide), eb1 15 (by decide) (by decide)]
        intro i hi
        obtain ⟨a1, a2⟩ := hb i (by omega)
        refine ⟨a1, fun j hj => ?_⟩
        refine VD.ext (by omega) (Int.le_refl _) (Int.le_refl _) (fun q hq1 hq2 => ?_) _ _ (a2 j hj)
        refine ⟨by rw [eb1 2 (by decide) (by decide)], fun h6 => ?_, by rw [eb1 4 (by decide) (by decide)], fun w _ => by rw [eb1 5 (by decide) (by decide)]⟩
        rw [q4.2.1 q (.inr (by rw [g1 2 (by decide)]; omega)), g1 3 (by decide)]
      · intro q hq1 hq2 h7
        have h9 := q5 q hq1 hq2 h7
        show 0 ≤ (qb.2.1 3 q).toInt ∧ (qb.2.1 3 q).toInt < (qb.2.1 8 (6 + k)).toInt
        rw [e8]
        exact h9
    · show (qb.2.1 0 34).toInt = _
      rw [e0, g0 34 (by decide)]
      exact hp.1.2.2.1
    · intro q hq1 hq2
      show 0 ≤ (qb.2.1 4 q).toInt ∧ (qb.2.1 4 q).toInt ≤ 4
      rw [eb1 4 (by decide) (by decide)]
      have h9 := (hp.2.2.1 q hq1 hq2).2.2.2.2
      exact h9
    · show qb.2.1 0 33 = _
      rw [e0]
      exact g33
    · show qb.2.1 0 6 = _
      rw [e0]
      exact g0 6 (by decide)
    · show qb.2.1 0 4 = _
      rw [e0]
      exact g0 4 (by decide)
    · show qb.2.2.1 = _
      rw [q4.2.2, g2]
theorem PLE.pre {P t k : Nat} {σ0 σ1 : ST} {A : Option (Int32 × ST)} {b : ST} (h : PLE P t k σ1 A b) (hP : AP k (t + k - 400) σ0 σ1) : PLE P t k σ0 A b := by
  obtain ⟨t1, h1, h2, h3, h4, h5⟩ := h
  refine ⟨t1, h1, h2, h3, h4, ?_⟩
  rcases h5 with ⟨h0, hA⟩ | ⟨n, xk, x2, σ, a1, a2, a3, a4, a5, a6, a7, a8, a9, a10⟩
  · exact .inl ⟨h0, hA.mono (fun qa h => ⟨h.1, h.2.1, h.2.2.1, hP.trans h.2.2.2.1, h.2.2.2.2⟩)⟩
  · exact .inr ⟨n, xk, x2, σ, a1, a2, a3, a4, a5, a6, a7, a8, hP.trans a9, a10⟩
theorem ab_recs (P lo k : Nat) (x1 xl xk : Int32) (hx1 : x1.toInt = 6 + (k : Int)) (hxl : xl.toInt = lo) (hxk : xk.toInt = k) : ∀ (h m n t : Nat) (x2 : Int32) (σ τ : ST), 8 < h + m → 1 ≤ m → m ≤ 6 → PST P lo t k m σ τ → (0 ≤ x2.toInt ∧ x2.toInt ≤ 7 * (k : Int) + 1 + m) → 42 < (n : Int) + x2.toInt → OK (f_X11_plan_75 h x1 xl 1 τ) (PLO P lo k σ τ (f_X3_parse_11 n xk x2 σ)) := by
  intro h
  have l0 := li_0
  have l1 := li_1
  have n1 : ¬ (1 : Int32) = 0 := by decide
  induction h with
  | zero => intro m n t x2 σ τ h1 h2 h3; omega
  | succ h ih =>
    intro m n t x2 σ τ hh hm1 hm6 hS hx2 hn
    have hS0 := hS
    obtain ⟨hp, hb, ⟨h21, h8⟩, hX, hat⟩ := hS
    have hK := hX.2.2.1
    have hPk := hp.1.1
    have hlo := hp.1.2.1
    cases n with
    | zero => omega
    | succ n =>
    have eA := a_parse_it n xk x2 σ hxk (by omega) (by omega) h21
    rw [if_neg (by omega)] at eA
    have e33 := a_parse_33 (f_X3_parse_11 n) xk x2 1 σ τ hK (by omega)
    rw [f_X11_plan_75, if_neg n1]
    refine OK.bndK (b_isRecord τ) (fun v x hv hx => ?_)
    refine OK.kac ?_
    dsimp only
    by_cases hW : W_ τ v_record
    · have hv1 : v.toInt = 1 := by
        rcases hv with hv | hv
        · exact absurd hW hv.2
        · exact hv.1
      refine OK.ieq (fun h => by omega) (fun _ => ?_)
      obtain ⟨qa, ea, qb, eb, qF, hq⟩ := ab_record P lo t k m xk x1 σ τ hp hb h21 h8 hm6 hX hW hxk hx1 hat
      rw [eb, sbnd]
      refine OK.kac ?_
      have eA2 : f_X3_parse_11 (n + 1) xk x2 σ = if qa.1 = 0 then some (0, qa.2) else f_X3_parse_11 n xk (x2 + 1) qa.2 := by
        rw [eA, e33.1 hW, ea, sbnd]
      have qFv : FV (6 + k) lo (36 + 6 * k) τ qb.1.2 := qF.fv.weak (Nat.le_refl _) (by omega) (by omega)
      rcases hq with ⟨q1, q2, q3⟩ | ⟨q1, q2, q6, ⟨t1, ht1, hp1, hb1, hc1, hX1, hat1⟩, qP, q4⟩
      · have ez : qb.1.1 = 0 := Int32.toInt_inj.mp (by omega)
        have eq : qa.1 = 0 := Int32.toInt_inj.mp (by omega)
        rw [ez]
        cases h with
        | zero => omega
        | succ h =>
        rw [f_X11_plan_75, if_pos rfl]
        unfold f_X11_plan_95 f_X11_plan_119
        rw [if_pos rfl, if_pos rfl]
        refine OK.ret ⟨qFv.trans (FV.s33 (K := 6 + k) (t0 := lo) (R := 36 + 6 * k)) (Nat.le_refl _) (Nat.le_refl _) (Nat.le_refl _), .inl ⟨l0, ?_, ?_⟩⟩
        · rw [eA2, if_pos eq]
          exact OK.ret l0
        · show x + (qb.2 + 0) + 40 * uT (stI qb.1.2 0 33 (qb.1.2.1 0 33 + 1)) ≤ _
          rw [uT_33]
          omega
      · have ez : qb.1.1 = 1 := Int32.toInt_inj.mp (by omega)
        have eq : ¬ qa.1 = 0 := fun e => by rw [e] at q1; omega
        rw [ez]
        rw [if_neg eq] at eA2
        have ex := il_addE (x := x2) (y := 1) (by omega) (by omega)
        refine (ih (m + 1) n t1 (x2 + 1) qa.2 qb.1.2 (by omega) (by omega) (by omega) ⟨hp1, hb1, ⟨by rw [hc1.1]; rfl, by rw [hc1.2]; rfl⟩, hX1, hat1⟩ (by omega) (by omega)).mono (fun z hz => ?_)
        obtain ⟨zF, hz⟩ := hz
        refine ⟨qFv.trans zF (Nat.le_refl _) (Nat.le_refl _) (Nat.le_refl _), ?_⟩
        rw [eA2]
        rcases hz with ⟨z1, z2, z3⟩ | ⟨z1, z2, z3, z4⟩
        · exact .inl ⟨z1, z2, by show x + (qb.2 + z.2) + 40 * uT z.1.2 ≤ _; omega⟩
        · exact .inr ⟨z1, z2.pre qP, by show z.1.2.1 0 33 = _; rw [z3, qF.2.1 33 (by decide)], by show x + (qb.2 + z.2) + 40 * uT z.1.2 ≤ _; omega⟩
    have hv0 : v.toInt = 0 := by
      rcases hv with hv | hv
      · exact hv.1
      · exact absurd hv.2 hW
    refine OK.ieq (fun _ => ?_) (fun h => by omega)
    have eA2 := eA.trans (e33.2 hW)
    have h119 := ab_119 P lo t k m xk x1 xl σ τ hS0 ⟨hm1, hm6⟩ hxk hx1 hxl
    unfold f_X11_plan_95
    rw [if_neg n1]
    by_cases h0 : (τ.1 0 6).toInt = 0
    · have k0 := hK.t0.mpr h0
      refine OK.ieq (fun _ => ?_) (fun h => by omega)
      rw [a_parse_60_end (f_X3_parse_11 n) xk x2 σ τ hK k0] at eA2
      refine h119.mono (fun z hz => ?_)
      obtain ⟨z0, zF, zu, hz⟩ := hz
      refine ⟨zF, ?_⟩
      rw [eA2]
      rcases hz with ⟨z1, qa, ea, q1⟩ | ⟨z1, ⟨qa, ea, q1, q2, q3, qP, qQ⟩, ⟨z3, z4, z5, z6⟩, z7, z8, z9, z10⟩
      · refine .inl ⟨z1, ?_, by show x + z.2 + 40 * uT z.1.2 ≤ _; omega⟩
        rw [ea, sbnd]
        exact OK.ieq (fun _ => OK.ret l0) (fun h => by omega)
      · refine .inr ⟨z1, ⟨t, ⟨hlo.2, z4⟩, z3, z5, z6, .inl ⟨by show (z.1.2.1 0 6).toInt = 0; rw [z8]; exact h0, ?_⟩⟩, z7, by show x + z.2 + 40 * uT z.1.2 ≤ _; omega⟩
        rw [ea, sbnd]
        refine OK.ieq (fun h => by omega) (fun _ => OK.ret ⟨l1, ?_, by show (qa.2.1 20 1).toInt = _; rw [q3]; exact hp.1.2.2.2.1, qP, qQ⟩)
        show (qa.2.1 20 0).toInt = _
        rw [q3]
        exact hp.1.2.2.2.2
    have k0 : ¬ (σ.1 2 4).toInt = 0 := fun e => h0 (hK.t0.mp e)
    refine OK.ieq (fun h => by omega) (fun _ => ?_)
    refine OK.bndK (b_isPlan τ) (fun vp xp hvp hxp => ?_)
    refine OK.kac ?_
    dsimp only
    by_cases hP : W_ τ v_plan
    · have hv1 : vp.toInt = 1 := by
        rcases hvp with hv | hv
        · exact absurd hP hv.2
        · exact hv.1
      refine OK.ieq (fun h => by omega) (fun _ => ?_)
      rw [a_parse_60_nx n xk x2 σ τ hK hP] at eA2
      refine h119.mono (fun z hz => ?_)
      obtain ⟨z0, zF, zu, hz⟩ := hz
      refine ⟨zF, ?_⟩
      rw [eA2]
      rcases hz with ⟨z1, qa, ea, q1⟩ | ⟨z1, ⟨qa, ea, q1, q2, q3, qP, qQ⟩, ⟨z3, z4, z5, z6⟩, z7, z8, z9, z10⟩
      · refine .inl ⟨z1, ?_, by show x + (xp + z.2) + 40 * uT z.1.2 ≤ _; omega⟩
        rw [ea, sbnd]
        exact OK.ieq (fun _ => OK.ret l0) (fun h => by omega)
      · refine .inr ⟨z1, ⟨t, ⟨hlo.2, z4⟩, z3, z5, z6, .inr ⟨n, xk, x2, qa.2, ?_, ?_, q2, hxk, ?_, ?_, by omega, by omega, qP, qQ⟩⟩, z7, by show x + (xp + z.2) + 40 * uT z.1.2 ≤ _; omega⟩
        · exact ⟨by show (z.1.2.1 0 6).toInt = 1; rw [z8]; exact hP.1, by show z.1.2.2.1 0 7 = _; rw [z10]; exact hP.2⟩
        · rw [ea, sbnd, if_neg (fun e => by rw [e] at q1; omega)]
        · rw [q3]
          exact hp.1.2.2.2.1
        · show _ ≤ (z.1.2.1 0 4).toInt
          rw [z9]
          exact hat
    · have hv1 : vp.toInt = 0 := by
        rcases hvp with hv | hv
        · exact hv.1
        · exact absurd hv.2 hP
      refine OK.ieq (fun _ => ?_) (fun h => by omega)
      have hA := a_parse_60_no (f_X3_parse_11 n) xk x2 σ τ hK k0 hP
      rw [← eA2] at hA
      refine OK.bndC (b_wrongHere 1 τ) (fun v2 s2 c2 hv2 => ?_)
      have ev : v2 = 0 := Int32.toInt_inj.mp (by omega)
      rw [ev]
      unfold f_X11_plan_119
      rw [if_pos rfl]
      refine OK.ret ⟨((c2.fw (K := 6 + k) (t0 := lo) (R := 36 + 6 * k) (by decide)).fv).trans (FV.s33 (K := 6 + k) (t0 := lo) (R := 36 + 6 * k)) (Nat.le_refl _) (Nat.le_refl _) (Nat.le_refl _), .inl ⟨l0, hA, ?_⟩⟩
      show x + (xp + 0) + 40 * uT (stI s2 0 33 (s2.1 0 33 + 1)) ≤ _
      rw [uT_33, uT_eq (c2.2.1 3 (by decide)) (c2.2.1 5 (by decide)) (c2.2.1 6 (by decide))]
      omega
