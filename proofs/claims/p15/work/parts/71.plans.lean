/-! plans: both take the same text -/
theorem ab_plans_loop (τ0 : ST) (hI : IB τ0) : ∀ (g k t : Nat) (σ0 τ : ST) (A : Option (Int32 × ST)) (v : Int32) (b : ST) (x : Nat), 8 < g + k → k ≤ 6 → FV 6 400 36 τ0 τ → (∀ p, p < k → PLD p t τ) → (∀ p, p < k → FPA p t σ0 τ) → M4 t τ → (τ.1 0 33).toInt = k → 400 ≤ t → PLO (k + 1) t k σ0 τ A ((v, b), x) → (v.toInt = 1 → k < 6 ∧ x + 40 * uT b ≤ 40 * uT τ) → OK (f_X11_plans_43 g v b) (fun y => x + y.2 ≤ 40 * uT τ + 30 ∧ IB y.1.2 ∧ y.1.2.1 1 = τ0.1 1 ∧ y.1.2.1 0 2 = τ0.1 0 2 ∧ OK A (fun qa => (qa.1.toInt = 0 ∧ y.1.2.1 0 32 = τ0.1 0 32 ∧ KR τ0 y.1.2) ∨ (qa.1.toInt = 1 ∧ (y.1.2.1 0 32).toInt = (qa.2.1 20 0).toInt ∧ ∀ p : Nat, (p : Int) < (qa.2.1 20 0).toInt → PHB 20 p qa.2 y.1.2))) := by
  intro g
  have l0 := li_0
  have l1 := li_1
  induction g with
  | zero => intro k t σ0 τ A v b x h1 h2; omega
  | succ g ih =>
    intro k t σ0 τ A v b x hg hk hF hD hE0 hM h33 ht hO hc
    obtain ⟨zF, hz⟩ := hO
    dsimp only at zF hz
    have zF0 : FV 6 400 36 τ0 b := hF.trans zF (by omega) ht (by omega)
    rw [f_X11_plans_43]
    rcases hz with ⟨z1, z2, z3⟩ | ⟨z1, ⟨t1, ⟨ht1, ht2⟩, hPk, h34, hMr, hE⟩, z33, z4⟩
    · refine OK.ieq (fun _ => ?_) (fun h => by omega)
      unfold f_X11_plans_62
      refine OK.ieq (fun _ => ?_) (fun h => by omega)
      exact OK.ret ⟨by show x + 0 ≤ _; omega, hI.fv zF0, zF0.1 1 (by decide), zF0.2.1 2 (by decide), z2.mono (fun qa h => .inl ⟨h, zF0.2.1 32 (by decide), zF0.kr⟩)⟩
    · obtain ⟨hk6, hc⟩ := hc z1
      refine OK.ieq (fun h => by omega) (fun _ => ?_)
      have e33 := il_addE (x := τ.1 0 33) (y := 1) (by omega) (by omega)
      have hz33 : (b.1 0 33).toInt = ((k + 1 : Nat) : Int) := by rw [z33]; omega
      have hD1 : ∀ p, p < k + 1 → PLD p t1 b := fun p hp => by
        by_cases e : p = k
        · rw [e]
          exact hPk
        · exact (hD p (by omega)).fv zF (Nat.le_refl _) ht1 (by omega) (by omega)
      have hM1 : M4 t1 b := fun q hq1 hq2 => by
        by_cases e : q < t
        · rw [(zF.2.2.1 q e).2.2]
          exact hM q hq1 e
        · exact hMr q (by omega) hq2
      rcases hE with ⟨h0, hA⟩ | ⟨n, xk, x2, σ, hW, eA, hX, hxk, hcA, hat, hx2, hn, hP0, hQ0⟩
      · refine OK.ieq (fun _ => ?_) (fun h => by omega)
        have ez : v = 1 := Int32.toInt_inj.mp (by omega)
        rw [ez]
        refine (b_plans_62 b (k + 1) t1 (hI.fv zF0) (by omega) hz33 h34 (by omega) hD1 hM1).mono (fun y hy => ?_)
        obtain ⟨y0, y1, y2, y3, y4, y5⟩ := hy
        refine ⟨by omega, y1, y2.trans (zF0.1 1 (by decide)), y3.trans (zF0.2.1 2 (by decide)), hA.mono (fun qa h => .inr ⟨h.1, by rw [y4, h.2.1], fun p hp => ?_⟩)⟩
        have hp9 : p < k + 1 := by have := h.2.1; omega
        have hf : FPA p t1 qa.2 b := by
          by_cases e : p = k
          · rw [e]
            exact h.2.2.2.2
          · exact (hE0 p (by omega)).keep (by omega) h.2.2.2.1 zF (Nat.le_refl _) ht1 (by omega)
        have h3 := h.2.2.1
        exact hf.phb (by omega) y5 (Nat.le_refl _) (by omega) (by omega)
      · have w1 := hW.1
        refine OK.ieq (fun h => by omega) (fun _ => ?_)
        have hpl := ab_plan (k + 1) t1 n xk x2 σ b hX hW (by omega) hz33 h34 (by omega) (by omega) hat (by omega) (by omega) hn
        rw [← eA] at hpl
        have hE1 : ∀ p, p < k + 1 → FPA p t1 σ b := fun p hp => by
          by_cases e : p = k
          · rw [e]
            exact hQ0
          · exact (hE0 p (by omega)).keep (by omega) hP0 zF (Nat.le_refl _) ht1 (by omega)
        refine OK.bnd hpl (fun z' hz' => ?_)
        obtain ⟨⟨v', b'⟩, x'⟩ := z'
        obtain ⟨p1, p2⟩ := hz'
        refine OK.kac ?_
        refine (ih (k + 1) t1 σ b A v' b' x' (by omega) (by omega) zF0 hD1 hE1 hM1 hz33 (by omega) p1 p2).mono (fun y hy => ?_)
        obtain ⟨y0, y1⟩ := hy
        exact ⟨by show x + (x' + y.2) ≤ _; omega, y1⟩
theorem a_resolve_m1 (σ : ST) (hc : (σ.1 20 1).toInt = 0) : f_X3_resolve (-1) σ = some (1, σ) := by
  have lm := li_m1
  have l0 := li_0
  have ef : FU = 99999 + 1 := rfl
  have ef2 : (99999 : Nat) = 99998 + 1 := rfl
  have ei : f_X5_isType 20 (-1) σ = some (0, σ) := by
    unfold f_X5_isType
    rw [if_pos (by decide)]
  have ea : (-1 : Int32) + 1 = 0 := by decide
  unfold f_X3_resolve f_X5_resolve f_X5_rootType
  rw [if_pos (by decide), sbnd, ef, f_X5_resolve_6, if_neg (by rw [Int32.le_iff_toInt_le]; show ¬ (σ.1 20 1).toInt ≤ (-1 : Int32).toInt; omega), ei, sbnd]
  dsimp only
  rw [if_pos rfl]
  unfold f_X5_resolve_62
  rw [ea, ef2, f_X5_resolve_6, if_pos (by rw [Int32.le_iff_toInt_le]; omega), sbnd]
  dsimp only
  rw [if_pos rfl]
  rfl
theorem a_parse_top (σ τ : ST) (hK : TK σ τ) (hc : (σ.1 20 1).toInt = 0) : (W_ τ v_plan → f_X3_parse_11 FU (-1) 0 σ = NX 99999 (-1) 0 σ) ∧ (¬ W_ τ v_plan → OK (f_X3_parse_11 FU (-1) 0 σ) (fun q => q.1.toInt = 0)) := by
  have ef : FU = 99999 + 1 := rfl
  have e1 : kwV 0 = v_plan := rfl
  have hk := a_isKw 0 σ τ hK (k := 0) (by omega) li_0
  rw [e1] at hk
  have er : f_X5_recordsOf 20 (-1) σ = some (0, σ) := by
    unfold f_X5_recordsOf
    rw [if_pos (by decide)]
  have e0 : f_X3_parse_11 FU (-1) 0 σ = f_X3_parse_90 (f_X3_parse_11 99999) (-1) 0 0 σ := by
    rw [ef, f_X3_parse_11, if_neg (by decide), er, sbnd]
    dsimp only
    rw [if_pos (by decide)]
    unfold f_X3_parse_33 f_X3_parse_60 f_X3_parse_78 f_X3_parse_79
    rw [if_pos rfl, if_pos rfl, if_pos rfl, if_pos rfl]
  have n1 : ¬ (1 : Int32) = 0 := by decide
  refine ⟨fun hW => ?_, fun hW => ?_⟩
  · rw [e0]
    unfold f_X3_parse_90
    rw [hk.1 hW, sbnd]
    dsimp only
    rw [if_neg n1]
    unfold f_X3_parse_106 f_X3_parse_127
    rw [if_pos rfl, if_neg n1, a_resolve_m1 σ hc, sbnd]
    dsimp only
    rw [if_neg n1, if_pos rfl]
    rfl
  · rw [e0]
    unfold f_X3_parse_90
    rw [hk.2 hW, sbnd]
    dsimp only
    rw [if_pos rfl]
    unfold f_X3_parse_105 f_X3_parse_106
    rw [if_pos rfl, if_pos rfl]
    refine OK.bnd (a_refuse _ _) (fun q hq => ?_)
    exact OK.grd (b01 (.inl hq)) (OK.ret hq)
theorem ab_plans (p0 : Int32) (σ τ : ST) (h1 : σ.1 1 = τ.1 1) (hT8 : ∀ i, bI (τ.1 1 i) (-128) 127) (hkw : σ.2.1 3 = kw0) (hI : IB τ) (hp : 0 ≤ p0.toInt ∧ p0.toInt ≤ 1000) (s1 : ST) (e1 : f_X6_begin p0 σ = some s1) (r : Int32) (s2 : ST) (e2 : f_X3_parse s1 = some (r, s2)) : OK ((f_X11_begins p0 τ).bind fun q3 => (f_X11_plan (stI (stI q3 0 33 0) 0 34 400)).bind fun q5 => ac q5.2 (f_X11_plans_43 FU q5.1.1 q5.1.2)) (fun y => (y.2 : Int) ≤ 40 * p0.toInt + 80 ∧ IB y.1.2 ∧ y.1.2.1 1 = τ.1 1 ∧ y.1.2.1 0 2 = 0 ∧ ((r.toInt = 0 ∧ y.1.2.1 0 32 = τ.1 0 32 ∧ KR τ y.1.2) ∨ (¬ r.toInt = 0 ∧ (y.1.2.1 0 32).toInt = (s2.1 20 0).toInt ∧ ∀ p : Nat, (p : Int) < (s2.1 20 0).toInt → PHB 20 p s2 y.1.2))) := by
  have l0 := li_0
  have l1 := li_1
  have lm := li_m1
  have lu := FUi
  refine OK.bnd (b_begins p0 τ hp) (fun t ht => ?_)
  obtain ⟨ct, tx, tu, t2, t3, t12, s, hsk, hTB⟩ := ht
  -- the class at its first token
  have cI : IB t := hI.ch ct (by decide) (by decide)
  have g9 : (stI (stI t 0 33 0) 0 34 400).1 0 = upd (upd (t.1 0) 33 0) 34 400 := rfl
  have g0 : ∀ i, i ∉ [33, 34] → (stI (stI t 0 33 0) 0 34 400).1 0 i = t.1 0 i := fun i hi => by
    simp only [List.mem_cons, List.not_mem_nil, or_false, not_or] at hi
    rw [g9, upd_no hi.2, upd_no hi.1]
  have g33 : (stI (stI t 0 33 0) 0 34 400).1 0 33 = 0 := by rw [g9, upd_no (by decide), upd_at]
  have g34 : (stI (stI t 0 33 0) 0 34 400).1 0 34 = 400 := by rw [g9, upd_at]
  have g1 : ∀ c, c ≠ 0 → (stI (stI t 0 33 0) 0 34 400).1 c = t.1 c := fun c hc => by rw [stI_ne hc, stI_ne hc]
  have g2 : (stI (stI t 0 33 0) 0 34 400).2.1 = t.2.1 := rfl
  have gC : CH [] [33, 34] t (stI (stI t 0 33 0) 0 34 400) := (CH.rf.o (by decide)).o (by decide)
  clear g9
  generalize stI (stI t 0 33 0) 0 34 400 = b at g0 g33 g34 g1 g2 gC ⊢
  have bI_ : IB b := cI.ch gC (by decide) (by decide)
  have ub : uT b = uT t := uT_eq (g0 3 (by decide)) (g0 5 (by decide)) (g0 6 (by decide))
  unfold f_X6_begin at e1
  have a9 : (stI (stI (stI (stI σ 2 2 p0) 2 3 0) 2 12 0) 2 13 0).1 2 = upd (upd (upd (upd (σ.1 2) 2 p0) 3 0) 12 0) 13 0 := rfl
  have a1 : ∀ c, c ≠ 2 → (stI (stI (stI (stI σ 2 2 p0) 2 3 0) 2 12 0) 2 13 0).1 c = σ.1 c := fun c hc => by rw [stI_ne hc, stI_ne hc, stI_ne hc, stI_ne hc]
  have a2 : (stI (stI (stI (stI σ 2 2 p0) 2 3 0) 2 12 0) 2 13 0).1 2 2 = p0 := by rw [a9, upd_no (by decide), upd_no (by decide), upd_no (by decide), upd_at]
  have a3 : (stI (stI (stI (stI σ 2 2 p0) 2 3 0) 2 12 0) 2 13 0).1 2 3 = 0 := by rw [a9, upd_no (by decide), upd_no (by decide), upd_at]
  have aL : (stI (stI (stI (stI σ 2 2 p0) 2 3 0) 2 12 0) 2 13 0).2.1 = σ.2.1 := rfl
  clear a9
  generalize stI (stI (stI (stI σ 2 2 p0) 2 3 0) 2 12 0) 2 13 0 = u at a1 a2 a3 aL e1
  obtain ⟨u9, eu, ca, s', hs', hTA⟩ := a_advance u 0 (by rw [a1 1 (by decide), h1]; exact hT8) (by rw [a2]; exact hp) (by rw [a3]; exact l0) (by omega)
  rw [eu, sbnd] at e1
  cases e1
  rw [a1 1 (by decide), a2, h1] at hs' hTA
  have es : s' = s := hs'.uniq hsk
  subst es
  have t1 : t.1 1 = τ.1 1 := ct.1 1 (by decide) (by decide)
  have hkw9 : s1.2.1 3 = kw0 := by rw [ca.2.2.1 3 (by decide), aL]; exact hkw
  have hK : TK s1 t := TK.mk hT8 hkw9 t1 (by rw [t3]) hTA hTB
  have hX : LX s1 t := by
    refine ⟨⟨?_, ?_, ?_, hkw9⟩, ?_, hK, 0, s', by omega, ?_, ?_⟩
    · rw [ca.1 1 (by decide), a1 1 (by decide), h1, t1]
    · rw [ca.2.1, a2, t3]
    · rw [t1]
      exact hT8
    · rw [t3]
      exact hp
    · rw [t1, t3]
      exact hsk
    · rw [t1, t3]
      exact hTB
  -- the class's draft is emptied
  unfold f_X3_parse f_X5_clear at e2
  rw [sbnd] at e2
  have c1 : ∀ c, c ≠ 20 → (stI (stI s1 20 0 0) 20 1 0).1 c = s1.1 c := fun c hc => by rw [stI_ne hc, stI_ne hc]
  have c20 : (stI (stI s1 20 0 0) 20 1 0).1 20 1 = 0 := by
    have e9 : (stI (stI s1 20 0 0) 20 1 0).1 20 = upd (upd (s1.1 20) 0 0) 1 0 := rfl
    rw [e9, upd_at]
  have cL : (stI (stI s1 20 0 0) 20 1 0).2.1 = s1.2.1 := rfl
  generalize stI (stI s1 20 0 0) 20 1 0 = a at c1 c20 cL e2
  have hXa : LX a b := hX.ext (c1 1 (by decide)) (c1 2 (by decide)) (by rw [cL]) (by rw [cL]) (g1 1 (by decide)) (fun i hi => g0 i (fun h9 => by
    simp only [List.mem_cons, List.not_mem_nil, or_false] at h9 hi
    omega)) (by rw [g2])
  have htop := a_parse_top a b hXa.2.2.1 (by rw [c20]; exact l0)
  have bc : ∀ c, c ≠ 0 → b.1 c = τ.1 c := fun c hc => (g1 c hc).trans (ct.1 c hc (by simp))
  have b1 : b.1 1 = τ.1 1 := (g1 1 (by decide)).trans t1
  have tL5 := ct.l5
  have bKR : KR τ b := KR.eq (fun c hc => bc c (fun e => by rw [e] at hc; revert hc; decide)) (fun c hc => by
    rw [g2]
    simp only [List.mem_cons, List.not_mem_nil, or_false] at hc
    rcases hc with e | e | e | e | e
    · rw [e]; exact tL5.1
    · rw [e]; exact tL5.2.1
    · rw [e]; exact tL5.2.2.1
    · rw [e]; exact tL5.2.2.2.1
    · rw [e]; exact tL5.2.2.2.2)
  have b32 : b.1 0 32 = τ.1 0 32 := (g0 32 (by decide)).trans (ct.2.1 32 (by decide))
  have b2 : b.1 0 2 = 0 := (g0 2 (by decide)).trans t2
  by_cases hW : W_ b v_plan
  · have eA := htop.1 hW
    have hat : (0 : Int) ≤ (b.1 0 4).toInt := by
      rw [g0 4 (by decide), hTB.1]
      omega
    refine OK.bnd (ab_plan 0 400 99999 (-1) 0 a b hXa hW (by omega) (by rw [g33]; exact l0) (by rw [g34]; exact li_400) (by omega) (by rw [c20, l0]; rfl) (by omega) (by rw [lm]; rfl) (by omega) (by omega)) (fun z hz => ?_)
    obtain ⟨⟨zv, zs⟩, zx⟩ := z
    refine OK.kac ?_
    refine (ab_plans_loop b bI_ FU 0 400 a b _ zv zs zx (by omega) (by omega) FV.rf (fun p hp => by omega) (fun p hp => by omega) (fun q h1 h2 => by omega) (by rw [g33]; exact l0) (by omega) hz.1 hz.2).mono (fun y hy => ?_)
    obtain ⟨y0, y1, y2, y3, qa, ea, y4⟩ := hy
    rw [← eA, e2] at ea
    cases ea
    refine ⟨by show ((zx + y.2 : Nat) : Int) ≤ _; omega, y1, y2.trans b1, y3.trans b2, ?_⟩
    rcases y4 with ⟨q1, q2, q3⟩ | ⟨q1, q2⟩
    · exact .inl ⟨q1, q2.trans b32, bKR.trans q3⟩
    · have q1 : r.toInt = 1 := q1
      exact .inr ⟨by omega, q2⟩
  · obtain ⟨qa, ea, hq⟩ := htop.2 hW
    rw [e2] at ea
    cases ea
    unfold f_X11_plan
    refine OK.bnd (Q := fun q => q.1.1.toInt = 0 ∧ CH [] [12] b q.1.2 ∧ q.2 ≤ 1) ?_ (fun z hz => ?_)
    · refine OK.bndK (b_isPlan b) (fun v x hv hx => ?_)
      refine OK.kac ?_
      dsimp only
      have hv0 : v.toInt = 0 := by
        rcases hv with hv | hv
        · exact hv.1
        · exact absurd hv.2 hW
      refine OK.ieq (fun _ => ?_) (fun h => by omega)
      refine OK.bndC (b_wrongHere 1 b) (fun v2 s9 c2 hv2 => ?_)
      refine OK.grd (b01 (.inl hv2)) ?_
      exact OK.ret ⟨hv2, c2, by show x + 0 ≤ 1; omega⟩
    · obtain ⟨⟨zv, zs⟩, zx⟩ := z
      obtain ⟨z1, z2, z3⟩ := hz
      dsimp only at z1 z2 z3
      refine OK.kac ?_
      have ef : FU = 99999 + 1 := rfl
      dsimp only
      rw [ef, f_X11_plans_43]
      refine OK.ieq (fun _ => ?_) (fun h => by omega)
      unfold f_X11_plans_62
      refine OK.ieq (fun _ => ?_) (fun h => by omega)
      refine OK.ret ⟨by show ((zx + 0 : Nat) : Int) ≤ _; omega, bI_.ch z2 (by decide) (by decide), (z2.1 1 (by decide) (by decide)).trans b1, (z2.2.1 2 (by decide)).trans b2, .inl ⟨hq, (z2.2.1 32 (by decide)).trans b32, bKR.trans (z2.fw (K := 6) (t0 := 400) (R := 36) (by decide)).fv.kr⟩⟩
