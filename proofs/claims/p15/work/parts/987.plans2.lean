/-! plans: both keep their messages, or forget them -/
theorem OK.eqn {α : Type} {o : Option α} {P : α → Prop} (h : OK o P) : OK o (fun q => P q ∧ o = some q) := by
  obtain ⟨q, e, hq⟩ := h
  exact ⟨q, e, hq, e⟩
/-- no message, no pair kept, nothing shown -/
def CLD (y : ST) : Prop := (∀ i, i < 4 → y.1 32 i = -1) ∧ y.1 0 73 = 0 ∧ y.1 0 92 = 0 ∧ y.1 0 93 = 0 ∧ y.1 0 94 = 0
theorem q_plans80 : ∀ (n k : Nat) (x3 : Int32) (σ : ST), x3.toInt = k → (∀ i, i < k → σ.1 32 i = -1) → QT (f_X11_plans_80 n x3 σ) (fun y => CLD y.1.2) := by
  intro n
  have l1 := li_1
  have l4 := li_4
  induction n with
  | zero =>
    intro k x3 σ _ _
    rw [f_X11_plans_80]
    exact QT.none
  | succ n ih =>
    intro k x3 σ h3 hk
    rw [f_X11_plans_80]
    refine QT.ile (fun hle => QT.ret ⟨fun i hi => ?_, ?_, ?_, ?_, ?_⟩) (fun hlt => QT.grd (fun _ => ?_))
    · show (stI (stI (stI (stI (stI σ 0 73 0) 0 81 0) 0 92 0) 0 93 0) 0 94 0).1 32 i = -1
      rw [stI_ne (by omega), stI_ne (by omega), stI_ne (by omega), stI_ne (by omega), stI_ne (by omega)]
      exact hk i (by omega)
    · show (stI (stI (stI (stI (stI σ 0 73 0) 0 81 0) 0 92 0) 0 93 0) 0 94 0).1 0 73 = 0
      rw [stI_at, upN (by omega), stI_at, upN (by omega), stI_at, upN (by omega), stI_at, upN (by omega), stI_at, upA rfl]
    · show (stI (stI (stI (stI (stI σ 0 73 0) 0 81 0) 0 92 0) 0 93 0) 0 94 0).1 0 92 = 0
      rw [stI_at, upN (by omega), stI_at, upN (by omega), stI_at, upA rfl]
    · show (stI (stI (stI (stI (stI σ 0 73 0) 0 81 0) 0 92 0) 0 93 0) 0 94 0).1 0 93 = 0
      rw [stI_at, upN (by omega), stI_at, upA rfl]
    · show (stI (stI (stI (stI (stI σ 0 73 0) 0 81 0) 0 92 0) 0 93 0) 0 94 0).1 0 94 = 0
      rw [stI_at, upA rfl]
    · have ea := il_addE (x := x3) (y := 1) (by omega) (by omega)
      have n3 : x3.toNatClampNeg = k := nC h3
      rw [n3]
      refine ih (k + 1) (x3 + 1) _ (by omega) (fun i hi => ?_)
      rw [stI_at]
      by_cases e : i = k
      · rw [upA e]
      · rw [upN e]
        exact hk i (by omega)
theorem q_plans62 (b : ST) : QT (f_X11_plans_62 1 b) (fun y => CLD y.1.2) := by
  unfold f_X11_plans_62
  refine QT.ite (fun h => absurd h one_ne) (fun _ => ?_)
  exact QT.bnd (Q := fun _ => True) (fun _ _ => trivial) (fun q _ => q_plans80 FU 0 0 q li_0 (fun i hi => by omega))
theorem ab_plans_loop2 (τ0 : ST) (hI : IB τ0) : ∀ (g k t : Nat) (σ0 τ : ST) (A : Option (Int32 × ST)) (v : Int32) (b : ST) (x : Nat), 8 < g + k → k ≤ 6 → FV 6 400 36 τ0 τ → (∀ p, p < k → PLD p t τ) → (∀ p, p < k → FPA p t σ0 τ) → M4 t τ → (τ.1 0 33).toInt = k → 400 ≤ t → PLO (k + 1) t k σ0 τ A ((v, b), x) → (v.toInt = 1 → k < 6 ∧ x + 40 * uT b ≤ 40 * uT τ) → KYB τ0 b → OK (f_X11_plans_43 g v b) (fun y => OK A (fun qa => (qa.1.toInt = 0 ∧ KYB τ0 y.1.2) ∨ (qa.1.toInt = 1 ∧ CLD y.1.2))) := by
  intro g
  have l0 := li_0
  have l1 := li_1
  induction g with
  | zero => intro k t σ0 τ A v b x h1 h2; omega
  | succ g ih =>
    intro k t σ0 τ A v b x hg hk hF hD hE0 hM h33 ht hO hc hY
    obtain ⟨zF, hz⟩ := hO
    dsimp only at zF hz
    have zF0 : FV 6 400 36 τ0 b := hF.trans zF (by omega) ht (by omega)
    rw [f_X11_plans_43]
    rcases hz with ⟨z1, z2, z3⟩ | ⟨z1, ⟨t1, ⟨ht1, ht2⟩, hPk, h34, hMr, hE⟩, z33, z4⟩
    · refine OK.ieq (fun _ => ?_) (fun h => by omega)
      unfold f_X11_plans_62
      refine OK.ieq (fun _ => ?_) (fun h => by omega)
      exact OK.ret (z2.mono (fun qa h => .inl ⟨h, hY⟩))
    · obtain ⟨hk6, hc⟩ := hc z1
      refine OK.ieq (fun h => by omega) (fun _ => ?_)
      have e33 := il_addE (x := τ.1 0 33) (y := 1) (by omega) (by omega)
      have hz33 : (b.1 0 33).toInt = ((k + 1 : Nat) : Int) := by rw [z33]; omega
      have hD1 : ∀ p, p < k + 1 → PLD p t1 b := fun p hp => by
        by_cases e : p = k
        · rw [e]
          exact hPk
        · exact (hD p (by omega)).fv zF (Nat.le_refl _) ht1 (by omega) (by omega)
      have hM1 : M4 t1 b := fun q hq1 hq2 => by
        by_cases e : q < t
        · rw [(zF.2.2.1 q e).2.2]
          exact hM q hq1 e
        · exact hMr q (by omega) hq2
      rcases hE with ⟨h0, hA⟩ | ⟨n, xk, x2, σ, hW, eA, hX, hxk, hcA, hat, hx2, hn, hP0, hQ0⟩
      · refine OK.ieq (fun _ => ?_) (fun h => by omega)
        have ez : v = 1 := Int32.toInt_inj.mp (by omega)
        rw [ez]
        refine (b_plans_62 b (k + 1) t1 (hI.fv zF0) (by omega) hz33 h34 (by omega) hD1 hM1).eqn.mono (fun y hy => ?_)
        exact hA.mono (fun qa h => .inr ⟨h.1, q_plans62 b y hy.2⟩)
      · have w1 := hW.1
        refine OK.ieq (fun h => by omega) (fun _ => ?_)
        have hpl := ab_plan (k + 1) t1 n xk x2 σ b hX hW (by omega) hz33 h34 (by omega) (by omega) hat (by omega) (by omega) hn
        rw [← eA] at hpl
        have hE1 : ∀ p, p < k + 1 → FPA p t1 σ b := fun p hp => by
          by_cases e : p = k
          · rw [e]
            exact hQ0
          · exact (hE0 p (by omega)).keep (by omega) hP0 zF (Nat.le_refl _) ht1 (by omega)
        refine OK.bnd hpl.eqn (fun z' hz' => ?_)
        obtain ⟨⟨v', b'⟩, x'⟩ := z'
        obtain ⟨⟨p1, p2⟩, ez'⟩ := hz'
        refine OK.kac ?_
        exact ih (k + 1) t1 σ b A v' b' x' (by omega) (by omega) zF0 hD1 hE1 hM1 hz33 (by omega) p1 p2 (wy_X11_plan hY _ ez')
theorem ab_plans2 (p0 : Int32) (σ τ : ST) (h1 : σ.1 1 = τ.1 1) (hT8 : ∀ i, bI (τ.1 1 i) (-128) 127) (hkw : σ.2.1 3 = kw0) (hI : IB τ) (hp : 0 ≤ p0.toInt ∧ p0.toInt ≤ 1000) (s1 : ST) (e1 : f_X6_begin p0 σ = some s1) (r : Int32) (s2 : ST) (e2 : f_X3_parse s1 = some (r, s2)) : OK ((f_X11_begins p0 τ).bind fun q3 => (f_X11_plan (stI (stI q3 0 33 0) 0 34 400)).bind fun q5 => ac q5.2 (f_X11_plans_43 FU q5.1.1 q5.1.2)) (fun y => (r.toInt = 0 ∧ KYB τ y.1.2) ∨ (¬ r.toInt = 0 ∧ CLD y.1.2)) := by
  have l0 := li_0
  have l1 := li_1
  have lm := li_m1
  have lu := FUi
  refine OK.bnd (b_begins p0 τ hp).eqn (fun t ht => ?_)
  obtain ⟨⟨ct, tx, tu, t2, t3, t12, s, hsk, hTB⟩, et⟩ := ht
  have hYt : KYB τ (stI (stI t 0 33 0) 0 34 400) := ((wy_X11_begins KYB.rf t et).i (by omega)).i (by omega)
  -- the class at its first token
  have cI : IB t := hI.ch ct (by decide) (by decide)
  have g9 : (stI (stI t 0 33 0) 0 34 400).1 0 = upd (upd (t.1 0) 33 0) 34 400 := rfl
  have g0 : ∀ i, i ∉ [33, 34] → (stI (stI t 0 33 0) 0 34 400).1 0 i = t.1 0 i := fun i hi => by
    simp only [List.mem_cons, List.not_mem_nil, or_false, not_or] at hi
    rw [g9, upd_no hi.2, upd_no hi.1]
  have g33 : (stI (stI t 0 33 0) 0 34 400).1 0 33 = 0 := by rw [g9, upd_no (by decide), upd_at]
  have g34 : (stI (stI t 0 33 0) 0 34 400).1 0 34 = 400 := by rw [g9, upd_at]
  have g1 : ∀ c, c ≠ 0 → (stI (stI t 0 33 0) 0 34 400).1 c = t.1 c := fun c hc => by rw [stI_ne hc, stI_ne hc]
  have g2 : (stI (stI t 0 33 0) 0 34 400).2.1 = t.2.1 := rfl
  have gC : CH [] [33, 34] t (stI (stI t 0 33 0) 0 34 400) := (CH.rf.o (by decide)).o (by decide)
  clear g9
  generalize stI (stI t 0 33 0) 0 34 400 = b at g0 g33 g34 g1 g2 gC hYt ⊢
  have bI_ : IB b := cI.ch gC (by decide) (by decide)
  have ub : uT b = uT t := uT_eq (g0 3 (by decide)) (g0 5 (by decide)) (g0 6 (by decide))
  unfold f_X6_begin at e1
  have a9 : (stI (stI (stI (stI σ 2 2 p0) 2 3 0) 2 12 0) 2 13 0).1 2 = upd (upd (upd (upd (σ.1 2) 2 p0) 3 0) 12 0) 13 0 := rfl
  have a1 : ∀ c, c ≠ 2 → (stI (stI (stI (stI σ 2 2 p0) 2 3 0) 2 12 0) 2 13 0).1 c = σ.1 c := fun c hc => by rw [stI_ne hc, stI_ne hc, stI_ne hc, stI_ne hc]
  have a2 : (stI (stI (stI (stI σ 2 2 p0) 2 3 0) 2 12 0) 2 13 0).1 2 2 = p0 := by rw [a9, upd_no (by decide), upd_no (by decide), upd_no (by decide), upd_at]
  have a3 : (stI (stI (stI (stI σ 2 2 p0) 2 3 0) 2 12 0) 2 13 0).1 2 3 = 0 := by rw [a9, upd_no (by decide), upd_no (by decide), upd_at]
  have aL : (stI (stI (stI (stI σ 2 2 p0) 2 3 0) 2 12 0) 2 13 0).2.1 = σ.2.1 := rfl
  clear a9
  generalize stI (stI (stI (stI σ 2 2 p0) 2 3 0) 2 12 0) 2 13 0 = u at a1 a2 a3 aL e1
  obtain ⟨u9, eu, ca, s', hs', hTA⟩ := a_advance u 0 (by rw [a1 1 (by decide), h1]; exact hT8) (by rw [a2]; exact hp) (by rw [a3]; exact l0) (by omega)
  rw [eu, sbnd] at e1
  cases e1
  rw [a1 1 (by decide), a2, h1] at hs' hTA
  have es : s' = s := hs'.uniq hsk
  subst es
  have t1 : t.1 1 = τ.1 1 := ct.1 1 (by decide) (by decide)
  have hkw9 : s1.2.1 3 = kw0 := by rw [ca.2.2.1 3 (by decide), aL]; exact hkw
  have hK : TK s1 t := TK.mk hT8 hkw9 t1 (by rw [t3]) hTA hTB
  have hX : LX s1 t := by
    refine ⟨⟨?_, ?_, ?_, hkw9⟩, ?_, hK, 0, s', by omega, ?_, ?_⟩
    · rw [ca.1 1 (by decide), a1 1 (by decide), h1, t1]
    · rw [ca.2.1, a2, t3]
    · rw [t1]
      exact hT8
    · rw [t3]
      exact hp
    · rw [t1, t3]
      exact hsk
    · rw [t1, t3]
      exact hTB
  -- the class's draft is emptied
  unfold f_X3_parse f_X5_clear at e2
  rw [sbnd] at e2
  have c1 : ∀ c, c ≠ 20 → (stI (stI s1 20 0 0) 20 1 0).1 c = s1.1 c := fun c hc => by rw [stI_ne hc, stI_ne hc]
  have c20 : (stI (stI s1 20 0 0) 20 1 0).1 20 1 = 0 := by
    have e9 : (stI (stI s1 20 0 0) 20 1 0).1 20 = upd (upd (s1.1 20) 0 0) 1 0 := rfl
    rw [e9, upd_at]
  have cL : (stI (stI s1 20 0 0) 20 1 0).2.1 = s1.2.1 := rfl
  generalize stI (stI s1 20 0 0) 20 1 0 = a at c1 c20 cL e2
  have hXa : LX a b := hX.ext (c1 1 (by decide)) (c1 2 (by decide)) (by rw [cL]) (by rw [cL]) (g1 1 (by decide)) (fun i hi => g0 i (fun h9 => by
    simp only [List.mem_cons, List.not_mem_nil, or_false] at h9 hi
    omega)) (by rw [g2])
  have htop := a_parse_top a b hXa.2.2.1 (by rw [c20]; exact l0)
  have bc : ∀ c, c ≠ 0 → b.1 c = τ.1 c := fun c hc => (g1 c hc).trans (ct.1 c hc (by simp))
  have b1 : b.1 1 = τ.1 1 := (g1 1 (by decide)).trans t1
  have tL5 := ct.l5
  have bKR : KR τ b := KR.eq (fun c hc => bc c (fun e => by rw [e] at hc; revert hc; decide)) (fun c hc => by
    rw [g2]
    simp only [List.mem_cons, List.not_mem_nil, or_false] at hc
    rcases hc with e | e | e | e | e
    · rw [e]; exact tL5.1
    · rw [e]; exact tL5.2.1
    · rw [e]; exact tL5.2.2.1
    · rw [e]; exact tL5.2.2.2.1
    · rw [e]; exact tL5.2.2.2.2)
  have b32 : b.1 0 32 = τ.1 0 32 := (g0 32 (by decide)).trans (ct.2.1 32 (by decide))
  have b2 : b.1 0 2 = 0 := (g0 2 (by decide)).trans t2
  by_cases hW : W_ b v_plan
  · have eA := htop.1 hW
    have hat : (0 : Int) ≤ (b.1 0 4).toInt := by
      rw [g0 4 (by decide), hTB.1]
      omega
    refine OK.bnd (OK.eqn (ab_plan 0 400 99999 (-1) 0 a b hXa hW (by omega) (by rw [g33]; exact l0) (by rw [g34]; exact li_400) (by omega) (by rw [c20, l0]; rfl) (by omega) (by rw [lm]; rfl) (by omega) (by omega))) (fun z hz => ?_)
    obtain ⟨⟨zv, zs⟩, zx⟩ := z
    obtain ⟨hz, ez⟩ := hz
    refine OK.kac ?_
    refine (ab_plans_loop2 b bI_ FU 0 400 a b _ zv zs zx (by omega) (by omega) FV.rf (fun p hp => by omega) (fun p hp => by omega) (fun q h1 h2 => by omega) (by rw [g33]; exact l0) (by omega) hz.1 hz.2 (wy_X11_plan KYB.rf _ ez)).mono (fun y hy => ?_)
    obtain ⟨qa, ea, y4⟩ := hy
    rw [← eA, e2] at ea
    cases ea
    rcases y4 with ⟨q1, q2⟩ | ⟨q1, q2⟩
    · exact .inl ⟨q1, hYt.trans q2⟩
    · have q1 : r.toInt = 1 := q1
      exact .inr ⟨by omega, q2⟩
  · obtain ⟨qa, ea, hq⟩ := htop.2 hW
    rw [e2] at ea
    cases ea
    refine OK.bnd (Q := fun q => (q.1.1.toInt = 0 ∧ CH [] [12] b q.1.2 ∧ q.2 ≤ 1) ∧ f_X11_plan b = some q) ?_ (fun z hz => ?_)
    · refine OK.eqn ?_
      unfold f_X11_plan
      refine OK.bndK (b_isPlan b) (fun v x hv hx => ?_)
      refine OK.kac ?_
      dsimp only
      have hv0 : v.toInt = 0 := by
        rcases hv with hv | hv
        · exact hv.1
        · exact absurd hv.2 hW
      refine OK.ieq (fun _ => ?_) (fun h => by omega)
      refine OK.bndC (b_wrongHere 1 b) (fun v2 s9 c2 hv2 => ?_)
      refine OK.grd (b01 (.inl hv2)) ?_
      exact OK.ret ⟨hv2, c2, by show x + 0 ≤ 1; omega⟩
    · obtain ⟨⟨zv, zs⟩, zx⟩ := z
      obtain ⟨⟨z1, z2, z3⟩, ez⟩ := hz
      dsimp only at z1 z2 z3
      refine OK.kac ?_
      have ef : FU = 99999 + 1 := rfl
      dsimp only
      rw [ef, f_X11_plans_43]
      refine OK.ieq (fun _ => ?_) (fun h => by omega)
      unfold f_X11_plans_62
      refine OK.ieq (fun _ => ?_) (fun h => by omega)
      have hz9 : KYB τ zs := wy_X11_plan hYt _ ez
      exact OK.ret (.inl ⟨hq, hz9⟩)
