/-! two messages held against one another, both sides -/
/-- behind a message read by the reference -/
theorem ib_reads {p0 p1 : Int32} {τ : ST} {q : Int32 × ST} (hI : IB τ) (c : CH AC AI τ q.2) (h : RA q) : IB q.2 := by
  obtain ⟨i1, i2, i3, i4, i5, i6, i7, i8, i9, i10⟩ := hI
  obtain ⟨r1, r2, r3, _⟩ := h
  have e0 : ∀ i, i ∉ AI → q.2.1 0 i = τ.1 0 i := c.2.1
  have ec : ∀ d, d ≠ 0 → d ∉ AC → q.2.1 d = τ.1 d := c.1
  refine ⟨r1, r2, ?_, ?_, ?_, r3, ?_, ?_, ?_, ?_⟩
  · rw [ec 32 (by decide) (by decide), e0 32 (by decide)]
    exact i3
  · rw [ec 33 (by decide) (by decide)]
    exact i4
  · rw [ec 38 (by decide) (by decide)]
    exact i5
  · rw [e0 73 (by decide)]
    exact i7
  · rw [e0 83 (by decide)]
    exact i8
  · rw [e0 92 (by decide)]
    exact i9
  · unfold TH at i10 ⊢
    rw [ec 45 (by decide) (by decide)]
    exact i10
/-- one run of the trial's, and what stays -/
theorem ab_trial {t : Nat} {σ u : ST} (ht : t = 62 ∨ t = 74) (hZ : MZ u σ) (hX : EHX σ) (hM : MSG σ u) (hcap : 400 ≤ (σ.1 t 0).toInt) (p0 p1 : Int32) {m q : Nat} (h0 : p0.toInt = m) (hm : m < 4) (hw : ¬ (σ.1 40 m).toInt = -1) (h1 : p1.toInt = q) (hq : (q : Int) < (u.1 0 32).toInt) : QT (f_X4_run 92 t p0 p1 σ) (fun qa => QT (f_X11_readsAll p0 p1 u) (fun qb => RDN 92 t q σ u qa qb ∧ (MZ qb.2 qa.2 ∧ EHX qa.2 ∧ MSG qa.2 qb.2 ∧ qa.2.1 40 = σ.1 40) ∧ qb.2.1 0 32 = u.1 0 32 ∧ qb.2.2.1 54 = u.2.1 54)) := by
  have hIB := hZ.2.1.2.2
  have lm := li_m1
  have nm : p0.toNatClampNeg = m := nC h0
  have b32 := hIB.1.1
  unfold bI at b32
  have hw9 : ¬ σ.1 40 m = -1 := fun h => hw (by rw [h]; exact lm)
  obtain ⟨hm1, _⟩ := hM m hm
  have hMP := hZ.2.2 m hm
  have hrun := ab_run (b := 92) (t := t) (.inr ⟨rfl, ht⟩) hZ hX hM hcap p0 p1 h0 hm hw h1 hq
  have hmz : QT (f_X4_run 92 t p0 p1 σ) (fun q => MZ u q.2 ∧ KTA σ q.2 ∧ q.2.1 40 = σ.1 40) := fun q e => mz_run hZ 92 t (by omega) (by omega) p0 p1 (by omega) (by rw [nm]; exact hw9) (by omega) q e
  have hrd := QT.ok (b_readsAll p0 p1 u hIB.1 hIB.2.1 hIB.2.2.2.2.2.1 hIB.2.2.2.1 (by omega) (by rw [nm, ← hm1]; omega) (by omega))
  intro qa ea qb eb
  have r := hrun qa ea qb eb
  obtain ⟨z1, z2, z3⟩ := hmz qa ea
  obtain ⟨c1, c2⟩ := hrd qb eb
  have hib : IB qb.2 := ib_reads (p0 := p0) (p1 := p1) hIB c1 c2
  have kb : KTB u qb.2 := w_X11_readsAll (s := u) KTB.rf qb eb
  have k5 : K54 u qb.2 := wo4_X11_readsAll (s := u) K54.rf qb eb
  have e32 : qb.2.1 0 32 = u.1 0 32 := c1.2.1 32 (by decide)
  obtain ⟨⟨kN, kM⟩, _⟩ := id r
  refine ⟨r, ⟨z1.yok ⟨kb.kr, e32, hib⟩, EHB.at hX z2, hM.eq (kN.1 38 (by omega) (by omega)) (kN.1 39 (by omega) (by omega)) (kN.1 40 (by omega) (by omega)) ?_ ?_ ?_, z3⟩, e32, k5⟩
  · exact kM.1 32 (by omega) (by omega) (by omega) (by omega) (by omega) (by omega) (by omega) (by omega)
  · exact kM.1 33 (by omega) (by omega) (by omega) (by omega) (by omega) (by omega) (by omega) (by omega)
  · exact kM.1 34 (by omega) (by omega) (by omega) (by omega) (by omega) (by omega) (by omega) (by omega)
theorem ab_alike (p0 p1 p2 : Int32) {σ τ : ST} (hZ : MZ τ σ) (hX : EHY σ) (hM : MSG σ τ) (h62 : 400 ≤ (σ.1 62 0).toInt) (h74 : 400 ≤ (σ.1 74 0).toInt) (hc : σ.1 4 0 = τ.1 0 32) : QT (f_X10_alike p0 p1 p2 σ) (fun qa => QT (f_X11_alike p0 p1 p2 τ) (fun qb => qa.1 = qb.1)) := by
  have l0 := li_0
  have l1 := li_1
  have lm := li_m1
  have hpl := hZ.2.1.2.2.1.1
  have hM0 : MSG σ (stI τ 0 0 0) := hM.eq rfl rfl rfl (stI_ne (by omega)) (stI_ne (by omega)) (stI_ne (by omega))
  have hZ0 : MZ (stI τ 0 0 0) σ := hZ.yok (YOK.st0 hZ.2.1.2.2 0)
  have g32 : (stI τ 0 0 0).1 0 32 = τ.1 0 32 := rfl
  unfold f_X10_alike f_X11_alike
  generalize stI τ 0 0 0 = u at hM0 hZ0 g32
  refine QT.bnd2 (ab_isWritten hM0 hZ0 rfl p0) (fun x y hxy => ?_)
  obtain ⟨xv, xs⟩ := x
  obtain ⟨yv, ys⟩ := y
  obtain ⟨⟨e1, e2, e3⟩, hx⟩ := hxy
  have e1 : xs = σ := e1
  have e2 : ys = u := e2
  have e3 : xv = yv := e3
  have hx : xv = 0 ∨ xv = 1 ∧ (0 ≤ p0.toInt ∧ p0.toInt < 4) ∧ ¬ σ.1 40 p0.toNatClampNeg = -1 := hx
  rw [e1, e2, ← e3]
  dsimp only
  by_cases x0 : xv = 0
  · rw [if_pos x0, if_pos x0]
    exact QT.ret (QT.ret rfl)
  rw [if_neg x0, if_neg x0]
  obtain ⟨_, hp0, hw0⟩ := hx.resolve_left x0
  refine QT.bnd2 (ab_isWritten hM0 hZ0 rfl p1) (fun x y hxy => ?_)
  obtain ⟨fv, fs⟩ := x
  obtain ⟨gv, gs⟩ := y
  obtain ⟨⟨f1, f2, f3⟩, hf⟩ := hxy
  have f1 : fs = σ := f1
  have f2 : gs = u := f2
  have f3 : fv = gv := f3
  have hf : fv = 0 ∨ fv = 1 ∧ (0 ≤ p1.toInt ∧ p1.toInt < 4) ∧ ¬ σ.1 40 p1.toNatClampNeg = -1 := hf
  rw [f1, f2, ← f3]
  dsimp only
  by_cases f0 : fv = 0
  · rw [if_pos f0, if_pos f0]
    exact QT.ret (QT.ret rfl)
  rw [if_neg f0, if_neg f0]
  obtain ⟨_, hp1, hw1⟩ := hf.resolve_left f0
  refine QT.bnd2 (ab_isPlan (by rw [hc, g32]) (by rw [g32]; exact hpl) p2) (fun x y hxy => ?_)
  obtain ⟨av, as⟩ := x
  obtain ⟨bv, bs⟩ := y
  obtain ⟨⟨a1, a2, a3⟩, ha⟩ := hxy
  have a1 : as = σ := a1
  have a2 : bs = u := a2
  have a3 : av = bv := a3
  have ha : av = 0 ∨ av = 1 ∧ 0 ≤ p2.toInt ∧ p2.toInt < (u.1 0 32).toInt := ha
  rw [a1, a2, ← a3]
  dsimp only
  by_cases a0 : av = 0
  · rw [if_pos a0, if_pos a0]
    exact QT.ret (QT.ret rfl)
  rw [if_neg a0, if_neg a0]
  obtain ⟨_, hp2, hp2'⟩ := ha.resolve_left a0
  obtain ⟨m, hm⟩ : ∃ m : Nat, p0.toInt = m := ⟨p0.toInt.toNat, by omega⟩
  obtain ⟨k, hk⟩ : ∃ k : Nat, p1.toInt = k := ⟨p1.toInt.toNat, by omega⟩
  obtain ⟨q, hq⟩ : ∃ q : Nat, p2.toInt = q := ⟨p2.toInt.toNat, by omega⟩
  have nm : p0.toNatClampNeg = m := nC hm
  have nk : p1.toNatClampNeg = k := nC hk
  rw [nm] at hw0
  rw [nk] at hw1
  have hw0' : ¬ (σ.1 40 m).toInt = -1 := fun h => hw0 (Int32.toInt_inj.mp (h.trans lm.symm))
  have hw1' : ¬ (σ.1 40 k).toInt = -1 := fun h => hw1 (Int32.toInt_inj.mp (h.trans lm.symm))
  unfold bI at hpl
  have hX' : EHX σ := hX.resolve_left (by rw [hc]; rw [g32] at hp2'; omega)
  refine QT.bnd2 (ab_trial (.inl rfl) hZ0 hX' hM0 h62 p0 p2 hm (by omega) hw0' hq (by omega)) (fun x y hxy => ?_)
  obtain ⟨hR1, ⟨hZ1, hX1, hM1, h40⟩, g1, gL1⟩ := hxy
  obtain ⟨⟨kN1, kM1⟩, hR1⟩ := hR1
  rcases hR1 with ⟨r1, r2, _⟩ | hR1
  · have r2' : (y.1).toInt = -2 ∨ (y.1).toInt = -3 := by rw [← r1]; exact r2
    refine QT.ile (fun h => by omega) (fun _ => QT.ret ?_)
    exact QT.ile (fun h => by omega) (fun _ => QT.ret r1)
  have hy1 : y.1 = 0 := hR1.1
  have c62 : 400 ≤ (x.2.1 62 0).toInt := by rw [kN1.2.1 0 (by omega)]; exact h62
  have c74 : 400 ≤ (x.2.1 74 0).toInt := by rw [kN1.1 74 (by omega) (by omega)]; exact h74
  have hx1 : 0 ≤ x.1.toInt := by
    obtain ⟨_, S, T, s, e, _, _, _, _, ⟨_, _, _, h9⟩, _⟩ := id hR1
    omega
  refine QT.ile (fun _ => ?_) (fun h => by omega)
  refine QT.sw ?_
  refine QT.ile (fun _ => ?_) (fun h => by rw [hy1] at h; omega)
  refine QT.bnd (Q := fun w => (∃ (LL : Nat → Nat × Nat × Int) (s : ST) (e : Nat), ORD2 62 e LL s x.2 (stI y.2 0 88 0) w ∧ x.1.toInt = e) ∧ KTB (stI y.2 0 88 0) w ∧ K54 (stI y.2 0 88 0) w) (fun w ew => ⟨ord2_mk hR1 c62 w ew, w_T_X11_orders KTB.rf w ew, wo4_T_X11_orders K54.rf w ew⟩) (fun w hw => ?_)
  obtain ⟨⟨L1, s1, e, hO1, he1⟩, kTw, k5w⟩ := hw
  obtain ⟨⟨he, he4⟩, _, _, _, _, kO, o88, _⟩ := id hO1
  have kb0 : KTB y.2 (stI y.2 0 88 0) := KTB.rf.i0
  -- the first tree's numbers are kept
  refine q_alike66 (m := e) p1 p2 (w.1 0 88) o88 he4 w (fun v v1 v2 v3 => ?_) FU 0 0 w l0 (by omega) (fun _ _ => rfl) rfl (fun i hi => by omega)
  refine q_alike98 (m := e) p1 p2 (w.1 0 88) o88 he4 v (fun v' v1' v2' v3' => ?_) FU 0 0 v l0 (by omega) rfl (fun _ _ => rfl) (fun i hi => by omega)
  -- what of the reference stayed
  have vc : ∀ c, c ≠ 0 → c ≠ 50 → c ≠ 51 → c ≠ 53 → v'.1 c = y.2.1 c := fun c a b d e => by
    rw [v1', v1 c e, kO.1 c a b d, stI_ne a]
  have v0 : ∀ i, i ≠ 88 → v'.1 0 i = y.2.1 0 i := fun i hi => by
    rw [v1', v1 0 (by omega), kO.2.1 i hi, stI_at, upN hi]
  have vL : ∀ c, c ≠ 52 → c ≠ 54 → v'.2.1 c = y.2.2.1 c := fun c a b => by
    rw [v2' c b, v2, kO.2.2.1 c a]
    rfl
  have hCH : CH [50, 51, 53] [88] y.2 v' := by
    refine ⟨fun c c0 hc => ?_, fun i hi => ?_, vL 9 (by omega) (by omega), vL 12 (by omega) (by omega), vL 14 (by omega) (by omega), vL 17 (by omega) (by omega), vL 18 (by omega) (by omega)⟩
    · simp only [List.mem_cons, List.not_mem_nil, or_false, not_or] at hc
      exact vc c c0 (by omega) (by omega) (by omega)
    · simp only [List.mem_cons, List.not_mem_nil, or_false] at hi
      exact v0 i hi
  have hIv : IB v' := hZ1.2.1.2.2.ch hCH (by decide) (by decide)
  have g1v : v'.1 0 32 = y.2.1 0 32 := v0 32 (by omega)
  have hZv : MZ v' x.2 := hZ1.yok ⟨hCH.kr (by decide), g1v, hIv⟩
  have hMv : MSG x.2 v' := hM1.eq rfl rfl rfl (vc 32 (by omega) (by omega) (by omega) (by omega)) (vc 33 (by omega) (by omega) (by omega) (by omega)) (vc 34 (by omega) (by omega) (by omega) (by omega))
  refine QT.sw ?_
  refine QT.bnd2 (ab_trial (.inr rfl) hZv hX1 hMv c74 p1 p2 hk (by omega) (by rw [h40]; exact hw1') hq (by rw [g1v, g1]; omega)) (fun x2 y2 hxy => ?_)
  obtain ⟨hR2, _, _, gL2⟩ := hxy
  obtain ⟨⟨kN2, kM2⟩, hR2⟩ := hR2
  rcases hR2 with ⟨r1, r2, _⟩ | hR2
  · have r2' : (y2.1).toInt = -2 ∨ (y2.1).toInt = -3 := by rw [← r1]; exact r2
    refine QT.ile (fun h => by omega) (fun _ => QT.ret ?_)
    exact QT.ile (fun h => by omega) (fun _ => QT.ret r1)
  have hy2 : y2.1 = 0 := hR2.1
  have d74 : 400 ≤ (x2.2.1 74 0).toInt := by rw [kN2.2.1 0 (by omega)]; exact c74
  have hx2 : 0 ≤ x2.1.toInt := by
    obtain ⟨_, S, T, s, e, _, _, _, _, ⟨_, _, _, h9⟩, _⟩ := id hR2
    omega
  refine QT.ile (fun _ => ?_) (fun h => by omega)
  refine QT.sw ?_
  refine QT.ile (fun _ => ?_) (fun h => by rw [hy2] at h; omega)
  refine QT.bnd (Q := fun w2 => (∃ (LL : Nat → Nat × Nat × Int) (s : ST) (e : Nat), ORD2 74 e LL s x2.2 (stI y2.2 0 88 0) w2 ∧ x2.1.toInt = e) ∧ K54 (stI y2.2 0 88 0) w2) (fun w2 ew => ⟨ord2_mk hR2 d74 w2 ew, wo4_T_X11_orders K54.rf w2 ew⟩) (fun w2 hw2 => ?_)
  obtain ⟨⟨L2, s2, e2, hO2, he2⟩, k5w2⟩ := hw2
  obtain ⟨⟨hee, hee4⟩, _, _, _, ⟨ko2, sz2, or2⟩, kO2, o882, _⟩ := id hO2
  obtain ⟨_, _, _, _, ⟨ko1, sz1, or1⟩, _⟩ := id hO1
  have cA : ∀ c, 62 ≤ c → c ≤ 73 → x2.2.1 c = x.2.1 c := fun c a b => kN2.1 c (by omega) (by omega)
  have cL : x2.2.2.1 68 = x.2.2.1 68 := kN2.2.2.1 68 (by omega) (by omega) (by omega)
  have z1 : (x2.2.1 62 1).toInt = e := by
    rw [cA 62 (by omega) (by omega), ko1.1 62 (by omega) (by omega)]
    exact sz1
  have z2 : (x2.2.1 74 1).toInt = e2 := by
    rw [ko2.1 74 (by omega) (by omega)]
    exact sz2
  have w53 : ∀ j, j < 4 * e → w2.1 53 j = w.1 51 j := fun j hj => by
    have h1 : w2.1 53 = y2.2.1 53 := (kO2.1 53 (by omega) (by omega) (by omega)).trans (stI_ne (by omega))
    have h2 : y2.2.1 53 = v'.1 53 := kM2.1 53 (by omega) (by omega) (by omega) (by omega) (by omega) (by omega) (by omega) (by omega)
    rw [h1, h2, v1']
    exact v3 j hj
  have w54 : ∀ j, j < 2 * e → w2.2.1 54 j = w.2.1 52 j := fun j hj => by
    have h1 : w2.2.1 54 = y2.2.2.1 54 := k5w2
    rw [h1, gL2, v3' j hj, v2]
  unfold f_X7_isLike f_X11_alike_167
  by_cases hee2 : e = e2
  · subst hee2
    have hz : x2.2.1 62 1 = x2.2.1 74 1 := Int32.toInt_inj.mp (z1.trans z2.symm)
    have h88 : w2.1 0 88 = w.1 0 88 := Int32.toInt_inj.mp (o882.trans o88.symm)
    rw [if_pos hz, if_pos h88]
    have hL := like_iff (fA := x2.2) (fB := w2) hO1 hO2 ⟨cA, cL⟩ ⟨fun c a b => rfl, rfl⟩ ⟨w53, w54, rfl, rfl⟩
    refine (q_like172 (w.1 0 88) o88 he4 w2 FU 0 1 0 l0 (by omega) (.inr rfl) (fun j hj => by omega) (fun h => absurd h one_ne)).mono (fun z hz3 => ?_)
    have w1' : ORW 62 e x2.2 (fun i => (L1 i).1) := by
      refine ⟨⟨z1, ?_⟩, fun i hi => ⟨(or1 i hi).1, ?_⟩⟩
      · rw [cA 62 (by omega) (by omega)]
        omega
      · show (x2.2.1 72 i).toInt = _
        rw [cA 72 (by omega) (by omega)]
        exact (or1 i hi).2
    have w2' : ORW 74 e x2.2 (fun i => (L2 i).1) := ⟨⟨z2, by omega⟩, fun i hi => or2 i hi⟩
    refine QT.bnd (a_isLike (n := e) (by omega) w1' w2' FU 0 0 l0 (by omega) (fun j hj => by omega)) (fun q9 hq9 => ?_)
    obtain ⟨_, hz3⟩ := hz3
    obtain ⟨_, hq9⟩ := hq9
    rcases hq9 with ⟨q1, q2⟩ | ⟨q1, q2⟩
    · refine QT.ite (fun h => by rw [q1] at h; exact absurd h one_ne) (fun _ => QT.ret ?_)
      rcases hz3 with ⟨z3, _⟩ | ⟨_, z4⟩
      · exact z3.symm
      · exact absurd (hL.mp q2) z4
    · refine QT.ite (fun _ => QT.ret ?_) (fun h => absurd q1 h)
      rcases hz3 with ⟨_, z4⟩ | ⟨z3, _⟩
      · exact absurd (hL.mpr z4) q2
      · exact z3.symm
  · have hz : ¬ x2.2.1 62 1 = x2.2.1 74 1 := fun h => hee2 (by
      have : (x2.2.1 62 1).toInt = (x2.2.1 74 1).toInt := by rw [h]
      omega)
    have h88 : ¬ w2.1 0 88 = w.1 0 88 := fun h => hee2 (by
      have : (w2.1 0 88).toInt = (w.1 0 88).toInt := by rw [h]
      omega)
    rw [if_neg hz, if_neg h88]
    refine (q_172z FU 0).mono (fun z hz3 => ?_)
    rw [sbnd]
    dsimp only
    exact QT.ite (fun _ => QT.ret hz3.symm) (fun h => absurd rfl h)
theorem inv9_alike (n : Nat) (σ τ : ST) (κ : Nat) (h : Inv9 n σ τ κ) (hn : n < 512) (j : Nat) (pr : Nat → Int32) (hj : j < 32) : ∃ (qa : Int32 × ST) (qb : (Int32 × ST) × Nat), fA j pr σ = some qa ∧ fB j pr τ = some qb ∧ (j = 20 → qa.1 = qb.1.1) ∧ Inv9 (n + 1) qa.2 qb.1.2 (κ + qb.2) := by
  obtain ⟨qa, qb, ea, eb, e1⟩ := inv9_call n σ τ κ h hn j pr
  refine ⟨qa, qb, ea, eb, fun h3 => ?_, e1⟩
  subst h3
  have eb : ((f_X11_alike (pr 1) (pr 2) (pr 3) τ).bind fun q => some ((q.1, q.2), 0)) = some qb := eb
  obtain ⟨x, ex, e2⟩ := bnd_some eb
  cases e2
  have hIA := h.1.1.1.2.1
  have t62 : (σ.1 62 0).toInt = 502 := hIA.t62.1
  have t74 : (σ.1 74 0).toInt = 400 := hIA.t74.1
  exact ab_alike (pr 1) (pr 2) (pr 3) h.1.1.2 h.1.2.1 h.1.2.2.1 (by omega) (by omega) h.1.1.1.2.2.2.2.1 qa ea x ex
