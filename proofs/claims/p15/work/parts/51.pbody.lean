/-! a type is read: both read the same one -/
def BRP (P t : Nat) (lev x4 xB : Int32) (σ τ : ST) (qa : Int32 × ST) (qb : (Int32 × ST) × Nat) : Prop := FG t τ qb.1.2 ∧ ((qa.1.toInt = 0 ∧ qb.1.1.toInt = 0 ∧ qb.2 + 40 * uT qb.1.2 ≤ 40 * uT τ + 23) ∨ (qa.1.toInt = 1 ∧ qb.1.1.toInt = 1 ∧ TS P t (4 - lev.toInt).toNat 8 σ τ x4 qa.2 xB qb.1.2 ∧ qb.2 + 40 * uT qb.1.2 ≤ 40 * uT τ))
def cBR (N : Nat) (rA : Int32 → Int32 → ST → Option (Int32 × ST)) (rB : Int32 → Int32 → ST → Option ((Int32 × ST) × Nat)) : Prop := ∀ (P t : Nat) (lev x4 xB : Int32) (σ τ : ST), PRE P (t + 1) σ τ → 400 ≤ t → (0 ≤ lev.toInt ∧ lev.toInt ≤ 3) → x4.toInt = (t : Int) + P - 400 → xB.toInt = t → (τ.1 2 t).toInt = 8 → σ.1 31 (t + P - 400) = τ.1 2 t → σ.2.1 34 (t + P - 400) = 0 → (σ.1 33 (t + P - 400)).toInt = -1 → (τ.1 4 t).toInt = 0 → 2 * (5 - lev.toInt) ≤ (N : Int) + 1 → OK (rA x4 lev σ) (fun qa => OK (rB xB lev τ) (BRP P t lev x4 xB σ τ qa))
theorem TS.tr {P t0 d : Nat} {s : Int} {σ τ a' b' : ST} {va vb : Int32} {a b : ST} (h : TS P t0 d s a' b' va a vb b) (hF : FA (t0 + P - 400) σ a') (hL : (∀ c, c ∉ [0, 6] → b'.2.1 c = τ.2.1 c) ∧ ∀ j, j < t0 → b'.2.1 6 j = τ.2.1 6 j) : TS P t0 d s σ τ va a vb b := by
  obtain ⟨t1, h1, h2, h3, h4, h5⟩ := h
  exact ⟨t1, h1, hF.trans h2 (Nat.le_refl _), h3, ⟨fun c hc => (h4.1 c hc).trans (hL.1 c hc), fun j hj => (h4.2 j hj).trans (hL.2 j hj)⟩, h5⟩
theorem a_setInner0 (p0 p1 : Int32) (σ : ST) (h : 0 ≤ p0.toInt ∧ p0.toInt < 262) : OK (f_X5_setInner 20 p0 p1 σ) (fun _ => True) := by
  unfold f_X5_setInner f_X5_isType
  have z : ∀ v : Int32, OK ((some (v, σ)).bind fun q1 => if q1.1 = 0 then some q1.2 else if 0 ≤ p0.toInt ∧ p0.toInt < 262 then some (stI q1.2 (20 + 12) p0.toNatClampNeg p1) else none) (fun _ => True) := fun v => OK.ieq (fun _ => OK.ret trivial) (fun _ => OK.grd h (OK.ret trivial))
  by_cases h1 : p0 < 0
  · rw [if_pos h1]; exact z 0
  · rw [if_neg h1]
    by_cases h2 : σ.1 20 1 ≤ p0
    · rw [if_pos h2]; exact z 0
    · rw [if_neg h2]
      by_cases h3 : (262 : Int32) ≤ p0
      · rw [if_pos h3]; exact z 0
      · rw [if_neg h3]; exact z 1
theorem a_setInner (p0 p1 : Int32) (σ : ST) (c : Nat) (h : p0.toInt = c) (hc : c < 262) (hn : (c : Int) < (σ.1 20 1).toInt) : f_X5_setInner 20 p0 p1 σ = some (stI σ 32 c p1) := by
  unfold f_X5_setInner
  obtain ⟨⟨v, s⟩, e, e2, hv⟩ := a_isType p0 σ c h hc hn
  have e2 : s = σ := e2
  subst e2
  have hv : v.toInt = 1 := hv
  have l0 := li_0
  have nc : p0.toNatClampNeg = c := nC h
  rw [e]
  show (if v = 0 then some s else if 0 ≤ p0.toInt ∧ p0.toInt < 262 then some (stI s (20 + 12) p0.toNatClampNeg p1) else none) = _
  rw [if_neg (fun e9 => by rw [e9] at hv; omega), if_pos ⟨by omega, by omega⟩, nc]
theorem uT_eq {τ b : ST} (h3 : b.1 0 3 = τ.1 0 3) (h5 : b.1 0 5 = τ.1 0 5) (h6 : b.1 0 6 = τ.1 0 6) : uT b = uT τ := by
  unfold uT
  rw [h3, h5, h6]
theorem ab_type_top {N : Nat} {rbA rtA : Int32 → Int32 → ST → Option (Int32 × ST)} {rbB rtB : Int32 → Int32 → ST → Option ((Int32 × ST) × Nat)} (hb : cBR N rbA rbB) (ht : cTY N rtA rtB) : cTY (N + 1) (f_X3_parseType rbA rtA) (f_X11_type rbB rtB) := by
  intro P t0 w lev pA pB σ τ hpre hlev hp hM hN
  obtain ⟨hP, ⟨ht0, hcB, hcA⟩, hLX, hb4, hb2⟩ := hpre
  have htx := hLX.tx
  have hK := hLX.2.2.1
  have hn2 := hLX.2.1
  obtain ⟨s0, hs0, hTB⟩ := hLX.tb
  have cI : ((t0 + P - 400 : Nat) : Int) = (t0 : Int) + P - 400 := by omega
  have lm := li_m1
  have l0 := li_0
  have l1 := li_1
  have l6 := li_6
  have l8 := li_8
  have rng := sv_rng hK
  -- where the token lies
  have wd : 0 ≤ SV σ → (τ.1 0 6).toInt = 1 ∧ σ.1 2 3 = τ.1 0 5 ∧ WL (σ.2.1 2 7) (τ.2.1 0 7) ∧ (τ.1 0 4).toInt < 1000 ∧ (τ.1 0 4).toInt + 1 ≤ (τ.1 0 5).toInt ∧ uT τ = ((τ.1 0 3).toInt - (τ.1 0 5).toInt).toNat + 1 := fun h => by
    obtain ⟨a1, a2, a3⟩ := hK.wd h
    obtain ⟨hL, m, hR, h5, hm, _⟩ := hTB.word a1
    have hlt := (bt_rng (T := τ.1 1) (n := (τ.1 0 3).toInt) (k := s0)).2.2.mp (by unfold isL at hL; omega)
    have n2 := hn2.2
    refine ⟨a1, a2, a3, by omega, by omega, ?_⟩
    unfold uT
    rw [if_neg (by omega)]
  have t250 : 0 ≤ SV σ → t0 ≤ 650 := fun h => by
    obtain ⟨a1, _, _, a4, _, _⟩ := wd h
    have := hb2 a1
    omega
  have t800 : t0 ≤ 800 := by
    obtain ⟨_, ⟨p1, p2⟩, _, _⟩ := htx
    have n2 := hn2.2
    have h4 : (τ.1 0 4).toInt ≤ 1003 := by
      by_cases e0 : (τ.1 0 6).toInt = 0
      · obtain ⟨_, hc⟩ := hTB
        obtain ⟨_, _, _, pp, ss, hpp, hss, hTT⟩ := hLX
        have := (hTT.left hn2 hpp hss).2.2.1 e0
        have e4 := hTT.1
        rcases hTT.2 with h | h | h | h | h
        · omega
        · have := h.1; obtain ⟨_, _, m, hR, h5, _, _, h6⟩ := h; omega
        · rcases h.2 with ⟨_, m, hm⟩ | ⟨_, m, hm⟩
          · have := hm.2.2.2; omega
          · have := hm.2.2.2; omega
        · obtain ⟨_, _, m, _, _, _, h6⟩ := h; omega
        · omega
      · obtain ⟨_, _, _, pp, ss, hpp, hss, hTT⟩ := hLX
        have e4 := hTT.1
        rcases hTT.2 with h | h | h | h | h
        · omega
        · have hL := h.1
          have hlt := (bt_rng (T := τ.1 1) (n := (τ.1 0 3).toInt) (k := ss)).2.2.mp (by unfold isL at hL; omega)
          clear h; omega
        · have hD := h.1
          have hlt := (bt_rng (T := τ.1 1) (n := (τ.1 0 3).toInt) (k := ss)).2.2.mp (by unfold isD at hD; omega)
          clear h; omega
        · have h34 := h.1
          have hlt := (bt_rng (T := τ.1 1) (n := (τ.1 0 3).toInt) (k := ss)).2.2.mp (by omega)
          clear h; omega
        · have h9 := h.1.1
          have hlt := (bt_rng (T := τ.1 1) (n := (τ.1 0 3).toInt) (k := ss)).2.2.mp h9
          clear h; omega
    omega
  refine a_typeHead lev pA σ τ w (t0 + P - 400) hK hM.1 hp (by omega) (fun g => by have := t250 g.1; omega) _ (fun g y x4 a hy hx4 hA => ?_) (fun hbad qa hqa => ?_)
  rotate_left
  · refine b_typeHead lev pB σ τ w t0 hK hM t800 _ (fun g => absurd g hbad) (fun _ q cq hq1 hx => ⟨cq.fg (by decide), .inl ⟨hqa, hq1, ?_⟩⟩)
    rw [uT_eq (cq.2.1 3 (by decide)) (cq.2.1 5 (by decide)) (cq.2.1 6 (by decide))]
    omega
  refine OK.sw ?_
  refine b_typeHead lev pB σ τ w t0 hK hM t800 _ (fun _ yB x hyB hx => ?_) (fun hbad => absurd g hbad)
  have ey : yB = y := Int32.toInt_inj.mp (by omega)
  subst ey
  obtain ⟨w1, w2, w3, w4, w5, w6⟩ := wd g.1
  have t250 := t250 g.1
  have hb2 := hb2 w1
  unfold f_X11_type_78 f_X11_type_213
  have nt : (τ.1 0 34).toNatClampNeg = t0 := nC hcB
  rw [nt]
  have e34 := il_addE (x := τ.1 0 34) (y := 1) (by omega) (by omega)
  refine OK.ile (fun _ => ?_) (fun h => by omega)
  refine OK.grd ⟨by omega, by omega⟩ ?_
  refine OK.lt (fun z2 h2 => ?_)
  refine OK.lt (fun z3 h3 => ?_)
  -- the reference's row, just laid
  have hz : ∀ z : ST, z = stI z3 3 t0 (-1) → FG t0 τ z ∧ z.1 1 = τ.1 1 ∧ (∀ i, i ≠ 34 → z.1 0 i = τ.1 0 i) ∧ (z.1 0 34).toInt = (t0 : Int) + 1 ∧ z.1 2 t0 = yB ∧ (z.1 4 t0).toInt = 0 ∧ z.2.1 6 t0 = τ.2.1 0 7 ∧ (∀ c, c ≠ 6 → z.2.1 c = τ.2.1 c) ∧ (∀ j, j < t0 → z.2.1 6 j = τ.2.1 6 j) := by
    intro z hz
    subst h2
    subst h3
    subst hz
    refine ⟨⟨?_, ?_, ?_, ?_, ⟨rfl, rfl, rfl, rfl, rfl⟩⟩, rfl, ?_, ?_, ?_, ?_, ?_, ?_, ?_⟩
    · intro d hd
      simp only [List.mem_cons, List.not_mem_nil, or_false, not_or] at hd
      rw [stI_ne hd.2.2.1, stI_ne hd.2.2.2.2.2]
      show (stI (stI (stI τ 0 34 (τ.1 0 34 + 1)) 2 t0 yB) 4 t0 0).1 d = _
      rw [stI_ne hd.2.2.2.1, stI_ne hd.2.1, stI_ne hd.1]
    · intro i hi
      show upd (τ.1 0) 34 _ i = _
      rw [upd_no (fun e => hi (by rw [e]; decide))]
    · intro j hj
      refine ⟨?_, ?_, ?_⟩
      · show upd (τ.1 2) t0 yB j = _
        rw [upd_no (by omega)]
      · show upd (τ.1 3) t0 (-1) j = _
        rw [upd_no (by omega)]
      · show upd (τ.1 4) t0 0 j = _
        rw [upd_no (by omega)]
    · intro j hj
      rfl
    · intro i hi
      show upd (τ.1 0) 34 _ i = _
      rw [upd_no hi]
    · show (upd (τ.1 0) 34 (τ.1 0 34 + 1) 34).toInt = _
      rw [upd_at]
      omega
    · show upd (τ.1 2) t0 yB t0 = _
      rw [upd_at]
    · show (upd (τ.1 4) t0 0 t0).toInt = _
      rw [upd_at]
      exact l0
    · show vp_updL (τ.2.1 6) t0 (τ.2.1 0 7) t0 = _
      rw [updL_at]
    · intro c hc
      show (stL (stI (stI (stI τ 0 34 (τ.1 0 34 + 1)) 2 t0 yB) 4 t0 0) 6 t0 _).2.1 c = _
      rw [stL_ne hc]
      rfl
    · intro j hj
      show vp_updL (τ.2.1 6) t0 (τ.2.1 0 7) j = _
      rw [updL_no (by omega)]
  obtain ⟨zF, z1, z0, z34, zS, zM, zN, zL, zN2⟩ := hz _ rfl
  generalize stI z3 3 t0 (-1) = z at zF z1 z0 z34 zS zM zN zL zN2 ⊢
  obtain ⟨aF, a2, aL2, aS, a20, aN7, aN0, a33⟩ := hA
  have hLz : LX a z := hLX.ext (aF.1 1 (by decide)) a2 (aF.2.2.1 3 (by decide)) aL2 z1 (fun i hi => z0 i (fun e => by rw [e] at hi; exact absurd hi (by decide))) (zL 0 (by decide))
  have hg : a.1 2 3 = z.1 0 5 := by rw [a2, z0 5 (by decide)]; exact w2
  refine OK.sw ?_
  unfold f_X3_parseType_116
  refine OK.bnd2 (ab_go a z hLz hg) (fun a' b' hq => ?_)
  obtain ⟨ca, cb, cL, hLX', hat, hadj, hu⟩ := hq
  rw [z0 5 (by decide), z0 3 (by decide)] at hu
  rw [z0 5 (by decide)] at hat hadj
  rw [z0 6 (by decide)] at hadj
  -- both rows, after the token
  have F' : FA (t0 + P - 400) σ a' := aF.trans ca.fa (Nat.le_refl _)
  have G' : FG t0 τ b' := zF.trans (cb.fg (by decide)) (Nat.le_refl _)
  have a31 : (a'.1 31 (t0 + P - 400)).toInt = SV σ := by rw [ca.1 31 (by decide)]; exact aS
  have a20' : (a'.1 20 1).toInt = ((t0 + 1 : Nat) : Int) + P - 400 := by rw [ca.1 20 (by decide)]; omega
  have a34 : ∀ i, a'.2.1 34 i = a.2.1 34 i := fun i => by rw [ca.2.2.1 34 (by decide)]
  have a33' : (a'.1 33 (t0 + P - 400)).toInt = -1 := by rw [ca.1 33 (by decide)]; exact a33
  have b2 : b'.1 2 t0 = yB := by rw [cb.1 2 (by decide) (by decide)]; exact zS
  have b4 : (b'.1 4 t0).toInt = 0 := by rw [cb.1 4 (by decide) (by decide)]; exact zM
  have b34 : (b'.1 0 34).toInt = ((t0 + 1 : Nat) : Int) := by rw [cb.2.1 34 (by decide)]; omega
  have b6 : ∀ j, b'.2.1 6 j = z.2.1 6 j := fun j => by rw [cL 6 (by decide)]
  have bL : (∀ c, c ∉ [0, 6] → b'.2.1 c = τ.2.1 c) ∧ ∀ j, j < t0 → b'.2.1 6 j = τ.2.1 6 j := ⟨fun c hc => by
    simp only [List.mem_cons, List.not_mem_nil, or_false, not_or] at hc
    rw [cL c hc.1, zL c hc.2], fun j hj => by rw [b6, zN2 j hj]⟩
  have eSb : a'.1 31 (t0 + P - 400) = b'.1 2 t0 := Int32.toInt_inj.mp (by rw [a31, b2]; omega)
  have len : ∀ k : Nat, k < 15 → τ.2.1 0 7 = kwV k → (τ.1 0 5).toInt = (τ.1 0 4).toInt + (kwM k : Int) := fun k hk h7 => hTB.len w1 hk h7
  by_cases h8 : SV σ = 8
  · -- branches
    obtain ⟨k, hk, h7⟩ := sv_word hK (.inr h8)
    have ek : k = 5 := by omega
    have e6 : (kwM 5 : Int) = 6 := by decide
    have hlen := len k (by omega) h7
    rw [ek, e6] at hlen
    refine OK.ieq (fun _ => ?_) (fun h => by omega)
    refine OK.sw ?_
    refine OK.ieq (fun h => by omega) (fun _ => ?_)
    refine OK.ieq (fun _ => ?_) (fun h => by omega)
    refine OK.sw ?_
    have pre' : PRE P (t0 + 1) a' b' := ⟨hP, ⟨by omega, b34, a20'⟩, hLX', by omega, fun h9 => by have := hadj w1 h9; omega⟩
    refine OK.bnd2 (hb P t0 lev x4 (τ.1 0 34) a' b' pre' ht0 ⟨hlev.1, g.2.1⟩ (by omega) hcB (by rw [b2]; omega) eSb (by rw [a34]; exact aN0 (by omega)) a33' b4 (by omega)) (fun qa qb hq => ?_)
    obtain ⟨fq, hq⟩ := hq
    have FGq : FG t0 τ qb.1.2 := G'.trans fq (Nat.le_refl _)
    rcases hq with ⟨qa0, qb0, qc⟩ | ⟨qa1, qb1, hTS, qc⟩
    · refine OK.ieq (fun _ => ?_) (fun h => by omega)
      refine OK.ret ?_
      refine OK.kac ?_
      refine OK.ieq (fun _ => ?_) (fun h => by omega)
      exact OK.ret ⟨FGq, .inl ⟨lm, lm, by show x + (qb.2 + 0) + 40 * uT qb.1.2 ≤ _; omega⟩⟩
    · refine OK.ieq (fun h => by omega) (fun _ => ?_)
      refine OK.ret ?_
      refine OK.kac ?_
      refine OK.ieq (fun h => by omega) (fun _ => ?_)
      refine OK.ret ⟨FGq, .inr ⟨g, ?_, by show x + (qb.2 + 0) + 40 * uT qb.1.2 + 17 ≤ _; omega⟩⟩
      rw [h8]
      exact hTS.tr F' bL
  · by_cases h6 : SV σ = 6
    · -- a list
      obtain ⟨k, hk, h7⟩ := sv_word hK (.inl h6)
      have ek : k = 4 := by omega
      have e4 : (kwM 4 : Int) = 4 := by decide
      have hlen := len k (by omega) h7
      rw [ek, e4] at hlen
      refine OK.ieq (fun h => by omega) (fun _ => ?_)
      refine OK.ieq (fun _ => ?_) (fun h => by omega)
      refine OK.sw ?_
      refine OK.ieq (fun _ => ?_) (fun h => by omega)
      refine OK.sw ?_
      have pre' : PRE P (t0 + 1) a' b' := ⟨hP, ⟨by omega, b34, a20'⟩, hLX', by omega, fun h9 => by have := hadj w1 h9; omega⟩
      have elev := il_addE (x := lev) (y := 1) (by omega) (by omega)
      have hl3 := g.2.1
      refine OK.bnd2 (ht P (t0 + 1) 0 (lev + 1) 0 (-1) a' b' pre' (by omega) rfl ⟨by omega, .inl ⟨by omega, rfl⟩⟩ (by omega)) (fun qa qb hq => ?_)
      obtain ⟨fq, hq⟩ := hq
      have FGq : FG t0 τ (stI qb.1.2 3 t0 qb.1.1) := by
        refine (G'.trans fq (by omega)).trans (c1 := t0) ⟨fun d hd => ?_, fun i hi => rfl, fun j hj => ⟨rfl, ?_, rfl⟩, fun j hj => rfl, L5.eq rfl⟩ (Nat.le_refl _)
        · simp only [List.mem_cons, List.not_mem_nil, or_false, not_or] at hd
          rw [stI_ne hd.2.2.1]
        · show upd (qb.1.2.1 3) t0 _ j = _
          rw [upd_no (by omega)]
      have e3 : (stI qb.1.2 3 t0 qb.1.1).1 3 t0 = qb.1.1 := by
        show upd (qb.1.2.1 3) t0 _ t0 = _
        rw [upd_at]
      have eu : uT (stI qb.1.2 3 t0 qb.1.1) = uT qb.1.2 := uT_eq rfl rfl rfl
      rw [e3]
      rcases hq with ⟨qa0, qb0, qc⟩ | ⟨_, hTS, qc⟩
      · refine OK.bnd (a_setInner0 x4 qa.1 qa.2 ⟨by omega, by omega⟩) (fun s _ => ?_)
        refine OK.ieq (fun _ => ?_) (fun h => by omega)
        refine OK.ret ?_
        refine OK.kac ?_
        refine OK.ile (fun h => by omega) (fun _ => ?_)
        exact OK.ret ⟨FGq, .inl ⟨lm, lm, by show x + (qb.2 + 0) + 40 * uT (stI qb.1.2 3 t0 qb.1.1) ≤ _; rw [eu]; omega⟩⟩
      · obtain ⟨t1, ⟨i1, i2, i3, i4, i5⟩, iF, iX, iL, iR, iV, iS, iB, iB2, iRX, i33⟩ := hTS
        rw [a_setInner x4 qa.1 qa.2 (t0 + P - 400) (by omega) (by omega) (by omega)]
        have hTS : TS P t0 (4 - lev.toInt).toNat (SV σ) σ τ x4 (stI qa.2 32 (t0 + P - 400) qa.1) (τ.1 0 34) (stI qb.1.2 3 t0 qb.1.1) := by
          refine ⟨t1, ⟨by omega, hcB, by omega, i4, i5⟩, ?_, ?_, ?_, ?_, ?_, ?_, iB, iB2, ?_, ?_⟩
          · refine (F'.trans iF (by omega)).trans (c1 := t0 + P - 400) ⟨fun d hd => ?_, fun i hi => rfl, fun d hd => rfl, fun i hi => ⟨rfl, ?_, rfl, rfl⟩⟩ (Nat.le_refl _)
            · simp only [List.mem_cons, List.not_mem_nil, or_false, not_or] at hd
              show (stI qa.2 32 _ _).1 d = _
              rw [stI_ne hd.2.2.2.1]
            · show upd (qa.2.1 32) _ _ i = _
              rw [upd_no (by omega)]
          · exact iX.ext rfl rfl rfl rfl rfl (fun i hi => rfl) rfl
          · exact ⟨fun c hc => (iL.1 c hc).trans (bL.1 c hc), fun j hj => (iL.2 j (by omega)).trans (bL.2 j hj)⟩
          · have r1 := iF.2.2.2 (t0 + P - 400) (by omega)
            have r2 := fq.2.2.1 t0 (by omega)
            intro j hj1 hj2
            by_cases e : j = t0
            · subst e
              have s6 : (qb.1.2.1 2 j).toInt = 6 := by rw [r2.1, b2]; omega
              refine ⟨?_, fun h => ?_, fun _ => ?_, fun h => ?_, ?_⟩
              · show qa.2.1 31 _ = qb.1.2.1 2 j
                rw [r1.1, r2.1]
                exact eSb
              · have h : (qb.1.2.1 2 j).toInt = 7 := h
                omega
              · show qa.2.2.1 34 _ = 0
                rw [r1.2.2.1, a34]
                exact aN0 (by omega)
              · have h : (qb.1.2.1 2 j).toInt = 8 := h
                omega
              · show 0 ≤ (qb.1.2.1 4 j).toInt ∧ (qb.1.2.1 4 j).toInt ≤ 4
                rw [r2.2.2]
                omega
            · obtain ⟨x1, x2, x3, x5, x6⟩ := iR j (by omega) hj2
              refine ⟨x1, x2, x3, fun h => ?_, x6⟩
              have e9 : (stI qa.2 32 (t0 + P - 400) qa.1).1 32 = upd (qa.2.1 32) (t0 + P - 400) qa.1 := rfl
              rw [e9, upd_no (by omega)]
              exact x5 h
          · have ed : (4 - lev.toInt).toNat = (4 - (lev + 1).toInt).toNat + 1 := by omega
            rw [ed]
            have r2 := fq.2.2.1 t0 (by omega)
            have s6 : (qb.1.2.1 2 t0).toInt = 6 := by rw [r2.1, b2]; omega
            rw [← nt] at s6
            refine ⟨by omega, ?_, fun _ => ?_, fun h => ?_⟩
            · show 0 ≤ (qb.1.2.1 2 _).toInt ∧ (qb.1.2.1 2 _).toInt ≤ 8
              omega
            · rw [nt, e3]
              refine VD.ext (by omega) (by omega) (Int.le_refl _) (fun j hj1 hj2 => ⟨rfl, fun _ => ?_, rfl, fun k hk => rfl⟩) _ _ iV
              show upd (qb.1.2.1 3) t0 _ j = _
              rw [upd_no (by omega)]
            · have h : (qb.1.2.1 2 (τ.1 0 34).toNatClampNeg).toInt = 8 := h
              omega
          · have r2 := fq.2.2.1 t0 (by omega)
            show (qb.1.2.1 2 t0).toInt = _
            rw [r2.1, b2]
            omega
          · have r2 := fq.2.2.1 t0 (by omega)
            have s6 : (qb.1.2.1 2 t0).toInt = 6 := by rw [r2.1, b2]; omega
            have e9 : (stI qa.2 32 (t0 + P - 400) qa.1).1 32 = upd (qa.2.1 32) (t0 + P - 400) qa.1 := rfl
            have e10 : (stI qb.1.2 3 t0 qb.1.1).1 3 = upd (qb.1.2.1 3) t0 qb.1.1 := rfl
            refine RX.join (t := t0 + 1) (fun j hj1 hj2 => ?_) (iRX.ext (fun j h1 h2 => (iR j h1 h2).2.2.2.2.2) (fun j h1 h2 _ => by rw [e9, upd_no (by omega)]) (fun j _ _ => rfl) (fun j h1 h2 => ⟨rfl, fun _ => by rw [e10, upd_no (by omega)], rfl, fun _ _ => rfl⟩)) (by omega)
            have e : j = t0 := by omega
            subst e
            refine ⟨fun _ => ?_, fun _ => ?_, fun h => ?_⟩
            · rw [e9, upd_at, e10, upd_at]
              omega
            · show (qb.1.2.1 4 j).toInt = 0
              rw [r2.2.2]
              omega
            · have h : (qb.1.2.1 2 j).toInt = 8 := h
              omega
          · show (qa.2.1 33 (t0 + P - 400)).toInt = -1
            rw [(iF.2.2.2 (t0 + P - 400) (by omega)).2.2.2]
            exact a33'
        refine OK.ieq (fun h => by omega) (fun _ => ?_)
        refine OK.ret ?_
        refine OK.kac ?_
        refine OK.ile (fun _ => ?_) (fun h => by omega)
        exact OK.ret ⟨FGq, .inr ⟨g, hTS, by show x + (qb.2 + 0) + 40 * uT (stI qb.1.2 3 t0 qb.1.1) + 17 ≤ _; rw [eu]; omega⟩⟩
    · -- a word by itself
      have hTS : TS P t0 (4 - lev.toInt).toNat (SV σ) σ τ x4 a' (τ.1 0 34) b' := by
        refine ⟨t0 + 1, ⟨by omega, hcB, by omega, b34, a20'⟩, F', hLX', bL, ?_, ?_, by rw [b2]; omega, by omega, fun h9 => by have := hadj w1 h9; omega, ?_, a33'⟩
        · intro j hj1 hj2
          have e : j = t0 := by omega
          subst e
          refine ⟨eSb, fun h => ⟨?_, ?_⟩, fun h => ?_, fun h => ?_, ?_⟩
          · rw [b2] at h
            rw [a34, aN7 (by omega), b6, zN]
            exact w3
          · rw [b2] at h
            rw [a34, aN7 (by omega)]
            intro e0
            obtain ⟨m, gg, _, hgl, e1, e2⟩ := w3
            obtain ⟨_, mm, hR, _, hm, hw⟩ := hTB.word w1
            have e3 := w27_n mm hm.2 hR.1
            rw [← hw, e2] at e3
            obtain ⟨q1, _⟩ := n27_inj m mm gg (gT (τ.1 1) s0) hgl (gT_L hR.1).1 (by omega)
            rw [e0, l64_0] at e1
            obtain ⟨q2, _⟩ := n5_inj m 0 gg gg hgl (fun i hi => by omega) (by show n5 m gg = 0; omega)
            omega
          · rw [b2] at h
            rw [a34]
            exact aN0 (by omega)
          · rw [b2] at h
            omega
          · omega
        · have ed : (4 - lev.toInt).toNat = (3 - lev.toInt).toNat + 1 := by have := g.2.1; omega
          rw [ed]
          have b2' : (b'.1 2 (τ.1 0 34).toNatClampNeg).toInt = SV σ := by rw [nt, b2]; exact hyB
          have g1 := g.1
          exact ⟨by omega, by omega, fun h => by omega, fun h => by omega⟩
        · intro j hj1 hj2
          have e : j = t0 := by omega
          subst e
          rw [b2]
          exact ⟨fun h => by omega, fun _ => b4, fun h => by omega⟩
      refine OK.ieq (fun h => by omega) (fun _ => ?_)
      refine OK.ieq (fun h => by omega) (fun _ => ?_)
      refine OK.ret ?_
      refine OK.ieq (fun h => by omega) (fun _ => ?_)
      refine OK.ieq (fun h => by omega) (fun _ => ?_)
      exact OK.ret ⟨G', .inr ⟨g, hTS, by show x + 0 + 40 * uT b' + 17 ≤ _; omega⟩⟩
