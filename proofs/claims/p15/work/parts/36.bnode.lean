/-! the reference: a node laid -/
def NL (LV : Nat → Nat) (σ : ST) : Prop := TO σ ∧ (∀ r : Nat, (r : Int) < (σ.1 0 46).toInt → LV r ≤ 31 ∧ (tP σ r = -1 ∧ LV r = 0 ∨ (0 ≤ tP σ r ∧ tP σ r < r) ∧ LV r = LV (tP σ r).toNat + 1)) ∧ ∀ r : Nat, (r : Int) < (σ.1 0 46).toInt → bI (σ.1 23 r) 0 ((σ.1 0 46).toInt + 12) ∧ ((σ.1 20 r).toInt = 5 → (σ.1 23 r).toInt ≤ 12)
theorem TO.of {σ t : ST} (h : TO σ) (e46 : t.1 0 46 = σ.1 0 46) (e24 : t.1 24 = σ.1 24) (e25 : t.1 25 = σ.1 25) (e28 : t.1 28 = σ.1 28) (e29 : t.1 29 = σ.1 29) (e30 : t.1 30 = σ.1 30) : TO t := by
  unfold TO tP tC tF tL tN at h ⊢
  rw [e46, e24, e25, e28, e29, e30]
  exact h
theorem NL.of {LV : Nat → Nat} {σ t : ST} (h : NL LV σ) (e46 : t.1 0 46 = σ.1 0 46) (e20 : t.1 20 = σ.1 20) (e23 : t.1 23 = σ.1 23) (e24 : t.1 24 = σ.1 24) (e25 : t.1 25 = σ.1 25) (e28 : t.1 28 = σ.1 28) (e29 : t.1 29 = σ.1 29) (e30 : t.1 30 = σ.1 30) : NL LV t := by
  refine ⟨h.1.of e46 e24 e25 e28 e29 e30, ?_, ?_⟩
  · unfold tP
    rw [e46, e24]
    exact h.2.1
  · rw [e46, e20, e23]
    exact h.2.2
theorem NL.ch {C I : List Nat} {LV : Nat → Nat} {σ t : ST} (h : NL LV σ) (c : CH C I σ t) (hC : ∀ c, c ∈ [20, 23, 24, 25, 28, 29, 30] → c ∉ C) (hI : 46 ∉ I) : NL LV t := h.of (c.2.1 46 hI) (c.1 20 (by decide) (hC 20 (by decide))) (c.1 23 (by decide) (hC 23 (by decide))) (c.1 24 (by decide) (hC 24 (by decide))) (c.1 25 (by decide) (hC 25 (by decide))) (c.1 28 (by decide) (hC 28 (by decide))) (c.1 29 (by decide) (hC 29 (by decide))) (c.1 30 (by decide) (hC 30 (by decide)))
theorem NL.has {LV : Nat → Nat} {σ : ST} (h : NL LV σ) {v : Nat} {y : Int32} (hy : bI y 0 12) (h0 : 0 ≤ (σ.1 0 46).toInt) : NL LV (stI σ 23 v y) := by
  refine ⟨h.1, h.2.1, fun r hr => ?_⟩
  show bI (upd (σ.1 23) v y r) 0 ((σ.1 0 46).toInt + 12) ∧ ((σ.1 20 r).toInt = 5 → (upd (σ.1 23) v y r).toInt ≤ 12)
  obtain ⟨y1, y2⟩ := hy
  unfold upd
  split
  · exact ⟨⟨y1, by omega⟩, fun _ => y2⟩
  · exact h.2.2 r hr
def upL (LV : Nat → Nat) (v l : Nat) : Nat → Nat := fun r => if r = v then l else LV r
theorem upL_at {LV : Nat → Nat} {v l : Nat} : upL LV v l v = l := if_pos rfl
theorem upL_no {LV : Nat → Nat} {v l r : Nat} (h : ¬ r = v) : upL LV v l r = LV r := if_neg h
abbrev NC : List Nat := [20, 23, 24, 25, 26, 27, 28, 29, 30]
theorem b_laysNode (p0 p1 p2 p3 : Int32) (σ : ST) (LV : Nat → Nat) (hN : NL LV σ) (hS : (σ.1 0 46).toInt < 4096) (l : Nat) (hl : l ≤ 31) (hp : p1.toInt = -1 ∧ l = 0 ∨ (0 ≤ p1.toInt ∧ p1.toInt < (σ.1 0 46).toInt) ∧ l = LV p1.toNatClampNeg + 1 ∧ ¬ (σ.1 20 p1.toNatClampNeg).toInt = 5) : OK (f_X11_laysNode p0 p1 p2 p3 σ) (RC NC [46] σ fun v t => v = σ.1 0 46 ∧ (t.1 0 46).toInt = (σ.1 0 46).toInt + 1 ∧ NL (upL LV (σ.1 0 46).toNatClampNeg l) t ∧ t.1 20 = upd (σ.1 20) (σ.1 0 46).toNatClampNeg p0) := by
  unfold f_X11_laysNode
  have lt_0 := li_0
  have lt_1 := li_1
  have lm := li_m1
  obtain ⟨⟨h46, hT, hFL⟩, hLV, hH⟩ := hN
  have h461 := h46.1
  have e1 := il_addE (x := σ.1 0 46) (y := 1) (by omega) (by omega)
  have nv := nN_ h461
  refine OK.grd ⟨by omega, by omega⟩ ?_
  refine OK.lt (fun z2 h2 => ?_)
  refine OK.lt (fun z3 h3 => ?_)
  refine OK.lt (fun z4 h4 => ?_)
  refine OK.lt (fun z5 h5 => ?_)
  have c : CH NC [46] σ z5 := by
    rw [h5, h4, h3, h2]
    exact (((((((((((CH.rf.o (by decide)).i (by decide) (by decide)).l (by decide) (by decide) (by decide) (by decide) (by decide)).l (by decide) (by decide) (by decide) (by decide) (by decide)).i (by decide) (by decide)).i (by decide) (by decide)).i (by decide) (by decide)).i (by decide) (by decide)).i (by decide) (by decide)).i (by decide) (by decide)).i (by decide) (by decide)).i (by decide) (by decide)
  have e46 : z5.1 0 46 = σ.1 0 46 + 1 := by rw [h5, h4, h3, h2]; rfl
  have e20 : z5.1 20 = upd (σ.1 20) (σ.1 0 46).toNatClampNeg p0 := by rw [h5, h4, h3, h2]; rfl
  have e23 : z5.1 23 = upd (σ.1 23) (σ.1 0 46).toNatClampNeg 0 := by rw [h5, h4, h3, h2]; rfl
  have e24 : z5.1 24 = upd (σ.1 24) (σ.1 0 46).toNatClampNeg p1 := by rw [h5, h4, h3, h2]; rfl
  have e25 : z5.1 25 = upd (σ.1 25) (σ.1 0 46).toNatClampNeg p2 := by rw [h5, h4, h3, h2]; rfl
  have e28 : z5.1 28 = upd (σ.1 28) (σ.1 0 46).toNatClampNeg (-1) := by rw [h5, h4, h3, h2]; rfl
  have e29 : z5.1 29 = upd (σ.1 29) (σ.1 0 46).toNatClampNeg (-1) := by rw [h5, h4, h3, h2]; rfl
  have e30 : z5.1 30 = upd (σ.1 30) (σ.1 0 46).toNatClampNeg (-1) := by rw [h5, h4, h3, h2]; rfl
  clear h5 h4 h3 h2
  have e46' : (z5.1 0 46).toInt = (σ.1 0 46).toInt + 1 := by rw [e46]; omega
  have sP : tP z5 = updZ (tP σ) (σ.1 0 46).toNatClampNeg p1.toInt := by unfold tP; rw [e24]; exact vw_upd
  have sC : tC z5 = updZ (tC σ) (σ.1 0 46).toNatClampNeg p2.toInt := by unfold tC; rw [e25]; exact vw_upd
  have sF : tF z5 = updZ (tF σ) (σ.1 0 46).toNatClampNeg (-1) := by unfold tF; rw [e28]; exact vw_upd
  have sL : tL z5 = updZ (tL σ) (σ.1 0 46).toNatClampNeg (-1) := by unfold tL; rw [e29]; exact vw_upd
  have sN : tN z5 = updZ (tN σ) (σ.1 0 46).toNatClampNeg (-1) := by unfold tN; rw [e30]; exact vw_upd
  have hTO : TO z5 := by
    refine ⟨⟨by omega, by omega⟩, ?_, fun r hr => ?_⟩
    · rw [sP, sC, sF, sL, sN, e46']
      exact TRf.grow hT nv _ _
    · rw [sF, sL]
      unfold updZ
      split
      · intro _; rfl
      · exact hFL r (by omega)
  have hLV5 : ∀ r : Nat, (r : Int) < (z5.1 0 46).toInt → upL LV (σ.1 0 46).toNatClampNeg l r ≤ 31 ∧ (tP z5 r = -1 ∧ upL LV (σ.1 0 46).toNatClampNeg l r = 0 ∨ (0 ≤ tP z5 r ∧ tP z5 r < r) ∧ upL LV (σ.1 0 46).toNatClampNeg l r = upL LV (σ.1 0 46).toNatClampNeg l (tP z5 r).toNat + 1) := by
    intro r hr
    by_cases e : r = (σ.1 0 46).toNatClampNeg
    · have ep : tP z5 r = p1.toInt := by rw [sP]; unfold updZ; rw [if_pos e]
      have el : upL LV (σ.1 0 46).toNatClampNeg l r = l := if_pos e
      rw [ep, el]
      refine ⟨hl, ?_⟩
      rcases hp with hp | ⟨hp1, hp2, _⟩
      · exact .inl hp
      · have n1 := nN_ hp1.1
        have e2 : p1.toInt.toNat = p1.toNatClampNeg := rfl
        rw [e2, upL_no (by omega)]
        exact .inr ⟨⟨hp1.1, by omega⟩, hp2⟩
    · have ep : tP z5 r = tP σ r := by rw [sP]; unfold updZ; rw [if_neg e]
      rw [ep, upL_no e]
      obtain ⟨a1, a2⟩ := hLV r (by omega)
      refine ⟨a1, ?_⟩
      rcases a2 with a2 | a2
      · exact .inl a2
      · refine .inr ⟨a2.1, ?_⟩
        rw [upL_no (by omega)]
        exact a2.2
  refine OK.ilt (fun h => ?_) (fun h => ?_)
  · refine OK.cret c ⟨rfl, e46', ⟨hTO, hLV5, fun r hr => ?_⟩, e20⟩
    rw [e46', e20, e23]
    unfold upd
    split
    · exact ⟨⟨by omega, by omega⟩, fun _ => by omega⟩
    · obtain ⟨⟨a1, a2⟩, a3⟩ := hH r (by omega)
      exact ⟨⟨a1, by omega⟩, a3⟩
  · have hp' : (0 ≤ p1.toInt ∧ p1.toInt < (σ.1 0 46).toInt) ∧ l = LV p1.toNatClampNeg + 1 ∧ ¬ (σ.1 20 p1.toNatClampNeg).toInt = 5 := by
      rcases hp with hp | hp
      · omega
      · exact hp
    have n1 := nN_ hp'.1.1
    have pv : ¬ p1.toNatClampNeg = (σ.1 0 46).toNatClampNeg := by omega
    have hJ : JP z5 p1 (σ.1 0 46) := by
      refine ⟨hTO, by omega, hp'.1, ?_, fun r hr => ?_⟩
      · rw [sP]; unfold updZ; rw [if_pos rfl]
      · rw [sF, sL, sN]
        by_cases e : r = (σ.1 0 46).toNatClampNeg
        · unfold updZ
          rw [if_pos e, if_pos e, if_pos e]
          omega
        · unfold updZ
          rw [if_neg e, if_neg e, if_neg e]
          obtain ⟨f1, f2, f3⟩ := hT r (by omega)
          omega
    refine OK.bndZ (b_joins p1 (σ.1 0 46) z5 hJ) (fun t ct ht => ?_)
    have et46 : (t.1 0 46).toInt = (σ.1 0 46).toInt + 1 := by rw [ct.2.1 46 (by decide)]; exact e46'
    have et20 : t.1 20 = z5.1 20 := ct.1 20 (by decide) (by decide)
    have et24 : t.1 24 = z5.1 24 := ct.1 24 (by decide) (by decide)
    obtain ⟨⟨b1, b2⟩, _⟩ := hH p1.toNatClampNeg (by omega)
    have hz23 : z5.1 23 p1.toNatClampNeg = σ.1 23 p1.toNatClampNeg := by rw [e23]; exact upd_no pv
    have e9 := il_addE (x := σ.1 23 p1.toNatClampNeg) (y := 1) (by omega) (by omega)
    refine OK.cret (c.trans (ct.mono (by decide) (by decide))) ⟨rfl, et46, ⟨ht.1, ?_, fun r hr => ?_⟩, et20.trans e20⟩
    · unfold tP
      rw [et24, ct.2.1 46 (by decide)]
      exact hLV5
    · rw [et46, et20, ht.2, hz23, e20, e23]
      by_cases e : r = p1.toNatClampNeg
      · rw [e, upd_at, upd_no pv]
        refine ⟨⟨by omega, by omega⟩, fun h5 => absurd h5 hp'.2.2⟩
      · rw [upd_no e]
        by_cases e2 : r = (σ.1 0 46).toNatClampNeg
        · rw [e2, upd_at]
          exact ⟨⟨by omega, by omega⟩, fun _ => by omega⟩
        · rw [upd_no e2, upd_no e2]
          obtain ⟨⟨a1, a2⟩, a3⟩ := hH r (by omega)
          exact ⟨⟨a1, by omega⟩, a3⟩
theorem b_firstOf (p0 : Int32) (σ : ST) {a : Int} {d : Nat} (h : VS σ a d p0) : OK (f_X11_firstOf p0 σ) (RO σ fun v => VS σ a d v ∧ ¬ (σ.1 2 v.toNatClampNeg).toInt = 8) := by
  unfold f_X11_firstOf
  have lt_4 := li_4
  have lt_8 := li_8
  have g := h.rng
  have e1 := mlE (k := 4) (y := p0) 4 li_4 (by omega) (by omega)
  have n1 := nN_ g.1
  have e4 : (4 * p0).toNatClampNeg = 4 * p0.toNatClampNeg + 0 := nC (by omega)
  refine OK.grd g ?_
  refine OK.ieq (fun h8 => ?_) (fun h8 => OK.roret ⟨h, by omega⟩)
  obtain ⟨g1, g2, g3, g4⟩ := h.eit (by omega)
  refine OK.grd ⟨by omega, by omega⟩ ?_
  rw [e4]
  have g5 := g3 0 (by omega)
  have g6 := g5.1.up
  have e5 : d - 1 + 1 = d := by omega
  rw [e5] at g6
  exact OK.roret ⟨g6, g5.2⟩
theorem b_fills (p0 p1 p2 : Int32) (σ : ST) (LV : Nat → Nat) (hN : NL LV σ) (hS : (σ.1 0 46).toInt < 4096) (h19 : ∀ i, bI (σ.1 19 i) 0 12) (hf : 0 ≤ p0.toInt ∧ p0.toInt < 576) {a : Int} (hv : VS σ a 4 (σ.1 15 p0.toNatClampNeg)) (l : Nat) (hl : l ≤ 31) (hp : (0 ≤ p1.toInt ∧ p1.toInt < (σ.1 0 46).toInt) ∧ l = LV p1.toNatClampNeg + 1 ∧ ¬ (σ.1 20 p1.toNatClampNeg).toInt = 5) : OK (f_X11_fills p0 p1 p2 σ) (RZ NC [46] σ fun t => (t.1 0 46).toInt = (σ.1 0 46).toInt + 1 ∧ NL (upL LV (σ.1 0 46).toNatClampNeg l) t ∧ ∀ r : Nat, (r : Int) < (σ.1 0 46).toInt → t.1 20 r = σ.1 20 r) := by
  have lt_0 := li_0
  have h461 := hN.1.1.1
  have nv := nN_ h461
  have key : ∀ (u y0 : Int32), VS σ a 4 u → OK (f_X11_fills_45 p0 u y0 p2 p1 (σ.1 2 u.toNatClampNeg) σ) (RZ NC [46] σ fun t => (t.1 0 46).toInt = (σ.1 0 46).toInt + 1 ∧ NL (upL LV (σ.1 0 46).toNatClampNeg l) t ∧ ∀ r : Nat, (r : Int) < (σ.1 0 46).toInt → t.1 20 r = σ.1 20 r) := fun u y0 hu => by
    unfold f_X11_fills_45
    refine OK.bndC (b_laysNode _ p1 p2 y0 σ LV hN hS l hl (.inr hp)) (fun v t c ht => ?_)
    obtain ⟨t1, t2, t3, t4⟩ := ht
    dsimp only
    subst t1
    have gv : 0 ≤ (σ.1 0 46).toInt ∧ (σ.1 0 46).toInt < 4096 := ⟨by omega, hS⟩
    have h20 : ∀ r : Nat, (r : Int) < (σ.1 0 46).toInt → t.1 20 r = σ.1 20 r := fun r hr => by rw [t4]; exact upd_no (by omega)
    refine OK.grd hf ?_
    refine OK.grd gv ?_
    refine OK.lt (fun z hz => ?_)
    have cz : CH NC [46] σ z := by rw [hz]; exact (c.l (by decide) (by decide) (by decide) (by decide) (by decide)).l (by decide) (by decide) (by decide) (by decide) (by decide)
    have ez : z.1 = t.1 := by rw [hz]; rfl
    have Nz : NL (upL LV (σ.1 0 46).toNatClampNeg l) z := t3.of (by rw [ez]) (by rw [ez]) (by rw [ez]) (by rw [ez]) (by rw [ez]) (by rw [ez]) (by rw [ez]) (by rw [ez])
    have e46 : (z.1 0 46).toInt = (σ.1 0 46).toInt + 1 := by rw [ez]; exact t2
    have k103 : ∀ y : Int32, bI y 0 12 → OK (f_X11_fills_103 (σ.1 0 46) y (σ.1 0 46) z) (RZ NC [46] σ fun t => (t.1 0 46).toInt = (σ.1 0 46).toInt + 1 ∧ NL (upL LV (σ.1 0 46).toNatClampNeg l) t ∧ ∀ r : Nat, (r : Int) < (σ.1 0 46).toInt → t.1 20 r = σ.1 20 r) := fun y hy => by
      unfold f_X11_fills_103
      refine OK.grd gv ?_
      refine OK.grd gv ?_
      refine OK.zret ((cz.i (by decide) (by decide)).i (by decide) (by decide)) ⟨e46, (Nz.has hy (by omega)).of rfl rfl rfl rfl rfl rfl rfl rfl, fun r hr => ?_⟩
      show z.1 20 r = σ.1 20 r
      rw [ez]
      exact h20 r hr
    refine OK.grd hu.rng ?_
    refine OK.ieq (fun _ => k103 _ ?_) (fun _ => k103 _ (bz (by decide) (by decide)))
    rw [cz.1 19 (by decide) (by decide)]
    exact h19 _
  unfold f_X11_fills
  refine OK.grd hf ?_
  refine OK.bndR (b_firstOf _ σ hv) (fun v h => ?_)
  dsimp only
  refine OK.grd h.1.rng ?_
  exact OK.ite (fun _ => key _ _ h.1) (fun _ => key _ _ h.1)
