/-! the reference: reading -/
theorem MT.tr {C I : List Nat} {σ t : ST} {w r : Int32} (h : MS σ w r) (c : CH C I σ t) (hC : ∀ c, c ∈ [2, 3, 4, 5, 35] → c ∉ C) : MS t w r := by
  unfold MS
  rw [c.1 2 (by decide) (hC 2 (by decide)), c.1 3 (by decide) (hC 3 (by decide)), c.1 4 (by decide) (hC 4 (by decide)), c.1 5 (by decide) (hC 5 (by decide)), c.1 35 (by decide) (hC 35 (by decide))]
  exact h
theorem PP.ch {C I : List Nat} {σ t : ST} (h : PP σ) (c : CH C I σ t) (hC : ∀ c, c ∈ [2, 3, 4, 5, 8, 11, 15, 19, 35] → c ∉ C) (hI : ∀ i, i ∈ [32, 53, 54] → i ∉ I) : PP t := by
  obtain ⟨rm1, rm2⟩ := rm_ch c (hC 8 (by decide)) (hI 53 (by decide)) (hI 54 (by decide))
  have e35 := c.1 35 (by decide) (hC 35 (by decide))
  have e11 := c.1 11 (by decide) (hC 11 (by decide))
  have e15 := c.1 15 (by decide) (hC 15 (by decide))
  have e54 := c.2.1 54 (hI 54 (by decide))
  have e53 := c.2.1 53 (hI 53 (by decide))
  have hC2 : ∀ c, c ∈ [2, 3, 4, 5, 35] → c ∉ C := fun x hx => hC x ((by decide : ∀ x, x ∈ [2, 3, 4, 5, 35] → x ∈ [2, 3, 4, 5, 8, 11, 15, 19, 35]) x hx)
  refine ⟨h.1.ch c hC hI, ?_, ?_⟩
  · intro k k1 k2
    rw [rm1, rm2]
    rw [e35] at k2
    exact h.2.1 k k1 k2
  · intro w r a1 a2 a3 a4 a5 k f v k1 k2 k3 k4
    rw [e35] at a5
    rw [e11, e54] at k1
    rw [e54] at k2
    have k5 := ff_tr (σ := t) (τ := σ) e53.symm e11.symm c.2.2.2.1.symm c.2.2.2.2.1.symm w f v k3
    have m := h.2.2 w r a1 a2 a3 a4 a5 k f v k1 k2 k5 k4
    rw [e15]
    exact MT.tr m c hC2
abbrev RCs : List Nat := [20, 23, 24, 25, 26, 27, 28, 29, 30, 36, 41]
abbrev RIs : List Nat := [46, 57, 64, 66, 67, 68, 72]
def GX (LV : Nat → Nat) (σ : ST) : Prop := PP σ ∧ RD σ ∧ NL LV σ ∧ (σ.1 0 46).toInt ≤ 400
def GR (LV : Nat → Nat) (σ : ST) (LV' : Nat → Nat) (t : ST) : Prop := CH RCs RIs σ t ∧ GX LV' t ∧ (σ.1 0 46).toInt ≤ (t.1 0 46).toInt ∧ ∀ r : Nat, (r : Int) < (σ.1 0 46).toInt → LV' r = LV r ∧ t.1 20 r = σ.1 20 r
theorem GR.rf {LV : Nat → Nat} {σ : ST} (h : GX LV σ) : GR LV σ LV σ := ⟨CH.rf, h, by omega, fun _ _ => ⟨rfl, rfl⟩⟩
theorem GR.trans {L0 L1 L2 : Nat → Nat} {σ s t : ST} (h : GR L0 σ L1 s) (k : GR L1 s L2 t) : GR L0 σ L2 t := by
  obtain ⟨a1, a2, a3, a4⟩ := h
  obtain ⟨b1, b2, b3, b4⟩ := k
  refine ⟨a1.trans b1, b2, by omega, fun r hr => ?_⟩
  have x := a4 r hr
  have y := b4 r (by omega)
  exact ⟨y.1.trans x.1, y.2.trans x.2⟩
theorem GR.small {LV : Nat → Nat} {σ t : ST} {C I : List Nat} (h : GX LV σ) (c : CH C I σ t) (hC : ∀ c, c ∈ C → c ∈ [36, 41]) (hI : ∀ i, i ∈ I → i ∈ [57, 64, 66, 67, 68, 72]) (hR : RD t) : GR LV σ LV t := by
  have c' : CH [36, 41] [57, 64, 66, 67, 68, 72] σ t := c.mono hC hI
  refine ⟨c'.mono (by decide) (by decide), ⟨h.1.ch c' (by decide) (by decide), hR, h.2.2.1.ch c' (by decide) (by decide), ?_⟩, ?_, fun r hr => ⟨rfl, ?_⟩⟩
  · rw [c'.2.1 46 (by decide)]; exact h.2.2.2
  · rw [c'.2.1 46 (by decide)]; omega
  · rw [c'.1 20 (by decide) (by decide)]
theorem GR.vs {L0 L1 : Nat → Nat} {σ t : ST} (h : GR L0 σ L1 t) : (rmW t = rmW σ ∧ rmR t = rmR σ) ∧ (∀ (a : Int) (d : Nat) (x : Int32), VS σ a d x → VS t a d x) ∧ ∀ w r : Int32, MS σ w r → MS t w r := ⟨rm_ch h.1 (by decide) (by decide) (by decide), fun _ _ _ hx => VT.tr hx h.1 (by decide), fun _ _ hx => MT.tr hx h.1 (by decide)⟩
/-- what reading a value ends with -/
def RK (LV : Nat → Nat) (σ : ST) (b : Prop) (q : Int32 × ST) : Prop := ∃ LV', GR LV σ LV' q.2 ∧ (q.1.toInt = 0 ∧ (σ.1 0 57).toInt ≤ (q.2.1 0 57).toInt ∨ q.1.toInt = 1 ∧ (q.2.1 0 57).toInt = (σ.1 0 57).toInt ∧ (b → (σ.1 0 46).toInt + 1 ≤ (q.2.1 0 46).toInt))
theorem RK.no {LV LV' : Nat → Nat} {σ t : ST} {b : Prop} {v : Int32} (h : GR LV σ LV' t) (hs : (σ.1 0 57).toInt ≤ (t.1 0 57).toInt) (hv : v.toInt = 0) : OK (some (v, t)) (RK LV σ b) := ⟨_, rfl, LV', h, .inl ⟨hv, hs⟩⟩
theorem RK.fail {LV LV' : Nat → Nat} {σ s : ST} {b : Prop} {p0 p1 : Int32} (h : GR LV σ LV' s) (hs : (σ.1 0 57).toInt ≤ (s.1 0 57).toInt) : OK ((f_X11_fails p0 p1 s).bind fun q => if q.1 = 0 ∨ q.1 = 1 then some (q.1, q.2) else none) (RK LV σ b) := by
  refine OK.bndC (RD.fails h.2.1.2.1 CH.rf (C := [41]) (I := [66, 67, 68]) (by decide) (by decide) (by decide) (by decide)) (fun v t c hq => ?_)
  dsimp only
  refine OK.grd (b01 (by omega)) ?_
  exact RK.no (h.trans (GR.small h.2.1 c (by decide) (by decide) hq.2.1)) (by rw [c.2.1 57 (by decide)]; exact hs) hq.1
/-- the reader's type: none, or one that is matched -/
def RR (σ : ST) (w r : Int32) : Prop := r.toInt < 0 ∨ 0 ≤ r.toInt ∧ ∃ e : Nat, e ≤ 4 ∧ VS σ (rmR σ) e r ∧ MS σ w r
/-- the node that has the one to come -/
def PO (LV : Nat → Nat) (σ : ST) (dp p : Int32) : Prop := p.toInt = -1 ∧ dp.toInt = 0 ∨ (0 ≤ p.toInt ∧ p.toInt < (σ.1 0 46).toInt) ∧ (LV p.toNatClampNeg : Int) + 1 = dp.toInt ∧ ¬ (σ.1 20 p.toNatClampNeg).toInt = 5
def SC_ (σ : ST) (dp : Int32) (d : Nat) : Prop := 0 ≤ (σ.1 0 57).toInt ∧ (σ.1 0 57).toInt + d ≤ 5 * dp.toInt + 4
def cReads (N : Nat) (rd : Int32 → Int32 → Int32 → Int32 → Int32 → ST → Option (Int32 × ST)) : Prop := ∀ (w r dp p x : Int32) (σ : ST) (LV : Nat → Nat) (d : Nat), GX LV σ → VS σ (rmW σ) d w → d ≤ 4 → RR σ w r → (0 ≤ dp.toInt ∧ dp.toInt ≤ 31) → (0 ≤ r.toInt → PO LV σ dp p) → SC_ σ dp d → 6 * (32 - dp.toInt) + d ≤ (N : Int) → OK (rd w r dp p x σ) (RK LV σ (0 ≤ r.toInt))
/-- the node whose parts are read: none, or one so deep -/
def NV (LV : Nat → Nat) (σ : ST) (dp v : Int32) : Prop := (0 ≤ v.toInt ∧ v.toInt < (σ.1 0 46).toInt) ∧ (LV v.toNatClampNeg : Int) = dp.toInt ∧ ¬ (σ.1 20 v.toNatClampNeg).toInt = 5
theorem NV.gr {L0 L1 : Nat → Nat} {σ t : ST} {dp v : Int32} (h : NV L0 σ dp v) (g : GR L0 σ L1 t) : NV L1 t dp v := by
  obtain ⟨a1, a2, a3⟩ := h
  obtain ⟨_, _, b3, b4⟩ := g
  have n1 := nN_ a1.1
  have b := b4 v.toNatClampNeg (by omega)
  refine ⟨by omega, by rw [b.1]; exact a2, by rw [b.2]; exact a3⟩
def cItems (N : Nat) (ri : Int32 → Int32 → Int32 → Int32 → ST → Option (Int32 × ST)) : Prop := ∀ (w u dp v : Int32) (σ : ST) (LV : Nat → Nat) (d : Nat), GX LV σ → VS σ (rmW σ) d w → d ≤ 4 → (σ.1 2 w.toNatClampNeg).toInt = 6 → (u.toInt < 0 ∨ 0 ≤ u.toInt ∧ (∃ e : Nat, e ≤ 4 ∧ VS σ (rmR σ) e u ∧ (σ.1 2 u.toNatClampNeg).toInt = 6 ∧ MS σ (σ.1 3 w.toNatClampNeg) (σ.1 3 u.toNatClampNeg)) ∧ NV LV σ dp v) → (0 ≤ dp.toInt ∧ dp.toInt ≤ 30) → SC_ σ dp d → 6 * (32 - dp.toInt) + d ≤ (N : Int) + 1 → OK (ri w u dp v σ) (RK LV σ False)
def cRecd (N : Nat) (rr : Int32 → Int32 → Int32 → Int32 → ST → Option (Int32 × ST)) : Prop := ∀ (w u dp v : Int32) (σ : ST) (LV : Nat → Nat) (d : Nat), GX LV σ → VS σ (rmW σ) d w → d ≤ 4 → (σ.1 2 w.toNatClampNeg).toInt = 7 → (u.toInt < 0 ∨ 0 ≤ u.toInt ∧ (∃ e : Nat, e ≤ 4 ∧ VS σ (rmR σ) e u ∧ (σ.1 2 u.toNatClampNeg).toInt = 7 ∧ ¬ σ.1 35 (6 * (σ.1 3 w.toNatClampNeg).toNatClampNeg + (σ.1 3 u.toNatClampNeg).toNatClampNeg) = 0) ∧ NV LV σ dp v) → (0 ≤ dp.toInt ∧ dp.toInt ≤ 30) → SC_ σ dp d → 6 * (32 - dp.toInt) + d ≤ (N : Int) + 1 → OK (rr w u dp v σ) (RK LV σ False)
theorem GX.enters {LV : Nat → Nat} {σ : ST} (h : GX LV σ) (h0 : 0 ≤ (σ.1 0 57).toInt ∧ (σ.1 0 57).toInt < 200) (p0 : Int32) : OK (f_X11_enters p0 σ) (fun t => GR LV σ LV t ∧ (t.1 0 57).toInt = (σ.1 0 57).toInt + 1) := by
  refine OK.mono (b_enters p0 σ ⟨h0.1, by omega⟩) (fun t ht => ?_)
  obtain ⟨c, e⟩ := ht
  obtain ⟨r1, r2, r3⟩ := h.2.1
  refine ⟨GR.small h c (by decide) (by decide) ⟨?_, ⟨by omega, by omega⟩, ?_⟩, e⟩
  · rw [c.2.1 63 (by decide), c.2.1 64 (by decide), c.2.1 65 (by decide)]; exact r1
  · rw [c.2.1 68 (by decide)]; exact r3
/-- a step back -/
theorem GX.leaves {LV : Nat → Nat} {σ : ST} (h : GX LV σ) (h0 : 1 ≤ (σ.1 0 57).toInt) : GR LV σ LV (stI σ 0 57 (σ.1 0 57 - 1)) ∧ ((stI σ 0 57 (σ.1 0 57 - 1)).1 0 57).toInt = (σ.1 0 57).toInt - 1 := by
  obtain ⟨r1, ⟨r2, r2'⟩, r3⟩ := h.2.1
  have lt_1 := li_1
  have e1 := il_subE (x := σ.1 0 57) (y := 1) (by omega) (by omega)
  refine ⟨GR.small h (C := []) (I := [57]) (CH.rf.o (by decide)) (by decide) (by decide) ⟨r1, ?_, r3⟩, ?_⟩
  · exact ⟨(show 0 ≤ (σ.1 0 57 - 1).toInt by omega), (show (σ.1 0 57 - 1).toInt ≤ 256 by omega)⟩
  · show (σ.1 0 57 - 1).toInt = _
    omega
theorem b_reads_96 {N : Nat} {rd : Int32 → Int32 → Int32 → Int32 → Int32 → ST → Option (Int32 × ST)} {ri rr : Int32 → Int32 → Int32 → Int32 → ST → Option (Int32 × ST)} (hd : cReads N rd) (r dp p x x7 b : Int32) (σ : ST) (LV : Nat → Nat) (d : Nat) (hG : GX LV σ) (hb : VS σ (rmW σ) d b) (hd4 : d ≤ 3) (hr : RR σ b r) (hdp : 0 ≤ dp.toInt ∧ dp.toInt ≤ 31) (hpo : 0 ≤ r.toInt → PO LV σ dp p) (hs : SC_ σ dp (d + 1)) (hN : 6 * (32 - dp.toInt) + d ≤ (N : Int)) : OK (f_X11_reads_96 rd ri rr r dp p x x7 b σ) (RK LV σ (0 ≤ r.toInt)) := by
  unfold f_X11_reads_96
  obtain ⟨s1, s2⟩ := hs
  refine OK.bnd (hG.enters ⟨s1, by omega⟩ _) (fun t ht => ?_)
  obtain ⟨g, e⟩ := ht
  obtain ⟨⟨g1, g2⟩, g3, g4⟩ := g.vs
  have hr' : RR t b r := by
    rcases hr with hr | ⟨h0, e', h1, h2, h3⟩
    · exact .inl hr
    · exact .inr ⟨h0, e', h1, by rw [g2]; exact g3 _ _ _ h2, g4 _ _ h3⟩
  have hpo' : 0 ≤ r.toInt → PO LV t dp p := fun h => by
    rcases hpo h with h | ⟨a1, a2, a3⟩
    · exact .inl h
    · have n1 := nN_ a1.1
      have b := g.2.2.2 p.toNatClampNeg (by omega)
      have := g.2.2.1
      exact .inr ⟨by omega, a2, by rw [b.2]; exact a3⟩
  refine OK.bnd (hd b r dp p x t LV d g.2.1 (by rw [g1]; exact g3 _ _ _ hb) (by omega) hr' hdp hpo' ⟨by omega, by omega⟩ hN) (fun q hq => ?_)
  obtain ⟨LV', gq, hv⟩ := hq
  have hv2 : q.1.toInt = 0 ∨ q.1.toInt = 1 := by omega
  refine OK.grd (b01 hv2) ?_
  rcases hv with ⟨hv, hv5⟩ | ⟨hv, hv5, hv6⟩
  · obtain ⟨gl, el⟩ := gq.2.1.leaves (by omega)
    exact RK.no ((g.trans gq).trans gl) (by rw [el]; omega) hv
  · obtain ⟨gl, el⟩ := gq.2.1.leaves (by omega)
    refine ⟨_, rfl, LV', (g.trans gq).trans gl, .inr ⟨hv, ?_, fun hb => ?_⟩⟩
    · show ((stI q.2 0 57 (q.2.1 0 57 - 1)).1 0 57).toInt = _
      omega
    · have := hv6 hb
      have := g.2.2.1
      show (σ.1 0 46).toInt + 1 ≤ (q.2.1 0 46).toInt
      omega
theorem b_reads_227 {N : Nat} {rd : Int32 → Int32 → Int32 → Int32 → Int32 → ST → Option (Int32 × ST)} {ri rr : Int32 → Int32 → Int32 → Int32 → ST → Option (Int32 × ST)} (hi : cItems N ri) (hrr : cRecd N rr) (w dp u v : Int32) (σ : ST) (LV : Nat → Nat) (d : Nat) (hG : GX LV σ) (hw : VS σ (rmW σ) d w) (hd4 : d ≤ 4) (hw8 : ¬ (σ.1 2 w.toNatClampNeg).toInt = 8) (hu : u.toInt < 0 ∧ v.toInt = -1 ∨ 0 ≤ u.toInt ∧ (∃ e : Nat, e ≤ 4 ∧ VS σ (rmR σ) e u ∧ ¬ (σ.1 2 u.toNatClampNeg).toInt = 8 ∧ MS σ w u) ∧ (0 ≤ v.toInt ∧ v.toInt < (σ.1 0 46).toInt) ∧ (LV v.toNatClampNeg : Int) = dp.toInt ∧ σ.1 20 v.toNatClampNeg = σ.1 2 u.toNatClampNeg) (hdp : 0 ≤ dp.toInt ∧ dp.toInt ≤ 30) (hs : SC_ σ dp d) (hN : 6 * (32 - dp.toInt) + d ≤ (N : Int) + 1) : OK (f_X11_reads_227 rd ri rr w dp u v σ) (RK LV σ False) := by
  unfold f_X11_reads_227
  have lt_6 := li_6
  have lt_7 := li_7
  have lm := li_m1
  have fin : ∀ o : Option (Int32 × ST), OK o (RK LV σ False) → OK (o.bind fun q => if q.1 = 0 ∨ q.1 = 1 then some (q.1, q.2) else none) (RK LV σ False) := fun o ho => by
    refine OK.bnd ho (fun q hq => ?_)
    have hq' := hq
    obtain ⟨LV', g, h⟩ := hq
    exact OK.grd (b01 (by omega)) (OK.ret hq')
  refine OK.grd hw.rng ?_
  refine OK.ieq (fun h6 => fin _ ?_) (fun h6 => ?_)
  · refine hi w u dp v σ LV d hG hw hd4 (by omega) ?_ hdp hs (by omega)
    rcases hu with hu | ⟨h0, ⟨e, e1, e2, e3, e4⟩, a1, a2, a3⟩
    · exact .inl hu.1
    · have m := MT.lst e4 e3 (by omega)
      exact .inr ⟨h0, ⟨e, e1, e2, m.1, m.2⟩, a1, a2, by rw [a3]; have := m.1; omega⟩
  refine OK.ieq (fun h7 => fin _ ?_) (fun h7 => ?_)
  · refine hrr w u dp v σ LV d hG hw hd4 (by omega) ?_ hdp hs (by omega)
    rcases hu with hu | ⟨h0, ⟨e, e1, e2, e3, e4⟩, a1, a2, a3⟩
    · exact .inl hu.1
    · have m := MT.rcd e4 e3 (by omega)
      exact .inr ⟨h0, ⟨e, e1, e2, m.1, m.2⟩, a1, a2, by rw [a3]; have := m.1; omega⟩
  · have h400 := hG.2.2.2
    refine OK.bndC (b_readsLeaf w u v σ hG.2.1 hw.rng ?_) (fun x t c hq => ?_)
    · rcases hu with hu | ⟨h0, ⟨e, e1, e2, e3, e4⟩, a1, a2, a3⟩
      · exact .inl (by omega)
      · exact .inr ⟨e2.rng, by omega⟩
    dsimp only
    obtain ⟨hR, hx, h23⟩ := hq
    refine OK.grd (b01 hx) ?_
    have e57 : (t.1 0 57).toInt = (σ.1 0 57).toInt := by rw [c.2.1 57 (by decide)]
    have e46 : t.1 0 46 = σ.1 0 46 := c.2.1 46 (by decide)
    have e20 : t.1 20 = σ.1 20 := c.1 20 (by decide) (by decide)
    have hN : NL LV t := by
      rcases h23 with h23 | ⟨_, y, hy, h23⟩
      · exact hG.2.2.1.of e46 e20 h23 (c.1 24 (by decide) (by decide)) (c.1 25 (by decide) (by decide)) (c.1 28 (by decide) (by decide)) (c.1 29 (by decide) (by decide)) (c.1 30 (by decide) (by decide))
      · exact (hG.2.2.1.has (v := v.toNatClampNeg) hy hG.2.2.1.1.1.1).of e46 e20 h23 (c.1 24 (by decide) (by decide)) (c.1 25 (by decide) (by decide)) (c.1 28 (by decide) (by decide)) (c.1 29 (by decide) (by decide)) (c.1 30 (by decide) (by decide))
    have g : GR LV σ LV t := ⟨c.mono (by decide) (by decide), ⟨hG.1.ch c (by decide) (by decide), hR, hN, by rw [e46]; exact h400⟩, by rw [e46]; omega, fun r hr => ⟨rfl, by rw [e20]⟩⟩
    refine OK.ret ⟨LV, g, ?_⟩
    rcases hx with hx | hx
    · exact .inl ⟨hx, Int.le_of_eq e57.symm⟩
    · exact .inr ⟨hx, e57, fun h => h.elim⟩
theorem RK.up {LV LV' : Nat → Nat} {σ s : ST} {b : Prop} {o : Option (Int32 × ST)} (g : GR LV σ LV' s) (e57 : (s.1 0 57).toInt = (σ.1 0 57).toInt) (hb : b → (σ.1 0 46).toInt + 1 ≤ (s.1 0 46).toInt) (h : OK o (RK LV' s False)) : OK o (RK LV σ b) := by
  refine OK.mono h (fun q hq => ?_)
  obtain ⟨L2, g2, h2⟩ := hq
  refine ⟨L2, g.trans g2, ?_⟩
  rcases h2 with h2 | h2
  · exact .inl ⟨h2.1, by omega⟩
  · have := g2.2.2.1
    exact .inr ⟨h2.1, by omega, fun hb' => by have := hb hb'; omega⟩
theorem b_reads_180 {N : Nat} {rd : Int32 → Int32 → Int32 → Int32 → Int32 → ST → Option (Int32 × ST)} {ri rr : Int32 → Int32 → Int32 → Int32 → ST → Option (Int32 × ST)} (hi : cItems N ri) (hrr : cRecd N rr) (w dp p x c u : Int32) (b : Prop) (σ : ST) (LV : Nat → Nat) (d : Nat) (hG : GX LV σ) (hw : VS σ (rmW σ) d w) (hd4 : d ≤ 4) (hw8 : ¬ (σ.1 2 w.toNatClampNeg).toInt = 8) (hu : u.toInt < 0 ∧ ¬ b ∨ 0 ≤ u.toInt ∧ (∃ e : Nat, e ≤ 4 ∧ VS σ (rmR σ) e u ∧ ¬ (σ.1 2 u.toNatClampNeg).toInt = 8 ∧ MS σ w u) ∧ PO LV σ dp p) (hdp : 0 ≤ dp.toInt ∧ dp.toInt ≤ 30) (hs : SC_ σ dp d) (hN : 6 * (32 - dp.toInt) + d ≤ (N : Int) + 1) : OK (f_X11_reads_180 rd ri rr w dp p x c u σ) (RK LV σ b) := by
  unfold f_X11_reads_180
  have lt_0 := li_0
  have lm := li_m1
  have lt_400 := li_400
  have h400 := hG.2.2.2
  have h460 := hG.2.2.1.1.1.1
  refine OK.ilt (fun h => ?_) (fun h => ?_)
  · refine RK.up (GR.rf hG) rfl (fun hb => ?_) (b_reads_227 hi hrr w dp u (-1) σ LV d hG hw hd4 hw8 (.inl ⟨by omega, by omega⟩) hdp hs hN)
    rcases hu with hu | hu
    · exact absurd hb hu.2
    · omega
  have hu' : (∃ e : Nat, e ≤ 4 ∧ VS σ (rmR σ) e u ∧ ¬ (σ.1 2 u.toNatClampNeg).toInt = 8 ∧ MS σ w u) ∧ PO LV σ dp p := by
    rcases hu with hu | hu
    · omega
    · exact hu.2
  obtain ⟨⟨e, e1, e2, e3, e4⟩, hpo⟩ := hu'
  refine OK.ieq (fun _ => RK.fail (GR.rf hG) (by omega)) (fun hne => ?_)
  refine OK.grd e2.rng ?_
  refine OK.bndC (b_laysNode _ p x c σ LV hG.2.2.1 (by omega) dp.toInt.toNat (by omega) ?_) (fun v t ct ht => ?_)
  · rcases hpo with hpo | hpo
    · exact .inl ⟨hpo.1, by omega⟩
    · exact .inr ⟨hpo.1, by omega, hpo.2.2⟩
  obtain ⟨t1, t2, t3, t4⟩ := ht
  dsimp only
  subst t1
  have nv := nN_ h460
  have c' : CH RCs RIs σ t := ct.mono (by decide) (by decide)
  have hR : RD t := hG.2.1.of (ct.2.1 57 (by decide)) (ct.2.1 63 (by decide)) (ct.2.1 64 (by decide)) (ct.2.1 65 (by decide)) (by rw [ct.2.1 68 (by decide)]; exact hG.2.1.2.2)
  have g : GR LV σ (upL LV (σ.1 0 46).toNatClampNeg dp.toInt.toNat) t := by
    refine ⟨c', ⟨hG.1.ch ct (by decide) (by decide), hR, t3, by omega⟩, by omega, fun r hr => ⟨upL_no (by omega), ?_⟩⟩
    rw [t4]
    exact upd_no (by omega)
  obtain ⟨⟨g1, g2⟩, g3, g4⟩ := g.vs
  have e57 : (t.1 0 57).toInt = (σ.1 0 57).toInt := by rw [ct.2.1 57 (by decide)]
  have es2 : t.1 2 = σ.1 2 := ct.1 2 (by decide) (by decide)
  refine RK.up g e57 (fun _ => by omega) (b_reads_227 hi hrr w dp u (σ.1 0 46) t _ d g.2.1 (by rw [g1]; exact g3 _ _ _ hw) hd4 (by rw [es2]; exact hw8) (.inr ⟨by omega, ⟨e, e1, by rw [g2]; exact g3 _ _ _ e2, by rw [es2]; exact e3, g4 _ _ e4⟩, ⟨h460, by omega⟩, ?_, ?_⟩) hdp ⟨by rw [e57]; exact hs.1, by rw [e57]; exact hs.2⟩ hN)
  · rw [upL_at]
    omega
  · rw [t4, es2]
    exact upd_at
theorem b_reads_top {N : Nat} {rd : Int32 → Int32 → Int32 → Int32 → Int32 → ST → Option (Int32 × ST)} {ri rr : Int32 → Int32 → Int32 → Int32 → ST → Option (Int32 × ST)} (hrd : cReads N rd) (hi : cItems N ri) (hrr : cRecd N rr) : cReads (N + 1) (f_X11_reads rd ri rr) := by
  intro w r dp p x σ LV d hG hw hd4 hr hdp hpo hs hN
  unfold f_X11_reads
  have lt_0 := li_0
  have lt_1 := li_1
  have lt_4 := li_4
  have lt_8 := li_8
  have lt_31 := li_31
  have lm := li_m1
  have l0 := l64_0
  have l1 := l64_1
  have gw := hw.rng
  refine OK.ilt (fun h31 => ?_) (fun h31 => RK.fail (GR.rf hG) (by omega))
  refine OK.grd gw ?_
  refine OK.ieq (fun h8 => ?_) (fun h8 => ?_)
  · obtain ⟨k1, k2, k3, k4⟩ := hw.eit (by omega)
    have em := i64 (σ.1 4 w.toNatClampNeg)
    have em1 : ((σ.1 4 w.toNatClampNeg).toInt64 - 1).toInt = (σ.1 4 w.toNatClampNeg).toInt - 1 := by
      rw [Int64.toInt_sub, em, l1]
      obtain ⟨k, hk⟩ : ∃ k : Int, ((σ.1 4 w.toNatClampNeg).toInt - 1).bmod (2 ^ 64) = (σ.1 4 w.toNatClampNeg).toInt - 1 + 18446744073709551616 * k := ⟨-((σ.1 4 w.toNatClampNeg).toInt - 1).bdiv (2 ^ 64), by have := Int.bmod_add_bdiv ((σ.1 4 w.toNatClampNeg).toInt - 1) (2 ^ 64); omega⟩
      have h1 := Int.le_bmod (x := (σ.1 4 w.toNatClampNeg).toInt - 1) (m := 2 ^ 64) (by decide)
      have h2 := Int.bmod_lt (x := (σ.1 4 w.toNatClampNeg).toInt - 1) (m := 2 ^ 64) (by decide)
      omega
    refine OK.bndC (b_readsInt _ _ _ σ hG.2.1) (fun v t c hq => ?_)
    dsimp only
    have g : GR LV σ LV t := GR.small hG c (by decide) (by decide) hq.1
    have e57 : (t.1 0 57).toInt = (σ.1 0 57).toInt := by rw [c.2.1 57 (by decide)]
    refine OK.ieq (fun _ => RK.no g (by omega) (by omega)) (fun hv => ?_)
    have hk : 0 ≤ (t.2.1 0 70).toInt ∧ (t.2.1 0 70).toInt ≤ (σ.1 4 w.toNatClampNeg).toInt - 1 := by omega
    have ek := i32s hk.1 (by omega)
    generalize (t.2.1 0 70).toInt32 = kk at ek ⊢
    have a1 := mlE (k := 4) (y := w) 4 li_4 (by omega) (by omega)
    have a2 := il_addE (x := 4 * w) (y := kk) (by omega) (by omega)
    have n1 := nN_ gw.1
    have n2 := nN_ (x := kk) (by omega)
    have e4 : (4 * w + kk).toNatClampNeg = 4 * w.toNatClampNeg + kk.toNatClampNeg := nC (by omega)
    refine OK.grd ⟨by omega, by omega⟩ ?_
    rw [e4]
    obtain ⟨⟨g1, g2⟩, g3, g4⟩ := g.vs
    have e5 : t.1 5 = σ.1 5 := c.1 5 (by decide) (by decide)
    have hB : VS t (rmW t) (d - 1) (t.1 5 (4 * w.toNatClampNeg + kk.toNatClampNeg)) := by
      rw [e5, g1]
      exact g3 _ _ _ (k3 _ (by omega)).1
    have hpo' : 0 ≤ r.toInt → PO LV t dp p := fun h => by
      rcases hpo h with h | ⟨a1, a2, a3⟩
      · exact .inl h
      · have n1 := nN_ a1.1
        have b := g.2.2.2 p.toNatClampNeg (by omega)
        have := g.2.2.1
        exact .inr ⟨by omega, a2, by rw [b.2]; exact a3⟩
    have hs' : SC_ t dp (d - 1 + 1) := ⟨by rw [e57]; exact hs.1, by have := hs.2; omega⟩
    have e46 : (t.1 0 46).toInt = (σ.1 0 46).toInt := by rw [c.2.1 46 (by decide)]
    have up : ∀ o : Option (Int32 × ST), OK o (RK LV t (0 ≤ r.toInt)) → OK o (RK LV σ (0 ≤ r.toInt)) := fun o ho => by
      refine OK.mono ho (fun q hq => ?_)
      obtain ⟨L2, h1, h2⟩ := hq
      refine ⟨L2, g.trans h1, ?_⟩
      rcases h2 with h2 | ⟨h2, h3, h4⟩
      · exact .inl ⟨h2.1, by omega⟩
      · exact .inr ⟨h2, by omega, fun hb => by have := h4 hb; omega⟩
    refine OK.ilt (fun hr0 => ?_) (fun hr0 => ?_)
    · exact up _ (b_reads_96 hrd r dp p x _ _ t LV (d - 1) g.2.1 hB (by omega) (.inl (by omega)) hdp hpo' hs' (by omega))
    · have hr' : ∃ e : Nat, e ≤ 4 ∧ VS σ (rmR σ) e r ∧ MS σ w r := by
        rcases hr with hr | hr
        · omega
        · exact hr.2
      obtain ⟨e, e1, e2, e3⟩ := hr'
      have r2 : VS t (rmR t) e r := by rw [g2]; exact g3 _ _ _ e2
      obtain ⟨_, _, b3, b4⟩ := g.2.1.1.1.w
      refine OK.bndR (bT_match _ r t (by omega) (by omega) g.2.1.1.1.2.2 hB r2 (by omega) (by omega)) (fun m hm => ?_)
      dsimp only
      refine OK.ieq (fun _ => up _ (RK.fail (GR.rf g.2.1) (by omega))) (fun hm0 => ?_)
      refine up _ (b_reads_96 hrd r dp p x _ _ t LV (d - 1) g.2.1 hB (by omega) (.inr ⟨by omega, e, e1, r2, ?_⟩) hdp hpo' hs' (by omega))
      rcases hm with hm | hm
      · omega
      · exact hm.2
  · have hw8 : ¬ (σ.1 2 w.toNatClampNeg).toInt = 8 := by omega
    unfold f_X11_reads_157 f_X11_reads_158
    refine OK.ilt (fun hr0 => ?_) (fun hr0 => ?_)
    · refine OK.ile (fun h9 => by omega) (fun _ => ?_)
      exact b_reads_180 hi hrr w dp p x _ r _ σ LV d hG hw hd4 hw8 (.inl ⟨by omega, by omega⟩) (by omega) hs (by omega)
    have hr' : ∃ e : Nat, e ≤ 4 ∧ VS σ (rmR σ) e r ∧ MS σ w r := by
      rcases hr with hr | hr
      · omega
      · exact hr.2
    obtain ⟨e, e1, e2, e3⟩ := hr'
    obtain ⟨_, _, b3, b4⟩ := hG.1.1.w
    have gr := e2.rng
    refine OK.grd gr ?_
    refine OK.ieq (fun h9 => ?_) (fun h9 => ?_)
    · obtain ⟨k1, k2, k3, k4⟩ := e2.eit (by omega)
      obtain ⟨kk, kk1, kk2⟩ := (MT.iffR hw8 (by omega)).mp e3
      refine OK.bndR (bT_chosen w r σ (by omega) (by omega) hG.1.1.2.2 hw e2 (by omega) (by omega) (by omega)) (fun v hv => ?_)
      dsimp only
      have hv' : (0 ≤ v.toInt ∧ v.toInt < (σ.1 4 r.toNatClampNeg).toInt) ∧ MS σ w (σ.1 5 (4 * r.toNatClampNeg + v.toNatClampNeg)) := by
        rcases hv with hv | hv
        · exact absurd kk2 (hv.2 kk kk1)
        · exact hv
      have a1 := mlE (k := 4) (y := r) 4 li_4 (by omega) (by omega)
      have a2 := il_addE (x := 4 * r) (y := v) (by omega) (by omega)
      have n1 := nN_ gr.1
      have n2 := nN_ hv'.1.1
      have e4 : (4 * r + v).toNatClampNeg = 4 * r.toNatClampNeg + v.toNatClampNeg := nC (by omega)
      refine OK.ile (fun _ => ?_) (fun h => by omega)
      refine OK.grd ⟨by omega, by omega⟩ ?_
      rw [e4]
      have hk := k3 v.toNatClampNeg (by omega)
      have gk := hk.1.rng
      exact b_reads_180 hi hrr w dp p x _ _ _ σ LV d hG hw hd4 hw8 (.inr ⟨gk.1, ⟨e - 1, by omega, hk.1, hk.2, hv'.2⟩, hpo (by omega)⟩) (by omega) hs (by omega)
    · refine OK.ile (fun h9 => by omega) (fun _ => ?_)
      exact b_reads_180 hi hrr w dp p x _ r _ σ LV d hG hw hd4 hw8 (.inr ⟨by omega, ⟨e, e1, e2, by omega, e3⟩, hpo (by omega)⟩) (by omega) hs (by omega)
