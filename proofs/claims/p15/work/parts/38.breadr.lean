/-! the reference: reading lists and records -/
def UI (LV : Nat → Nat) (σ : ST) (w u dp v : Int32) : Prop := u.toInt < 0 ∨ 0 ≤ u.toInt ∧ (∃ e : Nat, e ≤ 4 ∧ VS σ (rmR σ) e u ∧ (σ.1 2 u.toNatClampNeg).toInt = 6 ∧ MS σ (σ.1 3 w.toNatClampNeg) (σ.1 3 u.toNatClampNeg)) ∧ NV LV σ dp v
theorem UI.gr {L0 L1 : Nat → Nat} {σ t : ST} {w u dp v : Int32} (h : UI L0 σ w u dp v) (g : GR L0 σ L1 t) : UI L1 t w u dp v := by
  obtain ⟨⟨g1, g2⟩, g3, g4⟩ := g.vs
  rcases h with h | ⟨h0, ⟨e, e1, e2, e3, e4⟩, h2⟩
  · exact .inl h
  · refine .inr ⟨h0, ⟨e, e1, by rw [g2]; exact g3 _ _ _ e2, by rw [g.1.1 2 (by decide) (by decide)]; exact e3, ?_⟩, h2.gr g⟩
    rw [g.1.1 3 (by decide) (by decide)]
    exact g4 _ _ e4
theorem b_items_27 {N : Nat} {rd : Int32 → Int32 → Int32 → Int32 → Int32 → ST → Option (Int32 × ST)} {ri rr : Int32 → Int32 → Int32 → Int32 → ST → Option (Int32 × ST)} (hrd : cReads N rd) (w u dp v x5 : Int32) (d : Nat) (hd4 : d ≤ 4) (h5 : x5.toInt ≤ 200) (hdp : 0 ≤ dp.toInt ∧ dp.toInt ≤ 30) (hN : 6 * (32 - dp.toInt) + d ≤ (N : Int) + 2) : ∀ (n : Nat) (x6 : Int32) (σ : ST) (LV : Nat → Nat), GX LV σ → VS σ (rmW σ) d w → (σ.1 2 w.toNatClampNeg).toInt = 6 → UI LV σ w u dp v → SC_ σ dp d → (0 ≤ x6.toInt ∧ x6.toInt ≤ 200 ∧ (200 : Int) - x6.toInt < n) → OK (f_X11_readsItems_27 rd ri rr n w u dp v x5 x6 σ) (RK LV σ False) := by
  intro n
  induction n with
  | zero => intro x6 σ LV h1 h2 h3 h4 h5 h6; omega
  | succ n ih =>
    intro x6 σ LV hG hw hs6 hu hs h6
    rw [f_X11_readsItems_27]
    have lt_0 := li_0
    have lt_1 := li_1
    have lm := li_m1
    have gw := hw.rng
    obtain ⟨l1, l2⟩ := hw.lst hs6
    have a6 := il_addE (x := x6) (y := 1) (by omega) (by omega)
    have ad := il_addE (x := dp) (y := 1) (by omega) (by omega)
    obtain ⟨s1, s2⟩ := hs
    refine OK.ile (fun _ => OK.ret ⟨LV, GR.rf hG, .inr ⟨by omega, rfl, fun h => h.elim⟩⟩) (fun h => ?_)
    refine OK.bnd (hG.enters ⟨s1, by omega⟩ _) (fun t ht => ?_)
    obtain ⟨g, e57⟩ := ht
    obtain ⟨⟨g1, g2⟩, g3, g4⟩ := g.vs
    have e3 : t.1 3 = σ.1 3 := g.1.1 3 (by decide) (by decide)
    have e2 : t.1 2 = σ.1 2 := g.1.1 2 (by decide) (by decide)
    refine OK.grd gw ?_
    have k64 : ∀ y0 : Int32, RR t (t.1 3 w.toNatClampNeg) y0 → (0 ≤ y0.toInt → PO LV t (dp + 1) v) → OK (f_X11_readsItems_64 rd ri rr (f_X11_readsItems_27 rd ri rr n) w u dp v x5 x6 y0 (t.1 3 w.toNatClampNeg) t) (RK LV σ False) := fun y0 hy hp => by
      unfold f_X11_readsItems_64
      refine OK.bnd (hrd _ y0 (dp + 1) v x6 t LV (d - 1) g.2.1 (by rw [g1, e3]; exact g3 _ _ _ l2) (by omega) hy (by omega) hp ⟨by omega, by omega⟩ (by omega)) (fun q hq => ?_)
      obtain ⟨L2, gq, hv⟩ := hq
      refine OK.ieq (fun h0 => ?_) (fun h0 => ?_)
      · rcases hv with hv | hv
        · exact RK.no (g.trans gq) (by omega) (by omega)
        · omega
      · have hv' : (q.2.1 0 57).toInt = (t.1 0 57).toInt := by omega
        obtain ⟨gl, el⟩ := gq.2.1.leaves (by omega)
        have gg := (g.trans gq).trans gl
        obtain ⟨⟨f1, f2⟩, f3, f4⟩ := gg.vs
        refine RK.up gg (by omega) (fun h => h.elim) (ih (x6 + 1) _ L2 gg.2.1 (by rw [f1]; exact f3 _ _ _ hw) (by rw [gg.1.1 2 (by decide) (by decide)]; exact hs6) (hu.gr gg) ⟨by omega, by omega⟩ (by omega))
    rcases hu.gr g with hu' | ⟨h0, ⟨e, e1, e2', e3', e4⟩, hv⟩
    · refine OK.ile (fun h9 => by omega) (fun _ => ?_)
      exact k64 _ (.inl (by omega)) (fun h9 => by omega)
    · refine OK.ile (fun _ => ?_) (fun h9 => by omega)
      refine OK.grd e2'.rng ?_
      have m := e2'.lst e3'
      exact k64 _ (.inr ⟨m.2.rng.1, e - 1, by omega, m.2, e4⟩) (fun _ => .inr ⟨hv.1, by have := hv.2.1; omega, hv.2.2⟩)
theorem b_items_top {N : Nat} {rd : Int32 → Int32 → Int32 → Int32 → Int32 → ST → Option (Int32 × ST)} {ri rr : Int32 → Int32 → Int32 → Int32 → ST → Option (Int32 × ST)} (hrd : cReads N rd) : cItems (N + 1) (f_X11_readsItems rd ri rr) := by
  intro w u dp v σ LV d hG hw hd4 hs6 hu hdp hs hN
  unfold f_X11_readsItems
  have lt_0 := li_0
  have lu := FUi
  have l0 := l64_0
  have l200 := l64_200
  refine OK.bndC (b_readsInt _ _ _ σ hG.2.1) (fun x t c hq => ?_)
  dsimp only
  have g : GR LV σ LV t := GR.small hG c (by decide) (by decide) hq.1
  have e57 : (t.1 0 57).toInt = (σ.1 0 57).toInt := by rw [c.2.1 57 (by decide)]
  refine OK.ieq (fun _ => RK.no g (by omega) (by omega)) (fun hv => ?_)
  have hk : 0 ≤ (t.2.1 0 70).toInt ∧ (t.2.1 0 70).toInt ≤ 200 := by omega
  have ek := i32s hk.1 (by omega)
  obtain ⟨⟨g1, g2⟩, g3, g4⟩ := g.vs
  have hu' : UI LV σ w u dp v := hu
  exact RK.up g e57 (fun h => h.elim) (b_items_27 hrd w u dp v _ d hd4 (by omega) hdp (by omega) FU 0 t LV g.2.1 (by rw [g1]; exact g3 _ _ _ hw) (by rw [g.1.1 2 (by decide) (by decide)]; exact hs6) (hu'.gr g) ⟨by rw [e57]; exact hs.1, by rw [e57]; exact hs.2⟩ (by omega))
def UR (LV : Nat → Nat) (σ : ST) (w u dp v x6 : Int32) : Prop := u.toInt < 0 ∨ 0 ≤ u.toInt ∧ (∃ e : Nat, e ≤ 4 ∧ VS σ (rmR σ) e u ∧ (σ.1 2 u.toNatClampNeg).toInt = 7 ∧ ¬ σ.1 35 (6 * (σ.1 3 w.toNatClampNeg).toNatClampNeg + (σ.1 3 u.toNatClampNeg).toNatClampNeg) = 0) ∧ NV LV σ dp v ∧ x6.toInt = 6 * (σ.1 0 54).toInt + (σ.1 3 u.toNatClampNeg).toInt
/-- a record is read: the writer's type, the reader's one or none, where the fields lie -/
def RB (LV : Nat → Nat) (σ : ST) (w u dp v x5 x6 : Int32) (d : Nat) : Prop := GX LV σ ∧ (VS σ (rmW σ) d w ∧ d ≤ 4 ∧ (σ.1 2 w.toNatClampNeg).toInt = 7 ∧ x5.toInt = 6 * (σ.1 0 53).toInt + (σ.1 3 w.toNatClampNeg).toInt) ∧ UR LV σ w u dp v x6 ∧ (0 ≤ dp.toInt ∧ dp.toInt ≤ 30) ∧ SC_ σ dp d
theorem RB.gr {L0 L1 : Nat → Nat} {σ t : ST} {w u dp v x5 x6 : Int32} {d : Nat} (h : RB L0 σ w u dp v x5 x6 d) (g : GR L0 σ L1 t) (e57 : (t.1 0 57).toInt = (σ.1 0 57).toInt) : RB L1 t w u dp v x5 x6 d := by
  obtain ⟨h1, ⟨h2, h3, h4, h5⟩, h6, h7, h8⟩ := h
  obtain ⟨⟨g1, g2⟩, g3, g4⟩ := g.vs
  have e2 : t.1 2 = σ.1 2 := g.1.1 2 (by decide) (by decide)
  have e3 : t.1 3 = σ.1 3 := g.1.1 3 (by decide) (by decide)
  have e35 : t.1 35 = σ.1 35 := g.1.1 35 (by decide) (by decide)
  have e53 : t.1 0 53 = σ.1 0 53 := g.1.2.1 53 (by decide)
  have e54 : t.1 0 54 = σ.1 0 54 := g.1.2.1 54 (by decide)
  refine ⟨g.2.1, ⟨by rw [g1]; exact g3 _ _ _ h2, h3, by rw [e2]; exact h4, by rw [e53, e3]; exact h5⟩, ?_, h7, ⟨by rw [e57]; exact h8.1, by rw [e57]; exact h8.2⟩⟩
  rcases h6 with h6 | ⟨a0, ⟨e, a1, a2, a3, a4⟩, a5, a6⟩
  · exact .inl h6
  · exact .inr ⟨a0, ⟨e, a1, by rw [g2]; exact g3 _ _ _ a2, by rw [e2]; exact a3, by rw [e35, e3]; exact a4⟩, a5.gr g, by rw [e54, e3]; exact a6⟩
/-- the writer's record -/
theorem RB.wr {LV : Nat → Nat} {σ : ST} {w u dp v x5 x6 : Int32} {d : Nat} (h : RB LV σ w u dp v x5 x6 d) : wrec σ (σ.1 3 w.toNatClampNeg) ∧ (0 ≤ x5.toInt ∧ x5.toInt < 36) ∧ bI (σ.1 11 x5.toNatClampNeg) 0 8 ∧ ∀ k : Nat, (k : Int) < (σ.1 11 x5.toNatClampNeg).toInt → VS σ (rmW σ) 4 (σ.1 15 (8 * x5.toNatClampNeg + k)) := by
  obtain ⟨h1, ⟨h2, h3, h4, h5⟩, h6, h7, h8⟩ := h
  have hw : wrec σ (σ.1 3 w.toNatClampNeg) := h2.rcd h4
  obtain ⟨b1, b2, b3, b4⟩ := h1.1.1.w
  have w1 := hw.1
  have w2 : (σ.1 3 w.toNatClampNeg).toInt < rmW σ := hw.2
  have b11 := b1.1
  have b12 := b1.2
  have n1 := nN_ b11
  have n2 := nN_ w1
  have e5 : x5.toNatClampNeg = 6 * (σ.1 0 53).toNatClampNeg + (σ.1 3 w.toNatClampNeg).toNatClampNeg := nC (by omega)
  have wf := h1.1.1.wf hw
  rw [← e5] at wf
  exact ⟨hw, by omega, wf.1, wf.2⟩
theorem RB.rr {LV : Nat → Nat} {σ : ST} {w u dp v x5 x6 : Int32} {d : Nat} (h : RB LV σ w u dp v x5 x6 d) (hu : 0 ≤ u.toInt) : rrec σ (σ.1 3 u.toNatClampNeg) ∧ (0 ≤ x6.toInt ∧ x6.toInt < 36) ∧ bI (σ.1 11 x6.toNatClampNeg) 0 8 ∧ (∀ k : Nat, (k : Int) < (σ.1 11 x6.toNatClampNeg).toInt → VS σ (rmR σ) 4 (σ.1 15 (8 * x6.toNatClampNeg + k))) ∧ HO σ (σ.1 3 w.toNatClampNeg) (σ.1 3 u.toNatClampNeg) ∧ NV LV σ dp v ∧ x6.toNatClampNeg = 6 * (σ.1 0 54).toNatClampNeg + (σ.1 3 u.toNatClampNeg).toNatClampNeg ∧ x6.toInt = 6 * (σ.1 0 54).toInt + (σ.1 3 u.toNatClampNeg).toInt := by
  obtain ⟨hw, _⟩ := h.wr
  obtain ⟨h1, ⟨h2, h3, h4, h5⟩, h6, h7, h8⟩ := h
  rcases h6 with h6 | ⟨a0, ⟨e, a1, a2, a3, a4⟩, a5, a6⟩
  · omega
  have hr : rrec σ (σ.1 3 u.toNatClampNeg) := a2.rcd a3
  obtain ⟨b1, b2, b3, b4⟩ := h1.1.1.w
  have w1 := hw.1
  have w2 : (σ.1 3 w.toNatClampNeg).toInt < rmW σ := hw.2
  have r1 := hr.1
  have r2 : (σ.1 3 u.toNatClampNeg).toInt < rmR σ := hr.2
  have b11 := b2.1
  have b12 := b2.2
  have n1 := nN_ b11
  have n2 := nN_ r1
  have e5 : x6.toNatClampNeg = 6 * (σ.1 0 54).toNatClampNeg + (σ.1 3 u.toNatClampNeg).toNatClampNeg := nC (by omega)
  have rf := h1.1.1.rf hr
  rw [← e5] at rf
  exact ⟨hr, by omega, rf.1, rf.2, h1.1.2.2 _ _ w1 (by omega) r1 (by omega) a4, a5, e5, a6⟩
theorem b_rec_217 {rd : Int32 → Int32 → Int32 → Int32 → Int32 → ST → Option (Int32 × ST)} {ri rr : Int32 → Int32 → Int32 → Int32 → ST → Option (Int32 × ST)} (w u dp v x5 x6 : Int32) (d : Nat) : ∀ (n : Nat) (x7 : Int32) (σ : ST) (LV : Nat → Nat), RB LV σ w u dp v x5 x6 d → (0 ≤ x7.toInt ∧ x7.toInt ≤ 8 ∧ (8 : Int) - x7.toInt < n) → OK (f_X11_readsRecord_217 rd ri rr n w u v x6 x7 σ) (RK LV σ False) := by
  intro n
  induction n with
  | zero => intro x7 σ LV h1 h2; omega
  | succ n ih =>
    intro x7 σ LV hB h7
    rw [f_X11_readsRecord_217]
    unfold f_X11_readsRecord_286
    have lt_0 := li_0
    have lt_1 := li_1
    have lt_8 := li_8
    have lt_400 := li_400
    have a7 := il_addE (x := x7) (y := 1) (by omega) (by omega)
    have hG := hB.1
    have done : OK (some ((1 : Int32), σ)) (RK LV σ False) := OK.ret ⟨LV, GR.rf hG, .inr ⟨by omega, rfl, fun h => h.elim⟩⟩
    refine OK.ilt (fun _ => done) (fun hu => ?_)
    obtain ⟨r1, r2, r3, r4, r5, r6, r7, r8⟩ := hB.rr (by omega)
    obtain ⟨w1, w2, w3, w4⟩ := hB.wr
    have r31 := r3.1
    have r32 := r3.2
    have b1 := mlE (k := 8) (y := x6) 8 li_8 (by omega) (by omega)
    have b2 := il_addE (x := 8 * x6) (y := x7) (by omega) (by omega)
    have n6 := nN_ r2.1
    have n7 := nN_ h7.1
    have e8 : (8 * x6 + x7).toNatClampNeg = 8 * x6.toNatClampNeg + x7.toNatClampNeg := nC (by omega)
    refine OK.grd ⟨by omega, by omega⟩ ?_
    refine OK.ile (fun _ => done) (fun h => ?_)
    refine OK.grd hB.2.1.1.rng ?_
    refine OK.bndR (hG.1.1.ff w1 (by omega)) (fun y hy => ?_)
    dsimp only
    refine OK.ile (fun _ => ih _ σ LV hB (by omega)) (fun _ => ?_)
    refine OK.ieq (fun _ => RK.fail (GR.rf hG) (by omega)) (fun hne => ?_)
    have h400 := hG.2.2.2
    have h460 := hG.2.2.1.1.1.1
    have nv := nN_ h460
    refine OK.bndZ (b_fills _ v x7 σ LV hG.2.2.1 (by omega) hG.1.1.1.2.2 (by omega) (by rw [e8]; exact r4 _ (by omega)) (LV v.toNatClampNeg + 1) (by have := r6.2.1; have := hB.2.2.2.1; omega) ⟨r6.1, rfl, r6.2.2⟩) (fun t ct ht => ?_)
    obtain ⟨t1, t2, t3⟩ := ht
    have e57 : (t.1 0 57).toInt = (σ.1 0 57).toInt := by rw [ct.2.1 57 (by decide)]
    have hR : RD t := hG.2.1.of (ct.2.1 57 (by decide)) (ct.2.1 63 (by decide)) (ct.2.1 64 (by decide)) (ct.2.1 65 (by decide)) (by rw [ct.2.1 68 (by decide)]; exact hG.2.1.2.2)
    have g : GR LV σ (upL LV (σ.1 0 46).toNatClampNeg (LV v.toNatClampNeg + 1)) t := ⟨ct.mono (by decide) (by decide), ⟨hG.1.ch ct (by decide) (by decide), hR, t2, by omega⟩, by omega, fun r hr => ⟨upL_no (by omega), t3 r hr⟩⟩
    exact RK.up g e57 (fun h => h.elim) (ih _ t _ (hB.gr g e57) (by omega))
theorem b_rec_83 {N : Nat} {rd : Int32 → Int32 → Int32 → Int32 → Int32 → ST → Option (Int32 × ST)} {ri rr : Int32 → Int32 → Int32 → Int32 → ST → Option (Int32 × ST)} (hrd : cReads N rd) {k43 : Int32 → Int32 → Int32 → Int32 → Int32 → Int32 → Int32 → ST → Option (Int32 × ST)} (w u dp v x5 x6 x7 x8 x9 : Int32) (d : Nat) (σ0 : ST) (L0 : Nat → Nat) (hB0 : RB L0 σ0 w u dp v x5 x6 d) (h7 : 0 ≤ x7.toInt ∧ x7.toInt < (σ0.1 11 x5.toNatClampNeg).toInt) (h8 : x8.toInt = 8 * x5.toInt + x7.toInt) (h9 : 0 ≤ x9.toInt ∧ x9.toInt ≤ (σ0.1 0 65).toInt) (hN : 6 * (32 - dp.toInt) + d ≤ (N : Int) + 2) (hk : ∀ (t : ST) (L1 : Nat → Nat), GR L0 σ0 L1 t → (t.1 0 57).toInt = (σ0.1 0 57).toInt → OK (k43 w u dp v x5 x6 (x7 + 1) t) (RK L0 σ0 False)) : ∀ (n : Nat) (x10 x11 : Int32) (σ : ST) (LV : Nat → Nat), GR L0 σ0 LV σ → (σ.1 0 57).toInt = (σ0.1 0 57).toInt + 1 → (0 ≤ x11.toInt ∧ x11.toInt ≤ 8 ∧ (8 : Int) - x11.toInt < n) → OK (f_X11_readsRecord_83 rd ri rr k43 n w u dp v x5 x6 x7 x8 x9 x10 x11 σ) (RK L0 σ0 False) := by
  intro n
  have lt_0 := li_0
  have lt_1 := li_1
  have lt_8 := li_8
  have lm := li_m1
  have hdp := hB0.2.2.2.1
  have ad := il_addE (x := dp) (y := 1) (by omega) (by omega)
  have s0 := hB0.2.2.2.2.1
  have s0' := hB0.2.2.2.2.2
  have hd1 : 1 ≤ d := by
    cases d with
    | zero => exact hB0.2.1.1.elim
    | succ d => omega
  induction n with
  | zero => intro x10 x11 σ LV h1 h2 h3; omega
  | succ n ih =>
    intro x10 x11 σ LV g e57 h11
    rw [f_X11_readsRecord_83]
    have hG := g.2.1
    obtain ⟨⟨g1, g2⟩, g3, g4⟩ := g.vs
    -- the bundle at this state, but for the steps
    have hBs : RB LV (stI σ 0 57 (σ.1 0 57 - 1)) w u dp v x5 x6 d := by
      obtain ⟨gl, el⟩ := hG.leaves (by omega)
      exact hB0.gr (g.trans gl) (by omega)
    have w' := hBs.wr
    have wr1 : wrec σ (σ.1 3 w.toNatClampNeg) := w'.1
    have wr2 := w'.2.1
    have wr3 : bI (σ.1 11 x5.toNatClampNeg) 0 8 := w'.2.2.1
    have wr4 : ∀ k : Nat, (k : Int) < (σ.1 11 x5.toNatClampNeg).toInt → VS σ (rmW σ) 4 (σ.1 15 (8 * x5.toNatClampNeg + k)) := w'.2.2.2
    have wr31 := wr3.1
    have wr32 := wr3.2
    have e11 : σ.1 11 = σ0.1 11 := g.1.1 11 (by decide) (by decide)
    have n5 := nN_ wr2.1
    have n7 := nN_ h7.1
    have e8 : x8.toNatClampNeg = 8 * x5.toNatClampNeg + x7.toNatClampNeg := nC (by omega)
    have h7' : ((x7.toNatClampNeg : Nat) : Int) < (σ.1 11 x5.toNatClampNeg).toInt := by rw [e11]; omega
    have hby : VS σ (rmW σ) 4 (σ.1 15 x8.toNatClampNeg) := by rw [e8]; exact wr4 _ h7'
    have g8 : 0 ≤ x8.toInt ∧ x8.toInt < 576 := by omega
    have k198 : ∀ (t : ST) (L1 : Nat → Nat), GR L0 σ0 L1 t → (t.1 0 57).toInt = (σ0.1 0 57).toInt + 1 → OK (f_X11_readsRecord_198 rd ri rr k43 w u dp v x5 x6 x7 t) (RK L0 σ0 False) := fun t L1 gt et => by
      unfold f_X11_readsRecord_198
      obtain ⟨gl, el⟩ := gt.2.1.leaves (by omega)
      exact hk _ L1 (gt.trans gl) (by omega)
    have k171 : OK (f_X11_readsRecord_171 rd ri rr k43 w u dp v x5 x6 x7 x8 x10 σ) (RK L0 σ0 False) := by
      unfold f_X11_readsRecord_171
      refine OK.ieq (fun _ => ?_) (fun _ => k198 σ LV g e57)
      refine OK.grd g8 ?_
      refine OK.bnd (hrd _ (-1) (dp + 1) (-1) 0 σ LV 4 hG hby (by omega) (.inl (by omega)) (by omega) (fun h => by omega) ⟨by omega, by omega⟩ (by omega)) (fun q hq => ?_)
      obtain ⟨L2, gq, hv⟩ := hq
      refine OK.ieq (fun h0 => ?_) (fun h0 => ?_)
      · rcases hv with hv | hv
        · exact RK.no (g.trans gq) (by omega) (by omega)
        · omega
      · exact k198 _ L2 (g.trans gq) (by omega)
    refine OK.ilt (fun _ => k171) (fun hu => ?_)
    have r' := hBs.rr (by omega)
    have rr1 : rrec σ (σ.1 3 u.toNatClampNeg) := r'.1
    have rr2 := r'.2.1
    have rr3 : bI (σ.1 11 x6.toNatClampNeg) 0 8 := r'.2.2.1
    have rr4 : ∀ k : Nat, (k : Int) < (σ.1 11 x6.toNatClampNeg).toInt → VS σ (rmR σ) 4 (σ.1 15 (8 * x6.toNatClampNeg + k)) := r'.2.2.2.1
    have rr6 : NV LV σ dp v := r'.2.2.2.2.2.1
    have rr7 : x6.toNatClampNeg = 6 * (σ.1 0 54).toNatClampNeg + (σ.1 3 u.toNatClampNeg).toNatClampNeg := r'.2.2.2.2.2.2.1
    have rr8 : x6.toInt = 6 * (σ.1 0 54).toInt + (σ.1 3 u.toNatClampNeg).toInt := r'.2.2.2.2.2.2.2
    have rr5 : HO σ (σ.1 3 w.toNatClampNeg) (σ.1 3 u.toNatClampNeg) := by
      have hp := hBs.2.2.1
      rcases hp with hp | ⟨_, ⟨e, a1, a2, a3, a4⟩, _⟩
      · omega
      · have a4 : ¬ σ.1 35 (6 * (σ.1 3 w.toNatClampNeg).toNatClampNeg + (σ.1 3 u.toNatClampNeg).toNatClampNeg) = 0 := a4
        obtain ⟨b1, b2, b3, b4⟩ := hG.1.1.w
        have q1 : (σ.1 3 w.toNatClampNeg).toInt < rmW σ := wr1.2
        have q2 : (σ.1 3 u.toNatClampNeg).toInt < rmR σ := rr1.2
        exact hG.1.2.2 _ _ wr1.1 (by omega) rr1.1 (by omega) a4
    have rr31 := rr3.1
    have rr32 := rr3.2
    have n6 := nN_ rr2.1
    have n11 := nN_ h11.1
    have a11 := il_addE (x := x11) (y := 1) (by omega) (by omega)
    have b1 := mlE (k := 8) (y := x6) 8 li_8 (by omega) (by omega)
    have b2 := il_addE (x := 8 * x6) (y := x11) (by omega) (by omega)
    have ef : (8 * x6 + x11).toNatClampNeg = 8 * x6.toNatClampNeg + x11.toNatClampNeg := nC (by omega)
    refine OK.grd ⟨by omega, by omega⟩ ?_
    refine OK.ile (fun _ => k171) (fun h => ?_)
    refine OK.grd hB0.2.1.1.rng ?_
    obtain ⟨⟨y, s⟩, ey, es, hy⟩ := hG.1.1.ff wr1 (f := 8 * x6 + x11) (by omega)
    have es : s = σ := es
    subst es
    rw [ey]
    show OK (if y = x8 then _ else _) _
    unfold f_X11_readsRecord_165
    refine OK.ite (fun hyx => ?_) (fun _ => ih x10 (x11 + 1) s LV g e57 (by omega))
    refine OK.grd g8 ?_
    refine OK.grd ⟨by omega, by omega⟩ ?_
    have hm : MS s (s.1 15 x8.toNatClampNeg) (s.1 15 (8 * x6 + x11).toNatClampNeg) := by
      rw [← hyx]
      exact rr5 x11.toNatClampNeg (8 * x6 + x11) y (by rw [← rr7]; omega) (by omega) ey (by rw [hyx]; omega)
    have hf : VS s (rmR s) 4 (s.1 15 (8 * x6 + x11).toNatClampNeg) := by rw [ef]; exact rr4 _ (by omega)
    have e65 : (s.1 0 65).toInt = (σ0.1 0 65).toInt := by rw [g.1.2.1 65 (by decide)]
    have gp : GR LV s LV (stI s 0 64 x9) := GR.small hG (C := []) (I := [64]) (CH.rf.o (by decide)) (by decide) (by decide) ⟨by
      obtain ⟨⟨q1, q2, q3, q4⟩, q5, q6⟩ := hG.2.1
      show 0 ≤ (s.1 0 63).toInt ∧ 0 ≤ x9.toInt ∧ x9.toInt ≤ (s.1 0 65).toInt ∧ (s.1 0 63).toInt + (s.1 0 65).toInt ≤ 1600
      omega, hG.2.1.2.1, hG.2.1.2.2⟩
    have r1 := hf.rng
    refine OK.bnd (hrd (s.1 15 x8.toNatClampNeg) (s.1 15 (8 * x6 + x11).toNatClampNeg) (dp + 1) v x11 (stI s 0 64 x9) LV 4 gp.2.1 hby (by omega) (.inr ⟨r1.1, 4, by omega, hf, hm⟩) (by omega) (fun _ => .inr ⟨rr6.1, by have := rr6.2.1; omega, rr6.2.2⟩) ⟨by show 0 ≤ (s.1 0 57).toInt; omega, by show (s.1 0 57).toInt + _ ≤ _; omega⟩ (by omega)) (fun q hq => ?_)
    obtain ⟨L2, gq, hv⟩ := hq
    have e57' : ((stI s 0 64 x9).1 0 57).toInt = (s.1 0 57).toInt := rfl
    refine OK.ieq (fun h0 => ?_) (fun h0 => ?_)
    · rcases hv with hv | hv
      · exact RK.no ((g.trans gp).trans gq) (by omega) (by omega)
      · omega
    · exact ih _ (x11 + 1) _ L2 ((g.trans gp).trans gq) (by omega) (by omega)
theorem b_rec_43 {N : Nat} {rd : Int32 → Int32 → Int32 → Int32 → Int32 → ST → Option (Int32 × ST)} {ri rr : Int32 → Int32 → Int32 → Int32 → ST → Option (Int32 × ST)} (hrd : cReads N rd) (w u dp v x5 x6 : Int32) (d : Nat) (hN : 6 * (32 - dp.toInt) + d ≤ (N : Int) + 2) : ∀ (n : Nat) (x7 : Int32) (σ : ST) (LV : Nat → Nat), RB LV σ w u dp v x5 x6 d → (0 ≤ x7.toInt ∧ x7.toInt ≤ 8 ∧ (8 : Int) - x7.toInt < n) → OK (f_X11_readsRecord_43 rd ri rr n w u dp v x5 x6 x7 σ) (RK LV σ False) := by
  intro n
  induction n with
  | zero => intro x7 σ LV h1 h2; omega
  | succ n ih =>
    intro x7 σ LV hB h7
    rw [f_X11_readsRecord_43]
    have lt_0 := li_0
    have lt_1 := li_1
    have lt_8 := li_8
    have lu := FUi
    have hG := hB.1
    obtain ⟨w1, w2, w3, w4⟩ := hB.wr
    have w31 := w3.1
    have w32 := w3.2
    have a7 := il_addE (x := x7) (y := 1) (by omega) (by omega)
    have b1 := mlE (k := 8) (y := x5) 8 li_8 (by omega) (by omega)
    have b2 := il_addE (x := 8 * x5) (y := x7) (by omega) (by omega)
    have s1 := hB.2.2.2.2.1
    have s2 := hB.2.2.2.2.2
    have hdp := hB.2.2.2.1
    refine OK.grd ⟨by omega, by omega⟩ ?_
    refine OK.ile (fun _ => b_rec_217 w u dp v x5 x6 d FU 0 σ LV hB (by omega)) (fun h => ?_)
    refine OK.bnd (hG.enters ⟨s1, by omega⟩ _) (fun t ht => ?_)
    obtain ⟨g, e57⟩ := ht
    obtain ⟨⟨q1, q2, q3, q4⟩, q5, q6⟩ := hG.2.1
    refine b_rec_83 hrd w u dp v x5 x6 x7 _ _ d σ LV hB (by omega) (by omega) ⟨q2, q3⟩ hN (fun t' L1 gt et => ?_) FU 0 0 t LV g e57 (by omega)
    exact RK.up gt et (fun h => h.elim) (ih (x7 + 1) t' L1 (hB.gr gt et) (by omega))
theorem b_rec_top {N : Nat} {rd : Int32 → Int32 → Int32 → Int32 → Int32 → ST → Option (Int32 × ST)} {ri rr : Int32 → Int32 → Int32 → Int32 → ST → Option (Int32 × ST)} (hrd : cReads N rd) : cRecd (N + 1) (f_X11_readsRecord rd ri rr) := by
  intro w u dp v σ LV d hG hw hd4 hs7 hu hdp hs hN
  unfold f_X11_readsRecord f_X11_readsRecord_38
  have lt_0 := li_0
  have lt_6 := li_6
  have lu := FUi
  obtain ⟨b1, b2, b3, b4⟩ := hG.1.1.w
  have b11 := b1.1
  have b12 := b1.2
  have b21 := b2.1
  have b22 := b2.2
  have wr := hw.rcd hs7
  have a1 := mlE (k := 6) (y := σ.1 0 53) 6 li_6 (by omega) (by omega)
  have a2 := il_addE (x := 6 * σ.1 0 53) (y := σ.1 3 w.toNatClampNeg) (by omega) (by omega)
  refine OK.grd hw.rng ?_
  rcases hu with hu | ⟨h0, ⟨e, e1, e2, e3, e4⟩, hv⟩
  · refine OK.ile (fun h => by omega) (fun _ => ?_)
    exact b_rec_43 hrd w u dp v _ _ d (by omega) FU 0 σ LV ⟨hG, ⟨hw, hd4, hs7, by omega⟩, .inl hu, hdp, hs⟩ (by omega)
  · refine OK.ile (fun _ => ?_) (fun h => by omega)
    refine OK.grd e2.rng ?_
    have rr := e2.rcd e3
    have a3 := mlE (k := 6) (y := σ.1 0 54) 6 li_6 (by omega) (by omega)
    have a4 := il_addE (x := 6 * σ.1 0 54) (y := σ.1 3 u.toNatClampNeg) (by omega) (by omega)
    exact b_rec_43 hrd w u dp v _ _ d (by omega) FU 0 σ LV ⟨hG, ⟨hw, hd4, hs7, by omega⟩, .inr ⟨h0, ⟨e, e1, e2, e3, e4⟩, hv, by omega⟩, hdp, hs⟩ (by omega)
theorem b_RR : ∀ N : Nat, cReads N (R_X11_reads N).1 ∧ cItems N (R_X11_reads N).2.1 ∧ cRecd N (R_X11_reads N).2.2 := by
  intro N
  induction N with
  | zero =>
    refine ⟨?_, ?_, ?_⟩
    · intro w r dp p x σ LV d hG hw hd4 hr hdp hpo hs hN
      omega
    · intro w u dp v σ LV d hG hw hd4 hs6 hu hdp hs hN
      omega
    · intro w u dp v σ LV d hG hw hd4 hs6 hu hdp hs hN
      omega
  | succ N ih => exact ⟨b_reads_top ih.1 ih.2.1 ih.2.2, b_items_top ih.1, b_rec_top ih.1⟩
