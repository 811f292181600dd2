/-! the reference: what a whole reading does -/
theorem d2 {x : Int32} (h0 : 0 ≤ x.toInt) : (x / 2).toInt = x.toInt / 2 := by
  have l2 : (2 : Int32).toInt = 2 := by decide
  rw [Int32.toInt_div_of_ne_right _ _ (by decide), l2, Int.tdiv_eq_ediv_of_nonneg h0]
abbrev OC : List Nat := [50, 51]
def cOrders (ρ : ST) (LV : Nat → Nat) (N : Nat) (ro : Int32 → ST → Option ST) : Prop := ∀ (v : Int32) (σ : ST) (d : Nat), CH OC [88] ρ σ → (0 ≤ v.toInt ∧ v.toInt < (ρ.1 0 46).toInt) → d + LV v.toNatClampNeg = 32 → 0 ≤ (σ.1 0 88).toInt → (σ.1 0 88).toInt + (Wt (wS ρ) (tP ρ) d v.toNatClampNeg : Nat) ≤ 400 → d ≤ N → OK (ro v σ) (RZ OC [88] ρ fun t => (σ.1 0 88).toInt ≤ (t.1 0 88).toInt ∧ (t.1 0 88).toInt ≤ (σ.1 0 88).toInt + (Wt (wS ρ) (tP ρ) d v.toNatClampNeg : Nat))
theorem b_orders_136 {ρ : ST} {LV : Nat → Nat} {N : Nat} {ro : Int32 → ST → Option ST} (hN : NL LV ρ) (ht : cOrders ρ LV N ro) {r d : Nat} (hd : d + LV r = 31) (hdN : d ≤ N) : ∀ (n : Nat) (x3 : Int32) (σ : ST), CH OC [88] ρ σ → isC ρ r x3 → 0 ≤ (σ.1 0 88).toInt → (σ.1 0 88).toInt + (lft ρ d r x3 : Nat) ≤ 400 → msx ρ x3 < n → OK (f_X11_orders_136 ro n x3 σ) (RZ OC [88] ρ fun t => (σ.1 0 88).toInt ≤ (t.1 0 88).toInt ∧ (t.1 0 88).toInt ≤ (σ.1 0 88).toInt + (lft ρ d r x3 : Nat)) := by
  intro n
  induction n with
  | zero => intro x3 σ h1 h2 h3 h4 h5; omega
  | succ n ih =>
    intro x3 σ c hx h0 hb hn
    rw [f_X11_orders_136]
    have lt_0 := li_0
    refine OK.ilt (fun _ => OK.zret c ⟨by omega, by omega⟩) (fun h => ?_)
    obtain ⟨x1, x3', x5⟩ := hN.child hx (by omega)
    obtain ⟨a1, a2⟩ := hN.1.next hx (by omega)
    have a3 := hN.1.nextW (d := d) hx (by omega)
    have h46 := hN.1.1.2
    refine OK.bndZ (ht x3 σ d c x1 (by omega) h0 (by omega) hdN) (fun t ct htt => ?_)
    refine OK.grd ⟨by omega, by omega⟩ ?_
    rw [ct.1 30 (by decide) (by decide)]
    refine OK.mono (ih _ t ct a1 (by omega) (by omega) (by omega)) (fun q hq => ?_)
    exact ⟨hq.1, by have := hq.2.1; omega, by have := hq.2.2; omega⟩
theorem b_orders_top {ρ : ST} {LV : Nat → Nat} {N : Nat} {ro : Int32 → ST → Option ST} (hN : NL LV ρ) (h400 : (ρ.1 0 46).toInt ≤ 400) (ht : cOrders ρ LV N ro) : cOrders ρ LV (N + 1) (f_X11_orders ro) := by
  intro v σ d c hv hd h0 hb hdN
  unfold f_X11_orders
  have lt_0 := li_0
  have lt_1 := li_1
  have lt_2 := li_2
  have lt_3 := li_3
  have lt_4 := li_4
  have lu := FUi
  have gv4 : 0 ≤ v.toInt ∧ v.toInt < 400 := by omega
  have gv : 0 ≤ v.toInt ∧ v.toInt < 4096 := by omega
  have nv := nN_ hv.1
  have hl := hN.2.1 v.toNatClampNeg (by omega)
  obtain ⟨d', rfl⟩ : ∃ d', d = d' + 1 := ⟨d - 1, by omega⟩
  have f1 := TO.firstW (ρ := ρ) (d := d') (r := v.toNatClampNeg)
  have o1 := il_addE (x := σ.1 0 88) (y := 1) (by omega) (by omega)
  have o2 := mlE (k := 4) (y := σ.1 0 88) 4 li_4 (by omega) (by omega)
  have o3 := il_addE (x := 4 * σ.1 0 88) (y := 1) (by omega) (by omega)
  have o4 := il_addE (x := 4 * σ.1 0 88) (y := 2) (by omega) (by omega)
  have o5 := il_addE (x := 4 * σ.1 0 88) (y := 3) (by omega) (by omega)
  have o6 := d2 (x := 4 * σ.1 0 88) (by omega)
  have o7 := il_addE (x := 4 * σ.1 0 88 / 2) (y := 1) (by omega) (by omega)
  have e88 : (stI σ 50 v.toNatClampNeg (σ.1 0 88)).1 0 88 = σ.1 0 88 := rfl
  rw [e88]
  refine OK.grd gv4 ?_
  refine OK.lt (fun z2 hz2 => ?_)
  refine OK.grd gv ?_
  refine OK.grd ⟨by omega, by omega⟩ ?_
  refine OK.lt (fun z5 hz5 => ?_)
  have c5 : CH OC [88] ρ z5 := by rw [hz5, hz2]; exact ((c.i (by decide) (by decide)).o (by decide)).i (by decide) (by decide)
  have e5 : (z5.1 0 88).toInt = (σ.1 0 88).toInt + 1 := by rw [hz5, hz2]; show (σ.1 0 88 + 1).toInt = _; omega
  have k70 : ∀ (y0 : Int32), OK (f_X11_orders_70 ro v (4 * σ.1 0 88) y0 (4 * σ.1 0 88 + 1) z5) (RZ OC [88] ρ fun t => (σ.1 0 88).toInt ≤ (t.1 0 88).toInt ∧ (t.1 0 88).toInt ≤ (σ.1 0 88).toInt + (Wt (wS ρ) (tP ρ) (d' + 1) v.toNatClampNeg : Nat)) := fun y0 => by
    unfold f_X11_orders_70
    refine OK.grd ⟨by omega, by omega⟩ ?_
    refine OK.grd gv ?_
    refine OK.grd ⟨by omega, by omega⟩ ?_
    refine OK.lt (fun z4 hz4 => ?_)
    refine OK.grd ⟨by omega, by omega⟩ ?_
    refine OK.grd ⟨by omega, by omega⟩ ?_
    refine OK.lt (fun z7 hz7 => ?_)
    refine OK.grd ⟨by omega, by omega⟩ ?_
    refine OK.lt (fun x9 hx9 => ?_)
    have c9 : CH OC [88] ρ (stL z7 52 (4 * σ.1 0 88 / 2 + 1).toNatClampNeg (z7.2.1 22 v.toNatClampNeg)) := by
      rw [hz7, hz4]
      exact ((((c5.i (by decide) (by decide)).i (by decide) (by decide)).i (by decide) (by decide)).l (by decide) (by decide) (by decide) (by decide) (by decide)).l (by decide) (by decide) (by decide) (by decide) (by decide)
    have e9 : ((stL z7 52 (4 * σ.1 0 88 / 2 + 1).toNatClampNeg (z7.2.1 22 v.toNatClampNeg)).1 0 88).toInt = (σ.1 0 88).toInt + 1 := by
      rw [hz7, hz4]
      exact e5
    have e28 : x9 = ρ.1 28 v.toNatClampNeg := by
      rw [hx9]
      show (stL z7 52 (4 * σ.1 0 88 / 2 + 1).toNatClampNeg (z7.2.1 22 v.toNatClampNeg)).1 28 v.toNatClampNeg = _
      rw [c9.1 28 (by decide) (by decide)]
    generalize stL z7 52 (4 * σ.1 0 88 / 2 + 1).toNatClampNeg (z7.2.1 22 v.toNatClampNeg) = t at c9 e9 ⊢
    have m := msx_le hN.1 (x := ρ.1 28 v.toNatClampNeg)
    rw [e28]
    refine OK.mono (b_orders_136 hN ht (r := v.toNatClampNeg) (d := d') (by omega) (by omega) FU _ t c9 (hN.1.first (by omega)) (by omega) (by omega) (by omega)) (fun q hq => ?_)
    exact ⟨hq.1, by have := hq.2.1; omega, by have := hq.2.2; omega⟩
  refine OK.ile (fun hp => ?_) (fun _ => k70 _)
  refine OK.grd ?_ (k70 _)
  rw [c5.1 24 (by decide) (by decide)] at hp ⊢
  have hp : 0 ≤ tP ρ v.toNatClampNeg := by show 0 ≤ (ρ.1 24 v.toNatClampNeg).toInt; omega
  rcases hl.2 with h9 | h9
  · omega
  · have h10 : (ρ.1 24 v.toNatClampNeg).toInt < v.toNatClampNeg := h9.1.2
    exact ⟨h9.1.1, by omega⟩
theorem b_RO {ρ : ST} {LV : Nat → Nat} (hN : NL LV ρ) (h400 : (ρ.1 0 46).toInt ≤ 400) : ∀ N : Nat, cOrders ρ LV N (R_X11_orders N) := by
  intro N
  induction N with
  | zero =>
    intro v σ d c hv hd h0 hb hdN
    have nv := nN_ hv.1
    have := (hN.2.1 v.toNatClampNeg (by omega)).1
    omega
  | succ N ih => exact b_orders_top hN h400 ih
theorem b_orders (σ : ST) {LV : Nat → Nat} (hN : NL LV σ) (h0 : 0 < (σ.1 0 46).toInt) (h400 : (σ.1 0 46).toInt ≤ 400) : OK (f_T_X11_orders 0 (stI σ 0 88 0)) (RZ OC [88] σ fun t => bI (t.1 0 88) 0 400) := by
  have lt_0 := li_0
  have lr := FRi
  have n0 : (0 : Int32).toNatClampNeg = 0 := by decide
  have e88 : ((stI σ 0 88 0).1 0 88).toInt = 0 := li_0
  obtain ⟨w1, w2⟩ := hN.wt h0
  refine OK.mono (b_RO hN h400 FRB 0 (stI σ 0 88 0) 32 (CH.rf.o (by decide)) ⟨by omega, by omega⟩ (by rw [n0]; omega) (by omega) (by rw [n0]; omega) (by omega)) (fun q hq => ?_)
  obtain ⟨q1, q2, q3⟩ := hq
  rw [n0] at q3
  exact ⟨q1, ⟨by omega, by omega⟩⟩
theorem b_becomes_19 : ∀ (n : Nat) (x1 x3 : Int32) (σ : ST), bI (σ.1 0 48) 0 400 → (0 ≤ x1.toInt ∧ x1.toInt < 4) → (0 ≤ x3.toInt ∧ x3.toInt ≤ 400 ∧ (400 : Int) - x3.toInt < n) → OK (f_X11_becomes_19 n x1 x3 σ) (RZ [34] [] σ fun _ => True) := by
  intro n
  induction n with
  | zero => intro x1 x3 σ h1 h2 h3; omega
  | succ n ih =>
    intro x1 x3 σ h1 h2 h3
    rw [f_X11_becomes_19]
    have h1' := h1
    obtain ⟨a1, a2⟩ := h1
    have lt_1 := li_1
    have lt_400 := li_400
    have e1 := il_addE (x := x3) (y := 1) (by omega) (by omega)
    have e2 := mlE (k := 400) (y := x1) 400 li_400 (by omega) (by omega)
    have e3 := il_addE (x := 400 * x1) (y := x3) (by omega) (by omega)
    refine OK.ile (fun _ => OK.zret CH.rf trivial) (fun h => ?_)
    refine OK.grd ⟨by omega, by omega⟩ ?_
    refine OK.grd ⟨by omega, by omega⟩ ?_
    exact OK.trZ (ih x1 (x3 + 1) _ h1' h2 (by omega)) (CH.rf.i (by decide) (by decide)) (fun _ h => h) (fun _ h => h) (fun _ _ h => h)
theorem b_becomes (p0 p1 : Int32) (σ : ST) (h1 : bI (σ.1 0 48) 0 400) (h2 : 0 ≤ p0.toInt ∧ p0.toInt < 4) : OK (f_X11_becomes p0 p1 σ) (RZ [32, 33, 34] [] σ fun t => t.1 32 = upd (σ.1 32) p0.toNatClampNeg p1 ∧ t.1 33 = upd (σ.1 33) p0.toNatClampNeg (σ.1 0 48)) := by
  unfold f_X11_becomes
  have lt_0 := li_0
  have lu := FUi
  refine OK.grd h2 ?_
  refine OK.lt (fun z hz => ?_)
  have c : CH [32, 33, 34] [] σ z := by rw [hz]; exact (CH.rf.i (by decide) (by decide)).i (by decide) (by decide)
  have e48 : z.1 0 48 = σ.1 0 48 := by rw [hz]; rfl
  have e32 : z.1 32 = upd (σ.1 32) p0.toNatClampNeg p1 := by rw [hz]; rfl
  have e33 : z.1 33 = upd (σ.1 33) p0.toNatClampNeg (σ.1 0 48) := by rw [hz]; rfl
  refine OK.trZ (b_becomes_19 FU p0 0 z (by rw [e48]; exact h1) h2 (by omega)) c (by decide) (fun _ h => h) (fun t ct _ => ⟨?_, ?_⟩)
  · rw [ct.1 32 (by decide) (by decide)]; exact e32
  · rw [ct.1 33 (by decide) (by decide)]; exact e33
theorem b_uses_105 : ∀ (n : Nat) (x1 x3 : Int32) (σ : ST), (-1 ≤ x3.toInt ∧ x3.toInt < 4 ∧ x3.toInt + 1 < n) → OK (f_X11_uses_105 n x1 x3 σ) (RZ [55] [] σ fun _ => True) := by
  intro n
  induction n with
  | zero => intro x1 x3 σ h; omega
  | succ n ih =>
    intro x1 x3 σ h
    rw [f_X11_uses_105]
    have lt_0 := li_0
    have lt_1 := li_1
    have lm := li_m1
    refine OK.ile (fun _ => OK.zret (CH.rf.i (by decide) (by decide)) trivial) (fun h0 => ?_)
    have e1 := il_subE (x := x3) (y := 1) (by omega) (by omega)
    have e2 := il_addE (x := x3) (y := -1) (by omega) (by omega)
    refine OK.grd ⟨by omega, by omega⟩ ?_
    refine OK.grd ⟨by omega, by omega⟩ ?_
    exact OK.trZ (ih x1 (x3 + (-1)) _ (by omega)) (CH.rf.i (by decide) (by decide)) (fun _ h => h) (fun _ h => h) (fun _ _ h => h)
abbrev UIs : List Nat := [92, 93, 94]
theorem b_uses_4 : ∀ (n : Nat) (x1 x2 x3 : Int32) (σ : ST), bI (σ.1 0 92) 0 4 → (-1 ≤ x2.toInt ∧ x2.toInt < 4) → (0 ≤ x3.toInt ∧ x3.toInt ≤ 4 ∧ (4 : Int) - x3.toInt < n) → OK (f_X11_uses_4 n x1 x2 x3 σ) (RZ [55] UIs σ fun t => bI (t.1 0 92) 0 4) := by
  intro n
  induction n with
  | zero => intro x1 x2 x3 σ h1 h2 h3; omega
  | succ n ih =>
    intro x1 x2 x3 σ h1 h2 h3
    rw [f_X11_uses_4]
    have h1' := h1
    obtain ⟨a1, a2⟩ := h1
    have lt_0 := li_0
    have lt_1 := li_1
    have lt_4 := li_4
    have lu := FUi
    have e1 := il_addE (x := x3) (y := 1) (by omega) (by omega)
    have k103 : ∀ (y : Int32) (s : ST), CH [55] UIs σ s → bI (s.1 0 92) 0 4 → (-1 ≤ y.toInt ∧ y.toInt < 4) → OK (f_X11_uses_103 x1 y s) (RZ [55] UIs σ fun t => bI (t.1 0 92) 0 4) := fun y s cs hs hy => by
      unfold f_X11_uses_103
      refine OK.trZ (b_uses_105 FU x1 y s (by omega)) cs (fun _ h => h) (fun _ h => by cases h) (fun t ct _ => ?_)
      rw [ct.2.1 92 (by decide)]; exact hs
    have k93 : ∀ (y : Int32) (s : ST), CH [55] UIs σ s → (0 ≤ y.toInt ∧ y.toInt ≤ 4) → OK (f_X11_uses_93 x1 y s) (RZ [55] UIs σ fun t => bI (t.1 0 92) 0 4) := fun y s cs hy => by
      unfold f_X11_uses_93
      have e2 := il_subE (x := y) (y := 1) (by omega) (by omega)
      exact k103 (y - 1) (stI s 0 92 y) (cs.o (by decide)) hy (by omega)
    have k66 : ∀ (y0 y1 : Int32) (s : ST), CH [55] UIs σ s → bI (s.1 0 92) 0 4 → OK (f_X11_uses_66 x1 x2 y0 y1 s) (RZ [55] UIs σ fun t => bI (t.1 0 92) 0 4) := fun y0 y1 s cs hs => by
      unfold f_X11_uses_66
      have hs' := hs
      obtain ⟨s1, s2⟩ := hs
      have e3 := il_addE (x := s.1 0 92) (y := 1) (by omega) (by omega)
      refine OK.ile (fun _ => k103 _ _ (cs.o (by decide)) hs' h2) (fun _ => ?_)
      refine OK.ile (fun _ => k93 _ _ (cs.o (by decide)) (by omega)) (fun h9 => ?_)
      have h9 : (s.1 0 92).toInt < (4 : Int32).toInt := h9
      exact k93 (s.1 0 92 + 1) _ (cs.o (by decide)) (by omega)
    have k48 : ∀ (y0 y1 : Int32), OK (f_X11_uses_48 x1 x2 y0 y1 σ) (RZ [55] UIs σ fun t => bI (t.1 0 92) 0 4) := fun y0 y1 => by
      unfold f_X11_uses_48
      exact OK.ile (fun _ => k66 _ _ _ (CH.rf.o (by decide)) h1') (fun _ => k66 _ _ _ (CH.rf.o (by decide)) h1')
    refine OK.ile (fun _ => OK.ilt (fun _ => k48 _ _) (fun _ => k48 _ _)) (fun h => ?_)
    refine OK.grd ⟨by omega, by omega⟩ ?_
    unfold f_X11_uses_27
    exact OK.ieq (fun _ => ih _ _ _ _ h1' (by omega) (by omega)) (fun _ => ih _ _ _ _ h1' h2 (by omega))
theorem b_uses (p0 : Int32) (σ : ST) (h : bI (σ.1 0 92) 0 4) : OK (f_X11_uses p0 σ) (RZ [55] UIs σ fun t => bI (t.1 0 92) 0 4) := by
  have lt_0 := li_0
  have lm := li_m1
  have lu := FUi
  exact b_uses_4 FU p0 (-1) 0 σ h (by omega) (by omega)
/-- the root's type is laid: nothing else is another one -/
theorem PLs.root {σ : ST} (h : PLs σ) : PLs (stI (stI σ 2 799 7) 3 799 0) := by
  obtain ⟨h1, h2, h3⟩ := h
  refine ⟨h1, fun p hp => ?_, h3⟩
  obtain ⟨a1, a2⟩ := h2 p hp
  refine ⟨a1, fun k hk => ⟨(a2 k hk).1, fun j hj => ?_⟩⟩
  exact VT.put (i := 799) (by decide) ((a2 k hk).2 j hj)
theorem PP.root {σ : ST} (h : PP σ) : PP (stI (stI σ 2 799 7) 3 799 0) := by
  have hM : ME (stI (stI σ 2 799 7) 3 799 0) := ⟨h.1.1.root, h.1.2.1, h.1.2.2⟩
  refine ⟨hM, h.2.1, ?_⟩
  intro w r a1 a2 a3 a4 a5 k f v k1 k2 k3 k4
  have k3' := ff_tr (σ := stI (stI σ 2 799 7) 3 799 0) (τ := σ) rfl rfl rfl rfl w f v k3
  have m := h.2.2 w r a1 a2 a3 a4 a5 k f v k1 k2 k3' k4
  have n1 := nN_ a1
  have n2 := nN_ a3
  have pc := h.2.1 (6 * w.toNatClampNeg + r.toNatClampNeg) (by omega) a5
  have hw : wrec σ w := wrec_i a1 (by omega)
  have hr : rrec σ r := rrec_i a3 (by omega)
  obtain ⟨b1, b2, b3, b4⟩ := h.1.w
  have r2 : r.toInt < rmR σ := hr.2
  have b21 := b2.1
  have b22 := b2.2
  obtain ⟨f1, f2⟩ := h.1.rf4 hr
  have f12 := f1.2
  have k1' : (k : Int) < (σ.1 11 (6 * (σ.1 0 54).toNatClampNeg + r.toNatClampNeg)).toInt := k1
  have k2' : f.toInt = 8 * (6 * (σ.1 0 54).toInt + r.toInt) + k := k2
  have n3 := nN_ b21
  have ef : f.toNatClampNeg = 8 * (6 * (σ.1 0 54).toNatClampNeg + r.toNatClampNeg) + k := nC (by omega)
  have hf := f2 k k1'
  rw [← ef] at hf
  obtain ⟨⟨v', s⟩, e1, e2, e3⟩ := h.1.ff4 hw (f := f) (by omega)
  rw [k3'] at e1
  have ev : v = v' := (Prod.mk.inj (Option.some.inj e1)).1
  rw [← ev] at e3
  have e3 : v.toInt = -1 ∨ (0 ≤ v.toInt ∧ v.toInt < 576) ∧ VC σ (rmW σ) 4 (σ.1 15 v.toNatClampNeg) := e3
  rcases e3 with e3 | e3
  · omega
  · obtain ⟨n, hn⟩ := m
    exact ⟨n, MT.put (i := 799) (by decide) e3.2 hf hn⟩
theorem NL.nil {LV : Nat → Nat} {σ : ST} (h : σ.1 0 46 = 0) : NL LV σ := by
  have e : (σ.1 0 46).toInt = 0 := by rw [h]; exact li_0
  refine ⟨⟨⟨by omega, by omega⟩, fun r hr => by omega, fun r hr => by omega⟩, fun r hr => by omega, fun r hr => by omega⟩
abbrev AC : List Nat := [2, 3, 20, 23, 24, 25, 26, 27, 28, 29, 30, 35, 36, 41]
abbrev AI : List Nat := [46, 53, 54, 57, 63, 64, 65, 66, 67, 68, 72]
/-- what a reading ends with: a tree, if it was read -/
def RA (q : Int32 × ST) : Prop := PLs q.2 ∧ PB q.2 ∧ bI (q.2.1 0 68) 0 256 ∧ (q.1.toInt = -2 ∨ q.1.toInt = -3 ∨ q.1.toInt = 0 ∧ ∃ LV, NL LV q.2 ∧ (0 < (q.2.1 0 46).toInt ∧ (q.2.1 0 46).toInt ≤ 400))
theorem b_readsAll (m p : Int32) (σ : ST) (hP : PLs σ) (hB : PB σ) (h68 : bI (σ.1 0 68) 0 256) (h33 : ∀ i, bI (σ.1 33 i) 0 400) (hm : 0 ≤ m.toInt ∧ m.toInt < 4) (h0 : 0 ≤ (σ.1 32 m.toNatClampNeg).toInt ∧ (σ.1 32 m.toNatClampNeg).toInt < (σ.1 0 32).toInt) (h1 : 0 ≤ p.toInt ∧ p.toInt < (σ.1 0 32).toInt) : OK (f_X11_readsAll m p σ) (fun q => CH AC AI σ q.2 ∧ RA q) := by
  unfold f_X11_readsAll
  have lt_0 := li_0
  have lt_4 := li_4
  have lt_400 := li_400
  have lm := li_m1
  have lm2 := li_m2
  have lm3 := li_m3
  have lt_799 := li_799
  have lr := FRi
  have a1 := mlE (k := 400) (y := m) 400 li_400 (by omega) (by omega)
  refine OK.grd hm ?_
  refine OK.bndZ (b_laysPairs _ p σ hP hB h0 h1) (fun t c ht => ?_)
  obtain ⟨hPP, _, _⟩ := ht
  have c66 : CH AC AI σ (stI t 0 66 0) := (c.mono (by decide) (by decide)).o (by decide)
  have e68 : t.1 0 68 = σ.1 0 68 := c.2.1 68 (by decide)
  refine OK.ite (fun _ => ?_) (fun hne => ?_)
  · exact OK.ret ⟨c66, ⟨hPP.1.1.of rfl rfl rfl rfl rfl rfl rfl rfl rfl, hPP.1.2.2, by show bI (t.1 0 68) 0 256; rw [e68]; exact h68, .inl (by omega)⟩⟩
  refine OK.lt (fun z4 hz4 => ?_)
  unfold f_X11_rootType
  have n799 : (799 : Int32).toNatClampNeg = 799 := by decide
  have n0 : (0 : Int32).toNatClampNeg = 0 := by decide
  rw [n799]
  rw [n0] at hne
  refine OK.lt (fun q5 hq5 => ?_)
  subst hq5
  dsimp only
  have hPP1 : PP (stI (stI z4 0 57 0) 0 46 0) := by
    rw [hz4]
    exact hPP.ch (C := []) (I := [66, 63, 64, 65, 57, 46]) ((((((CH.rf.o (by decide)).o (by decide)).o (by decide)).o (by decide)).o (by decide)).o (by decide)) (by decide) (by decide)
  have c4 : CH AC AI σ (stI (stI (stI (stI z4 0 57 0) 0 46 0) 2 799 7) 3 799 0) := by
    rw [hz4]
    exact (((((((c66.o (by decide)).o (by decide)).o (by decide)).o (by decide)).o (by decide)).i (by decide) (by decide)).i (by decide) (by decide))
  have hRD : RD (stI (stI (stI (stI z4 0 57 0) 0 46 0) 2 799 7) 3 799 0) := by
    rw [hz4]
    have e33 : t.1 33 = σ.1 33 := c.1 33 (by decide) (by decide)
    have h9 := h33 m.toNatClampNeg
    refine ⟨?_, bz (by decide) (by decide), ?_⟩
    · show 0 ≤ (400 * m).toInt ∧ 0 ≤ (0 : Int32).toInt ∧ (0 : Int32).toInt ≤ (t.1 33 m.toNatClampNeg).toInt ∧ (400 * m).toInt + (t.1 33 m.toNatClampNeg).toInt ≤ 1600
      rw [e33]
      obtain ⟨h91, h92⟩ := h9
      omega
    · show bI (t.1 0 68) 0 256
      rw [e68]; exact h68
  have e46 : (stI (stI (stI (stI z4 0 57 0) 0 46 0) 2 799 7) 3 799 0).1 0 46 = 0 := rfl
  have e57 : (stI (stI (stI (stI z4 0 57 0) 0 46 0) 2 799 7) 3 799 0).1 0 57 = 0 := rfl
  have hPP2 := hPP1.root
  have hS : ((stI (stI (stI (stI z4 0 57 0) 0 46 0) 2 799 7) 3 799 0).1 2 799) = 7 := upd_at (f := (stI (stI z4 0 57 0) 0 46 0).1 2) (i := 799) (v := 7)
  have hA : ((stI (stI (stI (stI z4 0 57 0) 0 46 0) 2 799 7) 3 799 0).1 3 799) = 0 := upd_at (f := (stI (stI (stI z4 0 57 0) 0 46 0) 2 799 7).1 3) (i := 799) (v := 0)
  have hne2 : ¬ (stI (stI (stI (stI z4 0 57 0) 0 46 0) 2 799 7) 3 799 0).1 35 0 = 0 := by rw [hz4]; exact hne
  generalize stI (stI (stI (stI z4 0 57 0) 0 46 0) 2 799 7) 3 799 0 = s at c4 hRD e46 e57 hPP2 hS hA hne2 ⊢
  have e46' : (s.1 0 46).toInt = 0 := by rw [e46]; exact li_0
  have e57' : (s.1 0 57).toInt = 0 := by rw [e57]; exact li_0
  obtain ⟨b1, b2, b3, b4⟩ := hPP2.1.w
  have hG : GX (fun _ => 0) s := ⟨hPP2, hRD, NL.nil e46, by omega⟩
  have l7 : (7 : Int32).toInt = 7 := by decide
  have root : ∀ a : Int, 1 ≤ a → VS s a 1 799 := fun a ha => by
    refine ⟨⟨by omega, by omega⟩, ?_, ?_, ?_, ?_⟩
    · rw [n799, hS]; omega
    · rw [n799, hS]; intro h; omega
    · rw [n799, hA]; intro _; omega
    · rw [n799, hS]; intro h; omega
  have hMS : MS s 799 799 := by
    refine (MT.iffP (by rw [n799, hS]; exact l7) (by rw [n799, hS]; exact l7)).mpr ?_
    rw [n799, hA, n0]
    exact hne2
  refine OK.bnd ((b_RR FRB).1 799 799 0 (-1) 0 s (fun _ => 0) 1 hG (root _ b3.1) (by omega) (.inr ⟨by omega, 1, by omega, root _ b4.1, hMS⟩) ⟨by omega, by omega⟩ (fun _ => .inl ⟨by omega, by omega⟩) ⟨by omega, by omega⟩ (by omega)) (fun q hq => ?_)
  obtain ⟨LV, g, hv⟩ := hq
  have cq : CH AC AI σ q.2 := c4.trans (g.1.mono (by decide) (by decide))
  unfold f_X11_readsAll_106
  have fin : ∀ (x : Int32) (u : ST), (x.toInt = 0 ∨ x.toInt = 1 ∧ (s.1 0 46).toInt + 1 ≤ (u.1 0 46).toInt) → CH AC AI σ u → GX LV u → OK (if x = 0 then some ((-3 : Int32), u) else some (0, u)) (fun q => CH AC AI σ q.2 ∧ RA q) := fun x u hx cu hu => by
    refine OK.ieq (fun h => OK.ret ⟨cu, hu.1.1.1, hu.1.1.2.2, hu.2.1.2.2, .inr (.inl (by omega))⟩) (fun h => ?_)
    exact OK.ret ⟨cu, hu.1.1.1, hu.1.1.2.2, hu.2.1.2.2, .inr (.inr ⟨lt_0, LV, hu.2.2.1, (show 0 < (u.1 0 46).toInt by omega), hu.2.2.2⟩)⟩
  have hx0 : q.1.toInt = 0 ∨ q.1.toInt = 1 ∧ (s.1 0 46).toInt + 1 ≤ (q.2.1 0 46).toInt := by
    rcases hv with hv | hv
    · exact .inl hv.1
    · exact .inr ⟨hv.1, hv.2.2 (by omega)⟩
  refine OK.ieq (fun _ => fin _ _ hx0 cq g.2.1) (fun h => ?_)
  refine OK.ile (fun _ => fin _ _ hx0 cq g.2.1) (fun _ => ?_)
  refine OK.bndC (RD.fails g.2.1.2.1 CH.rf (C := [41]) (I := [66, 67, 68]) (by decide) (by decide) (by decide) (by decide)) (fun v t' ct' hq' => ?_)
  have g2 := g.trans (GR.small g.2.1 ct' (by decide) (by decide) hq'.2.1)
  exact fin _ _ (.inl hq'.1) (cq.trans (ct'.mono (by decide) (by decide))) g2.2.1
abbrev FC : List Nat := [2, 3, 20, 23, 24, 25, 26, 27, 28, 29, 30, 35, 36, 41, 42, 43, 44, 45, 46, 49, 55]
abbrev FI : List Nat := [46, 53, 54, 57, 63, 64, 65, 66, 67, 68, 72, 73, 81, 82, 83, 92, 93, 94]
def RF (q : Int32 × ST) : Prop := PLs q.2 ∧ PB q.2 ∧ bI (q.2.1 0 68) 0 256 ∧ bI (q.2.1 0 73) 0 400 ∧ bI (q.2.1 0 83) 0 256 ∧ bI (q.2.1 0 92) 0 4 ∧ TH q.2 ∧ (q.1.toInt < 0 ∨ q.1.toInt = 0 ∧ ∃ LV, NL LV q.2 ∧ (0 < (q.2.1 0 46).toInt ∧ (q.2.1 0 46).toInt ≤ 400))
theorem b_readsFor_54 (σ0 : ST) : ∀ (n : Nat) (x3 x4 : Int32) (σ : ST), CH FC FI σ0 σ → PLs σ → PB σ → bI (σ.1 0 68) 0 256 → σ.1 0 73 = 0 → bI (σ.1 0 83) 0 256 → bI (σ.1 0 92) 0 4 → TH σ → (x3.toInt < 0 ∨ x3.toInt = 0 ∧ ∃ LV, NL LV σ ∧ (0 < (σ.1 0 46).toInt ∧ (σ.1 0 46).toInt ≤ 400)) → (0 ≤ x4.toInt ∧ x4.toInt ≤ 256 ∧ (256 : Int) - x4.toInt < n) → OK (f_X11_readsFor_54 n x3 x4 σ) (fun q => CH FC FI σ0 q.2 ∧ RF q) := by
  intro n
  induction n with
  | zero => intro x3 x4 σ h1 h2 h3 h4 h5 h6 h7 h8 h9 h10; omega
  | succ n ih =>
    intro x3 x4 σ c hP hB h68 h73 h83 h92 hT hx h4
    rw [f_X11_readsFor_54]
    have lt_0 := li_0
    have lt_1 := li_1
    have e1 := il_addE (x := x4) (y := 1) (by omega) (by omega)
    have h682 := h68.2
    refine OK.ile (fun _ => ?_) (fun h => ?_)
    · refine OK.ieq (fun h3 => ?_) (fun h3 => ?_)
      · rcases hx with hx | ⟨hx, LV, hN, hs⟩
        · omega
        refine OK.bndZ (b_tells σ hN hs.1 hs.2 hT h73) (fun t ct ht => ?_)
        have c2 : CH FC FI σ0 t := c.trans (ct.mono (by decide) (by decide))
        refine OK.ret ⟨c2, hP.ch ct (by decide) (by decide), ?_, ?_, ht.2, ?_, ?_, ht.1, .inr ⟨hx, LV, hN.ch ct (by decide) (by decide), ?_⟩⟩
        · show PB t
          unfold PB
          rw [ct.1 35 (by decide) (by decide)]; exact hB
        · show bI (t.1 0 68) 0 256
          rw [ct.2.1 68 (by decide)]; exact h68
        · show bI (t.1 0 83) 0 256
          rw [ct.2.1 83 (by decide)]; exact h83
        · show bI (t.1 0 92) 0 4
          rw [ct.2.1 92 (by decide)]; exact h92
        · show 0 < (t.1 0 46).toInt ∧ (t.1 0 46).toInt ≤ 400
          rw [ct.2.1 46 (by decide)]; exact hs
      · refine OK.ret ⟨c, hP, hB, h68, ?_, h83, h92, hT, ?_⟩
        · show bI (σ.1 0 73) 0 400
          rw [h73]; exact bz (by decide) (by decide)
        · rcases hx with hx | hx
          · exact .inl hx
          · omega
    · refine OK.grd ⟨by omega, by omega⟩ ?_
      have c1 : CH [49] [] σ (stI σ 49 x4.toNatClampNeg (σ.1 41 x4.toNatClampNeg)) := CH.rf.i (by decide) (by decide)
      refine ih x3 (x4 + 1) _ (c.i (by decide) (by decide)) (hP.ch c1 (by decide) (by decide)) hB h68 h73 h83 h92 hT ?_ (by omega)
      rcases hx with hx | ⟨hx, LV, hN, hs⟩
      · exact .inl hx
      · exact .inr ⟨hx, LV, hN.ch c1 (by decide) (by decide), hs⟩
theorem b_readsFor (m p : Int32) (σ : ST) (hP : PLs σ) (hB : PB σ) (h68 : bI (σ.1 0 68) 0 256) (h33 : ∀ i, bI (σ.1 33 i) 0 400) (h92 : bI (σ.1 0 92) 0 4) (hT : TH σ) (hm : 0 ≤ m.toInt ∧ m.toInt < 4) (h0 : 0 ≤ (σ.1 32 m.toNatClampNeg).toInt ∧ (σ.1 32 m.toNatClampNeg).toInt < (σ.1 0 32).toInt) (h1 : 0 ≤ p.toInt ∧ p.toInt < (σ.1 0 32).toInt) : OK (f_X11_readsFor m p σ) (fun q => CH FC FI σ q.2 ∧ RF q) := by
  unfold f_X11_readsFor
  have lt_0 := li_0
  have lu := FUi
  refine OK.grd hm ?_
  refine OK.bndZ (b_uses _ σ h92) (fun t c ht => ?_)
  refine OK.bnd (b_readsAll m p t (hP.ch c (by decide) (by decide)) ?_ ?_ ?_ hm ?_ ?_) (fun q hq => ?_)
  · unfold PB
    rw [c.1 35 (by decide) (by decide)]; exact hB
  · rw [c.2.1 68 (by decide)]; exact h68
  · rw [c.1 33 (by decide) (by decide)]; exact h33
  · rw [c.1 32 (by decide) (by decide), c.2.1 32 (by decide)]; exact h0
  · rw [c.2.1 32 (by decide)]; exact h1
  obtain ⟨cq, hP2, hB2, h682, hv⟩ := hq
  refine OK.lt (fun z hz => ?_)
  have cz : CH [] [73, 81, 82, 83] q.2 (stI z 0 83 (z.1 0 68)) := by
    rw [hz]
    exact (((CH.rf.o (by decide)).o (by decide)).o (by decide)).o (by decide)
  have ez : z.1 0 68 = q.2.1 0 68 := by rw [hz]; rfl
  have e73 : (stI z 0 83 (z.1 0 68)).1 0 73 = 0 := by rw [hz]; rfl
  have e83 : (stI z 0 83 (z.1 0 68)).1 0 83 = q.2.1 0 68 := by
    show z.1 0 68 = _
    exact ez
  generalize stI z 0 83 (z.1 0 68) = s at cz e73 e83 ⊢
  have c1 : CH FC FI σ s := ((c.mono (by decide) (by decide)).trans (cq.mono (by decide) (by decide))).trans (cz.mono (by decide) (by decide))
  refine b_readsFor_54 σ FU q.1 0 s c1 (hP2.ch cz (by decide) (by decide)) ?_ ?_ e73 ?_ ?_ ?_ ?_ (by omega)
  · unfold PB
    rw [cz.1 35 (by decide) (by decide)]; exact hB2
  · rw [cz.2.1 68 (by decide)]; exact h682
  · rw [e83]; exact h682
  · rw [cz.2.1 92 (by decide), cq.2.1 92 (by decide)]; exact ht
  · unfold TH
    rw [cz.1 45 (by decide) (by decide), cq.1 45 (by decide) (by decide), c.1 45 (by decide) (by decide)]; exact hT
  · rcases hv with hv | hv | ⟨hv, LV, hN, hs⟩
    · exact .inl (by omega)
    · exact .inl (by omega)
    · exact .inr ⟨hv, LV, hN.ch cz (by decide) (by decide), by rw [cz.2.1 46 (by decide)]; exact hs⟩
