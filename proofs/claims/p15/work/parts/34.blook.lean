/-! the reference: misses -/
theorem VT.tr {C I : List Nat} {σ t : ST} {a : Int} {d : Nat} {x : Int32} (h : VS σ a d x) (c : CH C I σ t) (hC : ∀ c, c ∈ [2, 3, 4, 5] → c ∉ C) : VS t a d x := by
  unfold VS
  rw [c.1 2 (by decide) (hC 2 (by decide)), c.1 3 (by decide) (hC 3 (by decide)), c.1 4 (by decide) (hC 4 (by decide)), c.1 5 (by decide) (hC 5 (by decide))]
  exact h
theorem rm_ch {C I : List Nat} {σ t : ST} (c : CH C I σ t) (hC : 8 ∉ C) (h53 : 53 ∉ I) (h54 : 54 ∉ I) : rmW t = rmW σ ∧ rmR t = rmR σ := by
  unfold rmW rmR
  rw [c.1 8 (by decide) hC, c.2.1 53 h53, c.2.1 54 h54]
  exact ⟨rfl, rfl⟩
def MI (σ : ST) : Prop := bI (σ.1 0 61) 0 20 ∧ ∀ i, bI (σ.1 38 i) 0 256
theorem b_misses_35 : ∀ (n : Nat) (x2 : Int32) (σ : ST), (0 ≤ (σ.1 0 61).toInt ∧ (σ.1 0 61).toInt < 20) → bI (σ.1 0 57) 0 256 → (0 ≤ x2.toInt ∧ x2.toInt ≤ 256 ∧ (256 : Int) - x2.toInt < n) → OK (f_X11_misses_35 n x2 σ) (RZ [39] [61] σ fun t => (t.1 0 61).toInt = (σ.1 0 61).toInt + 1) := by
  intro n
  induction n with
  | zero => intro x2 σ h1 h2 h3; omega
  | succ n ih =>
    intro x2 σ h1 h2 h3
    rw [f_X11_misses_35]
    have h2' := h2
    obtain ⟨a1, a2⟩ := h2
    have lt_1 := li_1
    have lt_256 := li_256
    have e1 := il_addE (x := σ.1 0 61) (y := 1) (by omega) (by omega)
    have e2 := il_addE (x := x2) (y := 1) (by omega) (by omega)
    have e3 := mlE (k := 256) (y := σ.1 0 61) 256 li_256 (by omega) (by omega)
    have e4 := il_addE (x := 256 * σ.1 0 61) (y := x2) (by omega) (by omega)
    refine OK.ile (fun h => OK.zret (CH.rf.o (by decide)) (show (σ.1 0 61 + 1).toInt = _ by omega)) (fun h => ?_)
    refine OK.grd ⟨by omega, by omega⟩ ?_
    refine OK.grd ⟨by omega, by omega⟩ ?_
    exact OK.trZ (ih (x2 + 1) (stI σ 39 (256 * σ.1 0 61 + x2).toNatClampNeg (σ.1 36 x2.toNatClampNeg)) h1 h2' (by omega)) (CH.rf.i (by decide) (by decide)) (fun _ h => h) (fun _ h => h) (fun _ _ h => h)
theorem b_misses (p0 : Int32) (σ : ST) (hm : MI σ) (hs : bI (σ.1 0 57) 0 256) : OK (f_X11_misses p0 σ) (RZ [37, 38, 39] [61] σ MI) := by
  unfold f_X11_misses
  have lt_0 := li_0
  have lt_20 := li_20
  have lu := FUi
  have hm' := hm
  obtain ⟨⟨m1, m2⟩, m3⟩ := hm
  refine OK.ieq (fun _ => OK.zret CH.rf hm') (fun h => ?_)
  refine OK.grd ⟨by omega, by omega⟩ ?_
  refine OK.grd (show 0 ≤ (σ.1 0 61).toInt ∧ (σ.1 0 61).toInt < 20 from ⟨by omega, by omega⟩) ?_
  refine OK.lt (fun z hz => ?_)
  have c : CH [37, 38, 39] [61] σ z := by rw [hz]; exact (CH.rf.i (by decide) (by decide)).i (by decide) (by decide)
  have e61 : z.1 0 61 = σ.1 0 61 := by rw [hz]; rfl
  have e57 : z.1 0 57 = σ.1 0 57 := by rw [hz]; rfl
  have e38 : ∀ i, bI (z.1 38 i) 0 256 := by
    rw [hz]
    exact upd_all (P := fun x => bI x 0 256) m3 hs
  refine OK.trZ (b_misses_35 FU 0 z (by rw [e61]; omega) (by rw [e57]; exact hs) (by omega)) c (by decide) (fun _ h => h) (fun t ct ht => ⟨⟨?_, ?_⟩, ?_⟩)
  · rw [ht, e61]; omega
  · rw [ht, e61]; omega
  · rw [ct.1 38 (by decide) (by decide)]; exact e38
def uN (σ : ST) : Nat := cntZ (fun k => σ.1 40 k = 0) 36
def LQ (σ t : ST) : Prop := MI t ∧ (t.1 0 57).toInt = (σ.1 0 57).toInt ∧ ∀ k, t.1 40 k = 0 → σ.1 40 k = 0
theorem LQ.trans {σ s t : ST} (h : LQ σ s) (k : LQ s t) : LQ σ t := ⟨k.1, k.2.1.trans h.2.1, fun x hx => h.2.2 x (k.2.2 x hx)⟩
theorem uN_le {σ t : ST} (h : ∀ k, t.1 40 k = 0 → σ.1 40 k = 0) : uN t ≤ uN σ := cntZ_mono (p := fun k => t.1 40 k = 0) (q := fun k => σ.1 40 k = 0) h 36
abbrev LC : List Nat := [36, 37, 38, 39, 40]
abbrev LI : List Nat := [57, 61]
theorem LQ.lv {σ s : ST} (c : CH LC LI σ s) (h0 : 0 ≤ (σ.1 0 57).toInt ∧ (σ.1 0 57).toInt ≤ 255) (hm : MI s) (hs : (s.1 0 57).toInt = (σ.1 0 57).toInt + 1) (hl : ∀ k, s.1 40 k = 0 → σ.1 40 k = 0) : CH LC LI σ (stI s 0 57 (s.1 0 57 - 1)) ∧ LQ σ (stI s 0 57 (s.1 0 57 - 1)) := by
  have lt_1 := li_1
  have e1 := il_subE (x := s.1 0 57) (y := 1) (by omega) (by omega)
  refine ⟨c.o (by decide), hm, ?_, hl⟩
  show (s.1 0 57 - 1).toInt = _
  omega
def cLook (N : Nat) (rl : Int32 → Int32 → ST → Option ST) : Prop := ∀ (w r : Int32) (σ : ST) (d e : Nat), ME σ → MI σ → VS σ (rmW σ) d w → VS σ (rmR σ) e r → d ≤ 4 → e ≤ 4 → 0 ≤ (σ.1 0 57).toInt → (σ.1 0 57).toInt + d + 5 * (uN σ : Nat) ≤ 180 → d + e + 8 * uN σ ≤ N → OK (rl w r σ) (RZ LC LI σ (LQ σ))
def cLookR (N : Nat) (rr : Int32 → Int32 → ST → Option ST) : Prop := ∀ (w r : Int32) (σ : ST), ME σ → MI σ → wrec σ w → rrec σ r → 0 ≤ (σ.1 0 57).toInt → (σ.1 0 57).toInt + 5 * (uN σ : Nat) ≤ 180 → 8 * uN σ + 1 ≤ N → OK (rr w r σ) (RZ LC LI σ (LQ σ))
theorem b_look_13 {N : Nat} {rl rr : Int32 → Int32 → ST → Option ST} (hl : cLook N rl) : ∀ (n : Nat) (w r x3 : Int32) (σ : ST) (d e : Nat), ME σ → MI σ → VS σ (rmW σ) d w → VS σ (rmR σ) e r → d ≤ 4 → e ≤ 4 → 0 ≤ (σ.1 0 57).toInt → (σ.1 0 57).toInt + d + 5 * (uN σ : Nat) ≤ 180 → d + e + 8 * uN σ ≤ N + 1 → (σ.1 2 w.toNatClampNeg).toInt = 8 → (0 ≤ x3.toInt ∧ x3.toInt ≤ 4 ∧ (4 : Int) - x3.toInt < n) → OK (f_X11_looksAt_13 rl rr n w r x3 σ) (RZ LC LI σ (LQ σ)) := by
  intro n
  induction n with
  | zero => intro w r x3 σ d e h1 h2 h3 h4 h5 h6 h7 h8 h9 hs h; omega
  | succ n ih =>
    intro w r x3 σ d e hM hI hw hr hd he h0 hS hN hs h3
    rw [f_X11_looksAt_13]
    have lt_0 := li_0
    have lt_1 := li_1
    have lt_4 := li_4
    obtain ⟨g1, g2, g3, g4⟩ := hw.eit hs
    obtain ⟨_, _, b3, b4⟩ := hM.w
    have gw := hw.rng
    have e1 := mlE (k := 4) (y := w) 4 li_4 (by omega) (by omega)
    have e2 := il_addE (x := 4 * w) (y := x3) (by omega) (by omega)
    have e3 := il_addE (x := x3) (y := 1) (by omega) (by omega)
    have n1 := nN_ gw.1
    have n2 := nN_ h3.1
    have e4 : (4 * w + x3).toNatClampNeg = 4 * w.toNatClampNeg + x3.toNatClampNeg := nC (by omega)
    refine OK.grd gw ?_
    refine OK.ile (fun _ => OK.zret CH.rf ⟨hI, rfl, fun _ h => h⟩) (fun h => ?_)
    have hk : ((x3.toNatClampNeg : Nat) : Int) < (σ.1 4 w.toNatClampNeg).toInt := by omega
    refine OK.bndZ (b_enters _ σ ⟨h0, by omega⟩) (fun q2 c2 s2 => ?_)
    have c2' : CH LC LI σ q2 := c2.mono (by decide) (by decide)
    have M2 : ME q2 := hM.ch c2 (by decide) (by decide)
    have I2 : MI q2 := by
      unfold MI
      rw [c2.2.1 61 (by decide), c2.1 38 (by decide) (by decide)]
      exact hI
    have l2 : ∀ k, q2.1 40 k = 0 → σ.1 40 k = 0 := fun k hk => by rw [c2.1 40 (by decide) (by decide)] at hk; exact hk
    obtain ⟨rm1, rm2⟩ := rm_ch c2 (by decide) (by decide) (by decide)
    have w2 := hw.tr c2 (by decide)
    have r2 : VS q2 (rmR q2) e r := by rw [rm2]; exact hr.tr c2 (by decide)
    refine OK.grd ⟨by omega, by omega⟩ ?_
    have hB : VS q2 (rmW q2) (d - 1) (q2.1 5 (4 * w + x3).toNatClampNeg) := by
      rw [rm1, e4, c2.1 5 (by decide) (by decide)]
      exact (g3 _ hk).1.tr c2 (by decide)
    have u2 := uN_le l2
    refine OK.bndR (bT_match _ _ q2 (by omega) (by omega) M2.2.2 hB r2 (by omega) (by omega)) (fun v hv => ?_)
    dsimp only
    unfold f_X11_looksAt_69
    have fin : ∀ s : ST, CH LC LI σ s → MI s → (s.1 0 57).toInt = (σ.1 0 57).toInt + 1 → (∀ k, s.1 40 k = 0 → σ.1 40 k = 0) → OK (f_X11_looksAt_13 rl rr n w r (x3 + 1) (stI s 0 57 (s.1 0 57 - 1))) (RZ LC LI σ (LQ σ)) := fun s cs ms ss ls => by
      obtain ⟨c9, q9⟩ := LQ.lv cs ⟨h0, by omega⟩ ms ss ls
      obtain ⟨rm3, rm4⟩ := rm_ch c9 (by decide) (by decide) (by decide)
      have u9 := uN_le q9.2.2
      have s9 := q9.2.1
      generalize stI s 0 57 (s.1 0 57 - 1) = y at c9 q9 rm3 rm4 u9 s9 ⊢
      refine OK.trZ (ih w r (x3 + 1) y d e (hM.ch c9 (by decide) (by decide)) q9.1 (by rw [rm3]; exact hw.tr c9 (by decide)) (by rw [rm4]; exact hr.tr c9 (by decide)) hd he (by omega) (by omega) (by omega) (by rw [c9.1 2 (by decide) (by decide)]; exact hs) (by omega)) c9 (fun _ h => h) (fun _ h => h) (fun t _ ht => q9.trans ht)
    refine OK.ieq (fun _ => ?_) (fun _ => ?_)
    · refine OK.bndZ (b_misses 4 q2 I2 ⟨by omega, by omega⟩) (fun q7 c7 m7 => ?_)
      refine fin q7 (c2'.trans (c7.mono (by decide) (by decide))) m7 (by rw [c7.2.1 57 (by decide)]; exact s2) (fun k hk => l2 k (by rw [c7.1 40 (by decide) (by decide)] at hk; exact hk))
    · refine OK.bndZ (hl _ r q2 (d - 1) e M2 I2 hB r2 (by omega) he (by omega) (by omega) (by omega)) (fun q9 c9 m9 => ?_)
      exact fin q9 (c2'.trans c9) m9.1 (m9.2.1.trans s2) (fun k hk => l2 k (m9.2.2 k hk))
theorem b_look_top {N : Nat} {rl rr : Int32 → Int32 → ST → Option ST} (hl : cLook N rl) (hr_ : cLookR N rr) : cLook (N + 1) (f_X11_looksAt rl rr) := by
  intro w r σ d e hM hI hw hr hd he h0 hS hN
  unfold f_X11_looksAt
  have lt_0 := li_0
  have lt_1 := li_1
  have lt_4 := li_4
  have lt_6 := li_6
  have lt_7 := li_7
  have lt_8 := li_8
  have lu := FUi
  have gw := hw.rng
  have gr := hr.rng
  obtain ⟨b1, b2, b3, b4⟩ := hM.w
  have hd1 : 1 ≤ d := by
    cases d with
    | zero => exact hw.elim
    | succ d => omega
  have he1 : 1 ≤ e := by
    cases e with
    | zero => exact hr.elim
    | succ e => omega
  have k253 : OK (f_X11_looksAt_253 rl rr w r σ) (RZ LC LI σ (LQ σ)) := by
    unfold f_X11_looksAt_253
    refine OK.bndR (bT_match w r σ (by omega) (by omega) hM.2.2 hw hr (by omega) (by omega)) (fun v hv => ?_)
    dsimp only
    refine OK.ieq (fun _ => ?_) (fun _ => OK.zret CH.rf ⟨hI, rfl, fun _ h => h⟩)
    refine OK.bndZ (b_misses 2 σ hI ⟨by omega, by omega⟩) (fun q7 c7 m7 => ?_)
    exact OK.zret (c7.mono (by decide) (by decide)) ⟨m7, by rw [c7.2.1 57 (by decide)], fun k hk => by rw [c7.1 40 (by decide) (by decide)] at hk; exact hk⟩
  have k196 : OK (f_X11_looksAt_196 rl rr w r σ) (RZ LC LI σ (LQ σ)) := by
    unfold f_X11_looksAt_196
    refine OK.grd gw ?_
    refine OK.ieq (fun h6 => ?_) (fun _ => k253)
    refine OK.grd gr ?_
    refine OK.ieq (fun h6' => ?_) (fun _ => k253)
    refine OK.bndZ (b_enters _ σ ⟨h0, by omega⟩) (fun q2 c2 s2 => ?_)
    have c2' : CH LC LI σ q2 := c2.mono (by decide) (by decide)
    have M2 : ME q2 := hM.ch c2 (by decide) (by decide)
    have I2 : MI q2 := by
      unfold MI
      rw [c2.2.1 61 (by decide), c2.1 38 (by decide) (by decide)]
      exact hI
    have l2 : ∀ k, q2.1 40 k = 0 → σ.1 40 k = 0 := fun k hk => by rw [c2.1 40 (by decide) (by decide)] at hk; exact hk
    obtain ⟨rm1, rm2⟩ := rm_ch c2 (by decide) (by decide) (by decide)
    have u2 := uN_le l2
    have a1 := hw.lst (by omega)
    have a2 := hr.lst (by omega)
    refine OK.bndZ (hl _ _ q2 (d - 1) (e - 1) M2 I2 (by rw [rm1, c2.1 3 (by decide) (by decide)]; exact a1.2.tr c2 (by decide)) (by rw [rm2, c2.1 3 (by decide) (by decide)]; exact a2.2.tr c2 (by decide)) (by omega) (by omega) (by omega) (by omega) (by omega)) (fun q9 c9 m9 => ?_)
    obtain ⟨cf, qf⟩ := LQ.lv (c2'.trans c9) ⟨h0, by omega⟩ m9.1 (m9.2.1.trans s2) (fun k hk => l2 k (m9.2.2 k hk))
    exact OK.zret cf qf
  refine OK.grd gw ?_
  refine OK.ieq (fun h8 => ?_) (fun h8 => ?_)
  · exact b_look_13 hl FU w r 0 σ d e hM hI hw hr hd he h0 hS (by omega) (by omega) (by omega)
  refine OK.grd gr ?_
  refine OK.ieq (fun h9 => ?_) (fun h9 => ?_)
  · obtain ⟨g1, g2, g3, g4⟩ := hr.eit (by omega)
    refine OK.bndR (bT_chosen w r σ (by omega) (by omega) hM.2.2 hw hr (by omega) (by omega) (by omega)) (fun v hv => ?_)
    dsimp only
    refine OK.ile (fun hv0 => ?_) (fun _ => ?_)
    · have hv' : 0 ≤ v.toInt ∧ v.toInt < (σ.1 4 r.toNatClampNeg).toInt := by
        rcases hv with hv | hv
        · omega
        · exact hv.1
      have e1 := mlE (k := 4) (y := r) 4 li_4 (by omega) (by omega)
      have e2 := il_addE (x := 4 * r) (y := v) (by omega) (by omega)
      have n1 := nN_ gr.1
      have n2 := nN_ hv'.1
      have e4 : (4 * r + v).toNatClampNeg = 4 * r.toNatClampNeg + v.toNatClampNeg := nC (by omega)
      refine OK.grd ⟨by omega, by omega⟩ ?_
      rw [e4]
      refine OK.bndZ (hl w _ σ d (e - 1) hM hI hw (g3 _ (by omega)).1 hd (by omega) h0 hS (by omega)) (fun q9 c9 m9 => ?_)
      exact OK.zret c9 m9
    · refine OK.bndZ (b_misses 3 σ hI ⟨by omega, by omega⟩) (fun q7 c7 m7 => ?_)
      exact OK.zret (c7.mono (by decide) (by decide)) ⟨m7, by rw [c7.2.1 57 (by decide)], fun k hk => by rw [c7.1 40 (by decide) (by decide)] at hk; exact hk⟩
  refine OK.ieq (fun h7 => ?_) (fun _ => k196)
  refine OK.ieq (fun h7' => ?_) (fun _ => k196)
  have rw_ := hw.rcd (by omega)
  have rr_ := hr.rcd (by omega)
  refine OK.bndR (b_namesMay _ _ σ (by omega) (by omega) b1 b2) (fun v hv => ?_)
  dsimp only
  refine OK.ieq (fun _ => k196) (fun _ => ?_)
  refine OK.bndZ (hr_ _ _ σ hM hI rw_ rr_ h0 (by omega) (by omega)) (fun q9 c9 m9 => ?_)
  exact OK.zret c9 m9
theorem b_lookr_40 {N : Nat} {rl rr : Int32 → Int32 → ST → Option ST} (hl : cLook N rl) : ∀ (n : Nat) (w r x3 x4 : Int32) (σ : ST), ME σ → MI σ → wrec σ w → rrec σ r → x3.toInt = 6 * (σ.1 0 54).toInt + r.toInt → 0 ≤ (σ.1 0 57).toInt → (σ.1 0 57).toInt + 5 * (uN σ : Nat) ≤ 175 → 8 * uN σ + 8 ≤ N → (0 ≤ x4.toInt ∧ x4.toInt ≤ 8 ∧ (8 : Int) - x4.toInt < n) → OK (f_X11_looksAtRecords_40 rl rr n w x3 x4 σ) (RZ LC LI σ (LQ σ)) := by
  intro n
  induction n with
  | zero => intro w r x3 x4 σ h1 h2 h3 h4 h5 h6 h7 h8 h; omega
  | succ n ih =>
    intro w r x3 x4 σ hM hI hw hr hx3 h0 hS hN h4
    rw [f_X11_looksAtRecords_40]
    have lt_0 := li_0
    have lt_1 := li_1
    have lt_8 := li_8
    obtain ⟨b1, b2, b3, b4⟩ := hM.w
    have b21 := b2.1
    have b22 := b2.2
    have r1 := hr.1
    have r2 : r.toInt < rmR σ := hr.2
    obtain ⟨f1, f2⟩ := hM.rf hr
    have f11 := f1.1
    have f12 := f1.2
    have a1 := mlE (k := 8) (y := x3) 8 li_8 (by omega) (by omega)
    have a2 := il_addE (x := 8 * x3) (y := x4) (by omega) (by omega)
    have a3 := il_addE (x := x4) (y := 1) (by omega) (by omega)
    have n1 := nN_ b21
    have n2 := nN_ r1
    have n4 := nN_ h4.1
    have e3 : x3.toNatClampNeg = 6 * (σ.1 0 54).toNatClampNeg + r.toNatClampNeg := nC (by omega)
    have e5 : (8 * x3 + x4).toNatClampNeg = 8 * (6 * (σ.1 0 54).toNatClampNeg + r.toNatClampNeg) + x4.toNatClampNeg := nC (by omega)
    refine OK.grd ⟨by omega, by omega⟩ ?_
    rw [e3]
    refine OK.ile (fun _ => OK.zret CH.rf ⟨hI, rfl, fun _ h => h⟩) (fun h => ?_)
    have hc := f2 x4.toNatClampNeg (by omega)
    rw [← e5] at hc
    refine OK.bndR (hM.ff hw (by omega)) (fun v hv => ?_)
    dsimp only
    refine OK.bndZ (b_enters _ σ ⟨h0, by omega⟩) (fun q2 c2 s2 => ?_)
    have c2' : CH LC LI σ q2 := c2.mono (by decide) (by decide)
    have M2 : ME q2 := hM.ch c2 (by decide) (by decide)
    have I2 : MI q2 := by
      unfold MI
      rw [c2.2.1 61 (by decide), c2.1 38 (by decide) (by decide)]
      exact hI
    have l2 : ∀ k, q2.1 40 k = 0 → σ.1 40 k = 0 := fun k hk => by rw [c2.1 40 (by decide) (by decide)] at hk; exact hk
    obtain ⟨rm1, rm2⟩ := rm_ch c2 (by decide) (by decide) (by decide)
    have u2 := uN_le l2
    unfold f_X11_looksAtRecords_116
    have fin : ∀ s : ST, CH LC LI σ s → MI s → (s.1 0 57).toInt = (σ.1 0 57).toInt + 1 → (∀ k, s.1 40 k = 0 → σ.1 40 k = 0) → OK (f_X11_looksAtRecords_40 rl rr n w x3 (x4 + 1) (stI s 0 57 (s.1 0 57 - 1))) (RZ LC LI σ (LQ σ)) := fun s cs ms ss ls => by
      obtain ⟨c9, q9⟩ := LQ.lv cs ⟨h0, by omega⟩ ms ss ls
      obtain ⟨rm3, rm4⟩ := rm_ch c9 (by decide) (by decide) (by decide)
      have u9 := uN_le q9.2.2
      have s9 := q9.2.1
      generalize stI s 0 57 (s.1 0 57 - 1) = y at c9 q9 rm3 rm4 u9 s9 ⊢
      have w9 : wrec y w := ⟨hw.1, by show w.toInt < rmW y; rw [rm3]; exact hw.2⟩
      have r9 : rrec y r := ⟨hr.1, by show r.toInt < rmR y; rw [rm4]; exact hr.2⟩
      refine OK.trZ (ih w r x3 (x4 + 1) y (hM.ch c9 (by decide) (by decide)) q9.1 w9 r9 (by rw [c9.2.1 54 (by decide)]; exact hx3) (by omega) (by omega) (by omega) (by omega)) c9 (fun _ h => h) (fun _ h => h) (fun t _ ht => q9.trans ht)
    refine OK.ilt (fun _ => ?_) (fun hv0 => ?_)
    · refine OK.grd ⟨by omega, by omega⟩ ?_
      refine OK.ieq (fun _ => ?_) (fun _ => ?_)
      · refine OK.bndZ (b_misses 1 q2 I2 ⟨by omega, by omega⟩) (fun q7 c7 m7 => ?_)
        exact fin q7 (c2'.trans (c7.mono (by decide) (by decide))) m7 (by rw [c7.2.1 57 (by decide)]; exact s2) (fun k hk => l2 k (by rw [c7.1 40 (by decide) (by decide)] at hk; exact hk))
      · exact fin q2 c2' I2 s2 l2
    · have hv' : (0 ≤ v.toInt ∧ v.toInt < 576) ∧ VS σ (rmW σ) 4 (σ.1 15 v.toNatClampNeg) := by
        rcases hv with hv | hv
        · omega
        · exact hv
      refine OK.grd hv'.1 ?_
      refine OK.grd ⟨by omega, by omega⟩ ?_
      refine OK.bndZ (hl _ _ q2 4 4 M2 I2 (by rw [rm1, c2.1 15 (by decide) (by decide)]; exact hv'.2.tr c2 (by decide)) (by rw [rm2, c2.1 15 (by decide) (by decide)]; exact hc.tr c2 (by decide)) (by omega) (by omega) (by omega) (by omega) (by omega)) (fun q9 c9 m9 => ?_)
      exact fin q9 (c2'.trans c9) m9.1 (m9.2.1.trans s2) (fun k hk => l2 k (m9.2.2 k hk))
theorem b_lookr_top {N : Nat} {rl rr : Int32 → Int32 → ST → Option ST} (hl : cLook N rl) : cLookR (N + 1) (f_X11_looksAtRecords rl rr) := by
  intro w r σ hM hI hw hr h0 hS hN
  unfold f_X11_looksAtRecords
  have lt_0 := li_0
  have lt_6 := li_6
  have lu := FUi
  obtain ⟨b1, b2, b3, b4⟩ := hM.w
  have b21 := b2.1
  have b22 := b2.2
  have w1 := hw.1
  have w2 : w.toInt < rmW σ := hw.2
  have r1 := hr.1
  have r2 : r.toInt < rmR σ := hr.2
  have a1 := mlE (k := 6) (y := w) 6 li_6 (by omega) (by omega)
  have a2 := il_addE (x := 6 * w) (y := r) (by omega) (by omega)
  have n1 := nN_ (x := 6 * w + r) (by omega)
  refine OK.grd ⟨by omega, by omega⟩ ?_
  refine OK.ite (fun hz => ?_) (fun _ => OK.zret CH.rf ⟨hI, rfl, fun _ h => h⟩)
  have v1 : (vp_nar .boolean (1 : Int32)) = 1 := rfl
  rw [v1]
  have c : CH LC LI σ (stI σ 40 (6 * w + r).toNatClampNeg 1) := CH.rf.i (by decide) (by decide)
  have hM1 : ME (stI σ 40 (6 * w + r).toNatClampNeg 1) := hM.ch c (by decide) (by decide)
  have mono : ∀ k, (stI σ 40 (6 * w + r).toNatClampNeg 1).1 40 k = 0 → σ.1 40 k = 0 := fun k hk => by
    have hk : upd (σ.1 40) (6 * w + r).toNatClampNeg 1 k = 0 := hk
    unfold upd at hk
    split at hk
    · exact absurd hk (by decide)
    · exact hk
  have hlt : uN (stI σ 40 (6 * w + r).toNatClampNeg 1) + 1 ≤ uN σ := cntZ_lt (p := fun k => (stI σ 40 (6 * w + r).toNatClampNeg 1).1 40 k = 0) (q := fun k => σ.1 40 k = 0) mono (c := (6 * w + r).toNatClampNeg) (fun h9 => by
    have h9 : upd (σ.1 40) (6 * w + r).toNatClampNeg 1 (6 * w + r).toNatClampNeg = 0 := h9
    rw [upd_at] at h9
    exact absurd h9 (by decide)) hz 36 (by omega)
  refine OK.lt (fun x2 hx2 => ?_)
  have e1 : ((stI σ 40 (6 * w + r).toNatClampNeg 1).1 0 54) = σ.1 0 54 := rfl
  rw [e1] at hx2
  have a3 := mlE (k := 6) (y := σ.1 0 54) 6 li_6 (by omega) (by omega)
  have a4 := il_addE (x := 6 * σ.1 0 54) (y := r) (by omega) (by omega)
  refine OK.trZ (b_lookr_40 hl FU w r x2 0 (stI σ 40 (6 * w + r).toNatClampNeg 1) hM1 hI hw hr (by rw [hx2]; show _ = 6 * (σ.1 0 54).toInt + _; omega) h0 (by show (σ.1 0 57).toInt + _ ≤ _; omega) (by omega) (by omega)) c (fun _ h => h) (fun _ h => h) (fun t _ ht => ⟨ht.1, ht.2.1, fun k hk => mono k (ht.2.2 k hk)⟩)
theorem b_RL : ∀ N : Nat, cLook N (R_X11_looksAt N).1 ∧ cLookR N (R_X11_looksAt N).2 := by
  intro N
  induction N with
  | zero =>
    refine ⟨?_, ?_⟩
    · intro w r σ d e hM hI hw hr hd he h0 hS hN
      cases d with
      | zero => exact hw.elim
      | succ d => omega
    · intro w r σ hM hI hw hr h0 hS hN
      omega
  | succ N ih => exact ⟨b_look_top ih.1 ih.2, b_lookr_top ih.1⟩
theorem b_lm_18 : ∀ (n : Nat) (x3 : Int32) (σ : ST), ME σ → MI σ → σ.1 0 57 = 0 → (0 ≤ x3.toInt ∧ x3.toInt ≤ 36 ∧ (36 : Int) - x3.toInt < n) → OK (f_X11_laysMisses_18 n x3 σ) (RZ LC LI σ MI) := by
  intro n
  induction n with
  | zero => intro x3 σ h1 h2 h3 h4; omega
  | succ n ih =>
    intro x3 σ hM hI hs h3
    rw [f_X11_laysMisses_18]
    have lt_0 := li_0
    have lt_1 := li_1
    have lt_36 := li_36
    have lr := FRi
    obtain ⟨b1, b2, b3, b4⟩ := hM.w
    refine OK.ile (fun _ => ?_) (fun h => ?_)
    · have u := cntZ_le (p := fun k => σ.1 40 k = 0) 36
      have eu : uN σ = cntZ (fun k => σ.1 40 k = 0) 36 := rfl
      have es : (σ.1 0 57).toInt = 0 := by rw [hs]; exact li_0
      refine OK.bndZ ((b_RL FRB).2 0 0 σ hM hI (wrec_i (by omega) (by omega)) (rrec_i (by omega) (by omega)) (by omega) (by omega) (by omega)) (fun q9 c9 m9 => ?_)
      exact OK.zret c9 m9.1
    · have a3 := il_addE (x := x3) (y := 1) (by omega) (by omega)
      refine OK.grd ⟨by omega, by omega⟩ ?_
      have c : CH LC LI σ (stI σ 40 x3.toNatClampNeg (vp_nar .boolean 0)) := CH.rf.i (by decide) (by decide)
      exact OK.trZ (ih (x3 + 1) _ (hM.ch c (by decide) (by decide)) hI hs (by omega)) c (fun _ h => h) (fun _ h => h) (fun _ _ h => h)
theorem b_laysMisses (p0 p1 : Int32) (σ : ST) (hP : PLs σ) (hB : PB σ) (hm : ∀ i, bI (σ.1 38 i) 0 256) (h0 : 0 ≤ p0.toInt ∧ p0.toInt < (σ.1 0 32).toInt) (h1 : 0 ≤ p1.toInt ∧ p1.toInt < (σ.1 0 32).toInt) : OK (f_X11_laysMisses p0 p1 σ) (RZ [35, 36, 37, 38, 39, 40] [53, 54, 57, 61] σ fun t => MI t ∧ PB t) := by
  unfold f_X11_laysMisses
  have lt_0 := li_0
  have lu := FUi
  refine OK.bndZ (b_laysPairs p0 p1 σ hP hB h0 h1) (fun t c ht => ?_)
  have c1 : CH LC LI t (stI (stI t 0 61 0) 0 57 0) := (CH.rf.o (by decide)).o (by decide)
  have hM : ME (stI (stI t 0 61 0) 0 57 0) := ht.1.1.ch c1 (by decide) (by decide)
  have hI : MI (stI (stI t 0 61 0) 0 57 0) := by
    refine ⟨bz (by decide) (by decide), ?_⟩
    show ∀ i, bI (t.1 38 i) 0 256
    rw [c.1 38 (by decide) (by decide)]
    exact hm
  have c2 : CH [35, 36, 37, 38, 39, 40] [53, 54, 57, 61] σ (stI (stI t 0 61 0) 0 57 0) := (c.mono (by decide) (by decide)).trans (c1.mono (by decide) (by decide))
  refine OK.trZ (b_lm_18 FU 0 _ hM hI rfl (by omega)) c2 (by decide) (by decide) (fun u cu hu => ⟨hu, ?_⟩)
  unfold PB
  rw [cu.1 35 (by decide) (by decide)]
  exact hM.2.2
