/-! both walks, side by side -/
def cW (p q : Nat) (rw_ : Int32 → Int32 → Int32 → ST → Option ST) (rl : Int32 → Int32 → ST → Option ST) : Prop := ∀ (x y lev u v : Int32) (σ τ : ST) (d e : Nat), STT p q σ τ → TY p (τ.1 8 p).toInt σ τ d x u → TY q (τ.1 8 q).toInt σ τ e y v → d ≤ 4 → e ≤ 4 → LVB lev τ d → PT (rw_ x y lev σ) (fun s => PT (rl u v τ) (PWX σ τ s))
def cWB (p q : Nat) (rb : Int32 → Int32 → Int32 → ST → Option ST) (rl : Int32 → Int32 → ST → Option ST) : Prop := ∀ (x y lev u v : Int32) (σ τ : ST) (d e : Nat), STT p q σ τ → TY p (τ.1 8 p).toInt σ τ d x u → TY q (τ.1 8 q).toInt σ τ e y v → (τ.1 2 u.toNatClampNeg).toInt = 8 → d ≤ 4 → e ≤ 4 → LVB lev τ d → PT (rb x y lev σ) (fun s => PT (rl u v τ) (PWX σ τ s))
def cWN (p q : Nat) (rn : Int32 → Int32 → Int32 → Int32 → ST → Option ST) (rl : Int32 → Int32 → ST → Option ST) : Prop := ∀ (x y lev u v : Int32) (σ τ : ST) (d e : Nat), STT p q σ τ → TY p (τ.1 8 p).toInt σ τ d x u → TY q (τ.1 8 q).toInt σ τ e y v → ¬ (τ.1 2 u.toNatClampNeg).toInt = 8 → ¬ (τ.1 2 v.toNatClampNeg).toInt = 8 → d ≤ 4 → e ≤ 4 → (τ.1 0 61).toInt < 20 → LVB lev τ d → PT (rn x lev (τ.1 2 u.toNatClampNeg) y σ) (fun s => PT (rl u v τ) (PWX σ τ s))
def cWF (p q : Nat) (rf : Int32 → Int32 → Int32 → ST → Option ST) (rr : Int32 → Int32 → ST → Option ST) : Prop := ∀ (x y lev w r : Int32) (σ τ : ST) (wn rn : Nat), STT p q σ τ → (τ.1 0 61).toInt < 20 → x.toInt = 6 * (p : Int) + wn → y.toInt = 6 * (q : Int) + rn → w.toInt = wn → r.toInt = rn → (wn : Int) < (τ.1 8 p).toInt → (rn : Int) < (τ.1 8 q).toInt → NYS τ w r → LVB lev τ 1 → PT (rf x y lev σ) (fun s => PT (rr w r τ) (PWX σ τ s))
theorem STT.fits {p q : Nat} {σ τ : ST} (h : STT p q σ τ) (x y u v : Int32) (d e : Nat) (hx : TY p (τ.1 8 p).toInt σ τ d x u) (hy : TY q (τ.1 8 q).toInt σ τ e y v) (hd : d ≤ 4) (he : e ≤ 4) : OK (f_X0_fits x y σ) (RO σ fun z => OK (f_T_X11_match u v τ) (RO τ fun k => z.toInt = 0 ∧ k.toInt = 0 ∨ z.toInt = 1 ∧ k.toInt = 1)) := by
  obtain ⟨⟨⟨hp, hq⟩, ⟨a2, a3⟩, ⟨a4, a5⟩, a6⟩, h2, _⟩ := h
  have cP := a4.cnt
  have cQ := a5.cnt
  refine (ax_fits (PR := τ.1 35) cP.2.2 hp hq cP.2.1.2 cQ.2.1.2 h2 x y u v d e hx hy hd he).roq (fun z hz => ?_)
  refine (bT_match u v τ cP.2.1.2 cQ.2.1.2 a6.2.2 hx.vs hy.vs (by omega) (by omega)).roq (fun k hk => ?_)
  rcases hz with hz | hz <;> rcases hk with hk | hk
  · exact .inl ⟨hz.1, hk.1⟩
  · exact absurd hk.2 hz.2
  · exact absurd hz.2 hk.2
  · exact .inr ⟨hz.1, hk.1⟩
theorem STT.chosen {p q : Nat} {σ τ : ST} (h : STT p q σ τ) (x y u v : Int32) (d e : Nat) (hx : TY p (τ.1 8 p).toInt σ τ d x u) (hy : TY q (τ.1 8 q).toInt σ τ e y v) (h8 : (τ.1 2 v.toNatClampNeg).toInt = 8) (hd : d ≤ 4) (he : e ≤ 4) : OK (f_X0_chosen x y σ) (RO σ fun z => OK (f_T_X11_chosen u v τ) (RO τ fun k => z.toInt = -1 ∧ k.toInt = -1 ∨ ∃ i : Nat, (i : Int) < (τ.1 4 v.toNatClampNeg).toInt ∧ z = chn (σ.1 17) (σ.1 16 y.toNatClampNeg) i ∧ k.toInt = i)) := by
  obtain ⟨⟨⟨hp, hq⟩, ⟨a2, a3⟩, ⟨a4, a5⟩, a6⟩, h2, _⟩ := h
  have cP := a4.cnt
  have cQ := a5.cnt
  refine (ax_chosen (PR := τ.1 35) cP.2.2 hp hq cP.2.1.2 cQ.2.1.2 h2 x y u v d e hx hy h8 hd he).roq (fun z hz => ?_)
  refine (bz_chosen u v τ cP.2.1.2 cQ.2.1.2 a6.2.2 hx.vs hy.vs (by omega) (by omega) h8).roq (fun k hk => ?_)
  rcases hz.uniq hk with h | ⟨i, i1, i2, i3, _⟩
  · exact .inl h
  · exact .inr ⟨i, by omega, Int32.toInt_inj.mp i2, i3⟩
theorem wz_190 {p q : Nat} {a1 : Int32 → Int32 → Int32 → ST → Option ST} {a2 a3 : Int32 → Int32 → Int32 → ST → Option ST} {b1 b2 : Int32 → Int32 → ST → Option ST} (x y u v : Int32) (σ τ : ST) (d e : Nat) (h : STT p q σ τ) (hx : TY p (τ.1 8 p).toInt σ τ d x u) (hy : TY q (τ.1 8 q).toInt σ τ e y v) (hd : d ≤ 4) (he : e ≤ 4) (hb : (τ.1 0 61).toInt < 20 → (τ.1 0 57).toInt ≤ 32) : PT (f_X0_walk_190 a1 a2 a3 x y σ) (fun s => PT (f_X11_looksAt_253 b1 b2 u v τ) (PWX σ τ s)) := by
  unfold f_X0_walk_190 f_X11_looksAt_253
  have l0 := li_0
  refine PT.bndR (h.fits x y u v d e hx hy hd he) (fun z hz => ?_)
  dsimp only
  refine PT.sw ?_
  refine PT.bndR hz (fun k hk => ?_)
  dsimp only
  refine PT.ieq (fun hk0 => ?_) (fun hk0 => ?_)
  · refine PT.sw ?_
    refine PT.ieq (fun hz0 => ?_) (fun hz0 => by omega)
    exact PT.bnd2 (xw_miss 2 h.2.2 hb) (fun s t hst => PT.ret (PT.ret hst))
  · refine PT.ret ?_
    refine PT.ieq (fun hz0 => by omega) (fun hz0 => ?_)
    exact PT.ret (PWX.rf h.2.2)
theorem wz_77 {p q : Nat} {rw_ rb rf : Int32 → Int32 → Int32 → ST → Option ST} {rl rr : Int32 → Int32 → ST → Option ST} (hw : cW p q rw_ rl) (hf : cWF p q rf rr) : cWN p q (f_X0_walk_77 rw_ rb rf) (f_X11_looksAt rl rr) := by
  intro x y lev u v σ τ d e h hx hy hu8 hv8 hd he hn hl
  unfold f_X0_walk_77 f_X11_looksAt
  have h' := h
  obtain ⟨⟨⟨hp, hq⟩, ⟨a2, a3⟩, ⟨a4, a5⟩, a6⟩, _, _⟩ := h'
  have cP := a4.cnt
  have cQ := a5.cnt
  have l6 := li_6
  have l7 := li_7
  have l8 := li_8
  have l0 := li_0
  obtain ⟨x1, x2, x3, x4⟩ := hx.sort cP.2.2
  obtain ⟨y1, y2, y3, y4⟩ := hy.sort cP.2.2
  have rx := hx.rng.2
  have ry := hy.rng.2
  have hl' := hl hn
  have h146 : ¬ ((τ.1 2 u.toNatClampNeg).toInt = 7 ∧ (τ.1 2 v.toNatClampNeg).toInt = 7 ∧ False) → PT (f_X0_walk_146 rw_ rb rf x lev (τ.1 2 u.toNatClampNeg) y (τ.1 2 v.toNatClampNeg) (σ.1 16 x.toNatClampNeg) (σ.1 16 y.toNatClampNeg) σ) (fun s => PT (f_X11_looksAt_196 rl rr u v τ) (PWX σ τ s)) := fun _ => by
    unfold f_X0_walk_146 f_X11_looksAt_196
    refine PT.sw ?_
    refine PT.grd (fun _ => ?_)
    have h190 := wz_190 (a1 := rw_) (a2 := rb) (a3 := rf) (b1 := rl) (b2 := rr) x y u v σ τ d e h hx hy hd he (fun _ => by omega)
    refine PT.ieq (fun hu6 => ?_) (fun hu6 => ?_)
    · refine PT.grd (fun _ => ?_)
      refine PT.ieq (fun hv6 => ?_) (fun hv6 => ?_)
      · refine PT.sw ?_
        refine PT.ieq (fun _ => ?_) (fun h => absurd hu6 h)
        refine PT.ieq (fun _ => ?_) (fun h => absurd hv6 h)
        refine PT.bnd2 (xw_step 100 h.2.2 (fun _ => by omega)) (fun s1 t1 hE => ?_)
        have tx : TY p (τ.1 8 p).toInt σ τ (d - 1) (σ.1 16 x.toNatClampNeg) (τ.1 3 u.toNatClampNeg) := by
          cases d with
          | zero => exact hx.elim
          | succ d => exact hx.2.2.2.1 (by omega)
        have ty : TY q (τ.1 8 q).toInt σ τ (e - 1) (σ.1 16 y.toNatClampNeg) (τ.1 3 v.toNatClampNeg) := by
          cases e with
          | zero => exact hy.elim
          | succ e => exact hy.2.2.2.1 (by omega)
        have t3 := hE.2.1.1 3 (by decide) (by decide)
        have t8 := hE.2.1.1 8 (by decide) (by decide)
        rw [t3]
        have tx1 := tx.to hE.1.kta hE.2.1 (by decide)
        have ty1 := ty.to hE.1.kta hE.2.1 (by decide)
        rw [← t8] at tx1 ty1
        refine PT.bnd2 (hw _ _ (lev + 1) _ _ s1 t1 (d - 1) (e - 1) (h.se hE) tx1 ty1 (by omega) (by omega) (hl.inn hE (by omega) rfl h.n0)) (fun s2 t2 hP => ?_)
        exact PT.ret (PT.ret (xw_leave h.2.2 hE hP))
      · refine PT.sw ?_
        refine PT.ieq (fun _ => ?_) (fun h => absurd hu6 h)
        refine PT.ieq (fun h => absurd h hv6) (fun _ => ?_)
        exact h190
    · refine PT.sw ?_
      refine PT.ieq (fun h => absurd h hu6) (fun _ => ?_)
      exact h190
  rw [y1, sbnd]
  dsimp only
  rw [x2, sbnd]
  dsimp only
  rw [y2, sbnd]
  dsimp only
  refine PT.sw ?_
  refine PT.grd (fun _ => ?_)
  refine PT.ieq (fun h => by omega) (fun _ => ?_)
  refine PT.grd (fun _ => ?_)
  refine PT.ieq (fun h => by omega) (fun _ => ?_)
  refine PT.ieq (fun hu7 => ?_) (fun hu7 => ?_)
  rotate_left
  · refine PT.sw ?_
    refine PT.ieq (fun h => absurd h hu7) (fun _ => ?_)
    exact h146 (fun h => h.2.2)
  refine PT.ieq (fun hv7 => ?_) (fun hv7 => ?_)
  rotate_left
  · refine PT.sw ?_
    refine PT.ieq (fun _ => ?_) (fun h => absurd hu7 h)
    refine PT.ieq (fun h => absurd h hv7) (fun _ => ?_)
    exact h146 (fun h => h.2.2)
  have ru : (0 ≤ (τ.1 3 u.toNatClampNeg).toInt ∧ (τ.1 3 u.toNatClampNeg).toInt < (τ.1 8 p).toInt) ∧ (σ.1 16 x.toNatClampNeg).toInt = 6 * (p : Int) + (τ.1 3 u.toNatClampNeg).toInt := by
    cases d with
    | zero => exact hx.elim
    | succ d => exact hx.2.2.2.2.1 (by omega)
  have rv : (0 ≤ (τ.1 3 v.toNatClampNeg).toInt ∧ (τ.1 3 v.toNatClampNeg).toInt < (τ.1 8 q).toInt) ∧ (σ.1 16 y.toNatClampNeg).toInt = 6 * (q : Int) + (τ.1 3 v.toNatClampNeg).toInt := by
    cases e with
    | zero => exact hy.elim
    | succ e => exact hy.2.2.2.2.1 (by omega)
  have n1 := nN_ ru.1.1
  have n2 := nN_ rv.1.1
  obtain ⟨b1, b2, b3, b4⟩ := a6.w
  refine PT.bndR (bx_namesMay _ _ τ (by omega) (by omega) b1 b2) (fun k hk => ?_)
  dsimp only
  refine PT.sw ?_
  refine PT.ieq (fun _ => ?_) (fun h => absurd hu7 h)
  refine PT.ieq (fun _ => ?_) (fun h => absurd hv7 h)
  refine PT.bndR (ab_mayPair h.1 (σ.1 16 x.toNatClampNeg) (σ.1 16 y.toNatClampNeg) (τ.1 3 u.toNatClampNeg) (τ.1 3 v.toNatClampNeg) (τ.1 3 u.toNatClampNeg).toNatClampNeg (τ.1 3 v.toNatClampNeg).toNatClampNeg (by omega) (by omega) (by omega) (by omega) (by omega) (by omega)) (fun z hz => ?_)
  dsimp only
  refine PT.ieq (fun hz0 => ?_) (fun hz0 => ?_)
  · refine PT.sw ?_
    refine PT.ieq (fun hk0 => ?_) (fun hk0 => ?_)
    · exact PT.sw (h146 (fun h => h.2.2))
    · exfalso
      rcases hz with hz | hz
      · rcases hk with hk | hk
        · omega
        · exact hz.2 hk.2
      · omega
  · refine PT.sw ?_
    have hN : NYS τ (τ.1 3 u.toNatClampNeg) (τ.1 3 v.toNatClampNeg) := by
      rcases hz with hz | hz
      · omega
      · exact hz.2
    refine PT.ieq (fun hk0 => ?_) (fun hk0 => ?_)
    · exfalso
      rcases hk with hk | hk
      · exact hk.2 hN
      · omega
    · refine PT.sw ?_
      exact PT.bnd2 (hf _ _ lev _ _ σ τ (τ.1 3 u.toNatClampNeg).toNatClampNeg (τ.1 3 v.toNatClampNeg).toNatClampNeg h hn (by omega) (by omega) (by omega) (by omega) (by omega) (by omega) hN (fun h9 => by have := hl h9; omega)) (fun s t hst => PT.ret (PT.ret hst))
theorem wz_20 {p q : Nat} {σ τ t : ST} (h : STT p q σ τ) (hn : ¬ (τ.1 0 61).toInt < 20) (k : K20 τ t) : PWX σ τ σ t := by
  obtain ⟨c, k2⟩ := k
  obtain ⟨⟨m1, ⟨m2, m3⟩, m4⟩, hL⟩ := h.2.2
  obtain ⟨e1, e2, e3, e4⟩ := k2 (by omega)
  refine ⟨KWK.rf, c, ⟨⟨by omega, by omega, fun i hi => ?_⟩, fun h9 => by omega⟩, fun h9 => by omega⟩
  rw [e2, e3, e4]
  exact m4 i (by omega)
theorem wz_top {p q : Nat} {rw_ rb rf : Int32 → Int32 → Int32 → ST → Option ST} {rl rr : Int32 → Int32 → ST → Option ST} (h20 : (∀ (p0 : Int32) (p1 : Int32) (s σ : ST), K20 s σ → PF st0 (K20 s) (rl p0 p1 σ)) ∧ (∀ (p0 : Int32) (p1 : Int32) (s σ : ST), K20 s σ → PF st0 (K20 s) (rr p0 p1 σ))) (hB : cWB p q rb (fun u v τ => f_X11_looksAt_13 rl rr FU u v 0 τ)) (hN1 : cWN p q (f_X0_walk_77 rw_ rb rf) rl) (hN2 : cWN p q (f_X0_walk_77 rw_ rb rf) (f_X11_looksAt rl rr)) : cW p q (f_X0_walk rw_ rb rf) (f_X11_looksAt rl rr) := by
  intro x y lev u v σ τ d e h hx hy hd he hl
  have h' := h
  obtain ⟨⟨⟨hp, hq⟩, ⟨a2, a3⟩, ⟨a4, a5⟩, a6⟩, _, _⟩ := h'
  have cP := a4.cnt
  have cQ := a5.cnt
  have l0 := li_0
  have lm := li_m1
  have l8 := li_8
  have l20 := li_20
  have l40 := li_40
  have m1 := h.2.2.1.1
  by_cases hn : (τ.1 0 61).toInt < 20
  rotate_left
  · unfold f_X0_walk
    have hall : PT (f_X11_looksAt rl rr u v τ) (PWX σ τ σ) := (w20_X11_looksAt (s := τ) (fun a b s hs => h20.1 a b τ s hs) (fun a b s hs => h20.2 a b τ s hs) ⟨CH.rf, fun h => ⟨h, rfl, rfl, rfl⟩⟩ : PF st0 (K20 τ) (f_X11_looksAt rl rr u v τ)) |> fun hh => PT.mono (P := K20 τ) hh (fun t ht => wz_20 h hn ht)
    refine PT.ilt (fun _ => PT.ret hall) (fun _ => ?_)
    refine PT.ilt (fun h9 => by omega) (fun _ => PT.ret hall)
  obtain ⟨x1, x2, x3, x4⟩ := hx.sort cP.2.2
  obtain ⟨y1, y2, y3, y4⟩ := hy.sort cP.2.2
  have rx := hx.rng.2
  have ry := hy.rng.2
  have hl' := hl hn
  have hn0 := h.n0 hn
  by_cases hu8 : (τ.1 2 u.toNatClampNeg).toInt = 8
  · have hBB := hB x y lev u v σ τ d e h hx hy hu8 hd he hl
    unfold f_X0_walk f_X11_looksAt
    refine PT.ilt (fun h9 => by omega) (fun _ => ?_)
    refine PT.ilt (fun _ => ?_) (fun h9 => by omega)
    rw [x1, sbnd]
    dsimp only
    refine PT.ieq (fun _ => ?_) (fun h9 => by omega)
    refine PT.sw ?_
    refine PT.grd (fun _ => ?_)
    refine PT.ieq (fun _ => ?_) (fun h9 => by omega)
    refine PT.sw ?_
    exact PT.bnd hBB (fun s hs => PT.ret hs)
  by_cases hv8 : (τ.1 2 v.toNatClampNeg).toInt = 8
  rotate_left
  · have hNN := hN2 x y lev u v σ τ d e h hx hy hu8 hv8 hd he hn hl
    unfold f_X0_walk
    refine PT.ilt (fun h9 => by omega) (fun _ => ?_)
    refine PT.ilt (fun _ => ?_) (fun h9 => by omega)
    rw [x1, sbnd]
    dsimp only
    refine PT.ieq (fun h9 => by omega) (fun _ => ?_)
    rw [y1, sbnd]
    dsimp only
    refine PT.ieq (fun h9 => by omega) (fun _ => ?_)
    exact hNN
  obtain ⟨m, g1, g2, g3, g4, g5, g6⟩ := chn_v hy hv8
  unfold f_X0_walk f_X11_looksAt
  refine PT.ilt (fun h9 => by omega) (fun _ => ?_)
  refine PT.ilt (fun _ => ?_) (fun h9 => by omega)
  rw [x1, sbnd]
  dsimp only
  refine PT.ieq (fun h9 => by omega) (fun _ => ?_)
  rw [y1, sbnd]
  dsimp only
  refine PT.ieq (fun _ => ?_) (fun h9 => by omega)
  refine PT.bndR (h.chosen x y u v d e hx hy hv8 hd he) (fun z hz => ?_)
  dsimp only
  refine PT.sw ?_
  refine PT.grd (fun _ => ?_)
  refine PT.ieq (fun h9 => by omega) (fun _ => ?_)
  refine PT.grd (fun _ => ?_)
  refine PT.ieq (fun _ => ?_) (fun h9 => by omega)
  refine PT.bndR hz (fun k hk => ?_)
  dsimp only
  rcases hk with ⟨k1, k2⟩ | ⟨i, i1, i2, i3⟩
  · refine PT.ile (fun h9 => by omega) (fun _ => ?_)
    refine PT.sw ?_
    refine PT.ieq (fun _ => ?_) (fun h9 => by omega)
    exact PT.bnd2 (xw_miss 3 h.2.2 (fun _ => by omega)) (fun s t hst => PT.ret (PT.ret hst))
  · obtain ⟨t1, t2⟩ := g5 i (by omega)
    have rz := t1.rng
    refine PT.ile (fun _ => ?_) (fun h9 => by omega)
    refine PT.grd (fun _ => ?_)
    refine PT.sw ?_
    rw [i2]
    refine PT.ieq (fun h9 => by omega) (fun _ => ?_)
    have e1 := mlE (k := 4) (y := v) 4 li_4 (by omega) (by omega)
    have e2 := il_addE (x := 4 * v) (y := k) (by omega) (by omega)
    have nv := nN_ ry.1
    have e4 : (4 * v + k).toNatClampNeg = 4 * v.toNatClampNeg + i := nC (by omega)
    rw [e4]
    have hNN := hN1 x (chn (σ.1 17) (σ.1 16 y.toNatClampNeg) i) lev u _ σ τ d (e - 1) h hx t1 hu8 t2 hd (by omega) hn hl
    refine PT.sw ?_
    refine PT.bnd (PT.sw hNN) (fun t ht => ?_)
    exact PT.ret ht
theorem wz_13 {p q : Nat} {rw_ rb rf : Int32 → Int32 → Int32 → ST → Option ST} {rl rr : Int32 → Int32 → ST → Option ST} (hw : cW p q rw_ rl) (u v : Int32) (d e m : Nat) (hd : d ≤ 3) (he : e ≤ 4) (hm : m ≤ 4) (hu : 0 ≤ u.toInt ∧ u.toInt < 400) : ∀ (n n' k : Nat) (y lev x5 : Int32) (x0 : Int32) (σ τ : ST), STT p q σ τ → x5.toInt = k → k ≤ m → (τ.1 4 u.toNatClampNeg).toInt = m → (∀ k : Nat, k < m → TY p (τ.1 8 p).toInt σ τ d (chn (σ.1 17) x0 k) (τ.1 5 (4 * u.toNatClampNeg + k))) → (chn (σ.1 17) x0 m).toInt = -1 → TY q (τ.1 8 q).toInt σ τ e y v → LVB lev τ (d + 1) → PT (f_X0_walkBranches_13 rw_ rb rf n y lev (chn (σ.1 17) x0 k) x5 σ) (fun s => PT (f_X11_looksAt_13 rl rr n' u v x5 τ) (PWX σ τ s)) := by
  intro n
  have l0 := li_0
  have l1 := li_1
  have lm := li_m1
  have l4 := li_4
  induction n with
  | zero => intro n' k y lev x5 x0 σ τ _ _ _ _ _ _ _ _; exact PT.none
  | succ n ih =>
    intro n' k y lev x5 x0 σ τ h h5 hk hM hv hz hy hl
    cases n' with
    | zero =>
      refine PT.sw ?_
      exact PT.none
    | succ n' =>
    rw [f_X0_walkBranches_13, f_X11_looksAt_13]
    unfold f_X0_walkBranches_63 f_X11_looksAt_69
    have h' := h
    obtain ⟨⟨⟨hp, hq⟩, ⟨a2, a3⟩, ⟨a4, a5⟩, a6⟩, _, _⟩ := h'
    have cP := a4.cnt
    have nu := nN_ hu.1
    have e1 := mlE (k := 4) (y := u) 4 li_4 (by omega) (by omega)
    have e2 := il_addE (x := 4 * u) (y := x5) (by omega) (by omega)
    have e3 := il_addE (x := x5) (y := 1) (by omega) (by omega)
    have e4 : (4 * u + x5).toNatClampNeg = 4 * u.toNatClampNeg + k := nC (by omega)
    have hn57 : (τ.1 0 61).toInt < 20 → (τ.1 0 57).toInt < 32 := fun h9 => by have := hl h9; omega
    refine PT.sw ?_
    refine PT.grd (fun _ => ?_)
    by_cases ek : k = m
    · subst ek
      refine PT.ile (fun _ => PT.ret ?_) (fun h9 => by omega)
      refine PT.ile (fun _ => PT.ret (PWX.rf h.2.2)) (fun h9 => ?_)
      refine PT.ieq (fun _ => PT.ret (PWX.rf h.2.2)) (fun h9 => by omega)
    refine PT.ile (fun h9 => by omega) (fun _ => ?_)
    have tk := hv k (by omega)
    have rk := tk.rng
    refine PT.sw ?_
    refine PT.ile (fun h9 => by omega) (fun _ => ?_)
    refine PT.ieq (fun h9 => by omega) (fun _ => ?_)
    refine PT.bnd2 (xw_step (200 + x5) h.2.2 hn57) (fun s1 t1 hE => ?_)
    have hS1 := h.se hE
    have t5 := hE.2.1.1 5 (by decide) (by decide)
    have t8 := hE.2.1.1 8 (by decide) (by decide)
    have t4 := hE.2.1.1 4 (by decide) (by decide)
    have s17 := (hE.1.kta 17 (by omega) (by omega)).1
    rw [e4, t5]
    have tk1 := tk.to hE.1.kta hE.2.1 (by decide)
    have ty1 := hy.to hE.1.kta hE.2.1 (by decide)
    rw [← t8] at tk1 ty1
    have go : ∀ s2 t2 : ST, PWX s1 t1 s2 t2 → PT ((f_X5_branchAfter 4 (chn (σ.1 17) x0 k) (stI s2 41 11 (s2.1 41 11 - 1))).bind fun q1 => f_X0_walkBranches_13 rw_ rb rf n y lev q1.1 (x5 + 1) q1.2) (fun s => PT (f_X11_looksAt_13 rl rr n' u v (x5 + 1) (stI t2 0 57 (t2.1 0 57 - 1))) (PWX σ τ s)) := fun s2 t2 hP => by
      have hQ := xw_leave h.2.2 hE hP
      have kA := hQ.1.kta
      have tkQ := tk.to kA hQ.2.1 (by decide)
      have tyQ := hy.to kA hQ.2.1 (by decide)
      have q8 := hQ.2.1.1 8 (by decide) (by decide)
      have q4 := hQ.2.1.1 4 (by decide) (by decide)
      have q5 := hQ.2.1.1 5 (by decide) (by decide)
      have q17 := (kA 17 (by omega) (by omega)).1
      have qn := (kA 4 (by omega) (by omega)).1
      have hSQ := h.sp hQ
      have hlQ := hl.to hQ
      generalize stI s2 41 11 (s2.1 41 11 - 1) = s3 at hQ kA tkQ tyQ q17 qn hSQ ⊢
      generalize stI t2 0 57 (t2.1 0 57 - 1) = t3 at hQ tkQ tyQ q8 q4 q5 hSQ hlQ ⊢
      have rQ := tkQ.rng
      rw [a4_branchAfter _ s3 rQ.1 (by rw [qn]; exact cP.2.2), sbnd]
      dsimp only
      have ech : s3.1 17 (chn (σ.1 17) x0 k).toNatClampNeg = chn (s3.1 17) x0 (k + 1) := by
        rw [q17]
        rfl
      rw [ech]
      refine PT.mono2 (ih n' (k + 1) y lev (x5 + 1) x0 s3 t3 hSQ (by omega) (by omega) (by rw [q4]; exact hM) (fun j hj => ?_) (by rw [q17]; exact hz) ?_ hlQ) (fun s t hst => hQ.trans hst)
      · rw [q5, q8, q17]
        exact (hv j hj).to kA hQ.2.1 (by decide)
      · rw [q8]
        exact tyQ
    refine PT.sw ?_
    refine PT.grd (fun _ => ?_)
    refine PT.sw ?_
    refine PT.bndR (hS1.fits _ y _ v d e tk1 ty1 (by omega) he) (fun z hz2 => ?_)
    dsimp only
    refine PT.sw ?_
    refine PT.bndR hz2 (fun k' hk' => ?_)
    dsimp only
    refine PT.ieq (fun hk0 => ?_) (fun hk0 => ?_)
    · refine PT.sw ?_
      refine PT.ieq (fun hz0 => ?_) (fun hz0 => by omega)
      exact PT.bnd2 (xw_miss 4 hS1.2.2 (fun h9 => by
        rw [hE.2.2.2.1] at h9
        have := hE.2.2.2.2.2 h9
        have := hn57 h9
        omega)) (fun s2 t2 hP => go s2 t2 hP)
    · refine PT.sw ?_
      refine PT.ieq (fun hz0 => by omega) (fun hz0 => ?_)
      exact PT.bnd2 (hw _ y (lev + 1) _ v s1 t1 d e hS1 tk1 ty1 (by omega) he (hl.inn hE (by omega) rfl h.n0)) (fun s2 t2 hP => go s2 t2 hP)
theorem wz_branches {p q : Nat} {rw_ rb rf : Int32 → Int32 → Int32 → ST → Option ST} {rl rr : Int32 → Int32 → ST → Option ST} (hw : cW p q rw_ rl) : cWB p q (f_X0_walkBranches rw_ rb rf) (fun u v τ => f_X11_looksAt_13 rl rr FU u v 0 τ) := by
  intro x y lev u v σ τ d e h hx hy hu8 hd he hl
  unfold f_X0_walkBranches
  obtain ⟨m, m1, m2, m3, m4, m5, m6⟩ := chn_v hx hu8
  have cP := h.1.2.2.1.1.cnt
  rw [(hx.sort cP.2.2).2.1, sbnd]
  dsimp only
  exact wz_13 hw u v (d - 1) e m (by omega) he m2 hx.rng.2 FU FU 0 y lev 0 (σ.1 16 x.toNatClampNeg) σ τ h li_0 (by omega) m4 (fun k hk => (m5 k hk).1) m6 hy (fun h9 => by have := hl h9; omega)
