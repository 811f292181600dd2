/-! the reference: a value's text -/
theorem b_isValue (σ : ST) : OK (f_X11_isValue σ) (KO σ 10 fun v => v.toInt = 0 ∨ v.toInt = 1) := by
  unfold f_X11_isValue f_X11_isValue_16
  have lt_0 := li_0
  have lt_1 := li_1
  refine OK.bndK (b_isLiteral σ) (fun v x hv hx => ?_)
  refine OK.kac ?_
  dsimp only
  refine OK.ieq (fun _ => ?_) (fun _ => ⟨_, rfl, rfl, .inr lt_1, hx⟩)
  exact OK.ieq (fun _ => ⟨_, rfl, rfl, .inr lt_1, hx⟩) (fun _ => ⟨_, rfl, rfl, .inl lt_0, hx⟩)
/-- what trying the branches takes -/
def cs (S B : Nat → Int32) (t : Nat) : Nat → Nat
  | 0 => 0
  | k + 1 => cs S B t k + ftc (S (B (4 * t + k)).toNatClampNeg).toInt
theorem cs_mono {S B : Nat → Int32} {t : Nat} : ∀ {j k : Nat}, j ≤ k → cs S B t j ≤ cs S B t k := by
  intro j k h
  induction k with
  | zero =>
    have : j = 0 := by omega
    rw [this]
    exact Nat.le_refl _
  | succ k ih =>
    by_cases e : j = k + 1
    · rw [e]; exact Nat.le_refl _
    · have := ih (by omega)
      rw [cs]
      omega
theorem cs_10 {hi : Int} {S A M B : Nat → Int32} {rm : Int} {d : Nat} {t : Int32} (h : VT hi S A M B rm d t) (hs : (S t.toNatClampNeg).toInt = 8) {k : Nat} (hk : (k : Int) ≤ (M t.toNatClampNeg).toInt) : cs S B t.toNatClampNeg k ≤ 10 := by
  obtain ⟨_, m1, _, m3⟩ := h.eit hs
  have f2 : ∀ s : Int, ftc s = 8 ∧ s = 0 ∨ ftc s = 2 ∧ s = 1 ∨ ftc s = 0 ∧ ¬ s = 0 ∧ ¬ s = 1 := fun s => by
    unfold ftc
    split
    · omega
    · split <;> omega
  have k4 : k = 0 ∨ k = 1 ∨ k = 2 ∨ k = 3 ∨ k = 4 := by omega
  have a := f2 (S (B (4 * t.toNatClampNeg + 0)).toNatClampNeg).toInt
  have b := f2 (S (B (4 * t.toNatClampNeg + 1)).toNatClampNeg).toInt
  have c := f2 (S (B (4 * t.toNatClampNeg + 2)).toNatClampNeg).toInt
  have e := f2 (S (B (4 * t.toNatClampNeg + 3)).toNatClampNeg).toInt
  rcases k4 with rfl | rfl | rfl | rfl | rfl
  · rw [cs]; omega
  · rw [cs, cs]; omega
  · have := m3 0 1 (by omega) (by omega)
    rw [cs, cs, cs]; omega
  · have := m3 0 1 (by omega) (by omega)
    have := m3 0 2 (by omega) (by omega)
    have := m3 1 2 (by omega) (by omega)
    rw [cs, cs, cs, cs]; omega
  · have := m3 0 1 (by omega) (by omega)
    have := m3 0 2 (by omega) (by omega)
    have := m3 1 2 (by omega) (by omega)
    have := m3 0 3 (by omega) (by omega)
    have := m3 1 3 (by omega) (by omega)
    have := m3 2 3 (by omega) (by omega)
    rw [cs, cs, cs, cs, cs]; omega
theorem b_branchFor_2 (t : Int32) (σ : ST) {a : Int} {d : Nat} (h : VS σ a d t) (hs : (σ.1 2 t.toNatClampNeg).toInt = 8) : ∀ (n : Nat) (x2 : Int32), (0 ≤ x2.toInt ∧ x2.toInt ≤ (σ.1 4 t.toNatClampNeg).toInt ∧ (σ.1 4 t.toNatClampNeg).toInt - x2.toInt < n) → OK (f_X11_branchFor_2 n t x2 σ) (fun q => q.1.2 = σ ∧ (q.1.1.toInt = -1 ∨ 0 ≤ q.1.1.toInt ∧ q.1.1.toInt < (σ.1 4 t.toNatClampNeg).toInt) ∧ q.2 + cs (σ.1 2) (σ.1 5) t.toNatClampNeg x2.toNatClampNeg ≤ cs (σ.1 2) (σ.1 5) t.toNatClampNeg (σ.1 4 t.toNatClampNeg).toNatClampNeg) := by
  intro n
  have g := h.rng
  obtain ⟨_, m1, m2, m3⟩ := h.eit hs
  have lt_1 := li_1
  have lt_4 := li_4
  have lm := li_m1
  have nt := nN_ g.1
  have nM := nN_ (x := σ.1 4 t.toNatClampNeg) (by omega)
  have e1 := mlE (k := 4) (y := t) 4 li_4 (by omega) (by omega)
  induction n with
  | zero => intro x2 hx; omega
  | succ n ih =>
    intro x2 hx
    rw [f_X11_branchFor_2]
    have n2 := nN_ hx.1
    have e2 := il_addE (x := 4 * t) (y := x2) (by omega) (by omega)
    have e3 := il_addE (x := x2) (y := 1) (by omega) (by omega)
    have e4 : (4 * t + x2).toNatClampNeg = 4 * t.toNatClampNeg + x2.toNatClampNeg := nC (by omega)
    refine OK.grd g ?_
    refine OK.ile (fun _ => ⟨_, rfl, rfl, .inl lm, ?_⟩) (fun hlt => ?_)
    · have : x2.toNatClampNeg = (σ.1 4 t.toNatClampNeg).toNatClampNeg := by omega
      rw [this]
      show 0 + _ ≤ _
      omega
    refine OK.grd ⟨by omega, by omega⟩ ?_
    rw [e4]
    have hB := (m2 x2.toNatClampNeg (by omega)).1
    refine OK.bndK (b_fits _ σ hB.rng) (fun v x hv hxc => ?_)
    refine OK.kac ?_
    dsimp only
    have hc : cs (σ.1 2) (σ.1 5) t.toNatClampNeg (x2.toNatClampNeg + 1) = cs (σ.1 2) (σ.1 5) t.toNatClampNeg x2.toNatClampNeg + ftc (σ.1 2 (σ.1 5 (4 * t.toNatClampNeg + x2.toNatClampNeg)).toNatClampNeg).toInt := rfl
    have n3 : (x2 + 1).toNatClampNeg = x2.toNatClampNeg + 1 := nC (by omega)
    have hmn := cs_mono (S := σ.1 2) (B := σ.1 5) (t := t.toNatClampNeg) (show x2.toNatClampNeg + 1 ≤ (σ.1 4 t.toNatClampNeg).toNatClampNeg by omega)
    refine OK.ieq (fun _ => ?_) (fun _ => ⟨_, rfl, rfl, .inr ⟨by dsimp only; omega, by dsimp only; omega⟩, ?_⟩)
    · refine (ih (x2 + 1) (by omega)).mono (fun q hq => ⟨hq.1, hq.2.1, ?_⟩)
      have h9 := hq.2.2
      rw [n3] at h9
      omega
    · dsimp only
      omega
theorem b_branchFor (t : Int32) (σ : ST) {a : Int} {d : Nat} (h : VS σ a d t) (hs : (σ.1 2 t.toNatClampNeg).toInt = 8) : OK (f_X11_branchFor t σ) (KO σ 10 fun v => v.toInt = -1 ∨ 0 ≤ v.toInt ∧ v.toInt < (σ.1 4 t.toNatClampNeg).toInt) := by
  have lt_0 := li_0
  have lu := FUi
  obtain ⟨_, m1, _⟩ := h.eit hs
  have nM := nN_ (x := σ.1 4 t.toNatClampNeg) (by omega)
  have h10 := cs_10 h hs (k := (σ.1 4 t.toNatClampNeg).toNatClampNeg) (by omega)
  refine (b_branchFor_2 t σ h hs FU 0 (by omega)).mono (fun q hq => ⟨hq.1, hq.2.1, ?_⟩)
  have := hq.2.2
  omega
abbrev WC : List Nat := [20, 23, 24, 25, 26, 27, 28, 29, 30]
abbrev WI : List Nat := [4, 5, 6, 8, 10, 12, 13, 46]
def WX (LV : Nat → Nat) (σ : ST) : Prop := PLs σ ∧ TX σ ∧ NL LV σ
def pot (σ : ST) : Int := (σ.1 0 46).toInt + 4 * (uT σ : Nat)
/-- from there to there: more nodes, those there were as they were -/
def WG (LV : Nat → Nat) (σ : ST) (LV' : Nat → Nat) (t : ST) : Prop := CH WC WI σ t ∧ WX LV' t ∧ (σ.1 0 46).toInt ≤ (t.1 0 46).toInt ∧ ∀ r : Nat, (r : Int) < (σ.1 0 46).toInt → LV' r = LV r ∧ t.1 20 r = σ.1 20 r
theorem WG.rf {LV : Nat → Nat} {σ : ST} (h : WX LV σ) : WG LV σ LV σ := ⟨CH.rf, h, by omega, fun _ _ => ⟨rfl, rfl⟩⟩
theorem WG.trans {L0 L1 L2 : Nat → Nat} {σ s t : ST} (h : WG L0 σ L1 s) (k : WG L1 s L2 t) : WG L0 σ L2 t := by
  obtain ⟨a1, a2, a3, a4⟩ := h
  obtain ⟨b1, b2, b3, b4⟩ := k
  refine ⟨a1.trans b1, b2, by omega, fun r hr => ?_⟩
  have x := a4 r hr
  have y := b4 r (by omega)
  exact ⟨y.1.trans x.1, y.2.trans x.2⟩
/-- one token further on -/
theorem WX.go {LV : Nat → Nat} {σ : ST} (h : WX LV σ) : OK (f_X11_go σ) (fun t => WG LV σ LV t ∧ uT t ≤ ((σ.1 0 3).toInt - (σ.1 0 5).toInt).toNat ∧ t.1 0 46 = σ.1 0 46) := by
  refine (b_goT σ h.2.1).mono (fun t ht => ?_)
  obtain ⟨c, h1, h2⟩ := ht
  have e46 : t.1 0 46 = σ.1 0 46 := c.2.1 46 (by decide)
  refine ⟨⟨c.mono (by decide) (by decide), ⟨h.1.ch c (by decide) (by decide), h1, h.2.2.ch c (by decide) (by decide)⟩, by rw [e46]; omega, fun r _ => ⟨rfl, by rw [c.1 20 (by decide) (by decide)]⟩⟩, h2, e46⟩
theorem uT_ne {σ : ST} (h : ¬ (σ.1 0 6).toInt = 0) : uT σ = ((σ.1 0 3).toInt - (σ.1 0 5).toInt).toNat + 1 := by
  unfold uT
  rw [if_neg h]
theorem uT_le {σ : ST} : ((σ.1 0 3).toInt - (σ.1 0 5).toInt).toNat ≤ uT σ := by
  unfold uT
  omega
/-- what reading a value's text ends with -/
def VK (LV : Nat → Nat) (σ : ST) (e m : Int) (q : (Int32 × ST) × Nat) : Prop := CH WC WI σ q.1.2 ∧ (q.1.1.toInt = 0 ∧ q.2 + 40 * uT q.1.2 ≤ 40 * uT σ + 30 ∨ q.1.1.toInt = 1 ∧ q.2 + 40 * uT q.1.2 ≤ 40 * uT σ ∧ ∃ LV', WG LV σ LV' q.1.2 ∧ pot q.1.2 ≤ pot σ + e ∧ (σ.1 0 46).toInt + m ≤ (q.1.2.1 0 46).toInt)
theorem VK.bad {LV LV' : Nat → Nat} {σ s : ST} {e m : Int} {x : Nat} {p0 : Int32} (g : WG LV σ LV' s) (hx : x + 40 * uT s ≤ 40 * uT σ + 30) : OK ((f_X11_wrongHere p0 s).bind fun q => if q.1 = 0 ∨ q.1 = 1 then some ((q.1, q.2), 0) else none) (fun z => VK LV σ e m (z.1, x + z.2)) := by
  refine OK.bndC (b_wrongHere p0 s) (fun v t c hv => ?_)
  dsimp only
  refine OK.grd (b01 (.inl hv)) ?_
  have e3 : t.1 0 3 = s.1 0 3 := c.2.1 3 (by decide)
  have e5 : t.1 0 5 = s.1 0 5 := c.2.1 5 (by decide)
  have e6 : t.1 0 6 = s.1 0 6 := c.2.1 6 (by decide)
  have eu : uT t = uT s := by unfold uT; rw [e3, e5, e6]
  refine ⟨_, rfl, g.1.trans (c.mono (by decide) (by decide)), .inl ⟨hv, ?_⟩⟩
  show x + 0 + 40 * uT t ≤ _
  rw [eu]
  omega
def VPO (LV : Nat → Nat) (σ : ST) (dp p : Int32) : Prop := p.toInt = -1 ∧ dp.toInt = 0 ∨ (0 ≤ p.toInt ∧ p.toInt < (σ.1 0 46).toInt) ∧ (LV p.toNatClampNeg : Int) + 1 = dp.toInt ∧ ¬ (σ.1 20 p.toNatClampNeg).toInt = 5
def rmP (σ : ST) (p : Int32) : Int := (σ.1 8 p.toNatClampNeg).toInt
def cVal (N : Nat) (rv : Int32 → Int32 → Int32 → Int32 → Int32 → ST → Option ((Int32 × ST) × Nat)) : Prop := ∀ (p t dp pa ix : Int32) (σ : ST) (LV : Nat → Nat), WX LV σ → (0 ≤ p.toInt ∧ p.toInt < (σ.1 0 32).toInt) → VS σ (rmP σ p) 4 t → (0 ≤ dp.toInt ∧ dp.toInt ≤ 31) → VPO LV σ dp pa → pot σ ≤ 4050 → 2 * (32 - dp.toInt) ≤ (N : Int) → OK (rv p t dp pa ix σ) (VK LV σ 1 1)
def VNV (LV : Nat → Nat) (σ : ST) (dp v : Int32) : Prop := (0 ≤ v.toInt ∧ v.toInt < (σ.1 0 46).toInt) ∧ (LV v.toNatClampNeg : Int) = dp.toInt ∧ ¬ (σ.1 20 v.toNatClampNeg).toInt = 5
theorem VNV.g {L0 L1 : Nat → Nat} {σ t : ST} {dp v : Int32} (h : VNV L0 σ dp v) (g : WG L0 σ L1 t) : VNV L1 t dp v := by
  obtain ⟨a1, a2, a3⟩ := h
  obtain ⟨_, _, b3, b4⟩ := g
  have n1 := nN_ a1.1
  have b := b4 v.toNatClampNeg (by omega)
  refine ⟨by omega, by rw [b.1]; exact a2, by rw [b.2]; exact a3⟩
def cIts (N : Nat) (ri : Int32 → Int32 → Int32 → Int32 → ST → Option ((Int32 × ST) × Nat)) : Prop := ∀ (p t dp v : Int32) (σ : ST) (LV : Nat → Nat), WX LV σ → (0 ≤ p.toInt ∧ p.toInt < (σ.1 0 32).toInt) → VS σ (rmP σ p) 4 t → (σ.1 2 t.toNatClampNeg).toInt = 6 → (0 ≤ dp.toInt ∧ dp.toInt ≤ 30) → VNV LV σ dp v → ¬ (σ.1 0 6).toInt = 0 → pot σ ≤ 4051 → 2 * (32 - dp.toInt) ≤ (N : Int) + 1 → OK (ri p t dp v σ) (fun q => VK LV σ 0 0 (q.1, q.2 + 30))
def cPts (N : Nat) (rp : Int32 → Int32 → Int32 → Int32 → ST → Option ((Int32 × ST) × Nat)) : Prop := ∀ (p t dp v : Int32) (σ : ST) (LV : Nat → Nat), WX LV σ → (0 ≤ p.toInt ∧ p.toInt < (σ.1 0 32).toInt) → VS σ (rmP σ p) 4 t → (σ.1 2 t.toNatClampNeg).toInt = 7 → (0 ≤ dp.toInt ∧ dp.toInt ≤ 30) → VNV LV σ dp v → ¬ (σ.1 0 6).toInt = 0 → pot σ ≤ 4051 → 2 * (32 - dp.toInt) ≤ (N : Int) + 1 → OK (rp p t dp v σ) (fun q => VK LV σ 0 0 (q.1, q.2 + 30))
theorem VK.comp {LV L1 : Nat → Nat} {σ s : ST} {e m e2 m2 : Int} {x y : Nat} {o : Option ((Int32 × ST) × Nat)} (g : WG LV σ L1 s) (hx : x + 40 * uT s ≤ 40 * uT σ + y) (hp : pot s + e2 ≤ pot σ + e) (hm : (σ.1 0 46).toInt + m ≤ (s.1 0 46).toInt + m2) (h : OK o (fun q => VK L1 s e2 m2 (q.1, q.2 + y))) : OK o (fun z => VK LV σ e m (z.1, x + z.2)) := by
  refine h.mono (fun q hq => ?_)
  obtain ⟨c, hq⟩ := hq
  refine ⟨g.1.trans c, ?_⟩
  rcases hq with ⟨h1, h2⟩ | ⟨h1, h2, L2, g2, h3, h4⟩
  · have h2 : q.2 + y + 40 * uT q.1.2 ≤ 40 * uT s + 30 := h2
    exact .inl ⟨h1, (show x + q.2 + 40 * uT q.1.2 ≤ 40 * uT σ + 30 by omega)⟩
  · have h2 : q.2 + y + 40 * uT q.1.2 ≤ 40 * uT s := h2
    have h3 : pot q.1.2 ≤ pot s + e2 := h3
    have h4 : (s.1 0 46).toInt + m2 ≤ (q.1.2.1 0 46).toInt := h4
    exact .inr ⟨h1, (show x + q.2 + 40 * uT q.1.2 ≤ 40 * uT σ by omega), L2, g.trans g2, (show pot q.1.2 ≤ _ by omega), (show _ ≤ (q.1.2.1 0 46).toInt by omega)⟩
theorem VK.y0 {LV : Nat → Nat} {σ : ST} {e m : Int} {o : Option ((Int32 × ST) × Nat)} (h : OK o (VK LV σ e m)) : OK o (fun q => VK LV σ e m (q.1, q.2 + 0)) := h
theorem WG.vs {L0 L1 : Nat → Nat} {σ t : ST} (g : WG L0 σ L1 t) : (∀ (a : Int) (d : Nat) (x : Int32), VS σ a d x → VS t a d x) ∧ t.1 2 = σ.1 2 ∧ t.1 3 = σ.1 3 ∧ t.1 8 = σ.1 8 ∧ t.1 11 = σ.1 11 ∧ t.1 15 = σ.1 15 ∧ t.1 0 32 = σ.1 0 32 := ⟨fun _ _ _ hx => VT.tr hx g.1 (by decide), g.1.1 2 (by decide) (by decide), g.1.1 3 (by decide) (by decide), g.1.1 8 (by decide) (by decide), g.1.1 11 (by decide) (by decide), g.1.1 15 (by decide) (by decide), g.1.2.1 32 (by decide)⟩
theorem b_its_25 {N : Nat} {ri rp : Int32 → Int32 → Int32 → Int32 → ST → Option ((Int32 × ST) × Nat)} {rv : Int32 → Int32 → Int32 → Int32 → Int32 → ST → Option ((Int32 × ST) × Nat)} (hv : cVal N rv) (p t dp v : Int32) (hdp : 0 ≤ dp.toInt ∧ dp.toInt ≤ 30) (hN : 2 * (32 - dp.toInt) ≤ (N : Int) + 2) : ∀ (n : Nat) (x5 x6 : Int32) (σ : ST) (LV : Nat → Nat), WX LV σ → (0 ≤ p.toInt ∧ p.toInt < (σ.1 0 32).toInt) → VS σ (rmP σ p) 4 t → (σ.1 2 t.toNatClampNeg).toInt = 6 → VNV LV σ dp v → (x6.toInt = 1 → pot σ ≤ 4050) → (x6.toInt = 0 ∨ x6.toInt = 1) → (uT σ : Int) + x6.toInt < n → OK (f_X11_items_25 ri rp rv n p t dp v x5 x6 σ) (VK LV σ (4 * x6.toInt - 4) 0) := by
  intro n
  have lt_0 := li_0
  have lt_1 := li_1
  have l44 : (44 : Int32).toInt = 44 := by decide
  have l93 : (93 : Int32).toInt = 93 := by decide
  have ad := il_addE (x := dp) (y := 1) (by omega) (by omega)
  induction n with
  | zero => intro x5 x6 σ LV h1 h2 h3 h4 h5 h6 h7 h8; omega
  | succ n ih =>
    intro x5 x6 σ LV hX hp ht h6 hV hpt hx6 hn
    rw [f_X11_items_25]
    refine OK.ieq (fun hx0 => ?_) (fun hx1 => ?_)
    · refine OK.bndC (b_mark 93 σ hX.2.1) (fun w u c hw => ?_)
      dsimp only
      refine OK.grd (b01 (by omega)) ?_
      have c' : CH WC WI σ u := c.mono (by decide) (by decide)
      have e46 : u.1 0 46 = σ.1 0 46 := c.2.1 46 (by decide)
      have ul := uT_le (σ := σ)
      refine ⟨_, rfl, c', ?_⟩
      rcases hw.2 with ⟨a1, a2⟩ | ⟨a1, a2, a3⟩
      · exact .inl ⟨a1, (show 0 + 40 * uT u ≤ _ by omega)⟩
      · have hne : ¬ (σ.1 0 6).toInt = 0 := hX.2.1.2.2.2 (by omega)
        have eu := uT_ne hne
        refine .inr ⟨a1, (show 0 + 40 * uT u ≤ _ by omega), LV, ⟨c', ⟨hX.1.ch c (by decide) (by decide), hw.1, hX.2.2.ch c (by decide) (by decide)⟩, by rw [e46]; omega, fun r _ => ⟨rfl, by rw [c.1 20 (by decide) (by decide)]⟩⟩, ?_, ?_⟩
        · show pot u ≤ _
          unfold pot
          rw [e46]
          omega
        · show _ ≤ (u.1 0 46).toInt
          rw [e46]
          omega
    · refine OK.grd ht.rng ?_
      have l := ht.lst h6
      have hA : VS σ (rmP σ p) 4 (σ.1 3 t.toNatClampNeg) := l.2.up
      refine OK.bnd (hv p (σ.1 3 t.toNatClampNeg) (dp + 1) v x5 σ LV hX hp hA (by omega) (.inr ⟨hV.1, by have := hV.2.1; omega, hV.2.2⟩) (hpt (by omega)) (by omega)) (fun q hq => ?_)
      refine OK.kac ?_
      obtain ⟨c, hq⟩ := hq
      rcases hq with ⟨q1, q2⟩ | ⟨q1, q2, L2, g, q3, q4⟩
      · refine OK.ieq (fun _ => ⟨_, rfl, c, .inl ⟨lt_0, ?_⟩⟩) (fun h => by omega)
        show q.2 + 0 + 40 * uT q.1.2 ≤ _
        omega
      · refine OK.ieq (fun h => by omega) (fun _ => ?_)
        obtain ⟨g1, g2, g3, g4, g5, g6, g7⟩ := g.vs
        unfold f_X11_items_70
        have hp' : 0 ≤ p.toInt ∧ p.toInt < (q.1.2.1 0 32).toInt := by rw [g7]; exact hp
        have ht' : VS q.1.2 (rmP q.1.2 p) 4 t := by
          have e : rmP q.1.2 p = rmP σ p := by unfold rmP; rw [g4]
          rw [e]; exact g1 _ _ _ ht
        have h6' : (q.1.2.1 2 t.toNatClampNeg).toInt = 6 := by rw [g2]; exact h6
        refine OK.ieq (fun h44 => ?_) (fun h44 => ?_)
        · refine OK.ieq (fun h => by omega) (fun _ => ?_)
          have hne : ¬ (q.1.2.1 0 6).toInt = 0 := g.2.1.2.1.2.2.2 (by omega)
          have eu := uT_ne hne
          refine OK.bnd (g.2.1.go) (fun s hs => ?_)
          obtain ⟨gs, hu, e46⟩ := hs
          obtain ⟨f1, f2, f3, f4, f5, f6, f7⟩ := gs.vs
          have hps : pot s + 4 ≤ pot q.1.2 := by unfold pot; rw [e46]; omega
          have hms := gs.2.2.1
          refine VK.comp (y := 0) (e2 := 4 * (1 : Int32).toInt - 4) (m2 := 0) (g.trans gs) (by omega) (by omega) (by omega) (VK.y0 (ih (x5 + 1) 1 s L2 gs.2.1 (by rw [f7]; exact hp') ?_ (by rw [f2]; exact h6') ((hV.g g).g gs) (fun _ => by have := hpt (by omega); omega) (.inr lt_1) (by omega)))
          have e : rmP s p = rmP q.1.2 p := by unfold rmP; rw [f4]
          rw [e]; exact f1 _ _ _ ht'
        · refine OK.ieq (fun _ => ?_) (fun h => absurd rfl h)
          exact VK.comp (y := 0) (e2 := 4 * (0 : Int32).toInt - 4) (m2 := 0) g (by omega) (by omega) (by omega) (VK.y0 (ih (x5 + 1) 0 q.1.2 L2 g.2.1 hp' ht' h6' (hV.g g) (fun h => by omega) (.inl lt_0) (by omega)))
theorem b_its_top {N : Nat} {ri rp : Int32 → Int32 → Int32 → Int32 → ST → Option ((Int32 × ST) × Nat)} {rv : Int32 → Int32 → Int32 → Int32 → Int32 → ST → Option ((Int32 × ST) × Nat)} (hv : cVal N rv) : cIts (N + 1) (f_X11_items ri rp rv) := by
  intro p t dp v σ LV hX hp ht h6 hdp hV hne hpt hN
  unfold f_X11_items
  have lt_0 := li_0
  have lt_1 := li_1
  have lu := FUi
  have l93 : (93 : Int32).toInt = 93 := by decide
  have eu := uT_ne hne
  refine OK.bnd hX.go (fun s hs => ?_)
  obtain ⟨g, hu, e46⟩ := hs
  obtain ⟨g1, g2, g3, g4, g5, g6, g7⟩ := g.vs
  have hps : pot s + 4 ≤ pot σ := by unfold pot; rw [e46]; omega
  have hms := g.2.2.1
  have h1 := g.2.1.2.1.1
  have h2 := g.2.1.2.1.2.1
  obtain ⟨h11, h12⟩ := h1
  obtain ⟨h21, h22⟩ := h2
  have hus : uT s ≤ 1001 := by
    unfold uT
    split <;> omega
  refine OK.ieq (fun h9 => ?_) (fun h9 => ?_)
  · have hne2 : ¬ (s.1 0 6).toInt = 0 := g.2.1.2.1.2.2.2 (by omega)
    have eu2 := uT_ne hne2
    refine OK.bnd g.2.1.go (fun r hr => ?_)
    obtain ⟨gr, hur, e46r⟩ := hr
    have hpr : pot r + 4 ≤ pot s := by unfold pot; rw [e46r]; omega
    have hmr := gr.2.2.1
    refine ⟨_, rfl, (g.trans gr).1, .inr ⟨lt_1, ?_, LV, g.trans gr, ?_, ?_⟩⟩
    · show 0 + 30 + 40 * uT r ≤ 40 * uT σ
      omega
    · show pot r ≤ pot σ + 0
      omega
    · show (σ.1 0 46).toInt + 0 ≤ (r.1 0 46).toInt
      omega
  · have h := b_its_25 (ri := ri) (rp := rp) hv p t dp v hdp (by omega) FU 0 1 s LV g.2.1 (by rw [g7]; exact hp) (by
      have e : rmP s p = rmP σ p := by unfold rmP; rw [g4]
      rw [e]; exact g1 _ _ _ ht) (by rw [g2]; exact h6) (hV.g g) (fun _ => by omega) (.inr lt_1) (by omega)
    have h2 := VK.comp (x := 30) (y := 0) (e := 0) (m := 0) g (by omega) (show pot s + (4 * (1 : Int32).toInt - 4) ≤ pot σ + 0 by omega) (show (σ.1 0 46).toInt + 0 ≤ (s.1 0 46).toInt + 0 by omega) (VK.y0 h)
    refine h2.mono (fun q hq => ?_)
    have e : q.2 + 30 = 30 + q.2 := Nat.add_comm _ _
    rw [e]
    exact hq
theorem WX.row {LV : Nat → Nat} {σ : ST} (h : WX LV σ) {p x5 : Int32} {a : Int} (hp : 0 ≤ p.toInt ∧ p.toInt < (σ.1 0 32).toInt) (ha : 0 ≤ a ∧ a < rmP σ p) (hx : x5.toInt = 6 * p.toInt + a) : (0 ≤ x5.toInt ∧ x5.toInt < 36) ∧ bI (σ.1 11 x5.toNatClampNeg) 0 8 ∧ ∀ k : Nat, (k : Int) < (σ.1 11 x5.toNatClampNeg).toInt → VS σ (rmP σ p) 4 (σ.1 15 (8 * x5.toNatClampNeg + k)) := by
  have np := nN_ hp.1
  obtain ⟨⟨p1, p2⟩, h2, _⟩ := h.1
  obtain ⟨r1, r2⟩ := h2 p.toNatClampNeg (by omega)
  have ha2 : a < (σ.1 8 p.toNatClampNeg).toInt := ha.2
  obtain ⟨f1, f2⟩ := r2 a.toNat (by omega)
  have e : x5.toNatClampNeg = 6 * p.toNatClampNeg + a.toNat := nC (by omega)
  rw [← e] at f1 f2
  exact ⟨by omega, f1, fun k hk => (f2 k hk).wk (by decide)⟩
theorem TX.of {σ t : ST} (h : TX σ) (e3 : t.1 0 3 = σ.1 0 3) (e5 : t.1 0 5 = σ.1 0 5) (e6 : t.1 0 6 = σ.1 0 6) (e8 : t.1 0 8 = σ.1 0 8) (e13 : t.1 0 13 = σ.1 0 13) : TX t ∧ uT t = uT σ := by
  refine ⟨?_, ?_⟩
  · unfold TX
    rw [e3, e5, e6, e8, e13]; exact h
  · unfold uT
    rw [e3, e5, e6]
theorem b_pts_171 {ri rp : Int32 → Int32 → Int32 → Int32 → ST → Option ((Int32 × ST) × Nat)} {rv : Int32 → Int32 → Int32 → Int32 → Int32 → ST → Option ((Int32 × ST) × Nat)} (p dp v x5 : Int32) (a : Int) (hdp : 0 ≤ dp.toInt ∧ dp.toInt ≤ 30) : ∀ (n : Nat) (x7 : Int32) (σ : ST) (LV : Nat → Nat), WX LV σ → (0 ≤ p.toInt ∧ p.toInt < (σ.1 0 32).toInt) → (0 ≤ a ∧ a < rmP σ p) → x5.toInt = 6 * p.toInt + a → VNV LV σ dp v → ¬ (σ.1 0 6).toInt = 0 → pot σ + (8 - x7.toInt) ≤ 4090 → (0 ≤ x7.toInt ∧ x7.toInt ≤ 8 ∧ (8 : Int) - x7.toInt < n) → OK (f_X11_parts_171 ri rp rv n v x5 x7 σ) (VK LV σ (4 - x7.toInt) 0) := by
  intro n
  have lt_0 := li_0
  have lt_1 := li_1
  have lt_8 := li_8
  induction n with
  | zero => intro x7 σ LV h1 h2 h3 h4 h5 h6 h7 h8; omega
  | succ n ih =>
    intro x7 σ LV hX hp ha hx5 hV hne hpt h7
    rw [f_X11_parts_171]
    unfold f_X11_parts_233
    obtain ⟨r1, r2, r3⟩ := hX.row hp ha hx5
    have r21 := r2.1
    have r22 := r2.2
    have n5 := nN_ r1.1
    have n7 := nN_ h7.1
    have a7 := il_addE (x := x7) (y := 1) (by omega) (by omega)
    have b1 := mlE (k := 8) (y := x5) 8 li_8 (by omega) (by omega)
    have b2 := il_addE (x := 8 * x5) (y := x7) (by omega) (by omega)
    have e8 : (8 * x5 + x7).toNatClampNeg = 8 * x5.toNatClampNeg + x7.toNatClampNeg := nC (by omega)
    have eu := uT_ne hne
    refine OK.grd ⟨by omega, by omega⟩ ?_
    refine OK.ile (fun _ => ?_) (fun hlt => ?_)
    · refine OK.bnd hX.go (fun s hs => ?_)
      obtain ⟨g, hu, e46⟩ := hs
      have hms := g.2.2.1
      refine ⟨_, rfl, g.1, .inr ⟨lt_1, ?_, LV, g, ?_, ?_⟩⟩
      · show 0 + 40 * uT s ≤ 40 * uT σ
        omega
      · show pot s ≤ pot σ + (4 - x7.toInt)
        unfold pot
        rw [e46]
        omega
      · show (σ.1 0 46).toInt + 0 ≤ (s.1 0 46).toInt
        omega
    refine OK.bndR (b_hasChild v x7 σ hX.2.2.1 hV.1) (fun w hw => ?_)
    dsimp only
    refine OK.ieq (fun _ => ?_) (fun _ => ?_)
    · refine OK.grd ⟨by omega, by omega⟩ ?_
      refine OK.ieq (fun _ => ?_) (fun _ => ?_)
      · have h := VK.bad (LV := LV) (e := 4 - x7.toInt) (m := 0) (x := 0) (p0 := 6) (WG.rf hX) (by omega)
        refine h.mono (fun q hq => ?_)
        have e : 0 + q.2 = q.2 := Nat.zero_add _
        rw [e] at hq
        exact hq
      · have h46 := hX.2.2.1.1.1
        have nv := nN_ h46
        have hpp : (σ.1 0 46).toInt < 4096 := by unfold pot at hpt; omega
        refine OK.bndZ (b_fills _ v x7 σ LV hX.2.2 hpp hX.1.2.2 (by omega) (by rw [e8]; exact r3 _ (by omega)) (LV v.toNatClampNeg + 1) (by have := hV.2.1; omega) ⟨hV.1, rfl, hV.2.2⟩) (fun t ct ht => ?_)
        obtain ⟨t1, t2, t3⟩ := ht
        obtain ⟨tx, tu⟩ := hX.2.1.of (ct.2.1 3 (by decide)) (ct.2.1 5 (by decide)) (ct.2.1 6 (by decide)) (ct.2.1 8 (by decide)) (ct.2.1 13 (by decide))
        have g : WG LV σ (upL LV (σ.1 0 46).toNatClampNeg (LV v.toNatClampNeg + 1)) t := ⟨ct.mono (by decide) (by decide), ⟨hX.1.ch ct (by decide) (by decide), tx, t2⟩, by omega, fun r hr => ⟨upL_no (by omega), t3 r hr⟩⟩
        have hpt2 : pot t = pot σ + 1 := by unfold pot; rw [t1, tu]; omega
        obtain ⟨g1, g2, g3, g4, g5, g6, g7⟩ := g.vs
        have h := ih (x7 + 1) t _ g.2.1 (by rw [g7]; exact hp) (by unfold rmP; rw [g4]; exact ha) hx5 (hV.g g) (by rw [ct.2.1 6 (by decide)]; exact hne) (by omega) (by omega)
        have h2 := VK.comp (x := 0) (y := 0) (e := 4 - x7.toInt) (m := 0) g (by omega) (show pot t + (4 - (x7 + 1).toInt) ≤ pot σ + (4 - x7.toInt) by omega) (show (σ.1 0 46).toInt + 0 ≤ (t.1 0 46).toInt + 0 by omega) (VK.y0 h)
        refine h2.mono (fun q hq => ?_)
        have e : 0 + q.2 = q.2 := Nat.zero_add _
        rw [e] at hq
        exact hq
    · have h := ih (x7 + 1) σ LV hX hp ha hx5 hV hne (by omega) (by omega)
      have h2 := VK.comp (x := 0) (y := 0) (e := 4 - x7.toInt) (m := 0) (WG.rf hX) (by omega) (show pot σ + (4 - (x7 + 1).toInt) ≤ pot σ + (4 - x7.toInt) by omega) (show (σ.1 0 46).toInt + 0 ≤ (σ.1 0 46).toInt + 0 by omega) (VK.y0 h)
      refine h2.mono (fun q hq => ?_)
      have e : 0 + q.2 = q.2 := Nat.zero_add _
      rw [e] at hq
      exact hq
theorem b_pts_33 {N : Nat} {ri rp : Int32 → Int32 → Int32 → Int32 → ST → Option ((Int32 × ST) × Nat)} {rv : Int32 → Int32 → Int32 → Int32 → Int32 → ST → Option ((Int32 × ST) × Nat)} (hv : cVal N rv) (p dp v x5 : Int32) (a : Int) (hdp : 0 ≤ dp.toInt ∧ dp.toInt ≤ 30) (hN : 2 * (32 - dp.toInt) ≤ (N : Int) + 2) : ∀ (n : Nat) (x6 : Int32) (σ : ST) (LV : Nat → Nat), WX LV σ → (0 ≤ p.toInt ∧ p.toInt < (σ.1 0 32).toInt) → (0 ≤ a ∧ a < rmP σ p) → x5.toInt = 6 * p.toInt + a → VNV LV σ dp v → pot σ ≤ 4050 → (x6.toInt = 0 ∨ x6.toInt = 1) → (uT σ : Int) + x6.toInt < n → OK (f_X11_parts_33 ri rp rv n p dp v x5 x6 σ) (VK LV σ 4 0) := by
  intro n
  have lt_0 := li_0
  have lt_1 := li_1
  have lt_8 := li_8
  have lu := FUi
  have l44 : (44 : Int32).toInt = 44 := by decide
  have l125 := li_125
  have ad := il_addE (x := dp) (y := 1) (by omega) (by omega)
  induction n with
  | zero => intro x6 σ LV h1 h2 h3 h4 h5 h6 h7 h8; omega
  | succ n ih =>
    intro x6 σ LV hX hp ha hx5 hV hpt hx6 hn
    rw [f_X11_parts_33]
    obtain ⟨r1, r2, r3⟩ := hX.row hp ha hx5
    have r21 := r2.1
    have r22 := r2.2
    have n5 := nN_ r1.1
    have b1 := mlE (k := 8) (y := x5) 8 li_8 (by omega) (by omega)
    refine OK.ieq (fun hx0 => ?_) (fun hx1 => ?_)
    · refine OK.ieq (fun hs => ?_) (fun _ => ?_)
      · have hne : ¬ (σ.1 0 6).toInt = 0 := hX.2.1.2.2.2 (by omega)
        have h := b_pts_171 (ri := ri) (rp := rp) (rv := rv) p dp v x5 a hdp FU 0 σ LV hX hp ha hx5 hV hne (by omega) (by omega)
        rw [lt_0] at h
        exact h
      · have h := VK.bad (LV := LV) (e := 4) (m := 0) (x := 0) (p0 := 1) (WG.rf hX) (by omega)
        refine h.mono (fun q hq => ?_)
        have e : 0 + q.2 = q.2 := Nat.zero_add _
        rw [e] at hq
        exact hq
    · refine OK.bndK (b_isName σ) (fun w x hw hx => ?_)
      refine OK.kac ?_
      dsimp only
      refine OK.ieq (fun _ => VK.bad (WG.rf hX) (by omega)) (fun hw1 => ?_)
      have hNM : NM σ := by
        rcases hw with hw | hw
        · omega
        · exact hw.2
      have hne : ¬ (σ.1 0 6).toInt = 0 := by have := hNM.1; omega
      have eu := uT_ne hne
      refine OK.bndR (b_fieldOf x5 _ σ (by omega) r2) (fun f hf => ?_)
      dsimp only
      unfold f_X11_parts_85
      refine OK.ilt (fun _ => VK.bad (WG.rf hX) (by omega)) (fun hf0 => ?_)
      obtain ⟨j, j1, j2⟩ : ∃ j : Nat, (j : Int) < (σ.1 11 x5.toNatClampNeg).toInt ∧ f.toInt = 8 * x5.toInt + j := by
        rcases hf with hf | hf
        · omega
        · exact hf
      clear hf
      refine OK.bndR (b_hasChild v _ σ hX.2.2.1 hV.1) (fun y hy => ?_)
      dsimp only
      refine OK.ieq (fun _ => ?_) (fun _ => VK.bad (WG.rf hX) (by omega))
      refine OK.bnd hX.go (fun s hs => ?_)
      obtain ⟨g, hu, e46⟩ := hs
      obtain ⟨g1, g2, g3, g4, g5, g6, g7⟩ := g.vs
      have hps : pot s + 4 ≤ pot σ := by unfold pot; rw [e46]; omega
      have hms := g.2.2.1
      refine OK.grd ⟨by omega, by omega⟩ ?_
      have ef : f.toNatClampNeg = 8 * x5.toNatClampNeg + j := nC (by omega)
      have erm : rmP s p = rmP σ p := by unfold rmP; rw [g4]
      have hT : VS s (rmP s p) 4 (s.1 15 f.toNatClampNeg) := by
        rw [erm, g6, ef]
        exact g1 _ _ _ (r3 j j1)
      have hVs := hV.g g
      refine OK.bnd (hv p _ (dp + 1) v _ s LV g.2.1 (by rw [g7]; exact hp) hT (by omega) (.inr ⟨hVs.1, by have := hVs.2.1; omega, hVs.2.2⟩) (by omega) (by omega)) (fun q hq => ?_)
      obtain ⟨c, hq⟩ := hq
      refine OK.mono (P := fun z : (Int32 × ST) × Nat => VK LV σ 4 0 (z.1, x + z.2)) (OK.kac ?_) (fun _ h => h)
      rcases hq with ⟨q1, q2⟩ | ⟨q1, q2, L2, gq, q3, q4⟩
      · refine OK.ieq (fun _ => ⟨_, rfl, g.1.trans c, .inl ⟨lt_0, ?_⟩⟩) (fun h => by omega)
        show x + (q.2 + 0) + 40 * uT q.1.2 ≤ _
        omega
      · refine OK.ieq (fun h => by omega) (fun _ => ?_)
        have gg := g.trans gq
        obtain ⟨k1, k2, k3, k4, k5, k6, k7⟩ := gg.vs
        have hp' : 0 ≤ p.toInt ∧ p.toInt < (q.1.2.1 0 32).toInt := by rw [k7]; exact hp
        have ha' : 0 ≤ a ∧ a < rmP q.1.2 p := by unfold rmP; rw [k4]; exact ha
        unfold f_X11_parts_139
        have fin : ∀ (L3 : Nat → Nat) (u : ST) (x6' : Int32), WG LV σ L3 u → (0 ≤ p.toInt ∧ p.toInt < (u.1 0 32).toInt) → (0 ≤ a ∧ a < rmP u p) → (x6'.toInt = 0 ∨ x6'.toInt = 1) → x + q.2 + 40 * uT u ≤ 40 * uT σ → pot u ≤ pot σ → (uT u : Int) + x6'.toInt < n → OK (f_X11_parts_33 ri rp rv n p dp v x5 x6' u) (fun z => VK LV σ 4 0 (z.1, x + (q.2 + z.2))) := fun L3 u x6' gu hpu hau h6u hxu hpotu hnu => by
          have h := VK.comp (x := x + q.2) (y := 0) (e := 4) (m := 0) gu (by omega) (show pot u + 4 ≤ pot σ + 4 by omega) (by have := gu.2.2.1; omega) (VK.y0 (ih x6' u L3 gu.2.1 hpu hau hx5 (hV.g gu) (by omega) h6u hnu))
          refine h.mono (fun z hz => ?_)
          have e : x + q.2 + z.2 = x + (q.2 + z.2) := Nat.add_assoc _ _ _
          rw [e] at hz
          exact hz
        refine OK.ieq (fun h44 => ?_) (fun h44 => ?_)
        · refine OK.ieq (fun h => by omega) (fun _ => ?_)
          have hne2 : ¬ (q.1.2.1 0 6).toInt = 0 := gq.2.1.2.1.2.2.2 (by omega)
          have eu2 := uT_ne hne2
          refine OK.bnd gq.2.1.go (fun r hr => ?_)
          obtain ⟨gr, hur, e46r⟩ := hr
          obtain ⟨m1, m2, m3, m4, m5, m6, m7⟩ := gr.vs
          have hpr : pot r + 4 ≤ pot q.1.2 := by unfold pot; rw [e46r]; omega
          exact fin L2 r 1 (gg.trans gr) (by rw [m7]; exact hp') (by unfold rmP; rw [m4]; exact ha') (.inr lt_1) (by omega) (by omega) (by omega)
        · refine OK.ieq (fun _ => ?_) (fun h => absurd rfl h)
          exact fin L2 q.1.2 0 gg hp' ha' (.inl lt_0) (by omega) (by omega) (by omega)
theorem b_pts_top {N : Nat} {ri rp : Int32 → Int32 → Int32 → Int32 → ST → Option ((Int32 × ST) × Nat)} {rv : Int32 → Int32 → Int32 → Int32 → Int32 → ST → Option ((Int32 × ST) × Nat)} (hv : cVal N rv) : cPts (N + 1) (f_X11_parts ri rp rv) := by
  intro p t dp v σ LV hX hp ht h7 hdp hV hne hpt hN
  unfold f_X11_parts f_X11_parts_31
  have lt_0 := li_0
  have lt_1 := li_1
  have lt_6 := li_6
  have lu := FUi
  have eu := uT_ne hne
  have hr := ht.rcd h7
  obtain ⟨p61, p62⟩ := hX.1.1
  have np := nN_ hp.1
  have rm6 := (hX.1.2.1 p.toNatClampNeg (by omega)).1
  have hr2 : (σ.1 3 t.toNatClampNeg).toInt < (σ.1 8 p.toNatClampNeg).toInt := hr.2
  have b1 := mlE (k := 6) (y := p) 6 li_6 (by omega) (by omega)
  have b2 := il_addE (x := 6 * p) (y := σ.1 3 t.toNatClampNeg) (by omega) (by omega)
  refine OK.grd ht.rng ?_
  refine OK.bnd hX.go (fun s hs => ?_)
  obtain ⟨g, hu, e46⟩ := hs
  obtain ⟨g1, g2, g3, g4, g5, g6, g7⟩ := g.vs
  have hps : pot s + 4 ≤ pot σ := by unfold pot; rw [e46]; omega
  have hms := g.2.2.1
  obtain ⟨h11, h12⟩ := g.2.1.2.1.1
  obtain ⟨h21, h22⟩ := g.2.1.2.1.2.1
  have hus : uT s ≤ 1001 := by
    unfold uT
    split <;> omega
  have fin : ∀ x6 : Int32, (x6.toInt = 0 ∨ x6.toInt = 1) → OK (f_X11_parts_33 ri rp rv FU p dp v (6 * p + σ.1 3 t.toNatClampNeg) x6 s) (fun q => VK LV σ 0 0 (q.1, q.2 + 30)) := fun x6 h6 => by
    have h := b_pts_33 (ri := ri) (rp := rp) hv p dp v (6 * p + σ.1 3 t.toNatClampNeg) (σ.1 3 t.toNatClampNeg).toInt hdp (by omega) FU x6 s LV g.2.1 (by rw [g7]; exact hp) (by unfold rmP; rw [g4]; exact hr) (by omega) (hV.g g) (by omega) h6 (by omega)
    have h2 := VK.comp (x := 30) (y := 0) (e := 0) (m := 0) g (by omega) (show pot s + 4 ≤ pot σ + 0 by omega) (show (σ.1 0 46).toInt + 0 ≤ (s.1 0 46).toInt + 0 by omega) (VK.y0 h)
    refine h2.mono (fun q hq => ?_)
    have e : q.2 + 30 = 30 + q.2 := Nat.add_comm _ _
    rw [e]
    exact hq
  exact OK.ieq (fun _ => fin 0 (.inl lt_0)) (fun _ => fin 1 (.inr lt_1))
theorem b_val_104 {N : Nat} {ri rp : Int32 → Int32 → Int32 → Int32 → ST → Option ((Int32 × ST) × Nat)} {rv : Int32 → Int32 → Int32 → Int32 → Int32 → ST → Option ((Int32 × ST) × Nat)} (hi : cIts N ri) (hq_ : cPts N rp) (p u dp pa ix b : Int32) (x : Nat) (σ : ST) (LV : Nat → Nat) (hX : WX LV σ) (hp : 0 ≤ p.toInt ∧ p.toInt < (σ.1 0 32).toInt) (hu : VS σ (rmP σ p) 4 u) (hf : FT_ σ (σ.1 2 u.toNatClampNeg).toInt) (hdp : 0 ≤ dp.toInt ∧ dp.toInt ≤ 30) (hpo : VPO LV σ dp pa) (hpt : pot σ ≤ 4050) (hN : 2 * (32 - dp.toInt) ≤ (N : Int) + 1) (hx : x ≤ 28) : OK (f_X11_value_104 ri rp rv p dp pa ix b u 0 σ) (fun z => VK LV σ 1 1 (z.1, x + z.2)) := by
  unfold f_X11_value_104
  have lt_0 := li_0
  have lt_1 := li_1
  have lt_5 := li_5
  have lt_6 := li_6
  have lt_7 := li_7
  have h46 := hX.2.2.1.1.1
  have nv := nN_ h46
  have hpp : (σ.1 0 46).toInt < 4096 := by unfold pot at hpt; omega
  have hne : ¬ (σ.1 0 6).toInt = 0 := by
    unfold FT_ at hf
    rcases hf with hf | hf | hf | hf | hf | hf | hf | hf
    · have := hf.2.1; omega
    · rcases hf.2 with h | h
      · have := h.1; omega
      · have := h.1; omega
    · omega
    · omega
    · omega
    · omega
    · exact hX.2.1.2.2.2 (by omega)
    · exact hX.2.1.2.2.2 (by omega)
  refine OK.ile (fun _ => ?_) (fun h => by omega)
  refine OK.grd hu.rng ?_
  refine OK.bndC (b_laysNode _ pa ix b σ LV hX.2.2 hpp dp.toInt.toNat (by omega) ?_) (fun v t ct ht => ?_)
  · rcases hpo with hpo | hpo
    · exact .inl ⟨hpo.1, by omega⟩
    · exact .inr ⟨hpo.1, by omega, hpo.2.2⟩
  obtain ⟨t1, t2, t3, t4⟩ := ht
  dsimp only
  subst t1
  obtain ⟨tx, tu⟩ := hX.2.1.of (ct.2.1 3 (by decide)) (ct.2.1 5 (by decide)) (ct.2.1 6 (by decide)) (ct.2.1 8 (by decide)) (ct.2.1 13 (by decide))
  have t6 : t.1 0 6 = σ.1 0 6 := ct.2.1 6 (by decide)
  have g : WG LV σ (upL LV (σ.1 0 46).toNatClampNeg dp.toInt.toNat) t := by
    refine ⟨ct.mono (by decide) (by decide), ⟨hX.1.ch ct (by decide) (by decide), tx, t3⟩, by omega, fun r hr => ⟨upL_no (by omega), ?_⟩⟩
    rw [t4]
    exact upd_no (by omega)
  have hpt2 : pot t = pot σ + 1 := by unfold pot; rw [t2, tu]; omega
  obtain ⟨g1, g2, g3, g4, g5, g6, g7⟩ := g.vs
  have hp' : 0 ≤ p.toInt ∧ p.toInt < (t.1 0 32).toInt := by rw [g7]; exact hp
  have hu' : VS t (rmP t p) 4 u := by
    have e : rmP t p = rmP σ p := by unfold rmP; rw [g4]
    rw [e]; exact g1 _ _ _ hu
  have t20 : t.1 20 (σ.1 0 46).toNatClampNeg = σ.1 2 u.toNatClampNeg := by rw [t4]; exact upd_at
  have tLV : (upL LV (σ.1 0 46).toNatClampNeg dp.toInt.toNat (σ.1 0 46).toNatClampNeg : Int) = dp.toInt := by rw [upL_at]; omega
  have fin : ∀ o : Option ((Int32 × ST) × Nat), OK o (fun q => VK (upL LV (σ.1 0 46).toNatClampNeg dp.toInt.toNat) t 0 0 (q.1, q.2 + 30)) → OK (o.bind fun q => ac q.2 (if q.1.1 = 0 ∨ q.1.1 = 1 then some ((q.1.1, q.1.2), 0) else none)) (fun z => VK LV σ 1 1 (z.1, x + z.2)) := fun o ho => by
    have h2 := VK.comp (LV := LV) (σ := σ) (x := x) (y := 30) (e := 1) (m := 1) g (by omega) (show pot t + 0 ≤ pot σ + 1 by omega) (show (σ.1 0 46).toInt + 1 ≤ (t.1 0 46).toInt + 0 by omega) ho
    obtain ⟨q, eq, hq⟩ := h2
    have hq1 : q.1.1.toInt = 0 ∨ q.1.1.toInt = 1 := by
      rcases hq.2 with h | h
      · exact .inl h.1
      · exact .inr h.1
    rw [eq]
    refine OK.kac (OK.grd (b01 hq1) ⟨_, rfl, ?_⟩)
    exact hq
  refine OK.ieq (fun h6 => fin _ ?_) (fun h6 => ?_)
  · rw [g2] at h6
    exact hi p u dp (σ.1 0 46) t _ g.2.1 hp' hu' (by rw [g2]; omega) hdp ⟨⟨h46, by omega⟩, tLV, by rw [t20]; omega⟩ (by rw [t6]; exact hne) (by omega) hN
  refine OK.ieq (fun h7 => fin _ ?_) (fun h7 => ?_)
  · rw [g2] at h7
    exact hq_ p u dp (σ.1 0 46) t _ g.2.1 hp' hu' (by rw [g2]; omega) hdp ⟨⟨h46, by omega⟩, tLV, by rw [t20]; omega⟩ (by rw [t6]; exact hne) (by omega) hN
  · refine OK.bndK (b_bitsOf u t hu'.rng) (fun w y hw hy => ?_)
    refine OK.kac ?_
    dsimp only
    have gv : 0 ≤ (σ.1 0 46).toInt ∧ (σ.1 0 46).toInt < 4096 := ⟨h46, hpp⟩
    refine OK.grd gv ?_
    have k247 : ∀ (z : Int32) (s : ST), s.1 = t.1 → s.2.1 9 = t.2.1 9 → s.2.1 12 = t.2.1 12 → s.2.1 14 = t.2.1 14 ∧ s.2.1 17 = t.2.1 17 ∧ s.2.1 18 = t.2.1 18 → bI z 0 12 → OK (f_X11_value_247 ri rp rv z (σ.1 0 46) s) (fun q => VK LV σ 1 1 (q.1, x + (y + q.2))) := fun z s es s9 s12 s14 hz => by
      unfold f_X11_value_247
      refine OK.grd gv ?_
      have cs : CH WC WI σ (stI s 23 (σ.1 0 46).toNatClampNeg z) := by
        refine g.1.trans (CH.i ⟨fun c _ _ => by rw [es], fun i _ => by rw [es], s9, s12, s14.1, s14.2.1, s14.2.2⟩ (by decide) (by decide))
      have Ns : NL (upL LV (σ.1 0 46).toNatClampNeg dp.toInt.toNat) s := t3.of (by rw [es]) (by rw [es]) (by rw [es]) (by rw [es]) (by rw [es]) (by rw [es]) (by rw [es]) (by rw [es])
      have N2 := Ns.has (v := (σ.1 0 46).toNatClampNeg) hz (by rw [es]; omega)
      have e20 : (stI s 23 (σ.1 0 46).toNatClampNeg z).1 20 = t.1 20 := by show s.1 20 = _; rw [es]
      have e46 : (stI s 23 (σ.1 0 46).toNatClampNeg z).1 0 46 = t.1 0 46 := by show s.1 0 46 = _; rw [es]
      obtain ⟨sx, su⟩ := TX.of (t := stI s 23 (σ.1 0 46).toNatClampNeg z) tx (by show s.1 0 3 = _; rw [es]) (by show s.1 0 5 = _; rw [es]) (by show s.1 0 6 = _; rw [es]) (by show s.1 0 8 = _; rw [es]) (by show s.1 0 13 = _; rw [es])
      have e6 : (stI s 23 (σ.1 0 46).toNatClampNeg z).1 0 6 = σ.1 0 6 := by show s.1 0 6 = _; rw [es, t6]
      have P2 : PLs (stI s 23 (σ.1 0 46).toNatClampNeg z) := hX.1.ch cs (by decide) (by decide)
      generalize stI s 23 (σ.1 0 46).toNatClampNeg z = r at cs N2 e20 e46 sx su e6 P2 ⊢
      have gr : WG LV σ (upL LV (σ.1 0 46).toNatClampNeg dp.toInt.toNat) r := ⟨cs, ⟨P2, sx, N2⟩, by rw [e46]; omega, fun k hk => ⟨upL_no (by omega), by rw [e20, t4]; exact upd_no (by omega)⟩⟩
      have eur := uT_ne (σ := r) (by rw [e6]; exact hne)
      refine OK.bnd gr.2.1.go (fun k hk => ?_)
      obtain ⟨gk, huk, e46k⟩ := hk
      have hpk : pot k + 4 ≤ pot t := by unfold pot; rw [e46k, e46]; omega
      refine ⟨_, rfl, (gr.trans gk).1, .inr ⟨lt_1, ?_, _, gr.trans gk, ?_, ?_⟩⟩
      · show x + (y + 0) + 40 * uT k ≤ 40 * uT σ
        omega
      · show pot k ≤ pot σ + 1
        omega
      · show (σ.1 0 46).toInt + 1 ≤ (k.1 0 46).toInt
        rw [e46k, e46]
        omega
    have k221 : ∀ (yy : Int64) (s : ST), s.1 = t.1 → s.2.1 9 = t.2.1 9 → s.2.1 12 = t.2.1 12 → s.2.1 14 = t.2.1 14 ∧ s.2.1 17 = t.2.1 17 ∧ s.2.1 18 = t.2.1 18 → OK (f_X11_value_221 ri rp rv u (σ.1 0 46) yy (σ.1 0 46) s) (fun q => VK LV σ 1 1 (q.1, x + (y + q.2))) := fun yy s es s9 s12 s14 => by
      unfold f_X11_value_221
      refine OK.grd gv ?_
      refine OK.grd hu.rng ?_
      have e1 : (stL s 22 (σ.1 0 46).toNatClampNeg yy).1 = t.1 := es
      refine OK.ieq (fun h5 => ?_) (fun h5 => k247 _ _ e1 (by rw [stL_ne (by decide)]; exact s9) (by rw [stL_ne (by decide)]; exact s12) (by rw [stL_ne (by decide), stL_ne (by decide), stL_ne (by decide)]; exact s14) (bz (by decide) (by decide)))
      refine k247 _ _ e1 (by rw [stL_ne (by decide)]; exact s9) (by rw [stL_ne (by decide)]; exact s12) (by rw [stL_ne (by decide), stL_ne (by decide), stL_ne (by decide)]; exact s14) ?_
      rw [e1] at h5 ⊢
      rw [g2] at h5
      have h3 : (t.1 0 6).toInt = 3 := by
        rw [t6]
        unfold FT_ at hf
        rcases hf with hf | hf | hf | hf | hf | hf | hf | hf
        · omega
        · omega
        · omega
        · omega
        · omega
        · omega
        · omega
        · omega
      exact tx.2.2.1 h3
    have e1 : (stL t 21 (σ.1 0 46).toNatClampNeg w).1 = t.1 := rfl
    exact OK.ieq (fun _ => k221 _ _ e1 (stL_ne (by decide)) (stL_ne (by decide)) ⟨stL_ne (by decide), stL_ne (by decide), stL_ne (by decide)⟩) (fun _ => k221 _ _ e1 (stL_ne (by decide)) (stL_ne (by decide)) ⟨stL_ne (by decide), stL_ne (by decide), stL_ne (by decide)⟩)
theorem b_val_42 {N : Nat} {ri rp : Int32 → Int32 → Int32 → Int32 → ST → Option ((Int32 × ST) × Nat)} {rv : Int32 → Int32 → Int32 → Int32 → Int32 → ST → Option ((Int32 × ST) × Nat)} (hi : cIts N ri) (hq_ : cPts N rp) (p u dp pa ix b : Int32) (x : Nat) (σ : ST) (LV : Nat → Nat) (hX : WX LV σ) (hp : 0 ≤ p.toInt ∧ p.toInt < (σ.1 0 32).toInt) (hu : VS σ (rmP σ p) 4 u) (hdp : 0 ≤ dp.toInt ∧ dp.toInt ≤ 31) (hpo : VPO LV σ dp pa) (hpt : pot σ ≤ 4050) (hN : 2 * (32 - dp.toInt) ≤ (N : Int) + 1) (hx : x ≤ 10) : OK (f_X11_value_42 ri rp rv p dp pa ix b u σ) (fun z => VK LV σ 1 1 (z.1, x + z.2)) := by
  unfold f_X11_value_42 f_X11_value_99 f_X11_value_103
  have lt_0 := li_0
  have lt_1 := li_1
  have lt_31 := li_31
  have bad : ∀ (k : Int32) (y : Nat), 0 < k.toInt → y ≤ 30 → OK (f_X11_value_104 ri rp rv p dp pa ix b u k σ) (fun z => VK LV σ 1 1 (z.1, y + z.2)) := fun k y hk hy => by
    unfold f_X11_value_104
    refine OK.ile (fun h => by omega) (fun _ => ?_)
    exact VK.bad (WG.rf hX) (by omega)
  refine OK.bndK (b_isValue σ) (fun w y hw hy => ?_)
  refine OK.kac ?_
  dsimp only
  have sh : ∀ (y : Nat) (o : Option ((Int32 × ST) × Nat)), OK o (fun z => VK LV σ 1 1 (z.1, (x + y) + z.2)) → OK o (fun z => VK LV σ 1 1 ((z.1, y + z.2).1, x + (z.1, y + z.2).2)) := fun y o ho => ho.mono (fun q hq => by
    have e : x + y + q.2 = x + (y + q.2) := Nat.add_assoc _ _ _
    rw [e] at hq
    exact hq)
  refine OK.ieq (fun _ => sh y _ (bad 1 (x + y) (by omega) (by omega))) (fun _ => ?_)
  refine OK.bndK (b_fits u σ hu.rng) (fun w2 y2 hw2 hy2 => ?_)
  have hy2' : y2 ≤ 8 := by
    refine Nat.le_trans hy2 ?_
    unfold ftc
    split
    · omega
    · split <;> omega
  refine OK.kac ?_
  dsimp only
  have sh2 : ∀ (o : Option ((Int32 × ST) × Nat)), OK o (fun z => VK LV σ 1 1 (z.1, (x + y + y2) + z.2)) → OK o (fun z => VK LV σ 1 1 (z.1, x + (y + (y2 + z.2)))) := fun o ho => ho.mono (fun q hq => by
    have e : x + y + y2 + q.2 = x + (y + (y2 + q.2)) := by omega
    rw [e] at hq
    exact hq)
  have l2 := li_2
  have l4 := li_4
  refine OK.ieq (fun _ => sh2 _ (bad 2 _ (by omega) (by omega))) (fun hw21 => ?_)
  have hf : FT_ σ (σ.1 2 u.toNatClampNeg).toInt := by
    rcases hw2 with h | h
    · omega
    · exact h.2
  refine OK.ile (fun _ => sh2 _ (bad 4 _ (by omega) (by omega))) (fun h31 => ?_)
  have ok := sh2 _ (b_val_104 (rv := rv) hi hq_ p u dp pa ix b (x + y + y2) σ LV hX hp hu hf (by omega) hpo hpt hN (by omega))
  refine OK.ilt (fun _ => ok) (fun _ => ?_)
  refine OK.ilt (fun _ => ok) (fun hpa => ?_)
  have h46 := hX.2.2.1.1.2
  have gpa : 0 ≤ pa.toInt ∧ pa.toInt < 4096 := by
    rcases hpo with h | h
    · omega
    · omega
  refine OK.grd gpa ?_
  exact OK.ieq (fun _ => sh2 _ (bad 4 _ (by omega) (by omega))) (fun _ => ok)
theorem b_val_top {N : Nat} {ri rp : Int32 → Int32 → Int32 → Int32 → ST → Option ((Int32 × ST) × Nat)} {rv : Int32 → Int32 → Int32 → Int32 → Int32 → ST → Option ((Int32 × ST) × Nat)} (hi : cIts N ri) (hq_ : cPts N rp) : cVal (N + 1) (f_X11_value ri rp rv) := by
  intro p t dp pa ix σ LV hX hp ht hdp hpo hpt hN
  unfold f_X11_value f_X11_value_20
  have lt_0 := li_0
  have lt_4 := li_4
  have lt_8 := li_8
  have lm := li_m1
  have gt := ht.rng
  refine OK.grd gt ?_
  refine OK.ieq (fun h8 => ?_) (fun h8 => ?_)
  · refine OK.bndK (b_branchFor t σ ht (by omega)) (fun b x hb hx => ?_)
    refine OK.kac ?_
    dsimp only
    obtain ⟨k1, k2, k3, k4⟩ := ht.eit (by omega)
    refine OK.ile (fun hb0 => ?_) (fun _ => b_val_42 hi hq_ p t dp pa ix b x σ LV hX hp ht hdp hpo hpt hN hx)
    have hb' : 0 ≤ b.toInt ∧ b.toInt < (σ.1 4 t.toNatClampNeg).toInt := by omega
    have a1 := mlE (k := 4) (y := t) 4 li_4 (by omega) (by omega)
    have a2 := il_addE (x := 4 * t) (y := b) (by omega) (by omega)
    have n1 := nN_ gt.1
    have n2 := nN_ hb'.1
    have e4 : (4 * t + b).toNatClampNeg = 4 * t.toNatClampNeg + b.toNatClampNeg := nC (by omega)
    refine OK.grd ⟨by omega, by omega⟩ ?_
    rw [e4]
    exact b_val_42 hi hq_ p _ dp pa ix b x σ LV hX hp (k3 b.toNatClampNeg (by omega)).1.up hdp hpo hpt hN hx
  · refine OK.ile (fun h => by omega) (fun _ => ?_)
    have h := b_val_42 (rv := rv) hi hq_ p t dp pa ix (-1) 0 σ LV hX hp ht hdp hpo hpt hN (by omega)
    refine h.mono (fun q hq => ?_)
    have e : 0 + q.2 = q.2 := Nat.zero_add _
    rw [e] at hq
    exact hq
theorem b_RV : ∀ N : Nat, cIts N (R_X11_items N).1 ∧ cPts N (R_X11_items N).2.1 ∧ cVal N (R_X11_items N).2.2 := by
  intro N
  induction N with
  | zero =>
    refine ⟨?_, ?_, ?_⟩
    · intro p t dp v σ LV hX hp ht h6 hdp hV hne hpt hN
      omega
    · intro p t dp v σ LV hX hp ht h6 hdp hV hne hpt hN
      omega
    · intro p t dp pa ix σ LV hX hp ht hdp hpo hpt hN
      omega
  | succ N ih => exact ⟨b_its_top ih.2.2, b_pts_top ih.2.2, b_val_top ih.1 ih.2.1⟩
