/-! the reference: its calls, over its invariant -/
def IB (σ : ST) : Prop := PLs σ ∧ PB σ ∧ (∀ i : Nat, i < 4 → -1 ≤ (σ.1 32 i).toInt ∧ (σ.1 32 i).toInt < (σ.1 0 32).toInt) ∧ (∀ i, bI (σ.1 33 i) 0 400) ∧ (∀ i, bI (σ.1 38 i) 0 256) ∧ bI (σ.1 0 68) 0 256 ∧ bI (σ.1 0 73) 0 400 ∧ bI (σ.1 0 83) 0 256 ∧ bI (σ.1 0 92) 0 4 ∧ TH σ
/-- what a call leaves as it is: the tape, the number of plans -/
def RTB {α : Type} (σ : ST) (q : α × ST) : Prop := IB q.2 ∧ q.2.1 0 2 = σ.1 0 2 ∧ q.2.1 1 = σ.1 1 ∧ q.2.1 0 32 = σ.1 0 32
theorem IB.th {σ : ST} (h : IB σ) (y : Int32) : IB (stI σ 0 0 y) := ⟨h.1.of rfl rfl rfl rfl rfl rfl rfl rfl rfl, h.2.1, h.2.2.1, h.2.2.2.1, h.2.2.2.2.1, h.2.2.2.2.2.1, h.2.2.2.2.2.2.1, h.2.2.2.2.2.2.2.1, h.2.2.2.2.2.2.2.2.1, h.2.2.2.2.2.2.2.2.2⟩
theorem OK.tb {α : Type} {σ s : ST} {v : α} (h : IB s) (e2 : s.1 0 2 = σ.1 0 2) (e1 : s.1 1 = σ.1 1) (e32 : s.1 0 32 = σ.1 0 32) : OK (some (v, s)) (RTB σ) := ⟨_, rfl, h, e2, e1, e32⟩
theorem IB.mp {σ : ST} (h : IB σ) {m : Int32} (hm : 0 ≤ m.toInt ∧ m.toInt < 4) (h0 : 0 ≤ (σ.1 32 m.toNatClampNeg).toInt) : 0 ≤ (σ.1 32 m.toNatClampNeg).toInt ∧ (σ.1 32 m.toNatClampNeg).toInt < (σ.1 0 32).toInt := by
  have n1 := nN_ hm.1
  exact ⟨h0, (h.2.2.1 m.toNatClampNeg (by omega)).2⟩
theorem b_record_ (p0 p1 p2 : Int32) (σ : ST) (hI : IB σ) : OK (f_X11_record_ p0 p1 p2 σ) (RTB σ) := by
  unfold f_X11_record_
  have lt_0 := li_0
  have lt_1 := li_1
  have lt_6 := li_6
  have l0 := l64_0
  have l1 := l64_1
  have hs := hI.th 0
  have e32 : (stI σ 0 0 0).1 0 32 = σ.1 0 32 := rfl
  have done : ∀ v : Int32, OK (some (v, stI σ 0 0 0)) (RTB σ) := fun v => OK.tb hs rfl rfl rfl
  generalize stI σ 0 0 0 = s at hs e32 done ⊢
  have p16 := hs.1.1
  obtain ⟨p61, p62⟩ := p16
  refine OK.bndR (b_isPlanAt p0 s hs.1.1) (fun v hv => ?_)
  dsimp only
  refine OK.ieq (fun _ => done _) (fun h => ?_)
  have hp : 0 ≤ p0.toInt ∧ p0.toInt < (s.1 0 32).toInt := by omega
  have n0 := nN_ hp.1
  have rm := (hs.1.2.1 p0.toNatClampNeg (by omega)).1
  have g12 : 0 ≤ p0.toInt ∧ p0.toInt < 12 := by omega
  refine OK.ieq (fun _ => OK.grd g12 (done _)) (fun _ => ?_)
  refine OK.bndR (b_within _ _ _ _) (fun w hw => ?_)
  dsimp only
  refine OK.ieq (fun _ => done _) (fun _ => ?_)
  refine OK.grd g12 ?_
  have a1 := il_subE (x := s.1 8 p0.toNatClampNeg) (y := 1) (by omega) (by omega)
  have a2 := i64 (s.1 8 p0.toNatClampNeg - 1)
  have a3 := i64 p1
  refine OK.bndR (b_within _ _ _ _) (fun x hx => ?_)
  dsimp only
  refine OK.ieq (fun _ => done _) (fun _ => ?_)
  have b1 := mlE (k := 6) (y := p0) 6 li_6 (by omega) (by omega)
  have b2 := il_addE (x := 6 * p0) (y := p1) (by omega) (by omega)
  exact OK.ieq (fun _ => OK.grd ⟨by omega, by omega⟩ (done _)) (fun _ => OK.grd ⟨by omega, by omega⟩ (done _))
theorem b_recordIn_2 : ∀ (n : Nat) (x : Int32) (σ : ST) (a : Int) (d : Nat), VS σ a d x → d ≤ n → OK (f_X11_recordIn_2 n x σ) (RO σ fun _ => True) := by
  intro n
  induction n with
  | zero =>
    intro x σ a d h hd
    cases d with
    | zero => exact h.elim
    | succ d => omega
  | succ n ih =>
    intro x σ a d h hd
    rw [f_X11_recordIn_2]
    have lt_6 := li_6
    refine OK.grd h.rng ?_
    refine OK.ieq (fun h6 => ?_) (fun _ => OK.ieq (fun _ => OK.roret trivial) (fun _ => OK.roret trivial))
    have l := h.lst (by omega)
    exact ih _ σ a (d - 1) l.2 (by omega)
theorem b_field_ (p0 p1 p2 p3 : Int32) (σ : ST) (hI : IB σ) : OK (f_X11_field_ p0 p1 p2 p3 σ) (RTB σ) := by
  unfold f_X11_field_
  have lt_0 := li_0
  have lt_1 := li_1
  have lt_6 := li_6
  have lt_8 := li_8
  have lu := FUi
  have l0 := l64_0
  have hs := hI.th 0
  have e32 : (stI σ 0 0 0).1 0 32 = σ.1 0 32 := rfl
  have done : ∀ v : Int32, OK (some (v, stI σ 0 0 0)) (RTB σ) := fun v => OK.tb hs rfl rfl rfl
  generalize stI σ 0 0 0 = s at hs e32 done ⊢
  have p16 := hs.1.1
  obtain ⟨p61, p62⟩ := p16
  have k35 : OK (f_X11_field__35 p0 p1 p2 p3 s) (RTB σ) := by
    unfold f_X11_field__35 f_X11_field__36 f_X11_field__53
    refine OK.ieq (fun _ => ?_) (fun h => absurd rfl h)
    exact OK.ieq (fun _ => done _) (fun h => absurd rfl h)
  refine OK.bndR (b_isPlanAt p0 s hs.1.1) (fun v hv => ?_)
  dsimp only
  refine OK.ieq (fun _ => k35) (fun h => ?_)
  have hp : 0 ≤ p0.toInt ∧ p0.toInt < (s.1 0 32).toInt := by omega
  have n0 := nN_ hp.1
  obtain ⟨rm, rf⟩ := hs.1.2.1 p0.toNatClampNeg (by omega)
  refine OK.grd ⟨by omega, by omega⟩ ?_
  have a1 := il_subE (x := s.1 8 p0.toNatClampNeg) (y := 1) (by omega) (by omega)
  have a2 := i64 (s.1 8 p0.toNatClampNeg - 1)
  have a3 := i64 p1
  refine OK.bndR (b_within _ _ _ _) (fun x hx => ?_)
  dsimp only
  refine OK.ieq (fun _ => k35) (fun _ => ?_)
  have hp1 : 0 ≤ p1.toInt ∧ p1.toInt < (s.1 8 p0.toNatClampNeg).toInt := by omega
  have n1 := nN_ hp1.1
  obtain ⟨⟨f1, f2⟩, fv⟩ := rf p1.toNatClampNeg (by omega)
  have b1 := mlE (k := 6) (y := p0) 6 li_6 (by omega) (by omega)
  have b2 := il_addE (x := 6 * p0) (y := p1) (by omega) (by omega)
  have e6 : (6 * p0 + p1).toNatClampNeg = 6 * p0.toNatClampNeg + p1.toNatClampNeg := nC (by omega)
  unfold f_X11_field__36 f_X11_field__53
  refine OK.ieq (fun h9 => by omega) (fun _ => ?_)
  refine OK.ieq (fun h9 => by omega) (fun _ => ?_)
  refine OK.grd ⟨by omega, by omega⟩ ?_
  rw [e6]
  have c1 := il_subE (x := s.1 11 (6 * p0.toNatClampNeg + p1.toNatClampNeg)) (y := 1) (by omega) (by omega)
  have c2 := i64 (s.1 11 (6 * p0.toNatClampNeg + p1.toNatClampNeg) - 1)
  have c3 := i64 p2
  refine OK.bndR (b_within _ _ _ _) (fun y hy => ?_)
  dsimp only
  refine OK.ieq (fun _ => done _) (fun _ => ?_)
  have hp2 : 0 ≤ p2.toInt ∧ p2.toInt < (s.1 11 (6 * p0.toNatClampNeg + p1.toNatClampNeg)).toInt := by omega
  have n2 := nN_ hp2.1
  have d1 := mlE (k := 8) (y := 6 * p0 + p1) 8 li_8 (by omega) (by omega)
  have d2 := il_addE (x := 8 * (6 * p0 + p1)) (y := p2) (by omega) (by omega)
  have e8 : (8 * (6 * p0 + p1) + p2).toNatClampNeg = 8 * (6 * p0.toNatClampNeg + p1.toNatClampNeg) + p2.toNatClampNeg := nC (by omega)
  have g8 : 0 ≤ (8 * (6 * p0 + p1) + p2).toInt ∧ (8 * (6 * p0 + p1) + p2).toInt < 576 := by omega
  have hT : VS s (s.1 8 p0.toNatClampNeg).toInt 4 (s.1 15 (8 * (6 * p0 + p1) + p2).toNatClampNeg) := by
    rw [e8]
    exact (fv p2.toNatClampNeg (by omega)).wk (by decide)
  refine OK.ieq (fun _ => OK.grd g8 (OK.grd hT.rng (done _))) (fun _ => ?_)
  refine OK.ieq (fun _ => OK.grd g8 (OK.ieq (fun _ => done _) (fun _ => done _))) (fun _ => ?_)
  refine OK.ieq (fun _ => OK.grd g8 (OK.ile (fun _ => done _) (fun _ => done _))) (fun _ => ?_)
  refine OK.ieq (fun _ => OK.grd g8 (done _)) (fun _ => ?_)
  refine OK.ieq (fun _ => OK.grd g8 (OK.grd hT.rng (done _))) (fun _ => ?_)
  refine OK.ieq (fun _ => OK.grd g8 ?_) (fun _ => done _)
  unfold f_X11_recordIn
  refine OK.bndR (b_recordIn_2 FU _ s _ 4 hT (by omega)) (fun z _ => ?_)
  exact done _
theorem b_message (p0 p1 : Int32) (σ : ST) (hI : IB σ) : OK (f_X11_message p0 p1 σ) (RTB σ) := by
  unfold f_X11_message
  have lt_0 := li_0
  have hs := hI.th 0
  have done : ∀ v : Int32, OK (some (v, stI σ 0 0 0)) (RTB σ) := fun v => OK.tb hs rfl rfl rfl
  generalize stI σ 0 0 0 = s at hs done ⊢
  refine OK.bndR (b_isMessage p0 s) (fun v hv => ?_)
  dsimp only
  refine OK.ieq (fun _ => done _) (fun _ => ?_)
  refine OK.bndR (b_within _ _ _ _) (fun w hw => ?_)
  dsimp only
  refine OK.ieq (fun _ => done _) (fun _ => ?_)
  exact OK.ieq (fun _ => OK.grd ⟨by omega, by omega⟩ (done _)) (fun _ => OK.grd ⟨by omega, by omega⟩ (done _))
theorem b_byteAt_ (p0 p1 : Int32) (σ : ST) (hI : IB σ) : OK (f_X11_byteAt_ p0 p1 σ) (RTB σ) := by
  unfold f_X11_byteAt_ f_X11_byteAt__15
  have lt_0 := li_0
  have lt_1 := li_1
  have lt_400 := li_400
  refine OK.bndR (b_isByte p0 p1 σ hI.2.2.2.1) (fun v hv => ?_)
  dsimp only
  refine OK.ieq (fun _ => ?_) (fun _ => ?_)
  · refine OK.ile (fun h => ?_) (fun _ => OK.tb (hI.th 1) rfl rfl rfl)
    have h : (1 : Int32).toInt ≤ (0 : Int32).toInt := h
    omega
  · have a1 := mlE (k := 400) (y := p0) 400 li_400 (by omega) (by omega)
    have a2 := il_addE (x := 400 * p0) (y := p1) (by omega) (by omega)
    exact OK.ile (fun _ => OK.grd ⟨by omega, by omega⟩ (OK.tb (hI.th 0) rfl rfl rfl)) (fun _ => OK.tb (hI.th 0) rfl rfl rfl)
theorem b_spoil (p0 p1 p2 : Int32) (σ : ST) (hI : IB σ) : OK (f_X11_spoil p0 p1 p2 σ) (RTB σ) := by
  unfold f_X11_spoil
  have lt_0 := li_0
  have lt_400 := li_400
  have hs := hI.th 0
  have e1 : (stI σ 0 0 0).1 0 2 = σ.1 0 2 := rfl
  have e2 : (stI σ 0 0 0).1 1 = σ.1 1 := rfl
  have e3 : (stI σ 0 0 0).1 0 32 = σ.1 0 32 := rfl
  generalize stI σ 0 0 0 = s at hs e1 e2 e3 ⊢
  refine OK.bndR (b_isByte p0 p1 s hs.2.2.2.1) (fun v hv => ?_)
  dsimp only
  refine OK.ieq (fun _ => OK.tb hs e1 e2 e3) (fun _ => ?_)
  have a1 := mlE (k := 400) (y := p0) 400 li_400 (by omega) (by omega)
  have a2 := il_addE (x := 400 * p0) (y := p1) (by omega) (by omega)
  refine OK.grd ⟨by omega, by omega⟩ ?_
  refine OK.lt (fun z hz => ?_)
  subst hz
  exact OK.tb ⟨hs.1.of rfl rfl rfl rfl rfl rfl rfl rfl rfl, hs.2⟩ e1 e2 e3
theorem b_cut (p0 p1 : Int32) (σ : ST) (hI : IB σ) : OK (f_X11_cut p0 p1 σ) (RTB σ) := by
  unfold f_X11_cut
  have lt_0 := li_0
  have l0 := l64_0
  have hs := hI.th 0
  have e1 : (stI σ 0 0 0).1 0 2 = σ.1 0 2 := rfl
  have e2 : (stI σ 0 0 0).1 1 = σ.1 1 := rfl
  have e3 : (stI σ 0 0 0).1 0 32 = σ.1 0 32 := rfl
  generalize stI σ 0 0 0 = s at hs e1 e2 e3 ⊢
  refine OK.bndR (b_isMessage p0 s) (fun v hv => ?_)
  dsimp only
  refine OK.ieq (fun _ => OK.tb hs e1 e2 e3) (fun _ => ?_)
  refine OK.grd ⟨by omega, by omega⟩ ?_
  have a1 := i64 p1
  have a2 := i64 (s.1 33 p0.toNatClampNeg)
  obtain ⟨m1, m2⟩ := hs.2.2.2.1 p0.toNatClampNeg
  refine OK.bndR (b_within _ _ _ _) (fun w hw => ?_)
  dsimp only
  refine OK.ieq (fun _ => OK.tb hs e1 e2 e3) (fun _ => ?_)
  refine OK.tb ⟨hs.1.of rfl rfl rfl rfl rfl rfl rfl rfl rfl, hs.2.1, hs.2.2.1, ?_, hs.2.2.2.2⟩ e1 e2 e3
  exact upd_all (P := fun x => bI x 0 400) hs.2.2.2.1 ⟨by omega, by omega⟩
/-- what looking for misses leaves -/
theorem IB.ms {σ t : ST} (h : IB σ) (c : CH [35, 36, 37, 38, 39, 40] [53, 54, 57, 61] σ t) (hm : MI t) (hb : PB t) : IB t := by
  refine ⟨h.1.ch c (by decide) (by decide), hb, ?_, ?_, hm.2, ?_, ?_, ?_, ?_, ?_⟩
  · rw [c.1 32 (by decide) (by decide), c.2.1 32 (by decide)]; exact h.2.2.1
  · rw [c.1 33 (by decide) (by decide)]; exact h.2.2.2.1
  · rw [c.2.1 68 (by decide)]; exact h.2.2.2.2.2.1
  · rw [c.2.1 73 (by decide)]; exact h.2.2.2.2.2.2.1
  · rw [c.2.1 83 (by decide)]; exact h.2.2.2.2.2.2.2.1
  · rw [c.2.1 92 (by decide)]; exact h.2.2.2.2.2.2.2.2.1
  · unfold TH
    rw [c.1 45 (by decide) (by decide)]; exact h.2.2.2.2.2.2.2.2.2
theorem IB.lm {σ : ST} (h : IB σ) (w r : Int32) (h0 : 0 ≤ w.toInt ∧ w.toInt < (σ.1 0 32).toInt) (h1 : 0 ≤ r.toInt ∧ r.toInt < (σ.1 0 32).toInt) : OK (f_X11_laysMisses w r σ) (fun t => (IB t ∧ t.1 0 2 = σ.1 0 2 ∧ t.1 1 = σ.1 1 ∧ t.1 0 32 = σ.1 0 32) ∧ MI t) := (b_laysMisses w r σ h.1 h.2.1 h.2.2.2.2.1 h0 h1).mono (fun t ht => ⟨⟨h.ms ht.1 ht.2.1 ht.2.2, ht.1.2.1 2 (by decide), ht.1.1 1 (by decide) (by decide), ht.1.2.1 32 (by decide)⟩, ht.2.1⟩)
theorem IB.vd {σ : ST} (h : IB σ) (w r : Int32) (h0 : 0 ≤ w.toInt ∧ w.toInt < (σ.1 0 32).toInt) (h1 : 0 ≤ r.toInt ∧ r.toInt < (σ.1 0 32).toInt) : OK (f_X11_verdict w r σ) (RTB σ) := by
  unfold f_X11_verdict
  refine OK.bnd (h.lm w r h0 h1) (fun t ht => ?_)
  have d : ∀ v : Int32, OK (some (v, t)) (RTB σ) := fun v => OK.tb ht.1.1 ht.1.2.1 ht.1.2.2.1 ht.1.2.2.2
  exact OK.ieq (fun _ => d _) (fun _ => OK.ile (fun _ => d _) (fun _ => d _))
theorem b_matches (p0 p1 : Int32) (σ : ST) (hI : IB σ) : OK (f_X11_matches p0 p1 σ) (RTB σ) := by
  unfold f_X11_matches
  have lt_0 := li_0
  have hs := hI.th 0
  have e1 : (stI σ 0 0 0).1 0 2 = σ.1 0 2 := rfl
  have e2 : (stI σ 0 0 0).1 1 = σ.1 1 := rfl
  have e3 : (stI σ 0 0 0).1 0 32 = σ.1 0 32 := rfl
  generalize stI σ 0 0 0 = s at hs e1 e2 e3 ⊢
  refine OK.bndR (b_isPlanAt p0 s hs.1.1) (fun v hv => ?_)
  dsimp only
  refine OK.ieq (fun _ => OK.tb hs e1 e2 e3) (fun _ => ?_)
  refine OK.bndR (b_isPlanAt p1 s hs.1.1) (fun w hw => ?_)
  dsimp only
  refine OK.ieq (fun _ => OK.tb hs e1 e2 e3) (fun _ => ?_)
  refine OK.bnd (hs.vd p0 p1 (by omega) (by omega)) (fun q hq => ?_)
  exact OK.tb hq.1 (hq.2.1.trans e1) (hq.2.2.1.trans e2) (hq.2.2.2.trans e3)
theorem b_miss (p0 p1 p2 p3 : Int32) (σ : ST) (hI : IB σ) : OK (f_X11_miss p0 p1 p2 p3 σ) (RTB σ) := by
  unfold f_X11_miss
  have lt_0 := li_0
  have lt_1 := li_1
  have l0 := l64_0
  have hs := hI.th 0
  have e1 : (stI σ 0 0 0).1 0 2 = σ.1 0 2 := rfl
  have e2 : (stI σ 0 0 0).1 1 = σ.1 1 := rfl
  have e3 : (stI σ 0 0 0).1 0 32 = σ.1 0 32 := rfl
  generalize stI σ 0 0 0 = s at hs e1 e2 e3 ⊢
  refine OK.bndR (b_isPlanAt p0 s hs.1.1) (fun v hv => ?_)
  dsimp only
  refine OK.ieq (fun _ => OK.tb hs e1 e2 e3) (fun _ => ?_)
  refine OK.bndR (b_isPlanAt p1 s hs.1.1) (fun w hw => ?_)
  dsimp only
  refine OK.ieq (fun _ => OK.tb hs e1 e2 e3) (fun _ => ?_)
  refine OK.bndR (b_within _ _ _ _) (fun x hx => ?_)
  dsimp only
  refine OK.ieq (fun _ => OK.tb hs e1 e2 e3) (fun _ => ?_)
  refine OK.bnd (hs.lm p0 p1 (by omega) (by omega)) (fun t ht => ?_)
  have d : ∀ v : Int32, OK (some (v, t)) (RTB σ) := fun v => OK.tb ht.1.1 (ht.1.2.1.trans e1) (ht.1.2.2.1.trans e2) (ht.1.2.2.2.trans e3)
  refine OK.ieq (fun _ => d _) (fun _ => ?_)
  obtain ⟨⟨m1, m2⟩, m3⟩ := ht.2
  have a1 := il_subE (x := t.1 0 61) (y := 1) (by omega) (by omega)
  have a2 := i64 (t.1 0 61 - 1)
  have a3 := i64 p2
  refine OK.bndR (b_within _ _ _ _) (fun y hy => ?_)
  dsimp only
  refine OK.ieq (fun _ => d _) (fun _ => ?_)
  exact OK.ieq (fun _ => OK.grd ⟨by omega, by omega⟩ (d _)) (fun _ => OK.grd ⟨by omega, by omega⟩ (d _))
theorem b_missStep (p0 p1 p2 p3 : Int32) (σ : ST) (hI : IB σ) : OK (f_X11_missStep p0 p1 p2 p3 σ) (RTB σ) := by
  unfold f_X11_missStep
  have lt_0 := li_0
  have lt_1 := li_1
  have lt_256 := li_256
  have l0 := l64_0
  have hs := hI.th 0
  have e1 : (stI σ 0 0 0).1 0 2 = σ.1 0 2 := rfl
  have e2 : (stI σ 0 0 0).1 1 = σ.1 1 := rfl
  have e3 : (stI σ 0 0 0).1 0 32 = σ.1 0 32 := rfl
  generalize stI σ 0 0 0 = s at hs e1 e2 e3 ⊢
  refine OK.bndR (b_isPlanAt p0 s hs.1.1) (fun v hv => ?_)
  dsimp only
  refine OK.ieq (fun _ => OK.tb hs e1 e2 e3) (fun _ => ?_)
  refine OK.bndR (b_isPlanAt p1 s hs.1.1) (fun w hw => ?_)
  dsimp only
  refine OK.ieq (fun _ => OK.tb hs e1 e2 e3) (fun _ => ?_)
  refine OK.bnd (hs.lm p0 p1 (by omega) (by omega)) (fun t ht => ?_)
  have d : ∀ v : Int32, OK (some (v, t)) (RTB σ) := fun v => OK.tb ht.1.1 (ht.1.2.1.trans e1) (ht.1.2.2.1.trans e2) (ht.1.2.2.2.trans e3)
  obtain ⟨⟨m1, m2⟩, m3⟩ := ht.2
  have a1 := il_subE (x := t.1 0 61) (y := 1) (by omega) (by omega)
  have a2 := i64 (t.1 0 61 - 1)
  have a3 := i64 p2
  refine OK.bndR (b_within _ _ _ _) (fun y hy => ?_)
  dsimp only
  refine OK.ieq (fun _ => d _) (fun _ => ?_)
  refine OK.grd ⟨by omega, by omega⟩ ?_
  obtain ⟨k1, k2⟩ := m3 p2.toNatClampNeg
  have b1 := il_subE (x := t.1 38 p2.toNatClampNeg) (y := 1) (by omega) (by omega)
  have b2 := i64 (t.1 38 p2.toNatClampNeg - 1)
  have b3 := i64 p3
  refine OK.bndR (b_within _ _ _ _) (fun z hz => ?_)
  dsimp only
  refine OK.ieq (fun _ => d _) (fun _ => ?_)
  have c1 := mlE (k := 256) (y := p2) 256 li_256 (by omega) (by omega)
  have c2 := il_addE (x := 256 * p2) (y := p3) (by omega) (by omega)
  exact OK.grd ⟨by omega, by omega⟩ (d _)
theorem b_readers_30 (w : Int32) (σ0 : ST) : ∀ (n : Nat) (x2 x3 x4 : Int32) (σ : ST), IB σ → σ.1 0 2 = σ0.1 0 2 → σ.1 1 = σ0.1 1 → σ.1 0 32 = σ0.1 0 32 → (0 ≤ w.toInt ∧ w.toInt < (σ.1 0 32).toInt) → (0 ≤ x4.toInt ∧ x4.toInt ≤ 6 ∧ (6 : Int) - x4.toInt < n) → OK (f_X11_readers_30 n w x2 x3 x4 σ) (RTB σ0) := by
  intro n
  induction n with
  | zero => intro x2 x3 x4 σ h1 h2 h3 h4 h5 h6; omega
  | succ n ih =>
    intro x2 x3 x4 σ hI e1 e2 e3 hw h4
    rw [f_X11_readers_30]
    unfold f_X11_readers_59
    have lt_1 := li_1
    have p16 := hI.1.1
    obtain ⟨p61, p62⟩ := p16
    have a1 := il_addE (x := x4) (y := 1) (by omega) (by omega)
    refine OK.ile (fun _ => OK.tb hI e1 e2 e3) (fun h => ?_)
    refine OK.bnd (hI.vd w x4 hw (by omega)) (fun q hq => ?_)
    obtain ⟨q1, q2, q3, q4⟩ := hq
    refine OK.ilt (fun _ => ?_) (fun _ => ?_)
    · exact ih _ _ _ _ q1 (q2.trans e1) (q3.trans e2) (q4.trans e3) (by rw [q4]; exact hw) (by omega)
    · exact ih _ _ _ _ q1 (q2.trans e1) (q3.trans e2) (q4.trans e3) (by rw [q4]; exact hw) (by omega)
theorem b_readers (p0 p1 : Int32) (σ : ST) (hI : IB σ) : OK (f_X11_readers p0 p1 σ) (RTB σ) := by
  unfold f_X11_readers
  have lt_0 := li_0
  have lu := FUi
  have hs := hI.th 0
  have e1 : (stI σ 0 0 0).1 0 2 = σ.1 0 2 := rfl
  have e2 : (stI σ 0 0 0).1 1 = σ.1 1 := rfl
  have e3 : (stI σ 0 0 0).1 0 32 = σ.1 0 32 := rfl
  generalize stI σ 0 0 0 = s at hs e1 e2 e3 ⊢
  refine OK.bndR (b_isPlanAt p0 s hs.1.1) (fun v hv => ?_)
  dsimp only
  refine OK.ieq (fun _ => OK.tb hs e1 e2 e3) (fun _ => ?_)
  refine OK.bndR (b_within _ _ _ _) (fun w hw => ?_)
  dsimp only
  refine OK.ieq (fun _ => OK.tb hs e1 e2 e3) (fun _ => ?_)
  exact b_readers_30 p0 σ FU _ _ _ s hs e1 e2 e3 (by omega) (by omega)
/-- what reading leaves -/
theorem IB.rd {σ : ST} {q : Int32 × ST} (h : IB σ) (c : CH FC FI σ q.2) (r : RF q) : IB q.2 ∧ q.2.1 0 2 = σ.1 0 2 ∧ q.2.1 1 = σ.1 1 ∧ q.2.1 0 32 = σ.1 0 32 := by
  obtain ⟨r1, r2, r3, r4, r5, r6, r7, r8⟩ := r
  refine ⟨⟨r1, r2, ?_, ?_, ?_, r3, r4, r5, r6, r7⟩, c.2.1 2 (by decide), c.1 1 (by decide) (by decide), c.2.1 32 (by decide)⟩
  · rw [c.1 32 (by decide) (by decide), c.2.1 32 (by decide)]; exact h.2.2.1
  · rw [c.1 33 (by decide) (by decide)]; exact h.2.2.2.1
  · rw [c.1 38 (by decide) (by decide)]; exact h.2.2.2.2.1
theorem IB.rfor {σ : ST} (h : IB σ) (m p : Int32) (hm : 0 ≤ m.toInt ∧ m.toInt < 4) (h0 : 0 ≤ (σ.1 32 m.toNatClampNeg).toInt) (h1 : 0 ≤ p.toInt ∧ p.toInt < (σ.1 0 32).toInt) : OK (f_X11_readsFor m p σ) (fun q => (IB q.2 ∧ q.2.1 0 2 = σ.1 0 2 ∧ q.2.1 1 = σ.1 1 ∧ q.2.1 0 32 = σ.1 0 32) ∧ (q.1.toInt < 0 ∨ q.1.toInt = 0 ∧ ∃ LV, NL LV q.2 ∧ (0 < (q.2.1 0 46).toInt ∧ (q.2.1 0 46).toInt ≤ 400))) := (b_readsFor m p σ h.1 h.2.1 h.2.2.2.2.2.1 h.2.2.2.1 h.2.2.2.2.2.2.2.2.1 h.2.2.2.2.2.2.2.2.2 hm (h.mp hm h0) h1).mono (fun q hq => ⟨h.rd hq.1 hq.2, hq.2.2.2.2.2.2.2.2⟩)
theorem b_read (p0 p1 : Int32) (σ : ST) (hI : IB σ) : OK (f_X11_read p0 p1 σ) (RTB σ) := by
  unfold f_X11_read
  have lt_0 := li_0
  have hs := hI.th 0
  have e1 : (stI σ 0 0 0).1 0 2 = σ.1 0 2 := rfl
  have e2 : (stI σ 0 0 0).1 1 = σ.1 1 := rfl
  have e3 : (stI σ 0 0 0).1 0 32 = σ.1 0 32 := rfl
  generalize stI σ 0 0 0 = s at hs e1 e2 e3 ⊢
  refine OK.bndR (b_isMessage p0 s) (fun v hv => ?_)
  dsimp only
  refine OK.ieq (fun _ => OK.tb hs e1 e2 e3) (fun _ => ?_)
  refine OK.bndR (b_isPlanAt p1 s hs.1.1) (fun w hw => ?_)
  dsimp only
  refine OK.ieq (fun _ => OK.tb hs e1 e2 e3) (fun _ => ?_)
  refine OK.bnd (hs.rfor p0 p1 (by omega) (by omega) (by omega)) (fun q hq => ?_)
  have d : ∀ v : Int32, OK (some (v, q.2)) (RTB σ) := fun v => OK.tb hq.1.1 (hq.1.2.1.trans e1) (hq.1.2.2.1.trans e2) (hq.1.2.2.2.trans e3)
  exact OK.ile (fun _ => d _) (fun _ => d _)
theorem b_convert (p0 p1 p2 : Int32) (σ : ST) (hI : IB σ) : OK (f_X11_convert p0 p1 p2 σ) (RTB σ) := by
  unfold f_X11_convert
  have lt_0 := li_0
  have l0 := l64_0
  have l3 := l64_3
  have hs := hI.th 0
  have e1 : (stI σ 0 0 0).1 0 2 = σ.1 0 2 := rfl
  have e2 : (stI σ 0 0 0).1 1 = σ.1 1 := rfl
  have e3 : (stI σ 0 0 0).1 0 32 = σ.1 0 32 := rfl
  generalize stI σ 0 0 0 = s at hs e1 e2 e3 ⊢
  refine OK.bndR (b_isMessage p0 s) (fun v hv => ?_)
  dsimp only
  refine OK.ieq (fun _ => OK.tb hs e1 e2 e3) (fun _ => ?_)
  refine OK.bndR (b_isPlanAt p1 s hs.1.1) (fun w hw => ?_)
  dsimp only
  refine OK.ieq (fun _ => OK.tb hs e1 e2 e3) (fun _ => ?_)
  have a3 := i64 p2
  refine OK.bndR (b_within _ _ _ _) (fun x hx => ?_)
  dsimp only
  refine OK.ieq (fun _ => OK.tb hs e1 e2 e3) (fun _ => ?_)
  refine OK.bnd (hs.rfor p0 p1 (by omega) (by omega) (by omega)) (fun q hq => ?_)
  have d : ∀ v : Int32, OK (some (v, q.2)) (RTB σ) := fun v => OK.tb hq.1.1 (hq.1.2.1.trans e1) (hq.1.2.2.1.trans e2) (hq.1.2.2.2.trans e3)
  refine OK.ile (fun h9 => ?_) (fun _ => d _)
  obtain ⟨⟨q1, q2, q3, q4⟩, q5⟩ := hq
  rcases q5 with q5 | ⟨q5, LV, hN, hS⟩
  · omega
  refine OK.bndZ (b_writesTree q.2 hN hS.1) (fun t ct ht => ?_)
  have It : IB t := by
    refine ⟨q1.1.ch ct (by decide) (by decide), ?_, ?_, ?_, ?_, ?_, ?_, ?_, ?_, ?_⟩
    · unfold PB
      rw [ct.1 35 (by decide) (by decide)]; exact q1.2.1
    · rw [ct.1 32 (by decide) (by decide), ct.2.1 32 (by decide)]; exact q1.2.2.1
    · rw [ct.1 33 (by decide) (by decide)]; exact q1.2.2.2.1
    · rw [ct.1 38 (by decide) (by decide)]; exact q1.2.2.2.2.1
    · rw [ct.2.1 68 (by decide)]; exact q1.2.2.2.2.2.1
    · rw [ct.2.1 73 (by decide)]; exact q1.2.2.2.2.2.2.1
    · rw [ct.2.1 83 (by decide)]; exact q1.2.2.2.2.2.2.2.1
    · rw [ct.2.1 92 (by decide)]; exact q1.2.2.2.2.2.2.2.2.1
    · unfold TH
      rw [ct.1 45 (by decide) (by decide)]; exact q1.2.2.2.2.2.2.2.2.2
  have t2 : t.1 0 2 = σ.1 0 2 := by rw [ct.2.1 2 (by decide), q2]; exact e1
  have t1 : t.1 1 = σ.1 1 := by rw [ct.1 1 (by decide) (by decide), q3]; exact e2
  have t3 : t.1 0 32 = σ.1 0 32 := by rw [ct.2.1 32 (by decide), q4]; exact e3
  have t3s : (t.1 0 32).toInt = (s.1 0 32).toInt := by rw [t3, e3]
  refine OK.ieq (fun _ => ?_) (fun _ => OK.tb It t2 t1 t3)
  refine OK.bndZ (b_becomes p2 p1 t ht (by omega)) (fun u cu hu => ?_)
  have n2 := nN_ (x := p2) (by omega)
  refine OK.tb ⟨It.1.ch cu (by decide) (by decide), ?_, ?_, ?_, ?_, ?_, ?_, ?_, ?_, ?_⟩ ?_ ?_ ?_
  · unfold PB
    rw [cu.1 35 (by decide) (by decide)]; exact It.2.1
  · rw [hu.1, cu.2.1 32 (by decide)]
    intro i hi
    unfold upd
    split
    · omega
    · exact It.2.2.1 i hi
  · rw [hu.2]
    exact upd_all (P := fun x => bI x 0 400) It.2.2.2.1 ht
  · rw [cu.1 38 (by decide) (by decide)]; exact It.2.2.2.2.1
  · rw [cu.2.1 68 (by decide)]; exact It.2.2.2.2.2.1
  · rw [cu.2.1 73 (by decide)]; exact It.2.2.2.2.2.2.1
  · rw [cu.2.1 83 (by decide)]; exact It.2.2.2.2.2.2.2.1
  · rw [cu.2.1 92 (by decide)]; exact It.2.2.2.2.2.2.2.2.1
  · unfold TH
    rw [cu.1 45 (by decide) (by decide)]; exact It.2.2.2.2.2.2.2.2.2
  · rw [cu.2.1 2 (by decide)]; exact t2
  · rw [cu.1 1 (by decide) (by decide)]; exact t1
  · rw [cu.2.1 32 (by decide)]; exact t3
theorem b_failure (p0 : Int32) (σ : ST) (hI : IB σ) : OK (f_X11_failure p0 σ) (RTB σ) := by
  unfold f_X11_failure
  have hs := hI.th 0
  have d : ∀ v : Int32, OK (some (v, stI σ 0 0 0)) (RTB σ) := fun v => OK.tb hs rfl rfl rfl
  exact OK.ieq (fun _ => d _) (fun _ => OK.ieq (fun _ => d _) (fun _ => OK.ieq (fun _ => d _) (fun _ => OK.ieq (fun _ => d _) (fun _ => d _))))
theorem b_failureStep (p0 : Int32) (σ : ST) (hI : IB σ) : OK (f_X11_failureStep p0 σ) (RTB σ) := by
  unfold f_X11_failureStep
  have lt_0 := li_0
  have lt_1 := li_1
  have l0 := l64_0
  have hs := hI.th 0
  have d : ∀ v : Int32, OK (some (v, stI σ 0 0 0)) (RTB σ) := fun v => OK.tb hs rfl rfl rfl
  generalize stI σ 0 0 0 = s at hs d ⊢
  refine OK.ile (fun _ => d _) (fun _ => ?_)
  obtain ⟨m1, m2⟩ := hs.2.2.2.2.2.2.2.1
  have a1 := il_subE (x := s.1 0 83) (y := 1) (by omega) (by omega)
  have a2 := i64 (s.1 0 83 - 1)
  have a3 := i64 p0
  refine OK.bndR (b_within _ _ _ _) (fun y hy => ?_)
  dsimp only
  exact OK.ieq (fun _ => d _) (fun _ => OK.grd ⟨by omega, by omega⟩ (d _))
theorem b_node (p0 p1 : Int32) (σ : ST) (hI : IB σ) : OK (f_X11_node p0 p1 σ) (RTB σ) := by
  unfold f_X11_node f_X11_node_33
  have lt_0 := li_0
  have lt_1 := li_1
  have l0 := l64_0
  obtain ⟨m1, m2⟩ := hI.2.2.2.2.2.2.1
  have a1 := il_subE (x := σ.1 0 73) (y := 1) (by omega) (by omega)
  have a2 := i64 (σ.1 0 73 - 1)
  have a3 := i64 p0
  have no : OK (f_X11_node_34 p0 p1 1 σ) (RTB σ) := by
    unfold f_X11_node_34
    refine OK.ile (fun h => ?_) (fun _ => OK.tb (hI.th 1) rfl rfl rfl)
    have h : (1 : Int32).toInt ≤ (0 : Int32).toInt := h
    omega
  refine OK.bndR (b_within _ _ _ _) (fun y hy => ?_)
  dsimp only
  refine OK.ieq (fun _ => no) (fun _ => ?_)
  refine OK.bndR (b_within _ _ _ _) (fun z hz => ?_)
  dsimp only
  refine OK.ieq (fun _ => no) (fun _ => ?_)
  unfold f_X11_node_34
  have g : 0 ≤ p0.toInt ∧ p0.toInt < 400 := by omega
  have d : ∀ v : Int32, OK (some (v, stI σ 0 0 0)) (RTB σ) := fun v => OK.tb (hI.th 0) rfl rfl rfl
  refine OK.ile (fun _ => ?_) (fun _ => d _)
  refine OK.ieq (fun _ => OK.grd g (d _)) (fun _ => ?_)
  refine OK.ieq (fun _ => OK.grd g (d _)) (fun _ => ?_)
  refine OK.ieq (fun _ => OK.grd g (d _)) (fun _ => ?_)
  refine OK.ieq (fun _ => OK.grd g (d _)) (fun _ => ?_)
  exact OK.grd g (OK.ieq (fun _ => d _) (fun _ => d _))
theorem b_value_ (p0 : Int32) (σ : ST) (hI : IB σ) : OK (f_X11_value_ p0 σ) (RTB σ) := by
  unfold f_X11_value_ f_X11_value__22
  have lt_0 := li_0
  have lt_1 := li_1
  have l0 := l64_0
  obtain ⟨m1, m2⟩ := hI.2.2.2.2.2.2.1
  have a1 := il_subE (x := σ.1 0 73) (y := 1) (by omega) (by omega)
  have a2 := i64 (σ.1 0 73 - 1)
  have a3 := i64 p0
  refine OK.bndR (b_within _ _ _ _) (fun y hy => ?_)
  dsimp only
  refine OK.ieq (fun _ => ?_) (fun _ => ?_)
  · refine OK.ile (fun h => ?_) (fun _ => OK.tb (hI.th 1) rfl rfl rfl)
    have h : (1 : Int32).toInt ≤ (0 : Int32).toInt := h
    omega
  · exact OK.ile (fun _ => OK.grd ⟨by omega, by omega⟩ (OK.tb (hI.th 0) rfl rfl rfl)) (fun _ => OK.tb (hI.th 0) rfl rfl rfl)
theorem b_letter_75 : ∀ (n : Nat) (x2 : Int32) (x3 : Int64) (x5 : Int32) (σ : ST), 0 ≤ x2.toInt → (x5.toInt ≤ 500 ∧ x5.toInt < n + x2.toInt) → 0 < n → OK (f_X11_letter_75 n x2 x3 x5 σ) (RO σ fun _ => True) := by
  intro n
  induction n with
  | zero => intro x2 x3 x5 σ h1 h2 h3; omega
  | succ n ih =>
    intro x2 x3 x5 σ h1 h2 h3
    rw [f_X11_letter_75]
    have lm := li_m1
    refine OK.ile (fun _ => OK.roret trivial) (fun h => ?_)
    have a1 := il_addE (x := x5) (y := -1) (by omega) (by omega)
    exact ih x2 _ (x5 + (-1)) σ h1 (by omega) (by omega)
theorem b_letter (p0 p1 : Int32) (σ : ST) (hI : IB σ) : OK (f_X11_letter p0 p1 σ) (RTB σ) := by
  unfold f_X11_letter f_X11_letter_35
  have lt_0 := li_0
  have lt_1 := li_1
  have lu := FUi
  have l0 := l64_0
  obtain ⟨m1, m2⟩ := hI.2.2.2.2.2.2.1
  have a1 := il_subE (x := σ.1 0 73) (y := 1) (by omega) (by omega)
  have a2 := i64 (σ.1 0 73 - 1)
  have a3 := i64 p0
  have no : OK (f_X11_letter_36 p0 p1 1 σ) (RTB σ) := by
    unfold f_X11_letter_36
    refine OK.ilt (fun _ => OK.tb (hI.th 1) rfl rfl rfl) (fun h => ?_)
    have h : (1 : Int32).toInt ≤ (0 : Int32).toInt := h
    omega
  refine OK.bndR (b_within _ _ _ _) (fun y hy => ?_)
  dsimp only
  refine OK.ieq (fun _ => no) (fun _ => ?_)
  have g : 0 ≤ p0.toInt ∧ p0.toInt < 400 := by omega
  refine OK.grd g ?_
  refine OK.ieq (fun _ => ?_) (fun _ => no)
  refine OK.ilt (fun _ => no) (fun hp1 => ?_)
  unfold f_X11_letter_36
  refine OK.ilt (fun _ => OK.tb (hI.th 0) rfl rfl rfl) (fun _ => ?_)
  refine OK.grd g ?_
  refine OK.ilt (fun h9 => ?_) (fun _ => OK.tb (hI.th 0) rfl rfl rfl)
  have t := hI.2.2.2.2.2.2.2.2.2 p0.toNatClampNeg
  obtain ⟨t1, t2⟩ := t
  have b1 := il_subE (x := σ.1 45 p0.toNatClampNeg) (y := 1) (by omega) (by omega)
  refine OK.mono (b_letter_75 FU p1 _ (σ.1 45 p0.toNatClampNeg - 1) (stI σ 0 0 0) (by omega) (by omega) (by omega)) (fun q hq => ?_)
  have e : q.2 = stI σ 0 0 0 := hq.1
  unfold RTB
  rw [e]
  exact ⟨hI.th 0, rfl, rfl, rfl⟩
theorem b_kept (p0 : Int32) (σ : ST) (hI : IB σ) : OK (f_X11_kept p0 σ) (RTB σ) := by
  unfold f_X11_kept
  have lt_0 := li_0
  have lt_1 := li_1
  have l0 := l64_0
  have hs := hI.th 0
  have d : ∀ v : Int32, OK (some (v, stI σ 0 0 0)) (RTB σ) := fun v => OK.tb hs rfl rfl rfl
  generalize stI σ 0 0 0 = s at hs d ⊢
  refine OK.ieq (fun _ => d _) (fun _ => ?_)
  obtain ⟨m1, m2⟩ := hs.2.2.2.2.2.2.2.2.1
  have a1 := il_subE (x := s.1 0 92) (y := 1) (by omega) (by omega)
  have a2 := i64 (s.1 0 92 - 1)
  have a3 := i64 p0
  refine OK.bndR (b_within _ _ _ _) (fun y hy => ?_)
  dsimp only
  exact OK.ieq (fun _ => d _) (fun _ => OK.grd ⟨by omega, by omega⟩ (d _))
theorem b_messageSet_4 : ∀ (n : Nat) (x1 x2 : Int32) (σ : ST), (0 ≤ x2.toInt ∧ x2.toInt ≤ 4 ∧ (4 : Int) - x2.toInt < n) → OK (f_X11_messageSet_4 n x1 x2 σ) (RO σ fun _ => True) := by
  intro n
  induction n with
  | zero => intro x1 x2 σ h; omega
  | succ n ih =>
    intro x1 x2 σ h
    rw [f_X11_messageSet_4]
    unfold f_X11_messageSet_26
    have lt_1 := li_1
    have lt_4 := li_4
    refine OK.ile (fun _ => OK.roret trivial) (fun h4 => ?_)
    have a1 := il_addE (x := x2) (y := 1) (by omega) (by omega)
    refine OK.grd ⟨by omega, by omega⟩ ?_
    exact OK.ilt (fun _ => ih _ _ _ (by omega)) (fun _ => ih _ _ _ (by omega))
theorem b_count (p0 : Int32) (σ : ST) (hI : IB σ) : OK (f_X11_count p0 σ) (RTB σ) := by
  unfold f_X11_count
  have lt_0 := li_0
  have lu := FUi
  have hs := hI.th 0
  have d : ∀ v : Int32, OK (some (v, stI σ 0 0 0)) (RTB σ) := fun v => OK.tb hs rfl rfl rfl
  refine OK.ieq (fun _ => d _) (fun _ => ?_)
  refine OK.ieq (fun _ => ?_) (fun _ => ?_)
  · unfold f_X11_messageSet
    refine OK.bndR (b_messageSet_4 FU 0 0 (stI σ 0 0 0) (by omega)) (fun v _ => ?_)
    exact d _
  exact OK.ieq (fun _ => d _) (fun _ => OK.ieq (fun _ => d _) (fun _ => OK.ieq (fun _ => d _) (fun _ => OK.ieq (fun _ => d _) (fun _ => d _))))
/-- the trial reading of two messages -/
def AX (σ0 σ : ST) : Prop := IB σ ∧ σ.1 0 2 = σ0.1 0 2 ∧ σ.1 1 = σ0.1 1 ∧ σ.1 0 32 = σ0.1 0 32
theorem IB.rall {σ : ST} (h : IB σ) (m p : Int32) (hm : 0 ≤ m.toInt ∧ m.toInt < 4) (h0 : 0 ≤ (σ.1 32 m.toNatClampNeg).toInt) (h1 : 0 ≤ p.toInt ∧ p.toInt < (σ.1 0 32).toInt) : OK (f_X11_readsAll m p σ) (fun q => AX σ q.2 ∧ q.2.1 32 = σ.1 32 ∧ (q.1.toInt < 0 ∨ q.1.toInt = 0 ∧ ∃ LV, NL LV q.2 ∧ (0 < (q.2.1 0 46).toInt ∧ (q.2.1 0 46).toInt ≤ 400))) := by
  refine (b_readsAll m p σ h.1 h.2.1 h.2.2.2.2.2.1 h.2.2.2.1 hm (h.mp hm h0) h1).mono (fun q hq => ?_)
  obtain ⟨c, r1, r2, r3, r4⟩ := hq
  refine ⟨⟨⟨r1, r2, ?_, ?_, ?_, r3, ?_, ?_, ?_, ?_⟩, c.2.1 2 (by decide), c.1 1 (by decide) (by decide), c.2.1 32 (by decide)⟩, c.1 32 (by decide) (by decide), ?_⟩
  · rw [c.1 32 (by decide) (by decide), c.2.1 32 (by decide)]; exact h.2.2.1
  · rw [c.1 33 (by decide) (by decide)]; exact h.2.2.2.1
  · rw [c.1 38 (by decide) (by decide)]; exact h.2.2.2.2.1
  · rw [c.2.1 73 (by decide)]; exact h.2.2.2.2.2.2.1
  · rw [c.2.1 83 (by decide)]; exact h.2.2.2.2.2.2.2.1
  · rw [c.2.1 92 (by decide)]; exact h.2.2.2.2.2.2.2.2.1
  · unfold TH
    rw [c.1 45 (by decide) (by decide)]; exact h.2.2.2.2.2.2.2.2.2
  · rcases r4 with r4 | r4 | r4
    · exact .inl (by omega)
    · exact .inl (by omega)
    · exact .inr r4
theorem AX.ch {C I : List Nat} {σ0 σ t : ST} (h : AX σ0 σ) (c : CH C I σ t) (hC : ∀ c, c ∈ [1, 2, 3, 4, 5, 8, 11, 15, 19, 32, 33, 35, 38, 45] → c ∉ C) (hI : ∀ i, i ∈ [2, 32, 68, 73, 83, 92] → i ∉ I) : AX σ0 t := by
  obtain ⟨h0, h1, h2, h3⟩ := h
  refine ⟨⟨h0.1.ch c (hI 32 (by decide)) (fun x hx => hC x ?_), ?_, ?_, ?_, ?_, ?_, ?_, ?_, ?_, ?_⟩, ?_, ?_, ?_⟩
  · exact (by decide : ∀ x, x ∈ [2, 3, 4, 5, 8, 11, 15, 19] → x ∈ [1, 2, 3, 4, 5, 8, 11, 15, 19, 32, 33, 35, 38, 45]) x hx
  · unfold PB
    rw [c.1 35 (by decide) (hC 35 (by decide))]; exact h0.2.1
  · rw [c.1 32 (by decide) (hC 32 (by decide)), c.2.1 32 (hI 32 (by decide))]; exact h0.2.2.1
  · rw [c.1 33 (by decide) (hC 33 (by decide))]; exact h0.2.2.2.1
  · rw [c.1 38 (by decide) (hC 38 (by decide))]; exact h0.2.2.2.2.1
  · rw [c.2.1 68 (hI 68 (by decide))]; exact h0.2.2.2.2.2.1
  · rw [c.2.1 73 (hI 73 (by decide))]; exact h0.2.2.2.2.2.2.1
  · rw [c.2.1 83 (hI 83 (by decide))]; exact h0.2.2.2.2.2.2.2.1
  · rw [c.2.1 92 (hI 92 (by decide))]; exact h0.2.2.2.2.2.2.2.2.1
  · unfold TH
    rw [c.1 45 (by decide) (hC 45 (by decide))]; exact h0.2.2.2.2.2.2.2.2.2
  · rw [c.2.1 2 (hI 2 (by decide))]; exact h1
  · rw [c.1 1 (by decide) (hC 1 (by decide))]; exact h2
  · rw [c.2.1 32 (hI 32 (by decide))]; exact h3
theorem b_alike_172 (σ0 : ST) (x5 : Int32) (h5 : 0 ≤ x5.toInt ∧ x5.toInt ≤ 400) : ∀ (n : Nat) (x6 x7 : Int32) (σ : ST), AX σ0 σ → (0 ≤ x7.toInt ∧ x7.toInt ≤ 1600 ∧ (1600 : Int) - x7.toInt < n) → OK (f_X11_alike_172 n x5 x6 x7 σ) (RTB σ0) := by
  intro n
  induction n with
  | zero => intro x6 x7 σ h1 h2; omega
  | succ n ih =>
    intro x6 x7 σ hA h7
    rw [f_X11_alike_172]
    unfold f_X11_alike_229 f_X11_alike_230 f_X11_alike_238
    have lt_1 := li_1
    have lt_4 := li_4
    have a1 := mlE (k := 4) (y := x5) 4 li_4 (by omega) (by omega)
    have a2 := il_addE (x := x7) (y := 1) (by omega) (by omega)
    have a3 := d2 (x := x7) h7.1
    have d : ∀ v : Int32, OK (some (v, σ)) (RTB σ0) := fun v => OK.tb hA.1 hA.2.1 hA.2.2.1 hA.2.2.2
    have dd : OK (if x6 = 0 then some ((0 : Int32), σ) else some (1, σ)) (RTB σ0) := OK.ieq (fun _ => d _) (fun _ => d _)
    refine OK.ile (fun _ => dd) (fun h => ?_)
    refine OK.ieq (fun _ => dd) (fun _ => ?_)
    refine OK.grd ⟨by omega, by omega⟩ ?_
    have nx : ∀ y : Int32, OK (f_X11_alike_172 n x5 y (x7 + 1) σ) (RTB σ0) := fun y => ih y (x7 + 1) σ hA (by omega)
    refine OK.ieq (fun _ => ?_) (fun _ => nx _)
    refine OK.grd ⟨by omega, by omega⟩ ?_
    exact OK.ieq (fun _ => nx _) (fun _ => nx _)
theorem b_alike_98 (σ0 : ST) (x2 x3 x5 : Int32) (h5 : 0 ≤ x5.toInt ∧ x5.toInt ≤ 400) (h2 : 0 ≤ x2.toInt ∧ x2.toInt < 4) : ∀ (n : Nat) (x6 : Int32) (σ : ST), AX σ0 σ → 0 ≤ (σ.1 32 x2.toNatClampNeg).toInt → (0 ≤ x3.toInt ∧ x3.toInt < (σ.1 0 32).toInt) → (0 ≤ x6.toInt ∧ x6.toInt ≤ 800 ∧ (800 : Int) - x6.toInt < n) → OK (f_X11_alike_98 n x2 x3 x5 x6 σ) (RTB σ0) := by
  intro n
  induction n with
  | zero => intro x6 σ h1 h2 h3 h4; omega
  | succ n ih =>
    intro x6 σ hA h32 h3 h6
    rw [f_X11_alike_98]
    have lt_0 := li_0
    have lt_1 := li_1
    have lt_2 := li_2
    have lu := FUi
    have a1 := mlE (k := 2) (y := x5) 2 li_2 (by omega) (by omega)
    have a2 := il_addE (x := x6) (y := 1) (by omega) (by omega)
    refine OK.ile (fun _ => ?_) (fun h => ?_)
    · refine OK.bnd (hA.1.rall x2 x3 h2 h32 h3) (fun q hq => ?_)
      obtain ⟨⟨q1, q2, q3, q4⟩, q5, q6⟩ := hq
      have hA1 : AX σ0 q.2 := ⟨q1, q2.trans hA.2.1, q3.trans hA.2.2.1, q4.trans hA.2.2.2⟩
      refine OK.ile (fun _ => ?_) (fun _ => OK.tb hA1.1 hA1.2.1 hA1.2.2.1 hA1.2.2.2)
      rcases q6 with q6 | ⟨q6, LV, hN, hS⟩
      · omega
      refine OK.bndZ (b_orders q.2 hN hS.1 hS.2) (fun t ct ht => ?_)
      have hA2 : AX σ0 t := hA1.ch ct (by decide) (by decide)
      unfold f_X11_alike_167
      exact OK.ieq (fun _ => b_alike_172 σ0 x5 h5 FU _ _ t hA2 (by omega)) (fun _ => b_alike_172 σ0 x5 h5 FU _ _ t hA2 (by omega))
    · refine OK.grd ⟨by omega, by omega⟩ ?_
      exact ih (x6 + 1) _ ⟨⟨hA.1.1.of rfl rfl rfl rfl rfl rfl rfl rfl rfl, hA.1.2⟩, hA.2⟩ h32 h3 (by omega)
theorem b_alike_66 (σ0 : ST) (x2 x3 x5 : Int32) (h5 : 0 ≤ x5.toInt ∧ x5.toInt ≤ 400) (h2 : 0 ≤ x2.toInt ∧ x2.toInt < 4) : ∀ (n : Nat) (x6 : Int32) (σ : ST), AX σ0 σ → 0 ≤ (σ.1 32 x2.toNatClampNeg).toInt → (0 ≤ x3.toInt ∧ x3.toInt < (σ.1 0 32).toInt) → (0 ≤ x6.toInt ∧ x6.toInt ≤ 1600 ∧ (1600 : Int) - x6.toInt < n) → OK (f_X11_alike_66 n x2 x3 x5 x6 σ) (RTB σ0) := by
  intro n
  induction n with
  | zero => intro x6 σ h1 h2 h3 h4; omega
  | succ n ih =>
    intro x6 σ hA h32 h3 h6
    rw [f_X11_alike_66]
    have lt_0 := li_0
    have lt_1 := li_1
    have lt_4 := li_4
    have lu := FUi
    have a1 := mlE (k := 4) (y := x5) 4 li_4 (by omega) (by omega)
    have a2 := il_addE (x := x6) (y := 1) (by omega) (by omega)
    refine OK.ile (fun _ => b_alike_98 σ0 x2 x3 x5 h5 h2 FU 0 σ hA h32 h3 (by omega)) (fun h => ?_)
    refine OK.grd ⟨by omega, by omega⟩ ?_
    exact ih (x6 + 1) _ (hA.ch (C := [53]) (I := []) (CH.rf.i (by decide) (by decide)) (by decide) (by decide)) h32 h3 (by omega)
theorem b_alike (p0 p1 p2 : Int32) (σ : ST) (hI : IB σ) : OK (f_X11_alike p0 p1 p2 σ) (RTB σ) := by
  unfold f_X11_alike
  have lt_0 := li_0
  have lu := FUi
  have hs := hI.th 0
  have e1 : (stI σ 0 0 0).1 0 2 = σ.1 0 2 := rfl
  have e2 : (stI σ 0 0 0).1 1 = σ.1 1 := rfl
  have e3 : (stI σ 0 0 0).1 0 32 = σ.1 0 32 := rfl
  generalize stI σ 0 0 0 = s at hs e1 e2 e3 ⊢
  refine OK.bndR (b_isMessage p0 s) (fun v hv => ?_)
  dsimp only
  refine OK.ieq (fun _ => OK.tb hs e1 e2 e3) (fun _ => ?_)
  refine OK.bndR (b_isMessage p1 s) (fun v' hv' => ?_)
  dsimp only
  refine OK.ieq (fun _ => OK.tb hs e1 e2 e3) (fun _ => ?_)
  refine OK.bndR (b_isPlanAt p2 s hs.1.1) (fun w hw => ?_)
  dsimp only
  refine OK.ieq (fun _ => OK.tb hs e1 e2 e3) (fun _ => ?_)
  refine OK.bnd (hs.rall p0 p2 (by omega) (by omega) (by omega)) (fun q hq => ?_)
  obtain ⟨⟨q1, q2, q3, q4⟩, q5, q6⟩ := hq
  have hA1 : AX σ q.2 := ⟨q1, q2.trans e1, q3.trans e2, q4.trans e3⟩
  refine OK.ile (fun _ => ?_) (fun _ => OK.tb hA1.1 hA1.2.1 hA1.2.2.1 hA1.2.2.2)
  rcases q6 with q6 | ⟨q6, LV, hN, hS⟩
  · omega
  refine OK.bndZ (b_orders q.2 hN hS.1 hS.2) (fun t ct ht => ?_)
  have hA2 : AX σ t := hA1.ch ct (by decide) (by decide)
  refine b_alike_66 σ p1 p2 _ ⟨ht.1, ht.2⟩ (by omega) FU 0 t hA2 ?_ ?_ (by omega)
  · rw [ct.1 32 (by decide) (by decide), q5]; omega
  · rw [ct.2.1 32 (by decide), q4]; omega
theorem OK.c0 {α : Type} {o : Option (α × ST)} {f : α × ST → Int32} {σ : ST} (h : OK o (RTB σ)) : OK (o.bind fun q => some ((f q, q.2), 0)) (fun q : (Int32 × ST) × Nat => RTB σ q.1 ∧ q.2 = 0) := by
  obtain ⟨q, e, hq⟩ := h
  exact ⟨((f q, q.2), 0), by rw [e]; rfl, hq, rfl⟩
/-- every call of the reference but feed, plans, write -/
theorem callsB (j : Nat) (h3 : 3 ≤ j) (pr : Nat → Int32) (σ : ST) (hI : IB σ) : OK (fB j pr σ) (fun q => RTB σ q.1 ∧ q.2 = 0) := by
  match j, h3 with
  | 3, _ => exact (b_record_ _ _ _ _ hI).c0
  | 4, _ => exact (b_field_ _ _ _ _ _ hI).c0
  | 5, _ => exact (b_message _ _ _ hI).c0
  | 6, _ => exact (b_byteAt_ _ _ _ hI).c0
  | 7, _ => exact (b_spoil _ _ _ _ hI).c0
  | 8, _ => exact (b_cut _ _ _ hI).c0
  | 9, _ => exact (b_matches _ _ _ hI).c0
  | 10, _ => exact (b_miss _ _ _ _ _ hI).c0
  | 11, _ => exact (b_missStep _ _ _ _ _ hI).c0
  | 12, _ => exact (b_readers _ _ _ hI).c0
  | 13, _ => exact (b_read _ _ _ hI).c0
  | 14, _ => exact (b_failure _ _ hI).c0
  | 15, _ => exact (b_failureStep _ _ hI).c0
  | 16, _ => exact (b_node _ _ _ hI).c0
  | 17, _ => exact (b_value_ _ _ hI).c0
  | 18, _ => exact (b_letter _ _ _ hI).c0
  | 19, _ => exact (b_convert _ _ _ _ hI).c0
  | 20, _ => exact (b_alike _ _ _ _ hI).c0
  | 21, _ => exact (b_kept _ _ hI).c0
  | 22, _ => exact (b_count _ _ hI).c0
  | j + 23, _ => exact ⟨_, rfl, ⟨hI, rfl, rfl, rfl⟩, rfl⟩
