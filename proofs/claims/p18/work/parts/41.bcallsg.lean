/-! the reference: its calls, over its invariant -/
def IB (σ : ST) : Prop := PLs σ ∧ PB σ ∧ (∀ i : Nat, i < 4 → -1 ≤ (σ.1 32 i).toInt ∧ (σ.1 32 i).toInt < (σ.1 0 32).toInt) ∧ (∀ i, bI (σ.1 33 i) 0 400) ∧ (∀ i, bI (σ.1 38 i) 0 256) ∧ bI (σ.1 0 68) 0 256 ∧ bI (σ.1 0 73) 0 400 ∧ bI (σ.1 0 83) 0 256 ∧ bI (σ.1 0 92) 0 4 ∧ TH σ
/-- what a call leaves as it is: the tape, the number of plans -/
def RTB {α : Type} (σ : ST) (q : α × ST) : Prop := IB q.2 ∧ q.2.1 0 2 = σ.1 0 2 ∧ q.2.1 1 = σ.1 1 ∧ q.2.1 0 32 = σ.1 0 32
theorem IB.th {σ : ST} (h : IB σ) (y : Int32) : IB (stI σ 0 0 y) := ⟨h.1.of rfl rfl rfl rfl rfl rfl rfl rfl rfl, h.2.1, h.2.2.1, h.2.2.2.1, h.2.2.2.2.1, h.2.2.2.2.2.1, h.2.2.2.2.2.2.1, h.2.2.2.2.2.2.2.1, h.2.2.2.2.2.2.2.2.1, h.2.2.2.2.2.2.2.2.2⟩
theorem OK.tb {α : Type} {σ s : ST} {v : α} (h : IB s) (e2 : s.1 0 2 = σ.1 0 2) (e1 : s.1 1 = σ.1 1) (e32 : s.1 0 32 = σ.1 0 32) : OK (some (v, s)) (RTB σ) := ⟨_, rfl, h, e2, e1, e32⟩
theorem IB.mp {σ : ST} (h : IB σ) {m : Int32} (hm : 0 ≤ m.toInt ∧ m.toInt < 4) (h0 : 0 ≤ (σ.1 32 m.toNatClampNeg).toInt) : 0 ≤ (σ.1 32 m.toNatClampNeg).toInt ∧ (σ.1 32 m.toNatClampNeg).toInt < (σ.1 0 32).toInt := by
  have n1 := nN_ hm.1
  exact ⟨h0, (h.2.2.1 m.toNatClampNeg (by omega)).2⟩
theorem b_record_ (p0 p1 p2 : Int32) (σ : ST) (hI : IB σ) : OK (f_X11_record_ p0 p1 p2 σ) (RTB σ) := by
  unfold f_X11_record_
  have lt_0 := li_0
  have lt_1 := li_1
  have lt_6 := li_6
  have l0 := l64_0
  have l1 := l64_1
  have hs := hI.th 0
  have e32 : (stI σ 0 0 0).1 0 32 = σ.1 0 32 := rfl
  have done : ∀ v : Int32, OK (some (v, stI σ 0 0 0)) (RTB σ) := fun v => OK.tb hs rfl rfl rfl
  generalize stI σ 0 0 0 = s at hs e32 done ⊢
  have p16 := hs.1.1
  obtain ⟨p61, p62⟩ := p16
  refine OK.bndR (b_isPlanAt p0 s hs.1.1) (fun v hv => ?_)
  dsimp only
  refine OK.ieq (fun _ => done _) (fun h => ?_)
  have hp : 0 ≤ p0.toInt ∧ p0.toInt < (s.1 0 32).toInt := by omega
  have n0 := nN_ hp.1
  have rm := (hs.1.2.1 p0.toNatClampNeg (by omega)).1
  have g12 : 0 ≤ p0.toInt ∧ p0.toInt < 12 := by omega
  refine OK.ieq (fun _ => OK.grd g12 (done _)) (fun _ => ?_)
  refine OK.bndR (b_within _ _ _ _) (fun w hw => ?_)
  dsimp only
  refine OK.ieq (fun _ => done _) (fun _ => ?_)
  refine OK.grd g12 ?_
  have a1 := il_subE (x := s.1 8 p0.toNatClampNeg) (y := 1) (by omega) (by omega)
  have a2 := i64 (s.1 8 p0.toNatClampNeg - 1)
  have a3 := i64 p1
  refine OK.bndR (b_within _ _ _ _) (fun x hx => ?_)
  dsimp only
  refine OK.ieq (fun _ => done _) (fun _ => ?_)
  have b1 := mlE (k := 6) (y := p0) 6 li_6 (by omega) (by omega)
  have b2 := il_addE (x := 6 * p0) (y := p1) (by omega) (by omega)
  exact OK.ieq (fun _ => OK.grd ⟨by omega, by omega⟩ (done _)) (fun _ => OK.grd ⟨by omega, by omega⟩ (done _))
theorem b_recordIn_2 : ∀ (n : Nat) (x : Int32) (σ : ST) (a : Int) (d : Nat), VS σ a d x → d ≤ n → OK (f_X11_recordIn_2 n x σ) (RO σ fun _ => True) := by
  intro n
  induction n with
  | zero =>
    intro x σ a d h hd
    cases d with
    | zero => exact h.elim
    | succ d => omega
  | succ n ih =>
    intro x σ a d h hd
    rw [f_X11_recordIn_2]
    have lt_6 := li_6
    refine OK.grd h.rng ?_
    refine OK.ieq (fun h6 => ?_) (fun _ => OK.ieq (fun _ => OK.roret trivial) (fun _ => OK.roret trivial))
    have l := h.lst (by omega)
    exact ih _ σ a (d - 1) l.2 (by omega)
theorem b_field_ (p0 p1 p2 p3 : Int32) (σ : ST) (hI : IB σ) : OK (f_X11_field_ p0 p1 p2 p3 σ) (RTB σ) := by
  unfold f_X11_field_
  have lt_0 := li_0
  have lt_1 := li_1
  have lt_6 := li_6
  have lt_8 := li_8
  have lu := FUi
  have l0 := l64_0
  have hs := hI.th 0
  have e32 : (stI σ 0 0 0).1 0 32 = σ.1 0 32 := rfl
  have done : ∀ v : Int32, OK (some (v, stI σ 0 0 0)) (RTB σ) := fun v => OK.tb hs rfl rfl rfl
  generalize stI σ 0 0 0 = s at hs e32 done ⊢
  have p16 := hs.1.1
  obtain ⟨p61, p62⟩ := p16
  have k35 : OK (f_X11_field__35 p0 p1 p2 p3 s) (RTB σ) := by
    unfold f_X11_field__35 f_X11_field__36 f_X11_field__53
    refine OK.ieq (fun _ => ?_) (fun h => absurd rfl h)
    exact OK.ieq (fun _ => done _) (fun h => absurd rfl h)
  refine OK.bndR (b_isPlanAt p0 s hs.1.1) (fun v hv => ?_)
  dsimp only
  refine OK.ieq (fun _ => k35) (fun h => ?_)
  have hp : 0 ≤ p0.toInt ∧ p0.toInt < (s.1 0 32).toInt := by omega
  have n0 := nN_ hp.1
  obtain ⟨rm, rf⟩ := hs.1.2.1 p0.toNatClampNeg (by omega)
  refine OK.grd ⟨by omega, by omega⟩ ?_
  have a1 := il_subE (x := s.1 8 p0.toNatClampNeg) (y := 1) (by omega) (by omega)
  have a2 := i64 (s.1 8 p0.toNatClampNeg - 1)
  have a3 := i64 p1
  refine OK.bndR (b_within _ _ _ _) (fun x hx => ?_)
  dsimp only
  refine OK.ieq (fun _ => k35) (fun _ => ?_)
  have hp1 : 0 ≤ p1.toInt ∧ p1.toInt < (s.1 8 p0.toNatClampNeg).toInt := by omega
  have n1 := nN_ hp1.1
  obtain ⟨⟨f1, f2⟩, fv⟩ := rf p1.toNatClampNeg (by omega)
  have b1 := mlE (k := 6) (y := p0) 6 li_6 (by omega) (by omega)
  have b2 := il_addE (x := 6 * p0) (y := p1) (by omega) (by omega)
  have e6 : (6 * p0 + p1).toNatClampNeg = 6 * p0.toNatClampNeg + p1.toNatClampNeg := nC (by omega)
  unfold f_X11_field__36 f_X11_field__53
  refine OK.ieq (fun h9 => by omega) (fun _ => ?_)
  refine OK.ieq (fun h9 => by omega) (fun _ => ?_)
  refine OK.grd ⟨by omega, by omega⟩ ?_
  rw [e6]
  have c1 := il_subE (x := s.1 11 (6 * p0.toNatClampNeg + p1.toNatClampNeg)) (y := 1) (by omega) (by omega)
  have c2 := i64 (s.1 11 (6 * p0.toNatClampNeg + p1.toNatClampNeg) - 1)
  have c3 := i64 p2
  refine OK.bndR (b_within _ _ _ _) (fun y hy => ?_)
  dsimp only
  refine OK.ieq (fun _ => done _) (fun _ => ?_)
  have hp2 : 0 ≤ p2.toInt ∧ p2.toInt < (s.1 11 (6 * p0.toNatClampNeg + p1.toNatClampNeg)).toInt := by omega
  have n2 := nN_ hp2.1
  have d1 := mlE (k := 8) (y := 6 * p0 + p1) 8 li_8 (by omega) (by omega)
  have d2 := il_addE (x := 8 * (6 * p0 + p1)) (y := p2) (by omega) (by omega)
  have e8 : (8 * (6 * p0 + p1) + p2).toNatClampNeg = 8 * (6 * p0.toNatClampNeg + p1.toNatClampNeg) + p2.toNatClampNeg := nC (by omega)
  have g8 : 0 ≤ (8 * (6 * p0 + p1) + p2).toInt ∧ (8 * (6 * p0 + p1) + p2).toInt < 576 := by omega
  have hT : VS s (s.1 8 p0.toNatClampNeg).toInt 4 (s.1 15 (8 * (6 * p0 + p1) + p2).toNatClampNeg) := by
    rw [e8]
    exact (fv p2.toNatClampNeg (by omega)).wk (by decide)
  refine OK.ieq (fun _ => OK.grd g8 (OK.grd hT.rng (done _))) (fun _ => ?_)
  refine OK.ieq (fun _ => OK.grd g8 (OK.ieq (fun _ => done _) (fun _ => done _))) (fun _ => ?_)
  refine OK.ieq (fun _ => OK.grd g8 (OK.ile (fun _ => done _) (fun _ => done _))) (fun _ => ?_)
  refine OK.ieq (fun _ => OK.grd g8 (done _)) (fun _ => ?_)
  refine OK.ieq (fun _ => OK.grd g8 (OK.grd hT.rng (done _))) (fun _ => ?_)
  refine OK.ieq (fun _ => OK.grd g8 ?_) (fun _ => done _)
  unfold f_X11_recordIn
  refine OK.bndR (b_recordIn_2 FU _ s _ 4 hT (by omega)) (fun z _ => ?_)
  exact done _
theorem b_message (p0 p1 : Int32) (σ : ST) (hI : IB σ) : OK (f_X11_message p0 p1 σ) (RTB σ) := by
  unfold f_X11_message
  have lt_0 := li_0
  have hs := hI.th 0
  have done : ∀ v : Int32, OK (some (v, stI σ 0 0 0)) (RTB σ) := fun v => OK.tb hs rfl rfl rfl
  generalize stI σ 0 0 0 = s at hs done ⊢
  refine OK.bndR (b_isMessage p0 s) (fun v hv => ?_)
  dsimp only
  refine OK.ieq (fun _ => done _) (fun _ => ?_)
  refine OK.bndR (b_within _ _ _ _) (fun w hw => ?_)
  dsimp only
  refine OK.ieq (fun _ => done _) (fun _ => ?_)
  exact OK.ieq (fun _ => OK.grd ⟨by omega, by omega⟩ (done _)) (fun _ => OK.grd ⟨by omega, by omega⟩ (done _))
theorem b_byteAt_ (p0 p1 : Int32) (σ : ST) (hI : IB σ) : OK (f_X11_byteAt_ p0 p1 σ) (RTB σ) := by
  unfold f_X11_byteAt_ f_X11_byteAt__15
  have lt_0 := li_0
  have lt_1 := li_1
  have lt_400 := li_400
  refine OK.bndR (b_isByte p0 p1 σ hI.2.2.2.1) (fun v hv => ?_)
  dsimp only
  refine OK.ieq (fun _ => ?_) (fun _ => ?_)
  · refine OK.ile (fun h => ?_) (fun _ => OK.tb (hI.th 1) rfl rfl rfl)
    have h : (1 : Int32).toInt ≤ (0 : Int32).toInt := h
    omega
  · have a1 := mlE (k := 400) (y := p0) 400 li_400 (by omega) (by omega)
    have a2 := il_addE (x := 400 * p0) (y := p1) (by omega) (by omega)
    exact OK.ile (fun _ => OK.grd ⟨by omega, by omega⟩ (OK.tb (hI.th 0) rfl rfl rfl)) (fun _ => OK.tb (hI.th 0) rfl rfl rfl)
theorem b_spoil (p0 p1 p2 : Int32) (σ : ST) (hI : IB σ) : OK (f_X11_spoil p0 p1 p2 σ) (RTB σ) := by
  unfold f_X11_spoil
  have lt_0 := li_0
  have lt_400 := li_400
  have hs := hI.th 0
  have e1 : (stI σ 0 0 0).1 0 2 = σ.1 0 2 := rfl
  have e2 : (stI σ 0 0 0).1 1 = σ.1 1 := rfl
  have e3 : (stI σ 0 0 0).1 0 32 = σ.1 0 32 := rfl
  generalize stI σ 0 0 0 = s at hs e1 e2 e3 ⊢
  refine OK.bndR (b_isByte p0 p1 s hs.2.2.2.1) (fun v hv => ?_)
  dsimp only
  refine OK.ieq (fun _ => OK.tb hs e1 e2 e3) (fun _ => ?_)
  have a1 := mlE (k := 400) (y := p0) 400 li_400 (by omega) (by omega)
  have a2 := il_addE (x := 400 * p0) (y := p1) (by omega) (by omega)
  refine OK.grd ⟨by omega, by omega⟩ ?_
  refine OK.lt (fun z hz => ?_)
  subst hz
  exact OK.tb ⟨hs.1.of rfl rfl rfl rfl rfl rfl rfl rfl rfl, hs.2⟩ e1 e2 e3
theorem b_cut (p0 p1 : Int32) (σ : ST) (hI : IB σ) : OK (f_X11_cut p0 p1 σ) (RTB σ) := by
  unfold f_X11_cut
  have lt_0 := li_0
  have l0 := l64_0
  have hs := hI.th 0
  have e1 : (stI σ 0 0 0).1 0 2 = σ.1 0 2 := rfl
  have e2 : (stI σ 0 0 0).1 1 = σ.1 1 := rfl
  have e3 : (stI σ 0 0 0).1 0 32 = σ.1 0 32 := rfl
  generalize stI σ 0 0 0 = s at hs e1 e2 e3 ⊢
  refine OK.bndR (b_isMessage p0 s) (fun v hv => ?_)
  dsimp only
  refine OK.ieq (fun _ => OK.tb hs e1 e2 e3) (fun _ => ?_)
  refine OK.grd ⟨by omega, by omega⟩ ?_
  have a1 := i64 p1
  have a2 := i64 (s.1 33 p0.toNatClampNeg)
  obtain ⟨m1, m2⟩ := hs.2.2.2.1 p0.toNatClampNeg
  refine OK.bndR (b_within _ _ _ _) (fun w hw => ?_)
  dsimp only
  refine OK.ieq (fun _ => OK.tb hs e1 e2 e3) (fun _ => ?_)
  refine OK.tb ⟨hs.1.of rfl rfl rfl rfl rfl rfl rfl rfl rfl, hs.2.1, hs.2.2.1, ?_, hs.2.2.2.2⟩ e1 e2 e3
  exact upd_all (P := fun x => bI x 0 400) hs.2.2.2.1 ⟨by omega, by omega⟩
/-- what looking for misses leaves -/
theorem IB.ms {σ t : ST} (h : IB σ) (c : CH [35, 36, 37, 38, 39, 40] [53, 54, 57, 61] σ t) (hm : MI t) (hb : PB t) : IB t := by
  refine ⟨h.1.ch c (by decide) (by decide), hb, ?_, ?_, hm.2, ?_, ?_, ?_, ?_, ?_⟩
  · rw [c.1 32 (by decide) (by decide), c.2.1 32 (by decide)]; exact h.2.2.1
  · rw [c.1 33 (by decide) (by decide)]; exact h.2.2.2.1
  · rw [c.2.1 68 (by decide)]; exact h.2.2.2.2.2.1
  · rw [c.2.1 73 (by decide)]; exact h.2.2.2.2.2.2.1
  · rw [c.2.1 83 (by decide)]; exact h.2.2.2.2.2.2.2.1
  · rw [c.2.1 92 (by decide)]; exact h.2.2.2.2.2.2.2.2.1
  · unfold TH
    rw [c.1 45 (by decide) (by decide)]; exact h.2.2.2.2.2.2.2.2.2
theorem IB.lm {σ : ST} (h : IB σ) (w r : Int32) (h0 : 0 ≤ w.toInt ∧ w.toInt < (σ.1 0 32).toInt) (h1 : 0 ≤ r.toInt ∧ r.toInt < (σ.1 0 32).toInt) : OK (f_X11_laysMisses w r σ) (fun t => (IB t ∧ t.1 0 2 = σ.1 0 2 ∧ t.1 1 = σ.1 1 ∧ t.1 0 32 = σ.1 0 32) ∧ MI t) := (b_laysMisses w r σ h.1 h.2.1 h.2.2.2.2.1 h0 h1).mono (fun t ht => ⟨⟨h.ms ht.1 ht.2.1 ht.2.2, ht.1.2.1 2 (by decide), ht.1.1 1 (by decide) (by decide), ht.1.2.1 32 (by decide)⟩, ht.2.1⟩)
theorem IB.vd {σ : ST} (h : IB σ) (w r : Int32) (h0 : 0 ≤ w.toInt ∧ w.toInt < (σ.1 0 32).toInt) (h1 : 0 ≤ r.toInt ∧ r.toInt < (σ.1 0 32).toInt) : OK (f_X11_verdict w r σ) (RTB σ) := by
  unfold f_X11_verdict
  refine OK.bnd (h.lm w r h0 h1) (fun t ht => ?_)
  have d : ∀ v : Int32, OK (some (v, t)) (RTB σ) := fun v => OK.tb ht.1.1 ht.1.2.1 ht.1.2.2.1 ht.1.2.2.2
  exact OK.ieq (fun _ => d _) (fun _ => OK.ile (fun _ => d _) (fun _ => d _))
theorem b_matches (p0 p1 : Int32) (σ : ST) (hI : IB σ) : OK (f_X11_matches p0 p1 σ) (RTB σ) := by
  unfold f_X11_matches
  have lt_0 := li_0
  have hs := hI.th 0
  have e1 : (stI σ 0 0 0).1 0 2 = σ.1 0 2 := rfl
  have e2 : (stI σ 0 0 0).1 1 = σ.1 1 := rfl
  have e3 : (stI σ 0 0 0).1 0 32 = σ.1 0 32 := rfl
  generalize stI σ 0 0 0 = s at hs e1 e2 e3 ⊢
  refine OK.bndR (b_isPlanAt p0 s hs.1.1) (fun v hv => ?_)
  dsimp only
  refine OK.ieq (fun _ => OK.tb hs e1 e2 e3) (fun _ => ?_)
  refine OK.bndR (b_isPlanAt p1 s hs.1.1) (fun w hw => ?_)
  dsimp only
  refine OK.ieq (fun _ => OK.tb hs e1 e2 e3) (fun _ => ?_)
  refine OK.bnd (hs.vd p0 p1 (by omega) (by omega)) (fun q hq => ?_)
  exact OK.tb hq.1 (hq.2.1.trans e1) (hq.2.2.1.trans e2) (hq.2.2.2.trans e3)
theorem b_miss (p0 p1 p2 p3 : Int32) (σ : ST) (hI : IB σ) : OK (f_X11_miss p0 p1 p2 p3 σ) (RTB σ) := by
  unfold f_X11_miss
  have lt_0 := li_0
  have lt_1 := li_1
  have l0 := l64_0
  have hs := hI.th 0
  have e1 : (stI σ 0 0 0).1 0 2 = σ.1 0 2 := rfl
  have e2 : (stI σ 0 0 0).1 1 = σ.1 1 := rfl
  have e3 : (stI σ 0 0 0).1 0 32 = σ.1 0 32 := rfl
  generalize stI σ 0 0 0 = s at hs e1 e2 e3 ⊢
  refine OK.bndR (b_isPlanAt p0 s hs.1.1) (fun v hv => ?_)
  dsimp only
  refine OK.ieq (fun _ => OK.tb hs e1 e2 e3) (fun _ => ?_)
  refine OK.bndR (b_isPlanAt p1 s hs.1.1) (fun w hw => ?_)
  dsimp only
  refine OK.ieq (fun _ => OK.tb hs e1 e2 e3) (fun _ => ?_)
  refine OK.bndR (b_within _ _ _ _) (fun x hx => ?_)
  dsimp only
  refine OK.ieq (fun _ => OK.tb hs e1 e2 e3) (fun _ => ?_)
  refine OK.bnd (hs.lm p0 p1 (by omega) (by omega)) (fun t ht => ?_)
  have d : ∀ v : Int32, OK (some (v, t)) (RTB σ) := fun v => OK.tb ht.1.1 (ht.1.2.1.trans e1) (ht.1.2.2.1.trans e2) (ht.1.2.2.2.trans e3)
  refine OK.ieq (fun _ => d _) (fun _ => ?_)
  obtain ⟨⟨m1, m2⟩, m3⟩ := ht.2
  have a1 := il_subE (x := t.1 0 61) (y := 1) (by omega) (by omega)
  have a2 := i64 (t.1 0 61 - 1)
  have a3 := i64 p2
  refine OK.bndR (b_within _ _ _ _) (fun y hy => ?_)
  dsimp only
  refine OK.ieq (fun _ => d _) (fun _ => ?_)
  exact OK.ieq (fun _ => OK.grd ⟨by omega, by omega⟩ (d _)) (fun _ => OK.grd ⟨by omega, by omega⟩ (d _))
theorem b_missStep (p0 p1 p2 p3 : Int32) (σ : ST) (hI : IB σ) : OK (f_X11_missStep p0 p1 p2 p3 σ) (RTB σ) := by
  unfold f_X11_missStep
  have lt_0 := li_0
  have lt_1 := li_1
  have lt_256 := li_256
  have l0 := l64_0
  have hs := hI.th 0
  have e1 : (stI σ 0 0 0).1 0 2 = σ.1 0 2 := rfl
  have e2 : (stI σ 0 0 0).1 1 = σ.1 1 := rfl
  have e3 : (stI σ 0 0 0).1 0 32 = σ.1 0 32 := rfl
  generalize stI σ 0 0 0 = s at hs e1 e2 e3 ⊢
  refine OK.bndR (b_isPlanAt p0 s hs.1.1) (fun v hv => ?_)
  dsimp only
  refine OK.ieq (fun _ => OK.tb hs e1 e2 e3) (fun _ => ?_)
  refine OK.bndR (b_isPlanAt p1 s hs.1.1) (fun w hw => ?_)
  dsimp only
  refine OK.ieq (fun _ => OK.tb hs e1 e2 e3) (fun _ => ?_)
  refine OK.bnd (hs.lm p0 p1 (by omega) (by omega)) (fun t ht => ?_)
  have d : ∀ v : Int32, OK (some (v, t)) (RTB σ) := fun v => OK.tb ht.1.1 (ht.1.2.1.trans e1) (ht.1.2.2.1.trans e2) (ht.1.2.2.2.trans e3)
  obtain ⟨⟨m1, m2⟩, m3⟩ := ht.2
  have a1 := il_subE (x := t.1 0 61) (y := 1) (by omega) (by omega)
  have a2 := i64 (t.1 0 61 - 1)
  have a3 := i64 p2
  refine OK.bndR (b_within _ _ _ _) (fun y hy => ?_)
  dsimp only
  refine OK.ieq (fun _ => d _) (fun _ => ?_)
  refine OK.grd ⟨by omega, by omega⟩ ?_
  obtain ⟨k1, k2⟩ := m3 p2.toNatClampNeg
  have b1 := il_subE (x := t.1 38 p2.toNatClampNeg) (y := 1) (by omega) (by omega)
  have b2 := i64 (t.1 38 p2.toNatClampNeg - 1)
  have b3 := i64 p3
  refine OK.bndR (b_within _ _ _ _) (fun z hz => ?_)
  dsimp only
  refine OK.ieq (fun _ => d _) (fun _ => ?_)
  have c1 := mlE (k := 256) (y := p2) 256 li_256 (by omega) (by omega)
  have c2 := il_addE (x := 256 * p2) (y := p3) (by omega) (by omega)
  exact OK.grd ⟨by omega, by omega⟩ (d _)
theorem b_readers_30 (w : Int32) (σ0 : ST) : ∀ (n : Nat) (x2 x3 x4 : Int32) (σ : ST), IB σ → σ.1 0 2 = σ0.1 0 2 → σ.1 1 = σ0.1 1 → σ.1 0 32 = σ0.1 0 32 → (0 ≤ w.toInt ∧ w.toInt < (σ.1 0 32).toInt) → (0 ≤ x4.toInt ∧ x4.toInt ≤ 6 ∧ (6 : Int) - x4.toInt < n) → OK (f_X11_readers_30 n w x2 x3 x4 σ) (RTB σ0) := by
  intro n
  induction n with
  | zero => intro x2 x3 x4 σ h1 h2 h3 h4 h5 h6; omega
  | succ n ih =>
    intro x2 x3 x4 σ hI e1 e2 e3 hw h4
    rw [f_X11_readers_30]
    unfold f_X11_readers_59
    have lt_1 := li_1
    have p16 := hI.1.1
    obtain ⟨p61, p62⟩ := p16
    have a1 := il_addE (x := x4) (y := 1) (by omega) (by omega)
    refine OK.ile (fun _ => OK.tb hI e1 e2 e3) (fun h => ?_)
    refine OK.bnd (hI.vd w x4 hw (by omega)) (fun q hq => ?_)
    obtain ⟨q1, q2, q3, q4⟩ := hq
    refine OK.ilt (fun _ => ?_) (fun _ => ?_)
    · exact ih _ _ _ _ q1 (q2.trans e1) (q3.trans e2) (q4.trans e3) (by rw [q4]; exact hw) (by omega)
    · exact ih _ _ _ _ q1 (q2.trans e1) (q3.trans e2) (q4.trans e3) (by rw [q4]; exact hw) (by omega)
theorem b_readers (p0 p1 : Int32) (σ : ST) (hI : IB σ) : OK (f_X11_readers p0 p1 σ) (RTB σ) := by
  unfold f_X11_readers
  have lt_0 := li_0
  have lu := FUi
  have hs := hI.th 0
  have e1 : (stI σ 0 0 0).1 0 2 = σ.1 0 2 := rfl
  have e2 : (stI σ 0 0 0).1 1 = σ.1 1 := rfl
  have e3 : (stI σ 0 0 0).1 0 32 = σ.1 0 32 := rfl
  generalize stI σ 0 0 0 = s at hs e1 e2 e3 ⊢
  refine OK.bndR (b_isPlanAt p0 s hs.1.1) (fun v hv => ?_)
  dsimp only
  refine OK.ieq (fun _ => OK.tb hs e1 e2 e3) (fun _ => ?_)
  refine OK.bndR (b_within _ _ _ _) (fun w hw => ?_)
  dsimp only
  refine OK.ieq (fun _ => OK.tb hs e1 e2 e3) (fun _ => ?_)
  exact b_readers_30 p0 σ FU _ _ _ s hs e1 e2 e3 (by omega) (by omega)
/-- what reading leaves -/
theorem IB.rd {σ : ST} {q : Int32 × ST} (h : IB σ) (c : CH FC FI σ q.2) (r : RF q) : IB q.2 ∧ q.2.1 0 2 = σ.1 0 2 ∧ q.2.1 1 = σ.1 1 ∧ q.2.1 0 32 = σ.1 0 32 := by
  obtain ⟨r1, r2, r3, r4, r5, r6, r7, r8⟩ := r
  refine ⟨⟨r1, r2, ?_, ?_, ?_, r3, r4, r5, r6, r7⟩, c.2.1 2 (by decide), c.1 1 (by decide) (by decide), c.2.1 32 (by decide)⟩
  · rw [c.1 32 (by decide) (by decide), c.2.1 32 (by decide)]; exact h.2.2.1
  · rw [c.1 33 (by decide) (by decide)]; exact h.2.2.2.1
  · rw [c.1 38 (by decide) (by decide)]; exact h.2.2.2.2.1
theorem IB.rfor {σ : ST} (h : IB σ) (m p : Int32) (hm : 0 ≤ m.toInt ∧ m.toInt < 4) (h0 : 0 ≤ (σ.1 32 m.toNatClampNeg).toInt) (h1 : 0 ≤ p.toInt ∧ p.toInt < (σ.1 0 32).toInt) : OK (f_X11_readsFor m p σ) (fun q => (IB q.2 ∧ q.2.1 0 2 = σ.1 0 2 ∧ q.2.1 1 = σ.1 1 ∧ q.2.1 0 32 = σ.1 0 32) ∧ (q.1.toInt < 0 ∨ q.1.toInt = 0 ∧ ∃ LV, NL LV q.2 ∧ (0 < (q.2.1 0 46).toInt ∧ (q.2.1 0 46).toInt ≤ 400))) := (b_readsFor m p σ h.1 h.2.1 h.2.2.2.2.2.1 h.2.2.2.1 h.2.2.2.2.2.2.2.2.1 h.2.2.2.2.2.2.2.2.2 hm (h.mp hm h0) h1).mono (fun q hq => ⟨h.rd hq.1 hq.2, hq.2.2.2.2.2.2.2.2⟩)
theorem b_read (p0 p1 : Int32) (σ : ST) (hI : IB σ) : OK (f_X11_read p0 p1 σ) (RTB σ) := by
  unfold f_X11_read
  have lt_0 := li_0
  have hs := hI.th 0
  have e1 : (stI σ 0 0 0).1 0 2 = σ.1 0 2 := rfl
  have e2 : (stI σ 0 0 0).1 1 = σ.1 1 := rfl
  have e3 : (stI σ 0 0 0).1 0 32 = σ.1 0 32 := rfl
  generalize stI σ 0 0 0 = s at hs e1 e2 e3 ⊢
  refine OK.bndR (b_isMessage p0 s) (fun v hv => ?_)
  dsimp only
  refine OK.ieq (fun _ => OK.tb hs e1 e2 e3) (fun _ => ?_)
  refine OK.bndR (b_isPlanAt p1 s hs.1.1) (fun w hw => ?_)
  dsimp only
  refine OK.ieq (fun _ => OK.tb hs e1 e2 e3) (fun _ => ?_)
  refine OK.bnd (hs.rfor p0 p1 (by omega) (by omega) (by omega)) (fun q hq => ?_)
  have d : ∀ v : Int32, OK (some (v, q.2)) (RTB σ) := fun v => OK.tb hq.1.1 (hq.1.2.1.trans e1) (hq.1.2.2.1.trans e2) (hq.1.2.2.2.trans e3)
  exact OK.ile (fun _ => d _) (fun _ => d _)
theorem b_convert (p0 p1 p2 : Int32) (σ : ST) (hI : IB σ) : OK (f_X11_convert p0 p1 p2 σ) (RTB σ) := by
  unfold f_X11_convert
  have lt_0 := li_0
  have l0 := l64_0
  have l3 := l64_3
  have hs := hI.th 0
  have e1 : (stI σ 0 0 0).1 0 2 = σ.1 0 2 := rfl
  have e2 : (stI σ 0 0 0).1 1 = σ.1 1 := rfl
  have e3 : (stI σ 0 0 0).1 0 32 = σ.1 0 32 := rfl
  generalize stI σ 0 0 0 = s at hs e1 e2 e3 ⊢
  refine OK.bndR (b_isMessage p0 s) (fun v hv => ?_)
  dsimp only
  refine OK.ieq (fun _ => OK.tb hs e1 e2 e3) (fun _ => ?_)
  refine OK.bndR (b_isPlanAt p1 s hs.1.1) (fun w hw => ?_)
  dsimp only
  refine OK.ieq (fun _ => OK.tb hs e1 e2 e3) (fun _ => ?_)
  have a3 := i64 p2
  refine OK.bndR (b_within _ _ _ _) (fun x hx => ?_)
  dsimp only
  refine OK.ieq (fun _ => OK.tb hs e1 e2 e3) (fun _ => ?_)
  refine OK.bnd (hs.rfor p0 p1 (by omega) (by omega) (by omega)) (fun q hq => ?_)
  have d : ∀ v : Int32, OK (some (v, q.2)) (RTB σ) := fun v => OK.tb hq.1.1 (hq.1.2.1.trans e1) (hq.1.2.2.1.trans e2) (hq.1.2.2.2.trans e3)
  refine OK.ile (fun h9 => ?_) (fun _ => d _)
  obtain ⟨⟨q1, q2, q3, q4⟩, q5⟩ := hq
  rcases q5 with q5 | ⟨q5, LV, hN, hS⟩
  · omega
  refine OK.bndZ (b_writesTree q.2 hN hS.1) (fun t ct ht => ?_)
  have It : IB t := by
    refine ⟨q1.1.ch ct (by decide) (by decide), ?_, ?_, ?_, ?_, ?_, ?_, ?_, ?_, ?_⟩
    · unfold PB
      rw [ct.1 35 (by decide) (by decide)]; exact q1.2.1
    · rw [ct.1 32 (by decide) (by decide), ct.2.1 32 (by decide)]; exact q1.2.2.1
    · rw [ct.1 33 (by decide) (by decide)]; exact q1.2.2.2.1
    · rw [ct.1 38 (by decide) (by decide)]; exact q1.2.2.2.2.1
    · rw [ct.2.1 68 (by decide)]; exact q1.2.2.2.2.2.1
    · rw [ct.2.1 73 (by decide)]; exact q1.2.2.2.2.2.2.1
    · rw [ct.2.1 83 (by decide)]; exact q1.2.2.2.2.2.2.2.1
    · rw [ct.2.1 92 (by decide)]; exact q1.2.2.2.2.2.2.2.2.1
    · unfold TH
      rw [ct.1 45 (by decide) (by decide)]; exact q1.2.2.2.2.2.2.2.2.2
  have t2 : t.1 0 2 = σ.1 0 2 := by rw [ct.2.1 2 (by decide), q2]; exact e1
  have t1 : t.1 1 = σ.1 1 := by rw [ct.1 1 (by decide) (by decide), q3]; exact e2
  have t3 : t.1 0 32 = σ.1 0 32 := by rw [ct.2.1 32 (by decide), q4]; exact e3
  have t3s : (t.1 0 32).toInt = (s.1 0 32).toInt := by rw [t3, e3]
  refine OK.ieq (fun _ => ?_) (fun _ => OK.tb It t2 t1 t3)
  refine OK.bndZ (b_becomes p2 p1 t ht (by omega)) (fun u cu hu => ?_)
  have n2 := nN_ (x := p2) (by omega)
  refine OK.tb ⟨It.1.ch cu (by decide) (by decide), ?_, ?_, ?_, ?_, ?_, ?_, ?_, ?_, ?_⟩ ?_ ?_ ?_
  · unfold PB
    rw [cu.1 35 (by decide) (by decide)]; exact It.2.1
  · rw [hu.1, cu.2.1 32 (by decide)]
    intro i hi
    unfold upd
    split
    · omega
    · exact It.2.2.1 i hi
  · rw [hu.2]
    exact upd_all (P := fun x => bI x 0 400) It.2.2.2.1 ht
  · rw [cu.1 38 (by decide) (by decide)]; exact It.2.2.2.2.1
  · rw [cu.2.1 68 (by decide)]; exact It.2.2.2.2.2.1
  · rw [cu.2.1 73 (by decide)]; exact It.2.2.2.2.2.2.1
  · rw [cu.2.1 83 (by decide)]; exact It.2.2.2.2.2.2.2.1
  · rw [cu.2.1 92 (by decide)]; exact It.2.2.2.2.2.2.2.2.1
  · unfold TH
    rw [cu.1 45 (by decide) (by decide)]; exact It.2.2.2.2.2.2.2.2.2
  · rw [cu.2.1 2 (by decide)]; exact t2
  · rw [cu.1 1 (by decide) (by decide)]; exact t1
  · rw [cu.2.1 32 (by decide)]; exact t3
theorem b_failure (p0 : Int32) (σ : ST) (hI : IB σ) : OK (f_X11_failure p0 σ) (RTB σ) := by
  unfold f_X11_failure
  have hs := hI.th 0
  have d : ∀ v : Int32, OK (some (v, stI σ 0 0 0)) (RTB σ) := fun v => OK.tb hs rfl rfl rfl
  exact OK.ieq (fun _ => d _) (fun _ => OK.ieq (fun _ => d _) (fun _ => OK.ieq (fun _ => d _) (fun _ => OK.ieq (fun _ => d _) (fun _ => d _))))
theorem b_failureStep (p0 : Int32) (σ : ST) (hI : IB σ) : OK (f_X11_failureStep p0 σ) (RTB σ) := by
  unfold f_X11_failureStep
  have lt_0 := li_0
  have lt_1 := li_1
  have l0 := l64_0
  have hs := hI.th 0
  have d : ∀ v : Int32, OK (some (v, stI σ 0 0 0)) (RTB σ) := fun v => OK.tb hs rfl rfl rfl
  generalize stI σ 0 0 0 = s at hs d ⊢
  refine OK.ile (fun _ => d _) (fun _ => ?_)
  obtain ⟨m1, m2⟩ := hs.2.2.2.2.2.2.2.1
  have a1 := il_subE (x := s.1 0 83) (y := 1) (by omega) (by omega)
  have a2 := i64 (s.1 0 83 - 1)
  have a3 := i64 p0
  refine OK.bndR (b_within _ _ _ _) (fun y hy => ?_)
  dsimp only
  exact OK.ieq (fun _ => d _) (fun _ => OK.grd ⟨by omega, by omega⟩ (d _))
theorem b_node (p0 p1 : Int32) (σ : ST) (hI : IB σ) : OK (f_X11_node p0 p1 σ) (RTB σ) := by
  unfold f_X11_node f_X11_node_33
  have lt_0 := li_0
  have lt_1 := li_1
  have l0 := l64_0
  obtain ⟨m1, m2⟩ := hI.2.2.2.2.2.2.1
  have a1 := il_subE (x := σ.1 0 73) (y := 1) (by omega) (by omega)
  have a2 := i64 (σ.1 0 73 - 1)
  have a3 := i64 p0
  have no : OK (f_X11_node_34 p0 p1 1 σ) (RTB σ) := by
    unfold f_X11_node_34
    refine OK.ile (fun h => ?_) (fun _ => OK.tb (hI.th 1) rfl rfl rfl)
    have h : (1 : Int32).toInt ≤ (0 : Int32).toInt := h
    omega
  refine OK.bndR (b_within _ _ _ _) (fun y hy => ?_)
  dsimp only
  refine OK.ieq (fun _ => no) (fun _ => ?_)
  refine OK.bndR (b_within _ _ _ _) (fun z hz => ?_)
  dsimp only
  refine OK.ieq (fun _ => no) (fun _ => ?_)
  unfold f_X11_node_34
  have g : 0 ≤ p0.toInt ∧ p0.toInt < 400 := by omega
  have d : ∀ v : Int32, OK (some (v, stI σ 0 0 0)) (RTB σ) := fun v => OK.tb (hI.th 0) rfl rfl rfl
  refine OK.ile (fun _ => ?_) (fun _ => d _)
  refine OK.ieq (fun _ => OK.grd g (d _)) (fun _ => ?_)
  refine OK.ieq (fun _ => OK.grd g (d _)) (fun _ => ?_)
  refine OK.ieq (fun _ => OK.grd g (d _)) (fun _ => ?_)
  refine OK.ieq (fun _ => OK.grd g (d _)) (fun _ => ?_)
  exact OK.grd g (OK.ieq (fun _ => d _) (fun _ => d _))
theorem b_value_ (p0 : Int32) (σ : ST) (hI : IB σ) : OK (f_X11_value_ p0 σ) (RTB σ) := by
  unfold f_X11_value_ f_X11_value__22
  have lt_0 := li_0
  have lt_1 := li_1
  have l0 := l64_0
  obtain ⟨m1, m2⟩ := hI.2.2.2.2.2.2.1
  have a1 := il_subE (x := σ.1 0 73) (y := 1) (by omega) (by omega)
  have a2 := i64 (σ.1 0 73 - 1)
  have a3 := i64 p0
  refine OK.bndR (b_within _ _ _ _) (fun y hy => ?_)
  dsimp only
  refine OK.ieq (fun _ => ?_) (fun _ => ?_)
  · refine OK.ile (fun h => ?_) (fun _ => OK.tb (hI.th 1) rfl rfl rfl)
    have h : (1 : Int32).toInt ≤ (0 : Int32).toInt := h
    omega
  · exact OK.ile (fun _ => OK.grd ⟨by omega, by omega⟩ (OK.tb (hI.th 0) rfl rfl rfl)) (fun _ => OK.tb (hI.th 0) rfl rfl rfl)
theorem b_letter_75 : ∀ (n : Nat) (x2 : Int32) (x3 : Int64) (x5 : Int32) (σ : ST), 0 ≤ x2.toInt → (x5.toInt ≤ 500 ∧ x5.toInt < n + x2.toInt) → 0 < n → OK (f_X11_letter_75 n x2 x3 x5 σ) (RO σ fun _ => True) := by
  intro n
  induction n with
  | zero => intro x2 x3 x5 σ h1 h2 h3; omega
  | succ n ih =>
    intro x2 x3 x5 σ h1 h2 h3
    rw [f_X11_letter_75]
    have lm := li_m1
    refine OK.ile (fun _ => OK.roret trivial) (fun h => ?_)
    have a1 := il_addE (x := x5) (y := -1) (by omega) (by omega)
    exact ih x2 _ (x5 + (-1)) σ h1 (by omega) (by omega)
theorem b_letter (p0 p1 : Int32) (σ : ST) (hI : IB σ) : OK (f_X11_letter p0 p1 σ) (RTB σ) := by
  unfold f_X11_letter f_X11_letter_35
  have lt_0 := li_0
  have lt_1 := li_1
  have lu := FUi
  have l0 := l64_0
  obtain ⟨m1, m2⟩ := hI.2.2.2.2.2.2.1
  have a1 := il_subE (x := σ.1 0 73) (y := 1) (by omega) (by omega)
  have a2 := i64 (σ.1 0 73 - 1)
  have a3 := i64 p0
  have no : OK (f_X11_letter_36 p0 p1 1 σ) (RTB σ) := by
    unfold f_X11_letter_36
    refine OK.ilt (fun _ => OK.tb (hI.th 1) rfl rfl rfl) (fun h => ?_)
    have h : (1 : Int32).toInt ≤ (0 : Int32).toInt := h
    omega
  refine OK.bndR (b_within _ _ _ _) (fun y hy => ?_)
  dsimp only
  refine OK.ieq (fun _ => no) (fun _ => ?_)
  have g : 0 ≤ p0.toInt ∧ p0.toInt < 400 := by omega
  refine OK.grd g ?_
  refine OK.ieq (fun _ => ?_) (fun _ => no)
  refine OK.ilt (fun _ => no) (fun hp1 => ?_)
  unfold f_X11_letter_36
  refine OK.ilt (fun _ => OK.tb (hI.th 0) rfl rfl rfl) (fun _ => ?_)
  refine OK.grd g ?_
  refine OK.ilt (fun h9 => ?_) (fun _ => OK.tb (hI.th 0) rfl rfl rfl)
  have t := hI.2.2.2.2.2.2.2.2.2 p0.toNatClampNeg
  obtain ⟨t1, t2⟩ := t
  have b1 := il_subE (x := σ.1 45 p0.toNatClampNeg) (y := 1) (by omega) (by omega)
  refine OK.mono (b_letter_75 FU p1 _ (σ.1 45 p0.toNatClampNeg - 1) (stI σ 0 0 0) (by omega) (by omega) (by omega)) (fun q hq => ?_)
  have e : q.2 = stI σ 0 0 0 := hq.1
  unfold RTB
  rw [e]
  exact ⟨hI.th 0, rfl, rfl, rfl⟩
theorem b_kept (p0 : Int32) (σ : ST) (hI : IB σ) : OK (f_X11_kept p0 σ) (RTB σ) := by
  unfold f_X11_kept
  have lt_0 := li_0
  have lt_1 := li_1
  have l0 := l64_0
  have hs := hI.th 0
  have d : ∀ v : Int32, OK (some (v, stI σ 0 0 0)) (RTB σ) := fun v => OK.tb hs rfl rfl rfl
  generalize stI σ 0 0 0 = s at hs d ⊢
  refine OK.ieq (fun _ => d _) (fun _ => ?_)
  obtain ⟨m1, m2⟩ := hs.2.2.2.2.2.2.2.2.1
  have a1 := il_subE (x := s.1 0 92) (y := 1) (by omega) (by omega)
  have a2 := i64 (s.1 0 92 - 1)
  have a3 := i64 p0
  refine OK.bndR (b_within _ _ _ _) (fun y hy => ?_)
  dsimp only
  exact OK.ieq (fun _ => d _) (fun _ => OK.grd ⟨by omega, by omega⟩ (d _))
theorem b_messageSet_4 : ∀ (n : Nat) (x1 x2 : Int32) (σ : ST), (0 ≤ x2.toInt ∧ x2.toInt ≤ 4 ∧ (4 : Int) - x2.toInt < n) → OK (f_X11_messageSet_4 n x1 x2 σ) (RO σ fun _ => True) := by
  intro n
  induction n with
  | zero => intro x1 x2 σ h; omega
  | succ n ih =>
    intro x1 x2 σ h
    rw [f_X11_messageSet_4]
    unfold f_X11_messageSet_26
    have lt_1 := li_1
    have lt_4 := li_4
    refine OK.ile (fun _ => OK.roret trivial) (fun h4 => ?_)
    have a1 := il_addE (x := x2) (y := 1) (by omega) (by omega)
    refine OK.grd ⟨by omega, by omega⟩ ?_
    exact OK.ilt (fun _ => ih _ _ _ (by omega)) (fun _ => ih _ _ _ (by omega))
theorem b_count (p0 : Int32) (σ : ST) (hI : IB σ) : OK (f_X11_count p0 σ) (RTB σ) := by
  unfold f_X11_count
  have lt_0 := li_0
  have lu := FUi
  have hs := hI.th 0
  have d : ∀ v : Int32, OK (some (v, stI σ 0 0 0)) (RTB σ) := fun v => OK.tb hs rfl rfl rfl
  refine OK.ieq (fun _ => d _) (fun _ => ?_)
  refine OK.ieq (fun _ => ?_) (fun _ => ?_)
  · unfold f_X11_messageSet
    refine OK.bndR (b_messageSet_4 FU 0 0 (stI σ 0 0 0) (by omega)) (fun v _ => ?_)
    exact d _
  exact OK.ieq (fun _ => d _) (fun _ => OK.ieq (fun _ => d _) (fun _ => OK.ieq (fun _ => d _) (fun _ => OK.ieq (fun _ => d _) (fun _ => d _))))
/-- the trial reading of two messages -/
def AX (σ0 σ : ST) : Prop := IB σ ∧ σ.1 0 2 = σ0.1 0 2 ∧ σ.1 1 = σ0.1 1 ∧ σ.1 0 32 = σ0.1 0 32
theorem IB.rall {σ : ST} (h : IB σ) (m p : Int32) (hm : 0 ≤ m.toInt ∧ m.toInt < 4) (h0 : 0 ≤ (σ.1 32 m.toNatClampNeg).toInt) (h1 : 0 ≤ p.toInt ∧ p.toInt < (σ.1 0 32).toInt) : OK (f_X11_readsAll m p σ) (fun q => AX σ q.2 ∧ q.2.1 32 = σ.1 32 ∧ (q.1.toInt < 0 ∨ q.1.toInt = 0 ∧ ∃ LV, NL LV q.2 ∧ (0 < (q.2.1 0 46).toInt ∧ (q.2.1 0 46).toInt ≤ 400))) := by
  refine (b_readsAll m p σ h.1 h.2.1 h.2.2.2.2.2.1 h.2.2.2.1 hm (h.mp hm h0) h1).mono (fun q hq => ?_)
  obtain ⟨c, r1, r2, r3, r4⟩ := hq
  refine ⟨⟨⟨r1, r2, ?_, ?_, ?_, r3, ?_, ?_, ?_, ?_⟩, c.2.1 2 (by decide), c.1 1 (by decide) (by decide), c.2.1 32 (by decide)⟩, c.1 32 (by decide) (by decide), ?_⟩
  · rw [c.1 32 (by decide) (by decide), c.2.1 32 (by decide)]; exact h.2.2.1
  · rw [c.1 33 (by decide) (by decide)]; exact h.2.2.2.1
  · rw [c.1 38 (by decide) (by decide)]; exact h.2.2.2.2.1
  · rw [c.2.1 73 (by decide)]; exact h.2.2.2.2.2.2.1
  · rw [c.2.1 83 (by decide)]; exact h.2.2.2.2.2.2.2.1
  · rw [c.2.1 92 (by decide)]; exact h.2.2.2.2.2.2.2.2.1
  · unfold TH
    rw [c.1 45 (by decide) (by decide)]; exact h.2.2.2.2.2.2.2.2.2
  · rcases r4 with r4 | r4 | r4
    · exact .inl (by omega)
    · exact .inl (by omega)
    · exact .inr r4
theorem AX.ch {C I : List Nat} {σ0 σ t : ST} (h : AX σ0 σ) (c : CH C I σ t) (hC : ∀ c, c ∈ [1, 2, 3, 4, 5, 8, 11, 15, 19, 32, 33, 35, 38, 45] → c ∉ C) (hI : ∀ i, i ∈ [2, 32, 68, 73, 83, 92] → i ∉ I) : AX σ0 t := by
  obtain ⟨h0, h1, h2, h3⟩ := h
  refine ⟨⟨h0.1.ch c (hI 32 (by decide)) (fun x hx => hC x ?_), ?_, ?_, ?_, ?_, ?_, ?_, ?_, ?_, ?_⟩, ?_, ?_, ?_⟩
  · exact (by decide : ∀ x, x ∈ [2, 3, 4, 5, 8, 11, 15, 19] → x ∈ [1, 2, 3, 4, 5, 8, 11, 15, 19, 32, 33, 35, 38, 45]) x hx
  · unfold PB
    rw [c.1 35 (by decide) (hC 35 (by decide))]; exact h0.2.1
  · rw [c.1 32 (by decide) (hC 32 (by decide)), c.2.1 32 (hI 32 (by decide))]; exact h0.2.2.1
  · rw [c.1 33 (by decide) (hC 33 (by decide))]; exact h0.2.2.2.1
  · rw [c.1 38 (by decide) (hC 38 (by decide))]; exact h0.2.2.2.2.1
  · rw [c.2.1 68 (hI 68 (by decide))]; exact h0.2.2.2.2.2.1
  · rw [c.2.1 73 (hI 73 (by decide))]; exact h0.2.2.2.2.2.2.1
  · rw [c.2.1 83 (hI 83 (by decide))]; exact h0.2.2.2.2.2.2.2.1
  · rw [c.2.1 92 (hI 92 (by decide))]; exact h0.2.2.2.2.2.2.2.2.1
  · unfold TH
    rw [c.1 45 (by decide) (hC 45 (by decide))]; exact h0.2.2.2.2.2.2.2.2.2
  · rw [c.2.1 2 (hI 2 (by decide))]; exact h1
  · rw [c.1 1 (by decide) (hC 1 (by decide))]; exact h2
  · rw [c.2.1 32 (hI 32 (by decide))]; exact h3
theorem b_alike_172 (σ0 : ST) (x5 : Int32) (h5 : 0 ≤ x5.toInt ∧ x5.toInt ≤ 400) : ∀ (n : Nat) (x6 x7 : Int32) (σ : ST), AX σ0 σ → (0 ≤ x7.toInt ∧ x7.toInt ≤ 1600 ∧ (1600 : Int) - x7.toInt < n) → OK (f_X11_alike_172 n x5 x6 x7 σ) (RTB σ0) := by
  intro n
  induction n with
  | zero => intro x6 x7 σ h1 h2; omega
  | succ n ih =>
    intro x6 x7 σ hA h7
    rw [f_X11_alike_172]
    unfold f_X11_alike_229 f_X11_alike_230 f_X11_alike_238
    have lt_1 := li_1
    have lt_4 := li_4
    have a1 := mlE (k := 4) (y := x5) 4 li_4 (by omega) (by omega)
    have a2 := il_addE (x := x7) (y := 1) (by omega) (by omega)
    have a3 := d2 (x := x7) h7.1
    have d : ∀ v : Int32, OK (some (v, σ)) (RTB σ0) := fun v => OK.tb hA.1 hA.2.1 hA.2.2.1 hA.2.2.2
    have dd : OK (if x6 = 0 then some ((0 : Int32), σ) else some (1, σ)) (RTB σ0) := OK.ieq (fun _ => d _) (fun _ => d _)
    refine OK.ile (fun _ => dd) (fun h => ?_)
    refine OK.ieq (fun _ => dd) (fun _ => ?_)
    refine OK.grd ⟨by omega, by omega⟩ ?_
    have nx : ∀ y : Int32, OK (f_X11_alike_172 n x5 y (x7 + 1) σ) (RTB σ0) := fun y => ih y (x7 + 1) σ hA (by omega)
    refine OK.ieq (fun _ => ?_) (fun _ => nx _)
    refine OK.grd ⟨by omega, by omega⟩ ?_
    exact OK.ieq (fun _ => nx _) (fun _ => nx _)
theorem b_alike_98 (σ0 : ST) (x2 x3 x5 : Int32) (h5 : 0 ≤ x5.toInt ∧ x5.toInt ≤ 400) (h2 : 0 ≤ x2.toInt ∧ x2.toInt < 4) : ∀ (n : Nat) (x6 : Int32) (σ : ST), AX σ0 σ → 0 ≤ (σ.1 32 x2.toNatClampNeg).toInt → (0 ≤ x3.toInt ∧ x3.toInt < (σ.1 0 32).toInt) → (0 ≤ x6.toInt ∧ x6.toInt ≤ 800 ∧ (800 : Int) - x6.toInt < n) → OK (f_X11_alike_98 n x2 x3 x5 x6 σ) (RTB σ0) := by
  intro n
  induction n with
  | zero => intro x6 σ h1 h2 h3 h4; omega
  | succ n ih =>
    intro x6 σ hA h32 h3 h6
    rw [f_X11_alike_98]
    have lt_0 := li_0
    have lt_1 := li_1
    have lt_2 := li_2
    have lu := FUi
    have a1 := mlE (k := 2) (y := x5) 2 li_2 (by omega) (by omega)
    have a2 := il_addE (x := x6) (y := 1) (by omega) (by omega)
    refine OK.ile (fun _ => ?_) (fun h => ?_)
    · refine OK.bnd (hA.1.rall x2 x3 h2 h32 h3) (fun q hq => ?_)
      obtain ⟨⟨q1, q2, q3, q4⟩, q5, q6⟩ := hq
      have hA1 : AX σ0 q.2 := ⟨q1, q2.trans hA.2.1, q3.trans hA.2.2.1, q4.trans hA.2.2.2⟩
      refine OK.ile (fun _ => ?_) (fun _ => OK.tb hA1.1 hA1.2.1 hA1.2.2.1 hA1.2.2.2)
      rcases q6 with q6 | ⟨q6, LV, hN, hS⟩
      · omega
      refine OK.bndZ (b_orders q.2 hN hS.1 hS.2) (fun t ct ht => ?_)
      have hA2 : AX σ0 t := hA1.ch ct (by decide) (by decide)
      unfold f_X11_alike_167
      exact OK.ieq (fun _ => b_alike_172 σ0 x5 h5 FU _ _ t hA2 (by omega)) (fun _ => b_alike_172 σ0 x5 h5 FU _ _ t hA2 (by omega))
    · refine OK.grd ⟨by omega, by omega⟩ ?_
      exact ih (x6 + 1) _ ⟨⟨hA.1.1.of rfl rfl rfl rfl rfl rfl rfl rfl rfl, hA.1.2⟩, hA.2⟩ h32 h3 (by omega)
theorem b_alike_66 (σ0 : ST) (x2 x3 x5 : Int32) (h5 : 0 ≤ x5.toInt ∧ x5.toInt ≤ 400) (h2 : 0 ≤ x2.toInt ∧ x2.toInt < 4) : ∀ (n : Nat) (x6 : Int32) (σ : ST), AX σ0 σ → 0 ≤ (σ.1 32 x2.toNatClampNeg).toInt → (0 ≤ x3.toInt ∧ x3.toInt < (σ.1 0 32).toInt) → (0 ≤ x6.toInt ∧ x6.toInt ≤ 1600 ∧ (1600 : Int) - x6.toInt < n) → OK (f_X11_alike_66 n x2 x3 x5 x6 σ) (RTB σ0) := by
  intro n
  induction n with
  | zero => intro x6 σ h1 h2 h3 h4; omega
  | succ n ih =>
    intro x6 σ hA h32 h3 h6
    rw [f_X11_alike_66]
    have lt_0 := li_0
    have lt_1 := li_1
    have lt_4 := li_4
    have lu := FUi
    have a1 := mlE (k := 4) (y := x5) 4 li_4 (by omega) (by omega)
    have a2 := il_addE (x := x6) (y := 1) (by omega) (by omega)
    refine OK.ile (fun _ => b_alike_98 σ0 x2 x3 x5 h5 h2 FU 0 σ hA h32 h3 (by omega)) (fun h => ?_)
    refine OK.grd ⟨by omega, by omega⟩ ?_
    exact ih (x6 + 1) _ (hA.ch (C := [53]) (I := []) (CH.rf.i (by decide) (by decide)) (by decide) (by decide)) h32 h3 (by omega)
theorem b_alike (p0 p1 p2 : Int32) (σ : ST) (hI : IB σ) : OK (f_X11_alike p0 p1 p2 σ) (RTB σ) := by
  unfold f_X11_alike
  have lt_0 := li_0
  have lu := FUi
  have hs := hI.th 0
  have e1 : (stI σ 0 0 0).1 0 2 = σ.1 0 2 := rfl
  have e2 : (stI σ 0 0 0).1 1 = σ.1 1 := rfl
  have e3 : (stI σ 0 0 0).1 0 32 = σ.1 0 32 := rfl
  generalize stI σ 0 0 0 = s at hs e1 e2 e3 ⊢
  refine OK.bndR (b_isMessage p0 s) (fun v hv => ?_)
  dsimp only
  refine OK.ieq (fun _ => OK.tb hs e1 e2 e3) (fun _ => ?_)
  refine OK.bndR (b_isMessage p1 s) (fun v' hv' => ?_)
  dsimp only
  refine OK.ieq (fun _ => OK.tb hs e1 e2 e3) (fun _ => ?_)
  refine OK.bndR (b_isPlanAt p2 s hs.1.1) (fun w hw => ?_)
  dsimp only
  refine OK.ieq (fun _ => OK.tb hs e1 e2 e3) (fun _ => ?_)
  refine OK.bnd (hs.rall p0 p2 (by omega) (by omega) (by omega)) (fun q hq => ?_)
  obtain ⟨⟨q1, q2, q3, q4⟩, q5, q6⟩ := hq
  have hA1 : AX σ q.2 := ⟨q1, q2.trans e1, q3.trans e2, q4.trans e3⟩
  refine OK.ile (fun _ => ?_) (fun _ => OK.tb hA1.1 hA1.2.1 hA1.2.2.1 hA1.2.2.2)
  rcases q6 with q6 | ⟨q6, LV, hN, hS⟩
  · omega
  refine OK.bndZ (b_orders q.2 hN hS.1 hS.2) (fun t ct ht => ?_)
  have hA2 : AX σ t := hA1.ch ct (by decide) (by decide)
  refine b_alike_66 σ p1 p2 _ ⟨ht.1, ht.2⟩ (by omega) FU 0 t hA2 ?_ ?_ (by omega)
  · rw [ct.1 32 (by decide) (by decide), q5]; omega
  · rw [ct.2.1 32 (by decide), q4]; omega
theorem OK.c0 {α : Type} {o : Option (α × ST)} {f : α × ST → Int32} {σ : ST} (h : OK o (RTB σ)) : OK (o.bind fun q => some ((f q, q.2), 0)) (fun q : (Int32 × ST) × Nat => RTB σ q.1 ∧ q.2 = 0) := by
  obtain ⟨q, e, hq⟩ := h
  exact ⟨((f q, q.2), 0), by rw [e]; rfl, hq, rfl⟩
/-- every call of the reference but feed, plans, write -/
theorem callsB (j : Nat) (h3 : 3 ≤ j) (pr : Nat → Int32) (σ : ST) (hI : IB σ) : OK (fB j pr σ) (fun q => RTB σ q.1 ∧ q.2 = 0) := by
  match j, h3 with
  | 3, _ => exact (b_record_ _ _ _ _ hI).c0
  | 4, _ => exact (b_field_ _ _ _ _ _ hI).c0
  | 5, _ => exact (b_message _ _ _ hI).c0
  | 6, _ => exact (b_byteAt_ _ _ _ hI).c0
  | 7, _ => exact (b_spoil _ _ _ _ hI).c0
  | 8, _ => exact (b_cut _ _ _ hI).c0
  | 9, _ => exact (b_matches _ _ _ hI).c0
  | 10, _ => exact (b_miss _ _ _ _ _ hI).c0
  | 11, _ => exact (b_missStep _ _ _ _ _ hI).c0
  | 12, _ => exact (b_readers _ _ _ hI).c0
  | 13, _ => exact (b_read _ _ _ hI).c0
  | 14, _ => exact (b_failure _ _ hI).c0
  | 15, _ => exact (b_failureStep _ _ hI).c0
  | 16, _ => exact (b_node _ _ _ hI).c0
  | 17, _ => exact (b_value_ _ _ hI).c0
  | 18, _ => exact (b_letter _ _ _ hI).c0
  | 19, _ => exact (b_convert _ _ _ _ hI).c0
  | 20, _ => exact (b_alike _ _ _ _ hI).c0
  | 21, _ => exact (b_kept _ _ hI).c0
  | 22, _ => exact (b_count _ _ hI).c0
  | j + 23, _ => exact ⟨_, rfl, ⟨hI, rfl, rfl, rfl⟩, rfl⟩
/-! the reference: tokens -/
theorem and255 (x : Int32) : (x &&& 255).toInt = x.toInt % 256 := by
  have h1 : (x &&& 255).toBitVec.toNat = x.toBitVec.toNat % 256 := by
    show (x.toBitVec &&& (255 : Int32).toBitVec).toNat = _
    rw [BitVec.toNat_and]
    exact Nat.and_two_pow_sub_one_eq_mod x.toBitVec.toNat 8
  have h2 : (x &&& 255).toInt = ((x &&& 255).toBitVec.toNat : Int) := BitVec.toInt_eq_toNat_of_lt (by rw [h1]; have := Nat.mod_lt x.toBitVec.toNat (show 0 < 256 by decide); omega)
  have h3 : x.toInt = (x.toBitVec.toNat : Int) ∨ x.toInt = (x.toBitVec.toNat : Int) - 4294967296 := by
    have h4 : x.toInt = x.toBitVec.toInt := rfl
    rw [h4, BitVec.toInt_eq_toNat_cond]
    split
    · exact .inl rfl
    · exact .inr rfl
  rw [h2, h1]
  omega
/-- a byte of the text; none behind it -/
def bt (T : Nat → Int32) (n : Int) (k : Nat) : Int := if (k : Int) < n then (T k).toInt % 256 else -1
theorem bt_rng {T : Nat → Int32} {n : Int} {k : Nat} : -1 ≤ bt T n k ∧ bt T n k ≤ 255 ∧ (0 ≤ bt T n k ↔ (k : Int) < n) := by
  unfold bt
  split <;> omega
def isL (c : Int) : Prop := 97 ≤ c ∧ c ≤ 122
def isD (c : Int) : Prop := 48 ≤ c ∧ c ≤ 57
def isB (c : Int) : Prop := c = 32 ∨ c = 10
/-- so many from there on, and no more -/
def RUN (P : Int → Prop) (T : Nat → Int32) (n : Int) (s m : Nat) : Prop := (∀ i, i < m → P (bt T n (s + i))) ∧ ¬ P (bt T n (s + m))
theorem RUN.uniq {P : Int → Prop} {T : Nat → Int32} {n : Int} {s m k : Nat} (h : RUN P T n s m) (h2 : RUN P T n s k) : m = k := by
  rcases Nat.lt_trichotomy m k with h3 | h3 | h3
  · exact absurd (h2.1 m h3) h.2
  · exact h3
  · exact absurd (h.1 k h3) h2.2
/-- the letters' number, the first ones highest, by 27 -/
def w27 (T : Nat → Int32) (s : Nat) : Nat → Int64
  | 0 => 0
  | k + 1 => 27 * w27 T s k + (T (s + k) &&& 255).toInt64 - 96
/-- the digits' number -/
def dv (T : Nat → Int32) (s : Nat) : Nat → Int64
  | 0 => 0
  | k + 1 => 10 * dv T s k + (T (s + k) &&& 255).toInt64 - 48
theorem b_byteAt (p0 : Int32) (σ : ST) (h0 : 0 ≤ p0.toInt) (hn : bI (σ.1 0 3) 0 1000) : OK (f_X11_byteAt p0 σ) (RO σ fun v => v.toInt = bt (σ.1 1) (σ.1 0 3).toInt p0.toNatClampNeg ∧ ((p0.toNatClampNeg : Int) < (σ.1 0 3).toInt → v = (σ.1 1 p0.toNatClampNeg &&& 255))) := by
  unfold f_X11_byteAt
  obtain ⟨n1, n2⟩ := hn
  have np := nN_ h0
  have lm := li_m1
  refine OK.ile (fun h => OK.roret ⟨?_, fun h9 => by omega⟩) (fun h => ?_)
  · unfold bt
    rw [if_neg (by omega)]
    exact lm
  · refine OK.grd ⟨by omega, by omega⟩ ?_
    refine OK.roret ⟨?_, fun _ => rfl⟩
    unfold bt
    rw [if_pos (by omega), and255]
theorem b_isDigit (p0 : Int32) (σ : ST) : OK (f_X11_isDigit p0 σ) (RO σ fun v => v.toInt = 0 ∧ ¬ isD p0.toInt ∨ v.toInt = 1 ∧ isD p0.toInt) := by
  unfold f_X11_isDigit isD
  have e := i64 p0
  have l1 : (48 : Int64).toInt = 48 := by decide
  have l2 : (57 : Int64).toInt = 57 := by decide
  refine OK.bndR (b_within _ _ _ _) (fun v hv => ?_)
  dsimp only
  refine OK.grd (b01 (by omega)) ?_
  exact OK.roret (by omega)
abbrev GI : List Nat := [4, 5, 6, 8, 10, 13]
theorem b_word_10 (x1 : Int32) (T : Nat → Int32) (n : Int) (s : Nat) (hx1 : 0 ≤ x1.toInt) : ∀ (f k : Nat) (σ : ST), σ.1 1 = T → (σ.1 0 3).toInt = n → (0 ≤ n ∧ n ≤ 1000) → (σ.1 0 5).toInt = s + k → (σ.1 0 8).toInt = k → σ.2.1 0 7 = w27 T s (min k x1.toInt.toNat) → (∀ i, i < k → isL (bt T n (s + i))) → ((s + k : Nat) : Int) ≤ 1001 → 1001 < f + s + k → OK (f_X11_word_10 f x1 σ) (RZ [] [5, 8] σ fun t => ∃ m, RUN isL T n s m ∧ (t.1 0 5).toInt = s + m ∧ (t.1 0 8).toInt = m ∧ t.2.1 0 7 = w27 T s (min m x1.toInt.toNat)) := by
  intro f
  induction f with
  | zero => intro k σ h1 h2 h3 h4 h5 h6 h7 h8 h9; omega
  | succ f ih =>
    intro k σ hT hn hn2 h5 h8 hw hl hk hf
    rw [f_X11_word_10]
    have lt_0 := li_0
    have lt_1 := li_1
    have np : (σ.1 0 5).toNatClampNeg = s + k := nC (by omega)
    have hb := b_byteAt (σ.1 0 5) σ (by omega) ⟨by omega, by omega⟩
    rw [np, hT, hn] at hb
    refine OK.bndR hb (fun v hv => ?_)
    dsimp only
    refine OK.bndR (b_isLetter _ _) (fun w hwl => ?_)
    dsimp only
    refine OK.ieq (fun h0 => ?_) (fun h0 => ?_)
    · refine OK.zret CH.rf ⟨k, ⟨hl, ?_⟩, by omega, h8, hw⟩
      unfold isL
      rw [← hv.1]
      omega
    · have hL : isL (bt T n (s + k)) := by
        unfold isL
        rw [← hv.1]
        omega
      have hlt := (bt_rng (T := T) (n := n) (k := s + k)).2.2.mp (by unfold isL at hL; omega)
      have e5 := il_addE (x := σ.1 0 5) (y := 1) (by omega) (by omega)
      have e8 := il_addE (x := σ.1 0 8) (y := 1) (by omega) (by omega)
      have hl' : ∀ i, i < k + 1 → isL (bt T n (s + i)) := fun i hi => by
        by_cases e : i = k
        · rw [e]; exact hL
        · exact hl i (by omega)
      have nx : ∀ y : Int64, y = w27 T s (min (k + 1) x1.toInt.toNat) → OK (f_X11_word_62 (f_X11_word_10 f) x1 y σ) (RZ [] [5, 8] σ fun t => ∃ m, RUN isL T n s m ∧ (t.1 0 5).toInt = s + m ∧ (t.1 0 8).toInt = m ∧ t.2.1 0 7 = w27 T s (min m x1.toInt.toNat)) := fun y hy => by
        unfold f_X11_word_62
        refine OK.lt (fun z hz => ?_)
        have cz : CH [] [5, 8] σ z := by rw [hz]; exact ((CH.rf.l (by decide) (by decide) (by decide) (by decide) (by decide)).o (by decide)).o (by decide)
        have z1 : z.1 1 = T := by rw [hz]; exact hT
        have z3 : z.1 0 3 = σ.1 0 3 := by rw [hz]; rfl
        have z5 : z.1 0 5 = σ.1 0 5 + 1 := by rw [hz]; rfl
        have z8 : z.1 0 8 = σ.1 0 8 + 1 := by rw [hz]; rfl
        have z7 : z.2.1 0 7 = y := by rw [hz]; rfl
        refine OK.trZ (ih (k + 1) z z1 (by rw [z3]; exact hn) hn2 (by rw [z5]; omega) (by rw [z8]; omega) (by rw [z7]; exact hy) hl' (by omega) (by omega)) cz (fun _ h => h) (fun _ h => h) (fun _ _ h => h)
      refine OK.ile (fun hle => ?_) (fun hgt => ?_)
      · refine nx _ ?_
        rw [hw]
        congr 1
        omega
      · refine OK.bndR hb (fun u hu => ?_)
        dsimp only
        refine nx _ ?_
        have e1 : min k x1.toInt.toNat = k := by omega
        have e2 : min (k + 1) x1.toInt.toNat = k + 1 := by omega
        rw [hw, e1, e2, w27, hu.2 hlt]
theorem b_word (x1 : Int32) (σ : ST) (hx1 : 0 ≤ x1.toInt) (s : Nat) (hn2 : 0 ≤ (σ.1 0 3).toInt ∧ (σ.1 0 3).toInt ≤ 1000) (h5 : (σ.1 0 5).toInt = s) (hs : s ≤ 1001) : OK (f_X11_word x1 σ) (RZ [] [5, 8] σ fun t => ∃ m, RUN isL (σ.1 1) (σ.1 0 3).toInt s m ∧ (t.1 0 5).toInt = s + m ∧ (t.1 0 8).toInt = m ∧ t.2.1 0 7 = w27 (σ.1 1) s (min m x1.toInt.toNat)) := by
  unfold f_X11_word
  have lu := FUi
  refine OK.trZ (b_word_10 x1 (σ.1 1) (σ.1 0 3).toInt s hx1 FU 0 (stI (stL σ 0 7 0) 0 8 0) rfl rfl hn2 (by show (σ.1 0 5).toInt = _; omega) li_0 ?_ (fun i hi => by omega) (by omega) (by omega)) ((CH.rf.l (by decide) (by decide) (by decide) (by decide) (by decide)).o (by decide)) (fun _ h => h) (fun _ h => h) (fun _ _ h => h)
  have e : min 0 x1.toInt.toNat = 0 := by omega
  rw [e]
  rfl
/-- what a number's token is: from its digits on, with a sign ahead or not -/
def NB (T : Nat → Int32) (n : Int) (i m : Nat) (neg : Prop) (t : ST) : Prop := RUN isD T n i m ∧ (t.1 0 13).toInt = 0 ∧
  ((neg ∧ t.2.1 0 9 = -(dv T i (min m 18))) ∨ (¬ neg ∧ t.2.1 0 9 = dv T i (min m 18))) ∧
  ((bt T n (i + m) = 46 ∧ isD (bt T n (i + m + 1)) ∧ (t.1 0 10).toInt = 1 ∧ (t.1 0 5).toInt = i + m + 2 ∧ ((t.1 0 6).toInt = 2 ∧ m ≤ 18 ∧ ¬ isD (bt T n (i + m + 2)) ∨ (t.1 0 6).toInt = 5 ∧ ¬ (m ≤ 18 ∧ ¬ isD (bt T n (i + m + 2))))) ∨
   (¬ (bt T n (i + m) = 46 ∧ isD (bt T n (i + m + 1))) ∧ (t.1 0 10).toInt = 0 ∧ (t.1 0 5).toInt = i + m ∧ ((t.1 0 6).toInt = 2 ∧ m ≤ 18 ∨ (t.1 0 6).toInt = 5 ∧ ¬ m ≤ 18)))
theorem b_number_134 (x1 y0 : Int32) (T : Nat → Int32) (n : Int) (i m : Nat) (σ : ST) (hT : σ.1 1 = T) (hn : (σ.1 0 3).toInt = n) (hn2 : 0 ≤ n ∧ n ≤ 1000) (h5 : (σ.1 0 5).toInt = i + m) (him : ((i + m : Nat) : Int) ≤ 1001) (hR : RUN isD T n i m) (h9 : σ.2.1 0 9 = dv T i (min m 18)) (h13 : (σ.1 0 13).toInt = 0) (hx1 : x1.toInt = 0 ∨ x1.toInt = 1) (hy : y0.toInt = 0 ∧ ¬ m ≤ 18 ∨ y0.toInt = 1 ∧ m ≤ 18) : OK (f_X11_number_134 x1 y0 σ) (RZ [] [5, 6, 10] σ fun t => NB T n i m (x1.toInt = 1) t) := by
  have lt_0 := li_0
  have lt_1 := li_1
  have lt_2 := li_2
  have lt_5 := li_5
  have np : (σ.1 0 5).toNatClampNeg = i + m := nC (by omega)
  have e1 := il_addE (x := σ.1 0 5) (y := 1) (by omega) (by omega)
  have np1 : (σ.1 0 5 + 1).toNatClampNeg = i + m + 1 := nC (by omega)
  have e2 := il_addE (x := σ.1 0 5) (y := 2) (by omega) (by omega)
  have np2 : (σ.1 0 5 + 2).toNatClampNeg = i + m + 2 := nC (by omega)
  -- the end: the sign, and whether all is well
  have k262 : ∀ (x3 : Int32) (s : ST), CH [] [5, 6, 10] σ s → s.2.1 0 9 = dv T i (min m 18) → (∀ t : ST, t.1 0 13 = s.1 0 13 → t.1 0 10 = s.1 0 10 → t.1 0 5 = s.1 0 5 → ((t.1 0 6).toInt = 5 ∧ x3.toInt = 0 ∨ (t.1 0 6).toInt = 2 ∧ ¬ x3.toInt = 0) → ((x1.toInt = 1 ∧ t.2.1 0 9 = -(dv T i (min m 18))) ∨ (¬ x1.toInt = 1 ∧ t.2.1 0 9 = dv T i (min m 18))) → NB T n i m (x1.toInt = 1) t) → OK (f_X11_number_262 x1 x3 s) (RZ [] [5, 6, 10] σ fun t => NB T n i m (x1.toInt = 1) t) := fun x3 s cs hs9 hfin => by
    unfold f_X11_number_262 f_X11_number_279 f_X11_number_292
    have z : ∀ (y : Int64) (w : Int32), (w.toInt = 5 ∧ x3.toInt = 0 ∨ w.toInt = 2 ∧ ¬ x3.toInt = 0) → ((x1.toInt = 1 ∧ y = -(dv T i (min m 18))) ∨ (¬ x1.toInt = 1 ∧ y = dv T i (min m 18))) → OK (some (stI (stL s 0 9 y) 0 6 w)) (RZ [] [5, 6, 10] σ fun t => NB T n i m (x1.toInt = 1) t) := fun y w hw hy => OK.zret ((cs.l (by decide) (by decide) (by decide) (by decide) (by decide)).o (by decide)) (hfin _ rfl rfl rfl hw hy)
    refine OK.ieq (fun h0 => ?_) (fun h0 => ?_)
    · exact OK.ieq (fun h3 => z _ _ (by omega) (.inr ⟨by omega, hs9⟩)) (fun h3 => z _ _ (by omega) (.inr ⟨by omega, hs9⟩))
    · exact OK.ieq (fun h3 => z _ _ (by omega) (.inl ⟨by omega, by rw [hs9]⟩)) (fun h3 => z _ _ (by omega) (.inl ⟨by omega, by rw [hs9]⟩))
  have hb0 := b_byteAt (σ.1 0 5) σ (by omega) ⟨by omega, by omega⟩
  rw [np, hT, hn] at hb0
  have hb1 := b_byteAt (σ.1 0 5 + 1) σ (by omega) ⟨by omega, by omega⟩
  rw [np1, hT, hn] at hb1
  have k169 : ¬ (bt T n (i + m) = 46 ∧ isD (bt T n (i + m + 1))) → OK (f_X11_number_169 x1 y0 σ) (RZ [] [5, 6, 10] σ fun t => NB T n i m (x1.toInt = 1) t) := fun hno => by
    unfold f_X11_number_169 f_X11_number_170
    refine OK.grd (.inl rfl) ?_
    refine OK.ieq (fun _ => ?_) (fun h => absurd li_0 (by have h : ¬ (0 : Int32).toInt = (0 : Int32).toInt := h; exact absurd rfl h))
    refine k262 y0 (stI σ 0 10 0) (CH.rf.o (by decide)) h9 (fun t t13 t10 t5 t6 t9 => ⟨hR, ?_, t9, .inr ⟨hno, ?_, ?_, ?_⟩⟩)
    · rw [t13]; exact h13
    · rw [t10]; exact li_0
    · rw [t5]; exact h5
    · omega
  unfold f_X11_number_134
  refine OK.bndR hb0 (fun v hv => ?_)
  dsimp only
  have l46 : (46 : Int32).toInt = 46 := by decide
  refine OK.ieq (fun h46 => ?_) (fun h46 => k169 (fun h => by have := hv.1; omega))
  refine OK.bndR hb1 (fun v1 hv1 => ?_)
  dsimp only
  refine OK.bndR (b_isDigit _ _) (fun w hw => ?_)
  dsimp only
  refine OK.ieq (fun hw0 => k169 (fun h => ?_)) (fun hw0 => ?_)
  · rw [← hv1.1] at h
    have := h.2
    rcases hw with hw | hw
    · exact hw.2 this
    · omega
  have hD1 : isD (bt T n (i + m + 1)) := by
    rw [← hv1.1]
    rcases hw with hw | hw
    · omega
    · exact hw.2
  have hyes : bt T n (i + m) = 46 ∧ isD (bt T n (i + m + 1)) := ⟨by rw [← hv.1]; omega, hD1⟩
  unfold f_X11_number_170
  refine OK.grd (.inr rfl) ?_
  refine OK.ieq (fun h => by have h : (1 : Int32).toInt = (0 : Int32).toInt := h; omega) (fun _ => ?_)
  have hb1' := b_byteAt (σ.1 0 5 + 1) (stI σ 0 10 1) (by omega) ⟨by show 0 ≤ (σ.1 0 3).toInt; omega, by show (σ.1 0 3).toInt ≤ 1000; omega⟩
  refine OK.bndR hb1' (fun v2 hv2 => ?_)
  dsimp only
  have f1 := FP.Core.ddiv_out (FP.Core.i2d_fin (v2 - 48)).notNaN fp10_fin fp10_nz
  have f2 := FP.Core.dadd_out' (FP.Core.l2d_fin ((stI σ 0 10 1).2.1 0 9)) f1
  refine OK.grd (fl_num f1) ?_
  refine OK.grd (fl_num f2) ?_
  refine OK.lt (fun z6 hz6 => ?_)
  have c6 : CH [] [5, 6, 10] σ z6 := by rw [hz6]; exact (CH.rf.o (by decide)).d
  have a1 : z6.1 1 = T := by rw [hz6]; exact hT
  have a3 : z6.1 0 3 = σ.1 0 3 := by rw [hz6]; rfl
  have a5 : z6.1 0 5 = σ.1 0 5 := by rw [hz6]; rfl
  have a10 : (z6.1 0 10).toInt = 1 := by rw [hz6]; exact li_1
  have a13 : z6.1 0 13 = σ.1 0 13 := by rw [hz6]; rfl
  have a9 : z6.2.1 0 9 = σ.2.1 0 9 := by rw [hz6]; rfl
  have k225 : ∀ y : UInt64, OK (f_X11_number_225 x1 y0 y z6) (RZ [] [5, 6, 10] σ fun t => NB T n i m (x1.toInt = 1) t) := fun y => by
    unfold f_X11_number_225 f_X11_number_260 f_X11_number_261
    have c7 : CH [] [5, 6, 10] σ (stI (stD z6 0 11 y) 0 5 ((stD z6 0 11 y).1 0 5 + 2)) := (c6.d).o (by decide)
    have b1 : (stI (stD z6 0 11 y) 0 5 ((stD z6 0 11 y).1 0 5 + 2)).1 1 = T := a1
    have b3 : ((stI (stD z6 0 11 y) 0 5 ((stD z6 0 11 y).1 0 5 + 2)).1 0 3).toInt = n := by
      show (z6.1 0 3).toInt = n
      rw [a3]; exact hn
    have b5 : (stI (stD z6 0 11 y) 0 5 ((stD z6 0 11 y).1 0 5 + 2)).1 0 5 = σ.1 0 5 + 2 := by
      show z6.1 0 5 + 2 = _
      rw [a5]
    have b10 : ((stI (stD z6 0 11 y) 0 5 ((stD z6 0 11 y).1 0 5 + 2)).1 0 10).toInt = 1 := a10
    have b13 : ((stI (stD z6 0 11 y) 0 5 ((stD z6 0 11 y).1 0 5 + 2)).1 0 13).toInt = 0 := by
      show (z6.1 0 13).toInt = 0
      rw [a13]; exact h13
    have b9 : (stI (stD z6 0 11 y) 0 5 ((stD z6 0 11 y).1 0 5 + 2)).2.1 0 9 = dv T i (min m 18) := by
      show z6.2.1 0 9 = _
      rw [a9]; exact h9
    generalize stI (stD z6 0 11 y) 0 5 ((stD z6 0 11 y).1 0 5 + 2) = s at c7 b1 b3 b5 b10 b13 b9 ⊢
    have fin : ∀ x3 : Int32, (x3.toInt = 0 ∧ ¬ (m ≤ 18 ∧ ¬ isD (bt T n (i + m + 2))) ∨ x3.toInt = 1 ∧ m ≤ 18 ∧ ¬ isD (bt T n (i + m + 2))) → OK (f_X11_number_262 x1 x3 s) (RZ [] [5, 6, 10] σ fun t => NB T n i m (x1.toInt = 1) t) := fun x3 h3 => k262 x3 s c7 b9 (fun t t13 t10 t5 t6 t9 => ⟨hR, by rw [t13]; exact b13, t9, .inl ⟨hyes.1, hyes.2, by rw [t10]; exact b10, by rw [t5, b5]; omega, by
      rcases h3 with h3 | h3
      · exact .inr ⟨by omega, h3.2⟩
      · exact .inl ⟨by omega, h3.2⟩⟩⟩)
    refine OK.ieq (fun hy0 => fin 0 (.inl ⟨lt_0, fun h => by omega⟩)) (fun hy0 => ?_)
    have hb2 := b_byteAt (s.1 0 5) s (by rw [b5]; omega) ⟨by omega, by omega⟩
    have np2' : (s.1 0 5).toNatClampNeg = i + m + 2 := by rw [b5]; exact np2
    rw [np2', b1, b3] at hb2
    refine OK.bndR hb2 (fun v3 hv3 => ?_)
    dsimp only
    refine OK.bndR (b_isDigit _ _) (fun w3 hw3 => ?_)
    dsimp only
    rw [hv3.1] at hw3
    refine OK.ieq (fun h0 => fin 1 (.inr ⟨lt_1, by omega, ?_⟩)) (fun h0 => fin 0 (.inl ⟨lt_0, fun h => ?_⟩))
    · rcases hw3 with hw3 | hw3
      · exact hw3.2
      · omega
    · rcases hw3 with hw3 | hw3
      · omega
      · exact h.2 hw3.2
  exact OK.ieq (fun _ => k225 _) (fun _ => k225 _)
theorem b_number_47 (x1 x2 : Int32) (T : Nat → Int32) (n : Int) (i : Nat) (hn2 : 0 ≤ n ∧ n ≤ 1000) (hx1 : x1.toInt = 0 ∨ x1.toInt = 1) (hx2 : x2.toInt = i) : ∀ (f m : Nat) (σ : ST), σ.1 1 = T → (σ.1 0 3).toInt = n → (σ.1 0 5).toInt = i + m → (σ.1 0 13).toInt = 0 → σ.2.1 0 9 = dv T i (min m 18) → (∀ j, j < m → isD (bt T n (i + j))) → ((i + m : Nat) : Int) ≤ 1001 → 1001 < f + i + m → OK (f_X11_number_47 f x1 x2 σ) (RZ [] [5, 6, 10] σ fun t => ∃ m, NB T n i m (x1.toInt = 1) t) := by
  intro f
  induction f with
  | zero => intro m σ h1 h2 h3 h4 h5 h6 h7 h8; omega
  | succ f ih =>
    intro m σ hT hn h5 h13 h9 hD hm hf
    rw [f_X11_number_47]
    have lt_0 := li_0
    have lt_1 := li_1
    have lt_18 := li_18
    have np : (σ.1 0 5).toNatClampNeg = i + m := nC (by omega)
    have es := il_subE (x := σ.1 0 5) (y := x2) (by omega) (by omega)
    have hb := b_byteAt (σ.1 0 5) σ (by omega) ⟨by omega, by omega⟩
    rw [np, hT, hn] at hb
    refine OK.bndR hb (fun v hv => ?_)
    dsimp only
    refine OK.bndR (b_isDigit _ _) (fun w hw => ?_)
    dsimp only
    rw [hv.1] at hw
    refine OK.ieq (fun h0 => ?_) (fun h0 => ?_)
    · have hR : RUN isD T n i m := ⟨hD, by
        rcases hw with hw | hw
        · exact hw.2
        · omega⟩
      have fin : ∀ y0 : Int32, (y0.toInt = 0 ∧ ¬ m ≤ 18 ∨ y0.toInt = 1 ∧ m ≤ 18) → OK (f_X11_number_134 x1 y0 σ) (RZ [] [5, 6, 10] σ fun t => ∃ m, NB T n i m (x1.toInt = 1) t) := fun y0 hy => (b_number_134 x1 y0 T n i m σ hT hn hn2 h5 hm hR h9 h13 hx1 hy).mono (fun t ht => ⟨ht.1, m, ht.2⟩)
      exact OK.ilt (fun h => fin 0 (by omega)) (fun h => fin 1 (by omega))
    · have hd : isD (bt T n (i + m)) := by
        rcases hw with hw | hw
        · omega
        · exact hw.2
      have hlt := (bt_rng (T := T) (n := n) (k := i + m)).2.2.mp (by unfold isD at hd; omega)
      have e5 := il_addE (x := σ.1 0 5) (y := 1) (by omega) (by omega)
      have hD' : ∀ j, j < m + 1 → isD (bt T n (i + j)) := fun j hj => by
        by_cases e : j = m
        · rw [e]; exact hd
        · exact hD j (by omega)
      have nx : ∀ y : Int64, y = dv T i (min (m + 1) 18) → OK (f_X11_number_102 (f_X11_number_47 f) x1 x2 y σ) (RZ [] [5, 6, 10] σ fun t => ∃ m, NB T n i m (x1.toInt = 1) t) := fun y hy => by
        unfold f_X11_number_102
        refine OK.trZ (ih (m + 1) (stI (stL σ 0 9 y) 0 5 ((stL σ 0 9 y).1 0 5 + 1)) hT hn (by show (σ.1 0 5 + 1).toInt = _; omega) h13 hy hD' (by omega) (by omega)) ((CH.rf.l (by decide) (by decide) (by decide) (by decide) (by decide)).o (by decide)) (fun _ h => h) (fun _ h => h) (fun _ _ h => h)
      refine OK.ile (fun hle => ?_) (fun hgt => ?_)
      · refine nx _ ?_
        rw [h9]
        congr 1
        omega
      · refine OK.bndR hb (fun u hu => ?_)
        dsimp only
        refine nx _ ?_
        have e1 : min m 18 = m := by omega
        have e2 : min (m + 1) 18 = m + 1 := by omega
        rw [h9, e1, e2, dv, hu.2 hlt]
/-- a number's token from there on -/
def NT (T : Nat → Int32) (n : Int) (s : Nat) (t : ST) : Prop := (bt T n s = 45 ∧ ∃ m, NB T n (s + 1) m True t) ∨ (¬ bt T n s = 45 ∧ ∃ m, NB T n s m False t)
theorem NB.iff {T : Nat → Int32} {n : Int} {i m : Nat} {a b : Prop} {t : ST} (hab : a ↔ b) (h : NB T n i m a t) : NB T n i m b t := by
  have e : a = b := propext hab
  rw [← e]; exact h
theorem b_number (σ : ST) (s : Nat) (hn2 : 0 ≤ (σ.1 0 3).toInt ∧ (σ.1 0 3).toInt ≤ 1000) (h5 : (σ.1 0 5).toInt = s) (hs : s ≤ 1000) (h13 : (σ.1 0 13).toInt = 0) : OK (f_X11_number σ) (RZ [] [5, 6, 10] σ fun t => NT (σ.1 1) (σ.1 0 3).toInt s t) := by
  unfold f_X11_number f_X11_number_18 f_X11_number_33
  have lt_0 := li_0
  have lt_1 := li_1
  have lu := FUi
  have l45 : (45 : Int32).toInt = 45 := by decide
  have np : (σ.1 0 5).toNatClampNeg = s := nC (by omega)
  have hb := b_byteAt (σ.1 0 5) σ (by omega) ⟨by omega, by omega⟩
  rw [np] at hb
  have e0 := il_addE (x := σ.1 0 5) (y := 0) (by omega) (by omega)
  have e1 := il_addE (x := σ.1 0 5) (y := 1) (by omega) (by omega)
  have c : ∀ y : Int32, CH [] [5, 6, 10] σ (stL (stI σ 0 5 (σ.1 0 5 + y)) 0 9 0) := fun y => (CH.rf.o (by decide)).l (by decide) (by decide) (by decide) (by decide) (by decide)
  refine OK.bndR hb (fun v hv => ?_)
  dsimp only
  refine OK.ieq (fun h45 => ?_) (fun h45 => ?_)
  · refine OK.ieq (fun h => by omega) (fun _ => ?_)
    refine OK.trZ (b_number_47 1 (σ.1 0 5 + 1) (σ.1 1) (σ.1 0 3).toInt (s + 1) hn2 (.inr lt_1) (by omega) FU 0 (stL (stI σ 0 5 (σ.1 0 5 + 1)) 0 9 0) rfl rfl (by show (σ.1 0 5 + 1).toInt = _; omega) h13 ?_ (fun j hj => by omega) (by omega) (by omega)) (c 1) (fun _ h => h) (fun _ h => h) (fun t _ ht => ?_)
    · show (0 : Int64) = dv (σ.1 1) (s + 1) (min 0 18)
      rfl
    · obtain ⟨m, hm⟩ := ht
      exact .inl ⟨by have := hv.1; omega, m, hm.iff ⟨fun _ => trivial, fun _ => lt_1⟩⟩
  · refine OK.ieq (fun _ => ?_) (fun h => absurd rfl h)
    refine OK.trZ (b_number_47 0 (σ.1 0 5 + 0) (σ.1 1) (σ.1 0 3).toInt s hn2 (.inl lt_0) (by omega) FU 0 (stL (stI σ 0 5 (σ.1 0 5 + 0)) 0 9 0) rfl rfl (by show (σ.1 0 5 + 0).toInt = _; omega) h13 ?_ (fun j hj => by omega) (by omega) (by omega)) (c 0) (fun _ h => h) (fun _ h => h) (fun t _ ht => ?_)
    · show (0 : Int64) = dv (σ.1 1) s (min 0 18)
      rfl
    · obtain ⟨m, hm⟩ := ht
      exact .inr ⟨by have := hv.1; omega, m, hm.iff ⟨fun h => by omega, fun h => h.elim⟩⟩
/-- what the token is that begins at a place -/
def TB_ (T : Nat → Int32) (n : Int) (s : Nat) (t : ST) : Prop := (t.1 0 4).toInt = s ∧
  ((bt T n s < 0 ∧ (t.1 0 6).toInt = 0 ∧ (t.1 0 13).toInt = 0 ∧ (t.1 0 5).toInt = s) ∨
   (isL (bt T n s) ∧ (t.1 0 13).toInt = 0 ∧ ∃ m, RUN isL T n s m ∧ (t.1 0 5).toInt = s + m ∧ (t.1 0 8).toInt = m ∧ t.2.1 0 7 = w27 T s (min m 8) ∧ ((t.1 0 6).toInt = 1 ∧ m ≤ 8 ∨ (t.1 0 6).toInt = 5 ∧ ¬ m ≤ 8)) ∨
   ((isD (bt T n s) ∨ bt T n s = 45 ∧ isD (bt T n (s + 1))) ∧ NT T n s t) ∨
   (bt T n s = 34 ∧ (t.1 0 13).toInt = 0 ∧ ∃ m, RUN isL T n (s + 1) m ∧ (t.1 0 5).toInt = s + 1 + m + 1 ∧ (t.1 0 8).toInt = m ∧ ((t.1 0 6).toInt = 3 ∧ m ≤ 12 ∧ bt T n (s + 1 + m) = 34 ∨ (t.1 0 6).toInt = 5 ∧ ¬ (m ≤ 12 ∧ bt T n (s + 1 + m) = 34))) ∨
   ((0 ≤ bt T n s ∧ ¬ isL (bt T n s) ∧ ¬ isD (bt T n s) ∧ ¬ (bt T n s = 45 ∧ isD (bt T n (s + 1))) ∧ ¬ bt T n s = 34) ∧ (t.1 0 5).toInt = s + 1 ∧ (((bt T n s = 123 ∨ bt T n s = 125 ∨ bt T n s = 91 ∨ bt T n s = 93 ∨ bt T n s = 44 ∨ bt T n s = 59) ∧ (t.1 0 6).toInt = 4 ∧ (t.1 0 13).toInt = bt T n s) ∨ (¬ (bt T n s = 123 ∨ bt T n s = 125 ∨ bt T n s = 91 ∨ bt T n s = 93 ∨ bt T n s = 44 ∨ bt T n s = 59) ∧ (t.1 0 6).toInt = 5 ∧ (t.1 0 13).toInt = 0))))
/-- blanks from there up to there -/
def SK (T : Nat → Int32) (n : Int) (p s : Nat) : Prop := p ≤ s ∧ (∀ i, p ≤ i → i < s → isB (bt T n i)) ∧ ¬ isB (bt T n s)
theorem SK.uniq {T : Nat → Int32} {n : Int} {p s u : Nat} (h : SK T n p s) (k : SK T n p u) : s = u := by
  rcases Nat.lt_trichotomy s u with h3 | h3 | h3
  · exact absurd (k.2.1 s h.1 h3) h.2.2
  · exact h3
  · exact absurd (h.2.1 u k.1 h3) k.2.2
theorem b_quoted (σ : ST) (s : Nat) (hn2 : 0 ≤ (σ.1 0 3).toInt ∧ (σ.1 0 3).toInt ≤ 1000) (h5 : (σ.1 0 5).toInt = s) (hs : s < 1000) : OK (f_X11_quoted σ) (RZ [] [5, 6, 8] σ fun t => ∃ m, RUN isL (σ.1 1) (σ.1 0 3).toInt (s + 1) m ∧ (t.1 0 5).toInt = s + 1 + m + 1 ∧ (t.1 0 8).toInt = m ∧ ((t.1 0 6).toInt = 3 ∧ m ≤ 12 ∧ bt (σ.1 1) (σ.1 0 3).toInt (s + 1 + m) = 34 ∨ (t.1 0 6).toInt = 5 ∧ ¬ (m ≤ 12 ∧ bt (σ.1 1) (σ.1 0 3).toInt (s + 1 + m) = 34))) := by
  unfold f_X11_quoted f_X11_quoted_42
  have lt_0 := li_0
  have lt_1 := li_1
  have lt_12 := li_12
  have l34 : (34 : Int32).toInt = 34 := by decide
  have e1 := il_addE (x := σ.1 0 5) (y := 1) (by omega) (by omega)
  refine OK.bndZ (b_word 12 (stI σ 0 5 (σ.1 0 5 + 1)) (by omega) (s + 1) hn2 (by show (σ.1 0 5 + 1).toInt = _; omega) (by omega)) (fun t c ht => ?_)
  obtain ⟨m, hR, t5, t8, t7⟩ := ht
  have hR : RUN isL (σ.1 1) (σ.1 0 3).toInt (s + 1) m := hR
  have c' : CH [] [5, 6, 8] σ t := (CH.rf.o (by decide)).trans (c.mono (by decide) (by decide))
  have hm : ((s + 1 + m : Nat) : Int) ≤ 1001 := by
    by_cases h0 : m = 0
    · omega
    · have hl := hR.1 (m - 1) (by omega)
      have := (bt_rng (T := σ.1 1) (n := (σ.1 0 3).toInt) (k := s + 1 + (m - 1))).2.2.mp (by unfold isL at hl; omega)
      omega
  have e5 := il_addE (x := t.1 0 5) (y := 1) (by omega) (by omega)
  have k43 : ∀ y0 : Int32, (y0.toInt = 0 ∧ ¬ (m ≤ 12 ∧ bt (σ.1 1) (σ.1 0 3).toInt (s + 1 + m) = 34) ∨ y0.toInt = 1 ∧ (m ≤ 12 ∧ bt (σ.1 1) (σ.1 0 3).toInt (s + 1 + m) = 34)) → OK (f_X11_quoted_43 y0 t) (RZ [] [5, 6, 8] σ fun t => ∃ m, RUN isL (σ.1 1) (σ.1 0 3).toInt (s + 1) m ∧ (t.1 0 5).toInt = s + 1 + m + 1 ∧ (t.1 0 8).toInt = m ∧ ((t.1 0 6).toInt = 3 ∧ m ≤ 12 ∧ bt (σ.1 1) (σ.1 0 3).toInt (s + 1 + m) = 34 ∨ (t.1 0 6).toInt = 5 ∧ ¬ (m ≤ 12 ∧ bt (σ.1 1) (σ.1 0 3).toInt (s + 1 + m) = 34))) := fun y0 hy => by
    unfold f_X11_quoted_43 f_X11_quoted_64
    have l3 := li_3
    have l5 := li_5
    have z : ∀ w : Int32, (w.toInt = 3 ∧ m ≤ 12 ∧ bt (σ.1 1) (σ.1 0 3).toInt (s + 1 + m) = 34 ∨ w.toInt = 5 ∧ ¬ (m ≤ 12 ∧ bt (σ.1 1) (σ.1 0 3).toInt (s + 1 + m) = 34)) → OK (some (stI (stI t 0 5 (t.1 0 5 + 1)) 0 6 w)) (RZ [] [5, 6, 8] σ fun t => ∃ m, RUN isL (σ.1 1) (σ.1 0 3).toInt (s + 1) m ∧ (t.1 0 5).toInt = s + 1 + m + 1 ∧ (t.1 0 8).toInt = m ∧ ((t.1 0 6).toInt = 3 ∧ m ≤ 12 ∧ bt (σ.1 1) (σ.1 0 3).toInt (s + 1 + m) = 34 ∨ (t.1 0 6).toInt = 5 ∧ ¬ (m ≤ 12 ∧ bt (σ.1 1) (σ.1 0 3).toInt (s + 1 + m) = 34))) := fun w hw => OK.zret ((c'.o (by decide)).o (by decide)) ⟨m, hR, (show (t.1 0 5 + 1).toInt = _ by omega), t8, hw⟩
    refine OK.ieq (fun h => z 5 (.inr ⟨l5, ?_⟩)) (fun h => z 3 (.inl ⟨l3, ?_⟩))
    · rcases hy with hy | hy
      · exact hy.2
      · omega
    · rcases hy with hy | hy
      · omega
      · exact hy.2
  refine OK.ilt (fun h => k43 0 (.inl ⟨lt_0, fun h9 => by omega⟩)) (fun h => ?_)
  have t3 : (t.1 0 3).toInt = (σ.1 0 3).toInt := by rw [c'.2.1 3 (by decide)]
  have t1 : t.1 1 = σ.1 1 := c'.1 1 (by decide) (by decide)
  have np : (t.1 0 5).toNatClampNeg = s + 1 + m := nC (by omega)
  have hb := b_byteAt (t.1 0 5) t (by omega) ⟨by omega, by omega⟩
  rw [np, t1, t3] at hb
  refine OK.bndR hb (fun v hv => ?_)
  dsimp only
  exact OK.ieq (fun h9 => k43 1 (.inr ⟨lt_1, by omega, by have := hv.1; omega⟩)) (fun h9 => k43 0 (.inl ⟨lt_0, fun h8 => by have := hv.1; omega⟩))
theorem b_go_0 (T : Nat → Int32) (n : Int) (p : Nat) (hn2 : 0 ≤ n ∧ n ≤ 1000) : ∀ (f k : Nat) (σ : ST), σ.1 1 = T → (σ.1 0 3).toInt = n → (σ.1 0 5).toInt = k → p ≤ k → (∀ i, p ≤ i → i < k → isB (bt T n i)) → ((k : Int) ≤ 1003) → 1003 < f + k → OK (f_X11_go_0 f σ) (RZ [] GI σ fun t => ∃ s, SK T n p s ∧ TB_ T n s t) := by
  intro f
  induction f with
  | zero => intro k σ h1 h2 h3 h4 h5 h6 h7; omega
  | succ f ih =>
    intro k σ hT hn h5 hpk hB hk hf
    rw [f_X11_go_0]
    unfold f_X11_go_26 f_X11_go_136 f_X11_go_101
    have lt_0 := li_0
    have lt_1 := li_1
    have lt_5 := li_5
    have lt_8 := li_8
    have l32 := li_32
    have l10 := li_10
    have l45 : (45 : Int32).toInt = 45 := by decide
    have np : (σ.1 0 5).toNatClampNeg = k := nC (by omega)
    have e1 := il_addE (x := σ.1 0 5) (y := 1) (by omega) (by omega)
    have np1 : (σ.1 0 5 + 1).toNatClampNeg = k + 1 := nC (by omega)
    have hb := b_byteAt (σ.1 0 5) σ (by omega) ⟨by omega, by omega⟩
    rw [np, hT, hn] at hb
    have nx : isB (bt T n k) → OK (f_X11_go_0 f (stI σ 0 5 (σ.1 0 5 + 1))) (RZ [] GI σ fun t => ∃ s, SK T n p s ∧ TB_ T n s t) := fun hb9 => by
      have hlt := (bt_rng (T := T) (n := n) (k := k)).2.2.mp (by unfold isB at hb9; omega)
      refine OK.trZ (ih (k + 1) (stI σ 0 5 (σ.1 0 5 + 1)) hT hn (by show (σ.1 0 5 + 1).toInt = _; omega) (by omega) (fun i i1 i2 => ?_) (by omega) (by omega)) (CH.rf.o (by decide)) (fun _ h => h) (fun _ h => h) (fun _ _ h => h)
      by_cases e : i = k
      · rw [e]; exact hb9
      · exact hB i i1 (by omega)
    refine OK.bndR hb (fun v hv => ?_)
    dsimp only
    refine OK.ieq (fun h => nx (.inl (by have := hv.1; omega))) (fun h32 => ?_)
    refine OK.bndR hb (fun v2 hv2 => ?_)
    dsimp only
    refine OK.ieq (fun h => nx (.inr (by have := hv2.1; omega))) (fun h10 => ?_)
    have hSK : SK T n p k := ⟨hpk, hB, by have a := hv.1; have b := hv2.1; unfold isB; omega⟩
    have z1 : (stI σ 0 4 (σ.1 0 5)).1 1 = T := hT
    have z3 : ((stI σ 0 4 (σ.1 0 5)).1 0 3).toInt = n := hn
    have z5 : (stI σ 0 4 (σ.1 0 5)).1 0 5 = σ.1 0 5 := rfl
    have z4 : ((stI σ 0 4 (σ.1 0 5)).1 0 4).toInt = k := h5
    have cz : CH [] GI σ (stI σ 0 4 (σ.1 0 5)) := CH.rf.o (by decide)
    generalize stI σ 0 4 (σ.1 0 5) = z at z1 z3 z5 z4 cz ⊢
    have hbz := b_byteAt (z.1 0 5) z (by rw [z5]; omega) ⟨by omega, by omega⟩
    have npz : (z.1 0 5).toNatClampNeg = k := by rw [z5]; exact np
    rw [npz, z1, z3] at hbz
    refine OK.bndR hbz (fun c hc => ?_)
    dsimp only
    have y1 : (stI z 0 13 0).1 1 = T := z1
    have y3 : ((stI z 0 13 0).1 0 3).toInt = n := z3
    have y5 : ((stI z 0 13 0).1 0 5).toInt = k := by show (z.1 0 5).toInt = k; rw [z5]; exact h5
    have y4 : ((stI z 0 13 0).1 0 4).toInt = k := z4
    have y13 : ((stI z 0 13 0).1 0 13).toInt = 0 := li_0
    have cy : CH [] GI σ (stI z 0 13 0) := cz.o (by decide)
    refine OK.ile (fun hc0 => ?_) (fun hc0 => ?_)
    · have hc1 := hc.1
      have hlt := (bt_rng (T := T) (n := n) (k := k)).2.2.mp (by omega)
      generalize stI z 0 13 0 = y at y1 y3 y5 y4 y13 cy ⊢
      have done : ∀ t : ST, CH [] GI σ t → (t.1 0 4).toInt = k → TB_ T n k t → OK (some t) (RZ [] GI σ fun t => ∃ s, SK T n p s ∧ TB_ T n s t) := fun t ct t4 ht => OK.zret ct ⟨k, hSK, ht⟩
      have k136 : (isD (bt T n k) ∨ bt T n k = 45 ∧ isD (bt T n (k + 1))) → OK ((f_X11_number y).bind fun q => some q) (RZ [] GI σ fun t => ∃ s, SK T n p s ∧ TB_ T n s t) := fun hd => by
        have hnum := b_number y k (by rw [y3]; exact hn2) y5 (by omega) y13
        rw [y1, y3] at hnum
        refine OK.bndZ hnum (fun t ct ht => ?_)
        have t4 : (t.1 0 4).toInt = k := by rw [ct.2.1 4 (by decide)]; exact y4
        exact done t (cy.trans (ct.mono (by decide) (by decide))) t4 ⟨t4, .inr (.inr (.inl ⟨hd, ht⟩))⟩
      have k143 : ¬ isL (bt T n k) → ¬ isD (bt T n k) → ¬ (bt T n k = 45 ∧ isD (bt T n (k + 1))) → OK (f_X11_go_143 c y) (RZ [] GI σ fun t => ∃ s, SK T n p s ∧ TB_ T n s t) := fun hnl hnd hnm => by
        unfold f_X11_go_143
        have l34 : (34 : Int32).toInt = 34 := by decide
        refine OK.ieq (fun h34 => ?_) (fun h34 => ?_)
        · have hq := b_quoted y k (by rw [y3]; exact hn2) y5 (by omega)
          rw [y1, y3] at hq
          refine OK.bndZ hq (fun t ct ht => ?_)
          have t4 : (t.1 0 4).toInt = k := by rw [ct.2.1 4 (by decide)]; exact y4
          have t13 : (t.1 0 13).toInt = 0 := by rw [ct.2.1 13 (by decide)]; exact y13
          exact done t (cy.trans (ct.mono (by decide) (by decide))) t4 ⟨t4, .inr (.inr (.inr (.inl ⟨by omega, t13, ht⟩)))⟩
        · have ls : (123 : Int32).toInt = 123 ∧ (125 : Int32).toInt = 125 ∧ (91 : Int32).toInt = 91 ∧ (93 : Int32).toInt = 93 ∧ (44 : Int32).toInt = 44 ∧ (59 : Int32).toInt = 59 := by decide
          have ey := il_addE (x := y.1 0 5) (y := 1) (by omega) (by omega)
          have l4 := li_4
          have k169 : ∀ y0 : Int32, ((y0.toInt = c.toInt ∧ (c.toInt = 123 ∨ c.toInt = 125 ∨ c.toInt = 91 ∨ c.toInt = 93 ∨ c.toInt = 44 ∨ c.toInt = 59)) ∨ y0.toInt = 0 ∧ ¬ (c.toInt = 123 ∨ c.toInt = 125 ∨ c.toInt = 91 ∨ c.toInt = 93 ∨ c.toInt = 44 ∨ c.toInt = 59)) → OK (f_X11_go_169 y0 y) (RZ [] GI σ fun t => ∃ s, SK T n p s ∧ TB_ T n s t) := fun y0 hy0 => by
            unfold f_X11_go_169 f_X11_go_185
            have fin : ∀ w : Int32, ((w.toInt = 4 ∧ 0 < y0.toInt) ∨ w.toInt = 5 ∧ y0.toInt ≤ 0) → OK (some (stI (stI (stI y 0 13 y0) 0 6 w) 0 5 ((stI (stI y 0 13 y0) 0 6 w).1 0 5 + 1))) (RZ [] GI σ fun t => ∃ s, SK T n p s ∧ TB_ T n s t) := fun w hw => by
              refine done _ (((cy.o (by decide)).o (by decide)).o (by decide)) y4 ⟨y4, .inr (.inr (.inr (.inr ⟨⟨by omega, hnl, hnd, hnm, by omega⟩, (show (y.1 0 5 + 1).toInt = _ by omega), ?_⟩)))⟩
              rcases hy0 with hy0 | hy0
              · refine .inl ⟨by rw [← hc1]; exact hy0.2, ?_, ?_⟩
                · show w.toInt = 4
                  omega
                · show y0.toInt = _
                  omega
              · refine .inr ⟨by rw [← hc1]; exact hy0.2, ?_, ?_⟩
                · show w.toInt = 5
                  omega
                · show y0.toInt = _
                  omega
            refine OK.ile (fun h => ?_) (fun h => ?_)
            · have h : y0.toInt ≤ (0 : Int32).toInt := h
              exact fin 5 (by omega)
            · have h : (0 : Int32).toInt < y0.toInt := h
              exact fin 4 (by omega)
          unfold f_X11_isSign f_X11_isSign_36
          refine OK.bndR (s := y) (Q := fun v => v.toInt = 1 ∧ (c.toInt = 123 ∨ c.toInt = 125 ∨ c.toInt = 91 ∨ c.toInt = 93 ∨ c.toInt = 44 ∨ c.toInt = 59) ∨ v.toInt = 0 ∧ ¬ (c.toInt = 123 ∨ c.toInt = 125 ∨ c.toInt = 91 ∨ c.toInt = 93 ∨ c.toInt = 44 ∨ c.toInt = 59)) ?_ (fun q hq => ?_)
          · refine OK.ieq (fun _ => OK.roret (by omega)) (fun _ => ?_)
            refine OK.ieq (fun _ => OK.roret (by omega)) (fun _ => ?_)
            refine OK.ieq (fun _ => OK.roret (by omega)) (fun _ => ?_)
            refine OK.ieq (fun _ => OK.roret (by omega)) (fun _ => ?_)
            refine OK.ieq (fun _ => OK.roret (by omega)) (fun _ => ?_)
            exact OK.ieq (fun _ => OK.roret (by omega)) (fun _ => OK.roret (by omega))
          · dsimp only
            exact OK.ieq (fun _ => k169 0 (by omega)) (fun _ => k169 c (by omega))
      refine OK.bndR (b_isLetter _ _) (fun q7 h7 => ?_)
      dsimp only
      refine OK.ieq (fun hl0 => ?_) (fun hl1 => ?_)
      · have hnl : ¬ isL (bt T n k) := by unfold isL; rw [← hc1]; omega
        refine OK.bndR (b_isDigit _ _) (fun q9 h9 => ?_)
        dsimp only
        rw [hc1] at h9
        refine OK.ieq (fun hd0 => ?_) (fun hd1 => ?_)
        · have hnd : ¬ isD (bt T n k) := by
            rcases h9 with h9 | h9
            · exact h9.2
            · omega
          refine OK.ieq (fun h45 => ?_) (fun h45 => k143 hnl hnd (fun h => by omega))
          have ey := il_addE (x := y.1 0 5) (y := 1) (by omega) (by omega)
          have hb1 := b_byteAt (y.1 0 5 + 1) y (by omega) ⟨by omega, by omega⟩
          have npy : (y.1 0 5 + 1).toNatClampNeg = k + 1 := nC (by omega)
          rw [npy, y1, y3] at hb1
          refine OK.bndR hb1 (fun q11 h11 => ?_)
          dsimp only
          refine OK.bndR (b_isDigit _ _) (fun q13 h13 => ?_)
          dsimp only
          rw [h11.1] at h13
          refine OK.ieq (fun h0 => k143 hnl hnd (fun h => ?_)) (fun h1 => k136 (.inr ⟨by omega, ?_⟩))
          · rcases h13 with h13 | h13
            · exact h13.2 h.2
            · omega
          · rcases h13 with h13 | h13
            · omega
            · exact h13.2
        · refine k136 (.inl ?_)
          rcases h9 with h9 | h9
          · omega
          · exact h9.2
      · have hL : isL (bt T n k) := by unfold isL; rw [← hc1]; omega
        have hwd := b_word 8 y (by omega) k (by rw [y3]; exact hn2) y5 (by omega)
        rw [y1, y3] at hwd
        refine OK.bndZ hwd (fun t ct ht => ?_)
        obtain ⟨m, hR, t5, t8, t7⟩ := ht
        have t4 : (t.1 0 4).toInt = k := by rw [ct.2.1 4 (by decide)]; exact y4
        have t13 : (t.1 0 13).toInt = 0 := by rw [ct.2.1 13 (by decide)]; exact y13
        have ct' : CH [] GI σ t := cy.trans (ct.mono (by decide) (by decide))
        have e8 : (8 : Int32).toInt.toNat = 8 := by decide
        rw [e8] at t7
        have fin : ∀ w : Int32, (w.toInt = 1 ∧ m ≤ 8 ∨ w.toInt = 5 ∧ ¬ m ≤ 8) → OK (some (stI t 0 6 w)) (RZ [] GI σ fun t => ∃ s, SK T n p s ∧ TB_ T n s t) := fun w hw => done _ (ct'.o (by decide)) t4 ⟨t4, .inr (.inl ⟨hL, t13, m, hR, t5, t8, t7, hw⟩)⟩
        exact OK.ilt (fun h => fin 5 (by omega)) (fun h => fin 1 (by omega))
    · refine OK.zret (cy.o (by decide)) ⟨k, hSK, y4, .inl ⟨by have := hc.1; omega, li_0, y13, y5⟩⟩
theorem b_go (σ : ST) (p : Nat) (hn2 : 0 ≤ (σ.1 0 3).toInt ∧ (σ.1 0 3).toInt ≤ 1000) (h5 : (σ.1 0 5).toInt = p) (hp : p ≤ 1003) : OK (f_X11_go σ) (RZ [] GI σ fun t => ∃ s, SK (σ.1 1) (σ.1 0 3).toInt p s ∧ TB_ (σ.1 1) (σ.1 0 3).toInt s t) := by
  have lu := FUi
  exact b_go_0 (σ.1 1) (σ.1 0 3).toInt p hn2 FU p σ rfl rfl h5 (Nat.le_refl _) (fun i h1 h2 => by omega) (by omega) (by omega)
