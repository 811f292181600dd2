/-! the reference: its calls, over its invariant -/
def IB (σ : ST) : Prop := PLs σ ∧ PB σ ∧ (∀ i : Nat, i < 4 → -1 ≤ (σ.1 32 i).toInt ∧ (σ.1 32 i).toInt < (σ.1 0 32).toInt) ∧ (∀ i, bI (σ.1 33 i) 0 400) ∧ (∀ i, bI (σ.1 38 i) 0 256) ∧ bI (σ.1 0 68) 0 256 ∧ bI (σ.1 0 73) 0 400 ∧ bI (σ.1 0 83) 0 256 ∧ bI (σ.1 0 92) 0 4 ∧ TH σ
/-- what a call leaves as it is: the tape, the number of plans -/
def RTB {α : Type} (σ : ST) (q : α × ST) : Prop := IB q.2 ∧ q.2.1 0 2 = σ.1 0 2 ∧ q.2.1 1 = σ.1 1 ∧ q.2.1 0 32 = σ.1 0 32
theorem IB.th {σ : ST} (h : IB σ) (y : Int32) : IB (stI σ 0 0 y) := ⟨h.1.of rfl rfl rfl rfl rfl rfl rfl rfl rfl, h.2.1, h.2.2.1, h.2.2.2.1, h.2.2.2.2.1, h.2.2.2.2.2.1, h.2.2.2.2.2.2.1, h.2.2.2.2.2.2.2.1, h.2.2.2.2.2.2.2.2.1, h.2.2.2.2.2.2.2.2.2⟩
theorem OK.tb {α : Type} {σ s : ST} {v : α} (h : IB s) (e2 : s.1 0 2 = σ.1 0 2) (e1 : s.1 1 = σ.1 1) (e32 : s.1 0 32 = σ.1 0 32) : OK (some (v, s)) (RTB σ) := ⟨_, rfl, h, e2, e1, e32⟩
theorem IB.mp {σ : ST} (h : IB σ) {m : Int32} (hm : 0 ≤ m.toInt ∧ m.toInt < 4) (h0 : 0 ≤ (σ.1 32 m.toNatClampNeg).toInt) : 0 ≤ (σ.1 32 m.toNatClampNeg).toInt ∧ (σ.1 32 m.toNatClampNeg).toInt < (σ.1 0 32).toInt := by
  have n1 := nN_ hm.1
  exact ⟨h0, (h.2.2.1 m.toNatClampNeg (by omega)).2⟩
theorem b_record_ (p0 p1 p2 : Int32) (σ : ST) (hI : IB σ) : OK (f_X11_record_ p0 p1 p2 σ) (RTB σ) := by
  unfold f_X11_record_
  have lt_0 := li_0
  have lt_1 := li_1
  have lt_6 := li_6
  have l0 := l64_0
  have l1 := l64_1
  have hs := hI.th 0
  have e32 : (stI σ 0 0 0).1 0 32 = σ.1 0 32 := rfl
  have done : ∀ v : Int32, OK (some (v, stI σ 0 0 0)) (RTB σ) := fun v => OK.tb hs rfl rfl rfl
  generalize stI σ 0 0 0 = s at hs e32 done ⊢
  have p16 := hs.1.1
  obtain ⟨p61, p62⟩ := p16
  refine OK.bndR (b_isPlanAt p0 s hs.1.1) (fun v hv => ?_)
  dsimp only
  refine OK.ieq (fun _ => done _) (fun h => ?_)
  have hp : 0 ≤ p0.toInt ∧ p0.toInt < (s.1 0 32).toInt := by omega
  have n0 := nN_ hp.1
  have rm := (hs.1.2.1 p0.toNatClampNeg (by omega)).1
  have g12 : 0 ≤ p0.toInt ∧ p0.toInt < 12 := by omega
  refine OK.ieq (fun _ => OK.grd g12 (done _)) (fun _ => ?_)
  refine OK.bndR (b_within _ _ _ _) (fun w hw => ?_)
  dsimp only
  refine OK.ieq (fun _ => done _) (fun _ => ?_)
  refine OK.grd g12 ?_
  have a1 := il_subE (x := s.1 8 p0.toNatClampNeg) (y := 1) (by omega) (by omega)
  have a2 := i64 (s.1 8 p0.toNatClampNeg - 1)
  have a3 := i64 p1
  refine OK.bndR (b_within _ _ _ _) (fun x hx => ?_)
  dsimp only
  refine OK.ieq (fun _ => done _) (fun _ => ?_)
  have b1 := mlE (k := 6) (y := p0) 6 li_6 (by omega) (by omega)
  have b2 := il_addE (x := 6 * p0) (y := p1) (by omega) (by omega)
  exact OK.ieq (fun _ => OK.grd ⟨by omega, by omega⟩ (done _)) (fun _ => OK.grd ⟨by omega, by omega⟩ (done _))
theorem b_recordIn_2 : ∀ (n : Nat) (x : Int32) (σ : ST) (a : Int) (d : Nat), VS σ a d x → d ≤ n → OK (f_X11_recordIn_2 n x σ) (RO σ fun _ => True) := by
  intro n
  induction n with
  | zero =>
    intro x σ a d h hd
    cases d with
    | zero => exact h.elim
    | succ d => omega
  | succ n ih =>
    intro x σ a d h hd
    rw [f_X11_recordIn_2]
    have lt_6 := li_6
    refine OK.grd h.rng ?_
    refine OK.ieq (fun h6 => ?_) (fun _ => OK.ieq (fun _ => OK.roret trivial) (fun _ => OK.roret trivial))
    have l := h.lst (by omega)
    exact ih _ σ a (d - 1) l.2 (by omega)
theorem b_field_ (p0 p1 p2 p3 : Int32) (σ : ST) (hI : IB σ) : OK (f_X11_field_ p0 p1 p2 p3 σ) (RTB σ) := by
  unfold f_X11_field_
  have lt_0 := li_0
  have lt_1 := li_1
  have lt_6 := li_6
  have lt_8 := li_8
  have lu := FUi
  have l0 := l64_0
  have hs := hI.th 0
  have e32 : (stI σ 0 0 0).1 0 32 = σ.1 0 32 := rfl
  have done : ∀ v : Int32, OK (some (v, stI σ 0 0 0)) (RTB σ) := fun v => OK.tb hs rfl rfl rfl
  generalize stI σ 0 0 0 = s at hs e32 done ⊢
  have p16 := hs.1.1
  obtain ⟨p61, p62⟩ := p16
  have k35 : OK (f_X11_field__35 p0 p1 p2 p3 s) (RTB σ) := by
    unfold f_X11_field__35 f_X11_field__36 f_X11_field__53
    refine OK.ieq (fun _ => ?_) (fun h => absurd rfl h)
    exact OK.ieq (fun _ => done _) (fun h => absurd rfl h)
  refine OK.bndR (b_isPlanAt p0 s hs.1.1) (fun v hv => ?_)
  dsimp only
  refine OK.ieq (fun _ => k35) (fun h => ?_)
  have hp : 0 ≤ p0.toInt ∧ p0.toInt < (s.1 0 32).toInt := by omega
  have n0 := nN_ hp.1
  obtain ⟨rm, rf⟩ := hs.1.2.1 p0.toNatClampNeg (by omega)
  refine OK.grd ⟨by omega, by omega⟩ ?_
  have a1 := il_subE (x := s.1 8 p0.toNatClampNeg) (y := 1) (by omega) (by omega)
  have a2 := i64 (s.1 8 p0.toNatClampNeg - 1)
  have a3 := i64 p1
  refine OK.bndR (b_within _ _ _ _) (fun x hx => ?_)
  dsimp only
  refine OK.ieq (fun _ => k35) (fun _ => ?_)
  have hp1 : 0 ≤ p1.toInt ∧ p1.toInt < (s.1 8 p0.toNatClampNeg).toInt := by omega
  have n1 := nN_ hp1.1
  obtain ⟨⟨f1, f2⟩, fv⟩ := rf p1.toNatClampNeg (by omega)
  have b1 := mlE (k := 6) (y := p0) 6 li_6 (by omega) (by omega)
  have b2 := il_addE (x := 6 * p0) (y := p1) (by omega) (by omega)
  have e6 : (6 * p0 + p1).toNatClampNeg = 6 * p0.toNatClampNeg + p1.toNatClampNeg := nC (by omega)
  unfold f_X11_field__36 f_X11_field__53
  refine OK.ieq (fun h9 => by omega) (fun _ => ?_)
  refine OK.ieq (fun h9 => by omega) (fun _ => ?_)
  refine OK.grd ⟨by omega, by omega⟩ ?_
  rw [e6]
  have c1 := il_subE (x := s.1 11 (6 * p0.toNatClampNeg + p1.toNatClampNeg)) (y := 1) (by omega) (by omega)
  have c2 := i64 (s.1 11 (6 * p0.toNatClampNeg + p1.toNatClampNeg) - 1)
  have c3 := i64 p2
  refine OK.bndR (b_within _ _ _ _) (fun y hy => ?_)
  dsimp only
  refine OK.ieq (fun _ => done _) (fun _ => ?_)
  have hp2 : 0 ≤ p2.toInt ∧ p2.toInt < (s.1 11 (6 * p0.toNatClampNeg + p1.toNatClampNeg)).toInt := by omega
  have n2 := nN_ hp2.1
  have d1 := mlE (k := 8) (y := 6 * p0 + p1) 8 li_8 (by omega) (by omega)
  have d2 := il_addE (x := 8 * (6 * p0 + p1)) (y := p2) (by omega) (by omega)
  have e8 : (8 * (6 * p0 + p1) + p2).toNatClampNeg = 8 * (6 * p0.toNatClampNeg + p1.toNatClampNeg) + p2.toNatClampNeg := nC (by omega)
  have g8 : 0 ≤ (8 * (6 * p0 + p1) + p2).toInt ∧ (8 * (6 * p0 + p1) + p2).toInt < 576 := by omega
  have hT : VS s (s.1 8 p0.toNatClampNeg).toInt 4 (s.1 15 (8 * (6 * p0 + p1) + p2).toNatClampNeg) := by
    rw [e8]
    exact (fv p2.toNatClampNeg (by omega)).wk (by decide)
  refine OK.ieq (fun _ => OK.grd g8 (OK.grd hT.rng (done _))) (fun _ => ?_)
  refine OK.ieq (fun _ => OK.grd g8 (OK.ieq (fun _ => done _) (fun _ => done _))) (fun _ => ?_)
  refine OK.ieq (fun _ => OK.grd g8 (OK.ile (fun _ => done _) (fun _ => done _))) (fun _ => ?_)
  refine OK.ieq (fun _ => OK.grd g8 (done _)) (fun _ => ?_)
  refine OK.ieq (fun _ => OK.grd g8 (OK.grd hT.rng (done _))) (fun _ => ?_)
  refine OK.ieq (fun _ => OK.grd g8 ?_) (fun _ => done _)
  unfold f_X11_recordIn
  refine OK.bndR (b_recordIn_2 FU _ s _ 4 hT (by omega)) (fun z _ => ?_)
  exact done _
theorem b_message (p0 p1 : Int32) (σ : ST) (hI : IB σ) : OK (f_X11_message p0 p1 σ) (RTB σ) := by
  unfold f_X11_message
  have lt_0 := li_0
  have hs := hI.th 0
  have done : ∀ v : Int32, OK (some (v, stI σ 0 0 0)) (RTB σ) := fun v => OK.tb hs rfl rfl rfl
  generalize stI σ 0 0 0 = s at hs done ⊢
  refine OK.bndR (b_isMessage p0 s) (fun v hv => ?_)
  dsimp only
  refine OK.ieq (fun _ => done _) (fun _ => ?_)
  refine OK.bndR (b_within _ _ _ _) (fun w hw => ?_)
  dsimp only
  refine OK.ieq (fun _ => done _) (fun _ => ?_)
  exact OK.ieq (fun _ => OK.grd ⟨by omega, by omega⟩ (done _)) (fun _ => OK.grd ⟨by omega, by omega⟩ (done _))
theorem b_byteAt_ (p0 p1 : Int32) (σ : ST) (hI : IB σ) : OK (f_X11_byteAt_ p0 p1 σ) (RTB σ) := by
  unfold f_X11_byteAt_ f_X11_byteAt__15
  have lt_0 := li_0
  have lt_1 := li_1
  have lt_400 := li_400
  refine OK.bndR (b_isByte p0 p1 σ hI.2.2.2.1) (fun v hv => ?_)
  dsimp only
  refine OK.ieq (fun _ => ?_) (fun _ => ?_)
  · refine OK.ile (fun h => ?_) (fun _ => OK.tb (hI.th 1) rfl rfl rfl)
    have h : (1 : Int32).toInt ≤ (0 : Int32).toInt := h
    omega
  · have a1 := mlE (k := 400) (y := p0) 400 li_400 (by omega) (by omega)
    have a2 := il_addE (x := 400 * p0) (y := p1) (by omega) (by omega)
    exact OK.ile (fun _ => OK.grd ⟨by omega, by omega⟩ (OK.tb (hI.th 0) rfl rfl rfl)) (fun _ => OK.tb (hI.th 0) rfl rfl rfl)
theorem b_spoil (p0 p1 p2 : Int32) (σ : ST) (hI : IB σ) : OK (f_X11_spoil p0 p1 p2 σ) (RTB σ) := by
  unfold f_X11_spoil
  have lt_0 := li_0
  have lt_400 := li_400
  have hs := hI.th 0
  have e1 : (stI σ 0 0 0).1 0 2 = σ.1 0 2 := rfl
  have e2 : (stI σ 0 0 0).1 1 = σ.1 1 := rfl
  have e3 : (stI σ 0 0 0).1 0 32 = σ.1 0 32 := rfl
  generalize stI σ 0 0 0 = s at hs e1 e2 e3 ⊢
  refine OK.bndR (b_isByte p0 p1 s hs.2.2.2.1) (fun v hv => ?_)
  dsimp only
  refine OK.ieq (fun _ => OK.tb hs e1 e2 e3) (fun _ => ?_)
  have a1 := mlE (k := 400) (y := p0) 400 li_400 (by omega) (by omega)
  have a2 := il_addE (x := 400 * p0) (y := p1) (by omega) (by omega)
  refine OK.grd ⟨by omega, by omega⟩ ?_
  refine OK.lt (fun z hz => ?_)
  subst hz
  exact OK.tb ⟨hs.1.of rfl rfl rfl rfl rfl rfl rfl rfl rfl, hs.2⟩ e1 e2 e3
theorem b_cut (p0 p1 : Int32) (σ : ST) (hI : IB σ) : OK (f_X11_cut p0 p1 σ) (RTB σ) := by
  unfold f_X11_cut
  have lt_0 := li_0
  have l0 := l64_0
  have hs := hI.th 0
  have e1 : (stI σ 0 0 0).1 0 2 = σ.1 0 2 := rfl
  have e2 : (stI σ 0 0 0).1 1 = σ.1 1 := rfl
  have e3 : (stI σ 0 0 0).1 0 32 = σ.1 0 32 := rfl
  generalize stI σ 0 0 0 = s at hs e1 e2 e3 ⊢
  refine OK.bndR (b_isMessage p0 s) (fun v hv => ?_)
  dsimp only
  refine OK.ieq (fun _ => OK.tb hs e1 e2 e3) (fun _ => ?_)
  refine OK.grd ⟨by omega, by omega⟩ ?_
  have a1 := i64 p1
  have a2 := i64 (s.1 33 p0.toNatClampNeg)
  obtain ⟨m1, m2⟩ := hs.2.2.2.1 p0.toNatClampNeg
  refine OK.bndR (b_within _ _ _ _) (fun w hw => ?_)
  dsimp only
  refine OK.ieq (fun _ => OK.tb hs e1 e2 e3) (fun _ => ?_)
  refine OK.tb ⟨hs.1.of rfl rfl rfl rfl rfl rfl rfl rfl rfl, hs.2.1, hs.2.2.1, ?_, hs.2.2.2.2⟩ e1 e2 e3
  exact upd_all (P := fun x => bI x 0 400) hs.2.2.2.1 ⟨by omega, by omega⟩
/-- what looking for misses leaves -/
theorem IB.ms {σ t : ST} (h : IB σ) (c : CH [35, 36, 37, 38, 39, 40] [53, 54, 57, 61] σ t) (hm : MI t) (hb : PB t) : IB t := by
  refine ⟨h.1.ch c (by decide) (by decide), hb, ?_, ?_, hm.2, ?_, ?_, ?_, ?_, ?_⟩
  · rw [c.1 32 (by decide) (by decide), c.2.1 32 (by decide)]; exact h.2.2.1
  · rw [c.1 33 (by decide) (by decide)]; exact h.2.2.2.1
  · rw [c.2.1 68 (by decide)]; exact h.2.2.2.2.2.1
  · rw [c.2.1 73 (by decide)]; exact h.2.2.2.2.2.2.1
  · rw [c.2.1 83 (by decide)]; exact h.2.2.2.2.2.2.2.1
  · rw [c.2.1 92 (by decide)]; exact h.2.2.2.2.2.2.2.2.1
  · unfold TH
    rw [c.1 45 (by decide) (by decide)]; exact h.2.2.2.2.2.2.2.2.2
theorem IB.lm {σ : ST} (h : IB σ) (w r : Int32) (h0 : 0 ≤ w.toInt ∧ w.toInt < (σ.1 0 32).toInt) (h1 : 0 ≤ r.toInt ∧ r.toInt < (σ.1 0 32).toInt) : OK (f_X11_laysMisses w r σ) (fun t => (IB t ∧ t.1 0 2 = σ.1 0 2 ∧ t.1 1 = σ.1 1 ∧ t.1 0 32 = σ.1 0 32) ∧ MI t) := (b_laysMisses w r σ h.1 h.2.1 h.2.2.2.2.1 h0 h1).mono (fun t ht => ⟨⟨h.ms ht.1 ht.2.1 ht.2.2, ht.1.2.1 2 (by decide), ht.1.1 1 (by decide) (by decide), ht.1.2.1 32 (by decide)⟩, ht.2.1⟩)
theorem IB.vd {σ : ST} (h : IB σ) (w r : Int32) (h0 : 0 ≤ w.toInt ∧ w.toInt < (σ.1 0 32).toInt) (h1 : 0 ≤ r.toInt ∧ r.toInt < (σ.1 0 32).toInt) : OK (f_X11_verdict w r σ) (RTB σ) := by
  unfold f_X11_verdict
  refine OK.bnd (h.lm w r h0 h1) (fun t ht => ?_)
  have d : ∀ v : Int32, OK (some (v, t)) (RTB σ) := fun v => OK.tb ht.1.1 ht.1.2.1 ht.1.2.2.1 ht.1.2.2.2
  exact OK.ieq (fun _ => d _) (fun _ => OK.ile (fun _ => d _) (fun _ => d _))
theorem b_matches (p0 p1 : Int32) (σ : ST) (hI : IB σ) : OK (f_X11_matches p0 p1 σ) (RTB σ) := by
  unfold f_X11_matches
  have lt_0 := li_0
  have hs := hI.th 0
  have e1 : (stI σ 0 0 0).1 0 2 = σ.1 0 2 := rfl
  have e2 : (stI σ 0 0 0).1 1 = σ.1 1 := rfl
  have e3 : (stI σ 0 0 0).1 0 32 = σ.1 0 32 := rfl
  generalize stI σ 0 0 0 = s at hs e1 e2 e3 ⊢
  refine OK.bndR (b_isPlanAt p0 s hs.1.1) (fun v hv => ?_)
  dsimp only
  refine OK.ieq (fun _ => OK.tb hs e1 e2 e3) (fun _ => ?_)
  refine OK.bndR (b_isPlanAt p1 s hs.1.1) (fun w hw => ?_)
  dsimp only
  refine OK.ieq (fun _ => OK.tb hs e1 e2 e3) (fun _ => ?_)
  refine OK.bnd (hs.vd p0 p1 (by omega) (by omega)) (fun q hq => ?_)
  exact OK.tb hq.1 (hq.2.1.trans e1) (hq.2.2.1.trans e2) (hq.2.2.2.trans e3)
theorem b_miss (p0 p1 p2 p3 : Int32) (σ : ST) (hI : IB σ) : OK (f_X11_miss p0 p1 p2 p3 σ) (RTB σ) := by
  unfold f_X11_miss
  have lt_0 := li_0
  have lt_1 := li_1
  have l0 := l64_0
  have hs := hI.th 0
  have e1 : (stI σ 0 0 0).1 0 2 = σ.1 0 2 := rfl
  have e2 : (stI σ 0 0 0).1 1 = σ.1 1 := rfl
  have e3 : (stI σ 0 0 0).1 0 32 = σ.1 0 32 := rfl
  generalize stI σ 0 0 0 = s at hs e1 e2 e3 ⊢
  refine OK.bndR (b_isPlanAt p0 s hs.1.1) (fun v hv => ?_)
  dsimp only
  refine OK.ieq (fun _ => OK.tb hs e1 e2 e3) (fun _ => ?_)
  refine OK.bndR (b_isPlanAt p1 s hs.1.1) (fun w hw => ?_)
  dsimp only
  refine OK.ieq (fun _ => OK.tb hs e1 e2 e3) (fun _ => ?_)
  refine OK.bndR (b_within _ _ _ _) (fun x hx => ?_)
  dsimp only
  refine OK.ieq (fun _ => OK.tb hs e1 e2 e3) (fun _ => ?_)
  refine OK.bnd (hs.lm p0 p1 (by omega) (by omega)) (fun t ht => ?_)
  have d : ∀ v : Int32, OK (some (v, t)) (RTB σ) := fun v => OK.tb ht.1.1 (ht.1.2.1.trans e1) (ht.1.2.2.1.trans e2) (ht.1.2.2.2.trans e3)
  refine OK.ieq (fun _ => d _) (fun _ => ?_)
  obtain ⟨⟨m1, m2⟩, m3⟩ := ht.2
  have a1 := il_subE (x := t.1 0 61) (y := 1) (by omega) (by omega)
  have a2 := i64 (t.1 0 61 - 1)
  have a3 := i64 p2
  refine OK.bndR (b_within _ _ _ _) (fun y hy => ?_)
  dsimp only
  refine OK.ieq (fun _ => d _) (fun _ => ?_)
  exact OK.ieq (fun _ => OK.grd ⟨by omega, by omega⟩ (d _)) (fun _ => OK.grd ⟨by omega, by omega⟩ (d _))
theorem b_missStep (p0 p1 p2 p3 : Int32) (σ : ST) (hI : IB σ) : OK (f_X11_missStep p0 p1 p2 p3 σ) (RTB σ) := by
  unfold f_X11_missStep
  have lt_0 := li_0
  have lt_1 := li_1
  have lt_256 := li_256
  have l0 := l64_0
  have hs := hI.th 0
  have e1 : (stI σ 0 0 0).1 0 2 = σ.1 0 2 := rfl
  have e2 : (stI σ 0 0 0).1 1 = σ.1 1 := rfl
  have e3 : (stI σ 0 0 0).1 0 32 = σ.1 0 32 := rfl
  generalize stI σ 0 0 0 = s at hs e1 e2 e3 ⊢
  refine OK.bndR (b_isPlanAt p0 s hs.1.1) (fun v hv => ?_)
  dsimp only
  refine OK.ieq (fun _ => OK.tb hs e1 e2 e3) (fun _ => ?_)
  refine OK.bndR (b_isPlanAt p1 s hs.1.1) (fun w hw => ?_)
  dsimp only
  refine OK.ieq (fun _ => OK.tb hs e1 e2 e3) (fun _ => ?_)
  refine OK.bnd (hs.lm p0 p1 (by omega) (by omega)) (fun t ht => ?_)
  have d : ∀ v : Int32, OK (some (v, t)) (RTB σ) := fun v => OK.tb ht.1.1 (ht.1.2.1.trans e1) (ht.1.2.2.1.trans e2) (ht.1.2.2.2.trans e3)
  obtain ⟨⟨m1, m2⟩, m3⟩ := ht.2
  have a1 := il_subE (x := t.1 0 61) (y := 1) (by omega) (by omega)
  have a2 := i64 (t.1 0 61 - 1)
  have a3 := i64 p2
  refine OK.bndR (b_within _ _ _ _) (fun y hy => ?_)
  dsimp only
  refine OK.ieq (fun _ => d _) (fun _ => ?_)
  refine OK.grd ⟨by omega, by omega⟩ ?_
  obtain ⟨k1, k2⟩ := m3 p2.toNatClampNeg
  have b1 := il_subE (x := t.1 38 p2.toNatClampNeg) (y := 1) (by omega) (by omega)
  have b2 := i64 (t.1 38 p2.toNatClampNeg - 1)
  have b3 := i64 p3
  refine OK.bndR (b_within _ _ _ _) (fun z hz => ?_)
  dsimp only
  refine OK.ieq (fun _ => d _) (fun _ => ?_)
  have c1 := mlE (k := 256) (y := p2) 256 li_256 (by omega) (by omega)
  have c2 := il_addE (x := 256 * p2) (y := p3) (by omega) (by omega)
  exact OK.grd ⟨by omega, by omega⟩ (d _)
theorem b_readers_30 (w : Int32) (σ0 : ST) : ∀ (n : Nat) (x2 x3 x4 : Int32) (σ : ST), IB σ → σ.1 0 2 = σ0.1 0 2 → σ.1 1 = σ0.1 1 → σ.1 0 32 = σ0.1 0 32 → (0 ≤ w.toInt ∧ w.toInt < (σ.1 0 32).toInt) → (0 ≤ x4.toInt ∧ x4.toInt ≤ 6 ∧ (6 : Int) - x4.toInt < n) → OK (f_X11_readers_30 n w x2 x3 x4 σ) (RTB σ0) := by
  intro n
  induction n with
  | zero => intro x2 x3 x4 σ h1 h2 h3 h4 h5 h6; omega
  | succ n ih =>
    intro x2 x3 x4 σ hI e1 e2 e3 hw h4
    rw [f_X11_readers_30]
    unfold f_X11_readers_59
    have lt_1 := li_1
    have p16 := hI.1.1
    obtain ⟨p61, p62⟩ := p16
    have a1 := il_addE (x := x4) (y := 1) (by omega) (by omega)
    refine OK.ile (fun _ => OK.tb hI e1 e2 e3) (fun h => ?_)
    refine OK.bnd (hI.vd w x4 hw (by omega)) (fun q hq => ?_)
    obtain ⟨q1, q2, q3, q4⟩ := hq
    refine OK.ilt (fun _ => ?_) (fun _ => ?_)
    · exact ih _ _ _ _ q1 (q2.trans e1) (q3.trans e2) (q4.trans e3) (by rw [q4]; exact hw) (by omega)
    · exact ih _ _ _ _ q1 (q2.trans e1) (q3.trans e2) (q4.trans e3) (by rw [q4]; exact hw) (by omega)
theorem b_readers (p0 p1 : Int32) (σ : ST) (hI : IB σ) : OK (f_X11_readers p0 p1 σ) (RTB σ) := by
  unfold f_X11_readers
  have lt_0 := li_0
  have lu := FUi
  have hs := hI.th 0
  have e1 : (stI σ 0 0 0).1 0 2 = σ.1 0 2 := rfl
  have e2 : (stI σ 0 0 0).1 1 = σ.1 1 := rfl
  have e3 : (stI σ 0 0 0).1 0 32 = σ.1 0 32 := rfl
  generalize stI σ 0 0 0 = s at hs e1 e2 e3 ⊢
  refine OK.bndR (b_isPlanAt p0 s hs.1.1) (fun v hv => ?_)
  dsimp only
  refine OK.ieq (fun _ => OK.tb hs e1 e2 e3) (fun _ => ?_)
  refine OK.bndR (b_within _ _ _ _) (fun w hw => ?_)
  dsimp only
  refine OK.ieq (fun _ => OK.tb hs e1 e2 e3) (fun _ => ?_)
  exact b_readers_30 p0 σ FU _ _ _ s hs e1 e2 e3 (by omega) (by omega)
/-- what reading leaves -/
theorem IB.rd {σ : ST} {q : Int32 × ST} (h : IB σ) (c : CH FC FI σ q.2) (r : RF q) : IB q.2 ∧ q.2.1 0 2 = σ.1 0 2 ∧ q.2.1 1 = σ.1 1 ∧ q.2.1 0 32 = σ.1 0 32 := by
  obtain ⟨r1, r2, r3, r4, r5, r6, r7, r8⟩ := r
  refine ⟨⟨r1, r2, ?_, ?_, ?_, r3, r4, r5, r6, r7⟩, c.2.1 2 (by decide), c.1 1 (by decide) (by decide), c.2.1 32 (by decide)⟩
  · rw [c.1 32 (by decide) (by decide), c.2.1 32 (by decide)]; exact h.2.2.1
  · rw [c.1 33 (by decide) (by decide)]; exact h.2.2.2.1
  · rw [c.1 38 (by decide) (by decide)]; exact h.2.2.2.2.1
theorem IB.rfor {σ : ST} (h : IB σ) (m p : Int32) (hm : 0 ≤ m.toInt ∧ m.toInt < 4) (h0 : 0 ≤ (σ.1 32 m.toNatClampNeg).toInt) (h1 : 0 ≤ p.toInt ∧ p.toInt < (σ.1 0 32).toInt) : OK (f_X11_readsFor m p σ) (fun q => (IB q.2 ∧ q.2.1 0 2 = σ.1 0 2 ∧ q.2.1 1 = σ.1 1 ∧ q.2.1 0 32 = σ.1 0 32) ∧ (q.1.toInt < 0 ∨ q.1.toInt = 0 ∧ ∃ LV, NL LV q.2 ∧ (0 < (q.2.1 0 46).toInt ∧ (q.2.1 0 46).toInt ≤ 400))) := (b_readsFor m p σ h.1 h.2.1 h.2.2.2.2.2.1 h.2.2.2.1 h.2.2.2.2.2.2.2.2.1 h.2.2.2.2.2.2.2.2.2 hm (h.mp hm h0) h1).mono (fun q hq => ⟨h.rd hq.1 hq.2, hq.2.2.2.2.2.2.2.2⟩)
theorem b_read (p0 p1 : Int32) (σ : ST) (hI : IB σ) : OK (f_X11_read p0 p1 σ) (RTB σ) := by
  unfold f_X11_read
  have lt_0 := li_0
  have hs := hI.th 0
  have e1 : (stI σ 0 0 0).1 0 2 = σ.1 0 2 := rfl
  have e2 : (stI σ 0 0 0).1 1 = σ.1 1 := rfl
  have e3 : (stI σ 0 0 0).1 0 32 = σ.1 0 32 := rfl
  generalize stI σ 0 0 0 = s at hs e1 e2 e3 ⊢
  refine OK.bndR (b_isMessage p0 s) (fun v hv => ?_)
  dsimp only
  refine OK.ieq (fun _ => OK.tb hs e1 e2 e3) (fun _ => ?_)
  refine OK.bndR (b_isPlanAt p1 s hs.1.1) (fun w hw => ?_)
  dsimp only
  refine OK.ieq (fun _ => OK.tb hs e1 e2 e3) (fun _ => ?_)
  refine OK.bnd (hs.rfor p0 p1 (by omega) (by omega) (by omega)) (fun q hq => ?_)
  have d : ∀ v : Int32, OK (some (v, q.2)) (RTB σ) := fun v => OK.tb hq.1.1 (hq.1.2.1.trans e1) (hq.1.2.2.1.trans e2) (hq.1.2.2.2.trans e3)
  exact OK.ile (fun _ => d _) (fun _ => d _)
theorem b_convert (p0 p1 p2 : Int32) (σ : ST) (hI : IB σ) : OK (f_X11_convert p0 p1 p2 σ) (RTB σ) := by
  unfold f_X11_convert
  have lt_0 := li_0
  have l0 := l64_0
  have l3 := l64_3
  have hs := hI.th 0
  have e1 : (stI σ 0 0 0).1 0 2 = σ.1 0 2 := rfl
  have e2 : (stI σ 0 0 0).1 1 = σ.1 1 := rfl
  have e3 : (stI σ 0 0 0).1 0 32 = σ.1 0 32 := rfl
  generalize stI σ 0 0 0 = s at hs e1 e2 e3 ⊢
  refine OK.bndR (b_isMessage p0 s) (fun v hv => ?_)
  dsimp only
  refine OK.ieq (fun _ => OK.tb hs e1 e2 e3) (fun _ => ?_)
  refine OK.bndR (b_isPlanAt p1 s hs.1.1) (fun w hw => ?_)
  dsimp only
  refine OK.ieq (fun _ => OK.tb hs e1 e2 e3) (fun _ => ?_)
  have a3 := i64 p2
  refine OK.bndR (b_within _ _ _ _) (fun x hx => ?_)
  dsimp only
  refine OK.ieq (fun _ => OK.tb hs e1 e2 e3) (fun _ => ?_)
  refine OK.bnd (hs.rfor p0 p1 (by omega) (by omega) (by omega)) (fun q hq => ?_)
  have d : ∀ v : Int32, OK (some (v, q.2)) (RTB σ) := fun v => OK.tb hq.1.1 (hq.1.2.1.trans e1) (hq.1.2.2.1.trans e2) (hq.1.2.2.2.trans e3)
  refine OK.ile (fun h9 => ?_) (fun _ => d _)
  obtain ⟨⟨q1, q2, q3, q4⟩, q5⟩ := hq
  rcases q5 with q5 | ⟨q5, LV, hN, hS⟩
  · omega
  refine OK.bndZ (b_writesTree q.2 hN hS.1) (fun t ct ht => ?_)
  have It : IB t := by
    refine ⟨q1.1.ch ct (by decide) (by decide), ?_, ?_, ?_, ?_, ?_, ?_, ?_, ?_, ?_⟩
    · unfold PB
      rw [ct.1 35 (by decide) (by decide)]; exact q1.2.1
    · rw [ct.1 32 (by decide) (by decide), ct.2.1 32 (by decide)]; exact q1.2.2.1
    · rw [ct.1 33 (by decide) (by decide)]; exact q1.2.2.2.1
    · rw [ct.1 38 (by decide) (by decide)]; exact q1.2.2.2.2.1
    · rw [ct.2.1 68 (by decide)]; exact q1.2.2.2.2.2.1
    · rw [ct.2.1 73 (by decide)]; exact q1.2.2.2.2.2.2.1
    · rw [ct.2.1 83 (by decide)]; exact q1.2.2.2.2.2.2.2.1
    · rw [ct.2.1 92 (by decide)]; exact q1.2.2.2.2.2.2.2.2.1
    · unfold TH
      rw [ct.1 45 (by decide) (by decide)]; exact q1.2.2.2.2.2.2.2.2.2
  have t2 : t.1 0 2 = σ.1 0 2 := by rw [ct.2.1 2 (by decide), q2]; exact e1
  have t1 : t.1 1 = σ.1 1 := by rw [ct.1 1 (by decide) (by decide), q3]; exact e2
  have t3 : t.1 0 32 = σ.1 0 32 := by rw [ct.2.1 32 (by decide), q4]; exact e3
  have t3s : (t.1 0 32).toInt = (s.1 0 32).toInt := by rw [t3, e3]
  refine OK.ieq (fun _ => ?_) (fun _ => OK.tb It t2 t1 t3)
  refine OK.bndZ (b_becomes p2 p1 t ht (by omega)) (fun u cu hu => ?_)
  have n2 := nN_ (x := p2) (by omega)
  refine OK.tb ⟨It.1.ch cu (by decide) (by decide), ?_, ?_, ?_, ?_, ?_, ?_, ?_, ?_, ?_⟩ ?_ ?_ ?_
  · unfold PB
    rw [cu.1 35 (by decide) (by decide)]; exact It.2.1
  · rw [hu.1, cu.2.1 32 (by decide)]
    intro i hi
    unfold upd
    split
    · omega
    · exact It.2.2.1 i hi
  · rw [hu.2]
    exact upd_all (P := fun x => bI x 0 400) It.2.2.2.1 ht
  · rw [cu.1 38 (by decide) (by decide)]; exact It.2.2.2.2.1
  · rw [cu.2.1 68 (by decide)]; exact It.2.2.2.2.2.1
  · rw [cu.2.1 73 (by decide)]; exact It.2.2.2.2.2.2.1
  · rw [cu.2.1 83 (by decide)]; exact It.2.2.2.2.2.2.2.1
  · rw [cu.2.1 92 (by decide)]; exact It.2.2.2.2.2.2.2.2.1
  · unfold TH
    rw [cu.1 45 (by decide) (by decide)]; exact It.2.2.2.2.2.2.2.2.2
  · rw [cu.2.1 2 (by decide)]; exact t2
  · rw [cu.1 1 (by decide) (by decide)]; exact t1
  · rw [cu.2.1 32 (by decide)]; exact t3
theorem b_failure (p0 : Int32) (σ : ST) (hI : IB σ) : OK (f_X11_failure p0 σ) (RTB σ) := by
  unfold f_X11_failure
  have hs := hI.th 0
  have d : ∀ v : Int32, OK (some (v, stI σ 0 0 0)) (RTB σ) := fun v => OK.tb hs rfl rfl rfl
  exact OK.ieq (fun _ => d _) (fun _ => OK.ieq (fun _ => d _) (fun _ => OK.ieq (fun _ => d _) (fun _ => OK.ieq (fun _ => d _) (fun _ => d _))))
theorem b_failureStep (p0 : Int32) (σ : ST) (hI : IB σ) : OK (f_X11_failureStep p0 σ) (RTB σ) := by
  unfold f_X11_failureStep
  have lt_0 := li_0
  have lt_1 := li_1
  have l0 := l64_0
  have hs := hI.th 0
  have d : ∀ v : Int32, OK (some (v, stI σ 0 0 0)) (RTB σ) := fun v => OK.tb hs rfl rfl rfl
  generalize stI σ 0 0 0 = s at hs d ⊢
  refine OK.ile (fun _ => d _) (fun _ => ?_)
  obtain ⟨m1, m2⟩ := hs.2.2.2.2.2.2.2.1
  have a1 := il_subE (x := s.1 0 83) (y := 1) (by omega) (by omega)
  have a2 := i64 (s.1 0 83 - 1)
  have a3 := i64 p0
  refine OK.bndR (b_within _ _ _ _) (fun y hy => ?_)
  dsimp only
  exact OK.ieq (fun _ => d _) (fun _ => OK.grd ⟨by omega, by omega⟩ (d _))
theorem b_node (p0 p1 : Int32) (σ : ST) (hI : IB σ) : OK (f_X11_node p0 p1 σ) (RTB σ) := by
  unfold f_X11_node f_X11_node_33
  have lt_0 := li_0
  have lt_1 := li_1
  have l0 := l64_0
  obtain ⟨m1, m2⟩ := hI.2.2.2.2.2.2.1
  have a1 := il_subE (x := σ.1 0 73) (y := 1) (by omega) (by omega)
  have a2 := i64 (σ.1 0 73 - 1)
  have a3 := i64 p0
  have no : OK (f_X11_node_34 p0 p1 1 σ) (RTB σ) := by
    unfold f_X11_node_34
    refine OK.ile (fun h => ?_) (fun _ => OK.tb (hI.th 1) rfl rfl rfl)
    have h : (1 : Int32).toInt ≤ (0 : Int32).toInt := h
    omega
  refine OK.bndR (b_within _ _ _ _) (fun y hy => ?_)
  dsimp only
  refine OK.ieq (fun _ => no) (fun _ => ?_)
  refine OK.bndR (b_within _ _ _ _) (fun z hz => ?_)
  dsimp only
  refine OK.ieq (fun _ => no) (fun _ => ?_)
  unfold f_X11_node_34
  have g : 0 ≤ p0.toInt ∧ p0.toInt < 400 := by omega
  have d : ∀ v : Int32, OK (some (v, stI σ 0 0 0)) (RTB σ) := fun v => OK.tb (hI.th 0) rfl rfl rfl
  refine OK.ile (fun _ => ?_) (fun _ => d _)
  refine OK.ieq (fun _ => OK.grd g (d _)) (fun _ => ?_)
  refine OK.ieq (fun _ => OK.grd g (d _)) (fun _ => ?_)
  refine OK.ieq (fun _ => OK.grd g (d _)) (fun _ => ?_)
  refine OK.ieq (fun _ => OK.grd g (d _)) (fun _ => ?_)
  exact OK.grd g (OK.ieq (fun _ => d _) (fun _ => d _))
theorem b_value_ (p0 : Int32) (σ : ST) (hI : IB σ) : OK (f_X11_value_ p0 σ) (RTB σ) := by
  unfold f_X11_value_ f_X11_value__22
  have lt_0 := li_0
  have lt_1 := li_1
  have l0 := l64_0
  obtain ⟨m1, m2⟩ := hI.2.2.2.2.2.2.1
  have a1 := il_subE (x := σ.1 0 73) (y := 1) (by omega) (by omega)
  have a2 := i64 (σ.1 0 73 - 1)
  have a3 := i64 p0
  refine OK.bndR (b_within _ _ _ _) (fun y hy => ?_)
  dsimp only
  refine OK.ieq (fun _ => ?_) (fun _ => ?_)
  · refine OK.ile (fun h => ?_) (fun _ => OK.tb (hI.th 1) rfl rfl rfl)
    have h : (1 : Int32).toInt ≤ (0 : Int32).toInt := h
    omega
  · exact OK.ile (fun _ => OK.grd ⟨by omega, by omega⟩ (OK.tb (hI.th 0) rfl rfl rfl)) (fun _ => OK.tb (hI.th 0) rfl rfl rfl)
theorem b_letter_75 : ∀ (n : Nat) (x2 : Int32) (x3 : Int64) (x5 : Int32) (σ : ST), 0 ≤ x2.toInt → (x5.toInt ≤ 500 ∧ x5.toInt < n + x2.toInt) → 0 < n → OK (f_X11_letter_75 n x2 x3 x5 σ) (RO σ fun _ => True) := by
  intro n
  induction n with
  | zero => intro x2 x3 x5 σ h1 h2 h3; omega
  | succ n ih =>
    intro x2 x3 x5 σ h1 h2 h3
    rw [f_X11_letter_75]
    have lm := li_m1
    refine OK.ile (fun _ => OK.roret trivial) (fun h => ?_)
    have a1 := il_addE (x := x5) (y := -1) (by omega) (by omega)
    exact ih x2 _ (x5 + (-1)) σ h1 (by omega) (by omega)
theorem b_letter (p0 p1 : Int32) (σ : ST) (hI : IB σ) : OK (f_X11_letter p0 p1 σ) (RTB σ) := by
  unfold f_X11_letter f_X11_letter_35
  have lt_0 := li_0
  have lt_1 := li_1
  have lu := FUi
  have l0 := l64_0
  obtain ⟨m1, m2⟩ := hI.2.2.2.2.2.2.1
  have a1 := il_subE (x := σ.1 0 73) (y := 1) (by omega) (by omega)
  have a2 := i64 (σ.1 0 73 - 1)
  have a3 := i64 p0
  have no : OK (f_X11_letter_36 p0 p1 1 σ) (RTB σ) := by
    unfold f_X11_letter_36
    refine OK.ilt (fun _ => OK.tb (hI.th 1) rfl rfl rfl) (fun h => ?_)
    have h : (1 : Int32).toInt ≤ (0 : Int32).toInt := h
    omega
  refine OK.bndR (b_within _ _ _ _) (fun y hy => ?_)
  dsimp only
  refine OK.ieq (fun _ => no) (fun _ => ?_)
  have g : 0 ≤ p0.toInt ∧ p0.toInt < 400 := by omega
  refine OK.grd g ?_
  refine OK.ieq (fun _ => ?_) (fun _ => no)
  refine OK.ilt (fun _ => no) (fun hp1 => ?_)
  unfold f_X11_letter_36
  refine OK.ilt (fun _ => OK.tb (hI.th 0) rfl rfl rfl) (fun _ => ?_)
  refine OK.grd g ?_
  refine OK.ilt (fun h9 => ?_) (fun _ => OK.tb (hI.th 0) rfl rfl rfl)
  have t := hI.2.2.2.2.2.2.2.2.2 p0.toNatClampNeg
  obtain ⟨t1, t2⟩ := t
  have b1 := il_subE (x := σ.1 45 p0.toNatClampNeg) (y := 1) (by omega) (by omega)
  refine OK.mono (b_letter_75 FU p1 _ (σ.1 45 p0.toNatClampNeg - 1) (stI σ 0 0 0) (by omega) (by omega) (by omega)) (fun q hq => ?_)
  have e : q.2 = stI σ 0 0 0 := hq.1
  unfold RTB
  rw [e]
  exact ⟨hI.th 0, rfl, rfl, rfl⟩
theorem b_kept (p0 : Int32) (σ : ST) (hI : IB σ) : OK (f_X11_kept p0 σ) (RTB σ) := by
  unfold f_X11_kept
  have lt_0 := li_0
  have lt_1 := li_1
  have l0 := l64_0
  have hs := hI.th 0
  have d : ∀ v : Int32, OK (some (v, stI σ 0 0 0)) (RTB σ) := fun v => OK.tb hs rfl rfl rfl
  generalize stI σ 0 0 0 = s at hs d ⊢
  refine OK.ieq (fun _ => d _) (fun _ => ?_)
  obtain ⟨m1, m2⟩ := hs.2.2.2.2.2.2.2.2.1
  have a1 := il_subE (x := s.1 0 92) (y := 1) (by omega) (by omega)
  have a2 := i64 (s.1 0 92 - 1)
  have a3 := i64 p0
  refine OK.bndR (b_within _ _ _ _) (fun y hy => ?_)
  dsimp only
  exact OK.ieq (fun _ => d _) (fun _ => OK.grd ⟨by omega, by omega⟩ (d _))
theorem b_messageSet_4 : ∀ (n : Nat) (x1 x2 : Int32) (σ : ST), (0 ≤ x2.toInt ∧ x2.toInt ≤ 4 ∧ (4 : Int) - x2.toInt < n) → OK (f_X11_messageSet_4 n x1 x2 σ) (RO σ fun _ => True) := by
  intro n
  induction n with
  | zero => intro x1 x2 σ h; omega
  | succ n ih =>
    intro x1 x2 σ h
    rw [f_X11_messageSet_4]
    unfold f_X11_messageSet_26
    have lt_1 := li_1
    have lt_4 := li_4
    refine OK.ile (fun _ => OK.roret trivial) (fun h4 => ?_)
    have a1 := il_addE (x := x2) (y := 1) (by omega) (by omega)
    refine OK.grd ⟨by omega, by omega⟩ ?_
    exact OK.ilt (fun _ => ih _ _ _ (by omega)) (fun _ => ih _ _ _ (by omega))
theorem b_count (p0 : Int32) (σ : ST) (hI : IB σ) : OK (f_X11_count p0 σ) (RTB σ) := by
  unfold f_X11_count
  have lt_0 := li_0
  have lu := FUi
  have hs := hI.th 0
  have d : ∀ v : Int32, OK (some (v, stI σ 0 0 0)) (RTB σ) := fun v => OK.tb hs rfl rfl rfl
  refine OK.ieq (fun _ => d _) (fun _ => ?_)
  refine OK.ieq (fun _ => ?_) (fun _ => ?_)
  · unfold f_X11_messageSet
    refine OK.bndR (b_messageSet_4 FU 0 0 (stI σ 0 0 0) (by omega)) (fun v _ => ?_)
    exact d _
  exact OK.ieq (fun _ => d _) (fun _ => OK.ieq (fun _ => d _) (fun _ => OK.ieq (fun _ => d _) (fun _ => OK.ieq (fun _ => d _) (fun _ => d _))))
/-- the trial reading of two messages -/
def AX (σ0 σ : ST) : Prop := IB σ ∧ σ.1 0 2 = σ0.1 0 2 ∧ σ.1 1 = σ0.1 1 ∧ σ.1 0 32 = σ0.1 0 32
theorem IB.rall {σ : ST} (h : IB σ) (m p : Int32) (hm : 0 ≤ m.toInt ∧ m.toInt < 4) (h0 : 0 ≤ (σ.1 32 m.toNatClampNeg).toInt) (h1 : 0 ≤ p.toInt ∧ p.toInt < (σ.1 0 32).toInt) : OK (f_X11_readsAll m p σ) (fun q => AX σ q.2 ∧ q.2.1 32 = σ.1 32 ∧ (q.1.toInt < 0 ∨ q.1.toInt = 0 ∧ ∃ LV, NL LV q.2 ∧ (0 < (q.2.1 0 46).toInt ∧ (q.2.1 0 46).toInt ≤ 400))) := by
  refine (b_readsAll m p σ h.1 h.2.1 h.2.2.2.2.2.1 h.2.2.2.1 hm (h.mp hm h0) h1).mono (fun q hq => ?_)
  obtain ⟨c, r1, r2, r3, r4⟩ := hq
  refine ⟨⟨⟨r1, r2, ?_, ?_, ?_, r3, ?_, ?_, ?_, ?_⟩, c.2.1 2 (by decide), c.1 1 (by decide) (by decide), c.2.1 32 (by decide)⟩, c.1 32 (by decide) (by decide), ?_⟩
  · rw [c.1 32 (by decide) (by decide), c.2.1 32 (by decide)]; exact h.2.2.1
  · rw [c.1 33 (by decide) (by decide)]; exact h.2.2.2.1
  · rw [c.1 38 (by decide) (by decide)]; exact h.2.2.2.2.1
  · rw [c.2.1 73 (by decide)]; exact h.2.2.2.2.2.2.1
  · rw [c.2.1 83 (by decide)]; exact h.2.2.2.2.2.2.2.1
  · rw [c.2.1 92 (by decide)]; exact h.2.2.2.2.2.2.2.2.1
  · unfold TH
    rw [c.1 45 (by decide) (by decide)]; exact h.2.2.2.2.2.2.2.2.2
  · rcases r4 with r4 | r4 | r4
    · exact .inl (by omega)
    · exact .inl (by omega)
    · exact .inr r4
theorem AX.ch {C I : List Nat} {σ0 σ t : ST} (h : AX σ0 σ) (c : CH C I σ t) (hC : ∀ c, c ∈ [1, 2, 3, 4, 5, 8, 11, 15, 19, 32, 33, 35, 38, 45] → c ∉ C) (hI : ∀ i, i ∈ [2, 32, 68, 73, 83, 92] → i ∉ I) : AX σ0 t := by
  obtain ⟨h0, h1, h2, h3⟩ := h
  refine ⟨⟨h0.1.ch c (hI 32 (by decide)) (fun x hx => hC x ?_), ?_, ?_, ?_, ?_, ?_, ?_, ?_, ?_, ?_⟩, ?_, ?_, ?_⟩
  · exact (by decide : ∀ x, x ∈ [2, 3, 4, 5, 8, 11, 15, 19] → x ∈ [1, 2, 3, 4, 5, 8, 11, 15, 19, 32, 33, 35, 38, 45]) x hx
  · unfold PB
    rw [c.1 35 (by decide) (hC 35 (by decide))]; exact h0.2.1
  · rw [c.1 32 (by decide) (hC 32 (by decide)), c.2.1 32 (hI 32 (by decide))]; exact h0.2.2.1
  · rw [c.1 33 (by decide) (hC 33 (by decide))]; exact h0.2.2.2.1
  · rw [c.1 38 (by decide) (hC 38 (by decide))]; exact h0.2.2.2.2.1
  · rw [c.2.1 68 (hI 68 (by decide))]; exact h0.2.2.2.2.2.1
  · rw [c.2.1 73 (hI 73 (by decide))]; exact h0.2.2.2.2.2.2.1
  · rw [c.2.1 83 (hI 83 (by decide))]; exact h0.2.2.2.2.2.2.2.1
  · rw [c.2.1 92 (hI 92 (by decide))]; exact h0.2.2.2.2.2.2.2.2.1
  · unfold TH
    rw [c.1 45 (by decide) (hC 45 (by decide))]; exact h0.2.2.2.2.2.2.2.2.2
  · rw [c.2.1 2 (hI 2 (by decide))]; exact h1
  · rw [c.1 1 (by decide) (hC 1 (by decide))]; exact h2
  · rw [c.2.1 32 (hI 32 (by decide))]; exact h3
theorem b_alike_172 (σ0 : ST) (x5 : Int32) (h5 : 0 ≤ x5.toInt ∧ x5.toInt ≤ 400) : ∀ (n : Nat) (x6 x7 : Int32) (σ : ST), AX σ0 σ → (0 ≤ x7.toInt ∧ x7.toInt ≤ 1600 ∧ (1600 : Int) - x7.toInt < n) → OK (f_X11_alike_172 n x5 x6 x7 σ) (RTB σ0) := by
  intro n
  induction n with
  | zero => intro x6 x7 σ h1 h2; omega
  | succ n ih =>
    intro x6 x7 σ hA h7
    rw [f_X11_alike_172]
    unfold f_X11_alike_229 f_X11_alike_230 f_X11_alike_238
    have lt_1 := li_1
    have lt_4 := li_4
    have a1 := mlE (k := 4) (y := x5) 4 li_4 (by omega) (by omega)
    have a2 := il_addE (x := x7) (y := 1) (by omega) (by omega)
    have a3 := d2 (x := x7) h7.1
    have d : ∀ v : Int32, OK (some (v, σ)) (RTB σ0) := fun v => OK.tb hA.1 hA.2.1 hA.2.2.1 hA.2.2.2
    have dd : OK (if x6 = 0 then some ((0 : Int32), σ) else some (1, σ)) (RTB σ0) := OK.ieq (fun _ => d _) (fun _ => d _)
    refine OK.ile (fun _ => dd) (fun h => ?_)
    refine OK.ieq (fun _ => dd) (fun _ => ?_)
    refine OK.grd ⟨by omega, by omega⟩ ?_
    have nx : ∀ y : Int32, OK (f_X11_alike_172 n x5 y (x7 + 1) σ) (RTB σ0) := fun y => ih y (x7 + 1) σ hA (by omega)
    refine OK.ieq (fun _ => ?_) (fun _ => nx _)
    refine OK.grd ⟨by omega, by omega⟩ ?_
    exact OK.ieq (fun _ => nx _) (fun _ => nx _)
theorem b_alike_98 (σ0 : ST) (x2 x3 x5 : Int32) (h5 : 0 ≤ x5.toInt ∧ x5.toInt ≤ 400) (h2 : 0 ≤ x2.toInt ∧ x2.toInt < 4) : ∀ (n : Nat) (x6 : Int32) (σ : ST), AX σ0 σ → 0 ≤ (σ.1 32 x2.toNatClampNeg).toInt → (0 ≤ x3.toInt ∧ x3.toInt < (σ.1 0 32).toInt) → (0 ≤ x6.toInt ∧ x6.toInt ≤ 800 ∧ (800 : Int) - x6.toInt < n) → OK (f_X11_alike_98 n x2 x3 x5 x6 σ) (RTB σ0) := by
  intro n
  induction n with
  | zero => intro x6 σ h1 h2 h3 h4; omega
  | succ n ih =>
    intro x6 σ hA h32 h3 h6
    rw [f_X11_alike_98]
    have lt_0 := li_0
    have lt_1 := li_1
    have lt_2 := li_2
    have lu := FUi
    have a1 := mlE (k := 2) (y := x5) 2 li_2 (by omega) (by omega)
    have a2 := il_addE (x := x6) (y := 1) (by omega) (by omega)
    refine OK.ile (fun _ => ?_) (fun h => ?_)
    · refine OK.bnd (hA.1.rall x2 x3 h2 h32 h3) (fun q hq => ?_)
      obtain ⟨⟨q1, q2, q3, q4⟩, q5, q6⟩ := hq
      have hA1 : AX σ0 q.2 := ⟨q1, q2.trans hA.2.1, q3.trans hA.2.2.1, q4.trans hA.2.2.2⟩
      refine OK.ile (fun _ => ?_) (fun _ => OK.tb hA1.1 hA1.2.1 hA1.2.2.1 hA1.2.2.2)
      rcases q6 with q6 | ⟨q6, LV, hN, hS⟩
      · omega
      refine OK.bndZ (b_orders q.2 hN hS.1 hS.2) (fun t ct ht => ?_)
      have hA2 : AX σ0 t := hA1.ch ct (by decide) (by decide)
      unfold f_X11_alike_167
      exact OK.ieq (fun _ => b_alike_172 σ0 x5 h5 FU _ _ t hA2 (by omega)) (fun _ => b_alike_172 σ0 x5 h5 FU _ _ t hA2 (by omega))
    · refine OK.grd ⟨by omega, by omega⟩ ?_
      exact ih (x6 + 1) _ ⟨⟨hA.1.1.of rfl rfl rfl rfl rfl rfl rfl rfl rfl, hA.1.2⟩, hA.2⟩ h32 h3 (by omega)
theorem b_alike_66 (σ0 : ST) (x2 x3 x5 : Int32) (h5 : 0 ≤ x5.toInt ∧ x5.toInt ≤ 400) (h2 : 0 ≤ x2.toInt ∧ x2.toInt < 4) : ∀ (n : Nat) (x6 : Int32) (σ : ST), AX σ0 σ → 0 ≤ (σ.1 32 x2.toNatClampNeg).toInt → (0 ≤ x3.toInt ∧ x3.toInt < (σ.1 0 32).toInt) → (0 ≤ x6.toInt ∧ x6.toInt ≤ 1600 ∧ (1600 : Int) - x6.toInt < n) → OK (f_X11_alike_66 n x2 x3 x5 x6 σ) (RTB σ0) := by
  intro n
  induction n with
  | zero => intro x6 σ h1 h2 h3 h4; omega
  | succ n ih =>
    intro x6 σ hA h32 h3 h6
    rw [f_X11_alike_66]
    have lt_0 := li_0
    have lt_1 := li_1
    have lt_4 := li_4
    have lu := FUi
    have a1 := mlE (k := 4) (y := x5) 4 li_4 (by omega) (by omega)
    have a2 := il_addE (x := x6) (y := 1) (by omega) (by omega)
    refine OK.ile (fun _ => b_alike_98 σ0 x2 x3 x5 h5 h2 FU 0 σ hA h32 h3 (by omega)) (fun h => ?_)
    refine OK.grd ⟨by omega, by omega⟩ ?_
    exact ih (x6 + 1) _ (hA.ch (C := [53]) (I := []) (CH.rf.i (by decide) (by decide)) (by decide) (by decide)) h32 h3 (by omega)
theorem b_alike (p0 p1 p2 : Int32) (σ : ST) (hI : IB σ) : OK (f_X11_alike p0 p1 p2 σ) (RTB σ) := by
  unfold f_X11_alike
  have lt_0 := li_0
  have lu := FUi
  have hs := hI.th 0
  have e1 : (stI σ 0 0 0).1 0 2 = σ.1 0 2 := rfl
  have e2 : (stI σ 0 0 0).1 1 = σ.1 1 := rfl
  have e3 : (stI σ 0 0 0).1 0 32 = σ.1 0 32 := rfl
  generalize stI σ 0 0 0 = s at hs e1 e2 e3 ⊢
  refine OK.bndR (b_isMessage p0 s) (fun v hv => ?_)
  dsimp only
  refine OK.ieq (fun _ => OK.tb hs e1 e2 e3) (fun _ => ?_)
  refine OK.bndR (b_isMessage p1 s) (fun v' hv' => ?_)
  dsimp only
  refine OK.ieq (fun _ => OK.tb hs e1 e2 e3) (fun _ => ?_)
  refine OK.bndR (b_isPlanAt p2 s hs.1.1) (fun w hw => ?_)
  dsimp only
  refine OK.ieq (fun _ => OK.tb hs e1 e2 e3) (fun _ => ?_)
  refine OK.bnd (hs.rall p0 p2 (by omega) (by omega) (by omega)) (fun q hq => ?_)
  obtain ⟨⟨q1, q2, q3, q4⟩, q5, q6⟩ := hq
  have hA1 : AX σ q.2 := ⟨q1, q2.trans e1, q3.trans e2, q4.trans e3⟩
  refine OK.ile (fun _ => ?_) (fun _ => OK.tb hA1.1 hA1.2.1 hA1.2.2.1 hA1.2.2.2)
  rcases q6 with q6 | ⟨q6, LV, hN, hS⟩
  · omega
  refine OK.bndZ (b_orders q.2 hN hS.1 hS.2) (fun t ct ht => ?_)
  have hA2 : AX σ t := hA1.ch ct (by decide) (by decide)
  refine b_alike_66 σ p1 p2 _ ⟨ht.1, ht.2⟩ (by omega) FU 0 t hA2 ?_ ?_ (by omega)
  · rw [ct.1 32 (by decide) (by decide), q5]; omega
  · rw [ct.2.1 32 (by decide), q4]; omega
theorem OK.c0 {α : Type} {o : Option (α × ST)} {f : α × ST → Int32} {σ : ST} (h : OK o (RTB σ)) : OK (o.bind fun q => some ((f q, q.2), 0)) (fun q : (Int32 × ST) × Nat => RTB σ q.1 ∧ q.2 = 0) := by
  obtain ⟨q, e, hq⟩ := h
  exact ⟨((f q, q.2), 0), by rw [e]; rfl, hq, rfl⟩
/-- every call of the reference but feed, plans, write -/
theorem callsB (j : Nat) (h3 : 3 ≤ j) (pr : Nat → Int32) (σ : ST) (hI : IB σ) : OK (fB j pr σ) (fun q => RTB σ q.1 ∧ q.2 = 0) := by
  match j, h3 with
  | 3, _ => exact (b_record_ _ _ _ _ hI).c0
  | 4, _ => exact (b_field_ _ _ _ _ _ hI).c0
  | 5, _ => exact (b_message _ _ _ hI).c0
  | 6, _ => exact (b_byteAt_ _ _ _ hI).c0
  | 7, _ => exact (b_spoil _ _ _ _ hI).c0
  | 8, _ => exact (b_cut _ _ _ hI).c0
  | 9, _ => exact (b_matches _ _ _ hI).c0
  | 10, _ => exact (b_miss _ _ _ _ _ hI).c0
  | 11, _ => exact (b_missStep _ _ _ _ _ hI).c0
  | 12, _ => exact (b_readers _ _ _ hI).c0
  | 13, _ => exact (b_read _ _ _ hI).c0
  | 14, _ => exact (b_failure _ _ hI).c0
  | 15, _ => exact (b_failureStep _ _ hI).c0
  | 16, _ => exact (b_node _ _ _ hI).c0
  | 17, _ => exact (b_value_ _ _ hI).c0
  | 18, _ => exact (b_letter _ _ _ hI).c0
  | 19, _ => exact (b_convert _ _ _ _ hI).c0
  | 20, _ => exact (b_alike _ _ _ _ hI).c0
  | 21, _ => exact (b_kept _ _ hI).c0
  | 22, _ => exact (b_count _ _ hI).c0
  | j + 23, _ => exact ⟨_, rfl, ⟨hI, rfl, rfl, rfl⟩, rfl⟩
/-! the reference: tokens -/
theorem and255 (x : Int32) : (x &&& 255).toInt = x.toInt % 256 := by
  have h1 : (x &&& 255).toBitVec.toNat = x.toBitVec.toNat % 256 := by
    show (x.toBitVec &&& (255 : Int32).toBitVec).toNat = _
    rw [BitVec.toNat_and]
    exact Nat.and_two_pow_sub_one_eq_mod x.toBitVec.toNat 8
  have h2 : (x &&& 255).toInt = ((x &&& 255).toBitVec.toNat : Int) := BitVec.toInt_eq_toNat_of_lt (by rw [h1]; have := Nat.mod_lt x.toBitVec.toNat (show 0 < 256 by decide); omega)
  have h3 : x.toInt = (x.toBitVec.toNat : Int) ∨ x.toInt = (x.toBitVec.toNat : Int) - 4294967296 := by
    have h4 : x.toInt = x.toBitVec.toInt := rfl
    rw [h4, BitVec.toInt_eq_toNat_cond]
    split
    · exact .inl rfl
    · exact .inr rfl
  rw [h2, h1]
  omega
/-- a byte of the text; none behind it -/
def bt (T : Nat → Int32) (n : Int) (k : Nat) : Int := if (k : Int) < n then (T k).toInt % 256 else -1
theorem bt_rng {T : Nat → Int32} {n : Int} {k : Nat} : -1 ≤ bt T n k ∧ bt T n k ≤ 255 ∧ (0 ≤ bt T n k ↔ (k : Int) < n) := by
  unfold bt
  split <;> omega
def isL (c : Int) : Prop := 97 ≤ c ∧ c ≤ 122
def isD (c : Int) : Prop := 48 ≤ c ∧ c ≤ 57
def isB (c : Int) : Prop := c = 32 ∨ c = 10
/-- so many from there on, and no more -/
def RUN (P : Int → Prop) (T : Nat → Int32) (n : Int) (s m : Nat) : Prop := (∀ i, i < m → P (bt T n (s + i))) ∧ ¬ P (bt T n (s + m))
theorem RUN.uniq {P : Int → Prop} {T : Nat → Int32} {n : Int} {s m k : Nat} (h : RUN P T n s m) (h2 : RUN P T n s k) : m = k := by
  rcases Nat.lt_trichotomy m k with h3 | h3 | h3
  · exact absurd (h2.1 m h3) h.2
  · exact h3
  · exact absurd (h.1 k h3) h2.2
/-- the letters' number, the first ones highest, by 27 -/
def w27 (T : Nat → Int32) (s : Nat) : Nat → Int64
  | 0 => 0
  | k + 1 => 27 * w27 T s k + (T (s + k) &&& 255).toInt64 - 96
/-- the digits' number -/
def dv (T : Nat → Int32) (s : Nat) : Nat → Int64
  | 0 => 0
  | k + 1 => 10 * dv T s k + (T (s + k) &&& 255).toInt64 - 48
theorem b_byteAt (p0 : Int32) (σ : ST) (h0 : 0 ≤ p0.toInt) (hn : bI (σ.1 0 3) 0 1000) : OK (f_X11_byteAt p0 σ) (RO σ fun v => v.toInt = bt (σ.1 1) (σ.1 0 3).toInt p0.toNatClampNeg ∧ ((p0.toNatClampNeg : Int) < (σ.1 0 3).toInt → v = (σ.1 1 p0.toNatClampNeg &&& 255))) := by
  unfold f_X11_byteAt
  obtain ⟨n1, n2⟩ := hn
  have np := nN_ h0
  have lm := li_m1
  refine OK.ile (fun h => OK.roret ⟨?_, fun h9 => by omega⟩) (fun h => ?_)
  · unfold bt
    rw [if_neg (by omega)]
    exact lm
  · refine OK.grd ⟨by omega, by omega⟩ ?_
    refine OK.roret ⟨?_, fun _ => rfl⟩
    unfold bt
    rw [if_pos (by omega), and255]
theorem b_isDigit (p0 : Int32) (σ : ST) : OK (f_X11_isDigit p0 σ) (RO σ fun v => v.toInt = 0 ∧ ¬ isD p0.toInt ∨ v.toInt = 1 ∧ isD p0.toInt) := by
  unfold f_X11_isDigit isD
  have e := i64 p0
  have l1 : (48 : Int64).toInt = 48 := by decide
  have l2 : (57 : Int64).toInt = 57 := by decide
  refine OK.bndR (b_within _ _ _ _) (fun v hv => ?_)
  dsimp only
  refine OK.grd (b01 (by omega)) ?_
  exact OK.roret (by omega)
abbrev GI : List Nat := [4, 5, 6, 8, 10, 13]
theorem b_word_10 (x1 : Int32) (T : Nat → Int32) (n : Int) (s : Nat) (hx1 : 0 ≤ x1.toInt) : ∀ (f k : Nat) (σ : ST), σ.1 1 = T → (σ.1 0 3).toInt = n → (0 ≤ n ∧ n ≤ 1000) → (σ.1 0 5).toInt = s + k → (σ.1 0 8).toInt = k → σ.2.1 0 7 = w27 T s (min k x1.toInt.toNat) → (∀ i, i < k → isL (bt T n (s + i))) → ((s + k : Nat) : Int) ≤ 1001 → 1001 < f + s + k → OK (f_X11_word_10 f x1 σ) (RZ [] [5, 8] σ fun t => ∃ m, RUN isL T n s m ∧ (t.1 0 5).toInt = s + m ∧ (t.1 0 8).toInt = m ∧ t.2.1 0 7 = w27 T s (min m x1.toInt.toNat)) := by
  intro f
  induction f with
  | zero => intro k σ h1 h2 h3 h4 h5 h6 h7 h8 h9; omega
  | succ f ih =>
    intro k σ hT hn hn2 h5 h8 hw hl hk hf
    rw [f_X11_word_10]
    have lt_0 := li_0
    have lt_1 := li_1
    have np : (σ.1 0 5).toNatClampNeg = s + k := nC (by omega)
    have hb := b_byteAt (σ.1 0 5) σ (by omega) ⟨by omega, by omega⟩
    rw [np, hT, hn] at hb
    refine OK.bndR hb (fun v hv => ?_)
    dsimp only
    refine OK.bndR (b_isLetter _ _) (fun w hwl => ?_)
    dsimp only
    refine OK.ieq (fun h0 => ?_) (fun h0 => ?_)
    · refine OK.zret CH.rf ⟨k, ⟨hl, ?_⟩, by omega, h8, hw⟩
      unfold isL
      rw [← hv.1]
      omega
    · have hL : isL (bt T n (s + k)) := by
        unfold isL
        rw [← hv.1]
        omega
      have hlt := (bt_rng (T := T) (n := n) (k := s + k)).2.2.mp (by unfold isL at hL; omega)
      have e5 := il_addE (x := σ.1 0 5) (y := 1) (by omega) (by omega)
      have e8 := il_addE (x := σ.1 0 8) (y := 1) (by omega) (by omega)
      have hl' : ∀ i, i < k + 1 → isL (bt T n (s + i)) := fun i hi => by
        by_cases e : i = k
        · rw [e]; exact hL
        · exact hl i (by omega)
      have nx : ∀ y : Int64, y = w27 T s (min (k + 1) x1.toInt.toNat) → OK (f_X11_word_62 (f_X11_word_10 f) x1 y σ) (RZ [] [5, 8] σ fun t => ∃ m, RUN isL T n s m ∧ (t.1 0 5).toInt = s + m ∧ (t.1 0 8).toInt = m ∧ t.2.1 0 7 = w27 T s (min m x1.toInt.toNat)) := fun y hy => by
        unfold f_X11_word_62
        refine OK.lt (fun z hz => ?_)
        have cz : CH [] [5, 8] σ z := by rw [hz]; exact ((CH.rf.l (by decide) (by decide) (by decide) (by decide) (by decide)).o (by decide)).o (by decide)
        have z1 : z.1 1 = T := by rw [hz]; exact hT
        have z3 : z.1 0 3 = σ.1 0 3 := by rw [hz]; rfl
        have z5 : z.1 0 5 = σ.1 0 5 + 1 := by rw [hz]; rfl
        have z8 : z.1 0 8 = σ.1 0 8 + 1 := by rw [hz]; rfl
        have z7 : z.2.1 0 7 = y := by rw [hz]; rfl
        refine OK.trZ (ih (k + 1) z z1 (by rw [z3]; exact hn) hn2 (by rw [z5]; omega) (by rw [z8]; omega) (by rw [z7]; exact hy) hl' (by omega) (by omega)) cz (fun _ h => h) (fun _ h => h) (fun _ _ h => h)
      refine OK.ile (fun hle => ?_) (fun hgt => ?_)
      · refine nx _ ?_
        rw [hw]
        congr 1
        omega
      · refine OK.bndR hb (fun u hu => ?_)
        dsimp only
        refine nx _ ?_
        have e1 : min k x1.toInt.toNat = k := by omega
        have e2 : min (k + 1) x1.toInt.toNat = k + 1 := by omega
        rw [hw, e1, e2, w27, hu.2 hlt]
theorem b_word (x1 : Int32) (σ : ST) (hx1 : 0 ≤ x1.toInt) (s : Nat) (hn2 : 0 ≤ (σ.1 0 3).toInt ∧ (σ.1 0 3).toInt ≤ 1000) (h5 : (σ.1 0 5).toInt = s) (hs : s ≤ 1001) : OK (f_X11_word x1 σ) (RZ [] [5, 8] σ fun t => ∃ m, RUN isL (σ.1 1) (σ.1 0 3).toInt s m ∧ (t.1 0 5).toInt = s + m ∧ (t.1 0 8).toInt = m ∧ t.2.1 0 7 = w27 (σ.1 1) s (min m x1.toInt.toNat)) := by
  unfold f_X11_word
  have lu := FUi
  refine OK.trZ (b_word_10 x1 (σ.1 1) (σ.1 0 3).toInt s hx1 FU 0 (stI (stL σ 0 7 0) 0 8 0) rfl rfl hn2 (by show (σ.1 0 5).toInt = _; omega) li_0 ?_ (fun i hi => by omega) (by omega) (by omega)) ((CH.rf.l (by decide) (by decide) (by decide) (by decide) (by decide)).o (by decide)) (fun _ h => h) (fun _ h => h) (fun _ _ h => h)
  have e : min 0 x1.toInt.toNat = 0 := by omega
  rw [e]
  rfl
/-- what a number's token is: from its digits on, with a sign ahead or not -/
def NB (T : Nat → Int32) (n : Int) (i m : Nat) (neg : Prop) (t : ST) : Prop := RUN isD T n i m ∧ (t.1 0 13).toInt = 0 ∧
  ((neg ∧ t.2.1 0 9 = -(dv T i (min m 18))) ∨ (¬ neg ∧ t.2.1 0 9 = dv T i (min m 18))) ∧
  ((bt T n (i + m) = 46 ∧ isD (bt T n (i + m + 1)) ∧ (t.1 0 10).toInt = 1 ∧ (t.1 0 5).toInt = i + m + 2 ∧ ((t.1 0 6).toInt = 2 ∧ m ≤ 18 ∧ ¬ isD (bt T n (i + m + 2)) ∨ (t.1 0 6).toInt = 5 ∧ ¬ (m ≤ 18 ∧ ¬ isD (bt T n (i + m + 2))))) ∨
   (¬ (bt T n (i + m) = 46 ∧ isD (bt T n (i + m + 1))) ∧ (t.1 0 10).toInt = 0 ∧ (t.1 0 5).toInt = i + m ∧ ((t.1 0 6).toInt = 2 ∧ m ≤ 18 ∨ (t.1 0 6).toInt = 5 ∧ ¬ m ≤ 18)))
theorem b_number_134 (x1 y0 : Int32) (T : Nat → Int32) (n : Int) (i m : Nat) (σ : ST) (hT : σ.1 1 = T) (hn : (σ.1 0 3).toInt = n) (hn2 : 0 ≤ n ∧ n ≤ 1000) (h5 : (σ.1 0 5).toInt = i + m) (him : ((i + m : Nat) : Int) ≤ 1001) (hR : RUN isD T n i m) (h9 : σ.2.1 0 9 = dv T i (min m 18)) (h13 : (σ.1 0 13).toInt = 0) (hx1 : x1.toInt = 0 ∨ x1.toInt = 1) (hy : y0.toInt = 0 ∧ ¬ m ≤ 18 ∨ y0.toInt = 1 ∧ m ≤ 18) : OK (f_X11_number_134 x1 y0 σ) (RZ [] [5, 6, 10] σ fun t => NB T n i m (x1.toInt = 1) t) := by
  have lt_0 := li_0
  have lt_1 := li_1
  have lt_2 := li_2
  have lt_5 := li_5
  have np : (σ.1 0 5).toNatClampNeg = i + m := nC (by omega)
  have e1 := il_addE (x := σ.1 0 5) (y := 1) (by omega) (by omega)
  have np1 : (σ.1 0 5 + 1).toNatClampNeg = i + m + 1 := nC (by omega)
  have e2 := il_addE (x := σ.1 0 5) (y := 2) (by omega) (by omega)
  have np2 : (σ.1 0 5 + 2).toNatClampNeg = i + m + 2 := nC (by omega)
  -- the end: the sign, and whether all is well
  have k262 : ∀ (x3 : Int32) (s : ST), CH [] [5, 6, 10] σ s → s.2.1 0 9 = dv T i (min m 18) → (∀ t : ST, t.1 0 13 = s.1 0 13 → t.1 0 10 = s.1 0 10 → t.1 0 5 = s.1 0 5 → ((t.1 0 6).toInt = 5 ∧ x3.toInt = 0 ∨ (t.1 0 6).toInt = 2 ∧ ¬ x3.toInt = 0) → ((x1.toInt = 1 ∧ t.2.1 0 9 = -(dv T i (min m 18))) ∨ (¬ x1.toInt = 1 ∧ t.2.1 0 9 = dv T i (min m 18))) → NB T n i m (x1.toInt = 1) t) → OK (f_X11_number_262 x1 x3 s) (RZ [] [5, 6, 10] σ fun t => NB T n i m (x1.toInt = 1) t) := fun x3 s cs hs9 hfin => by
    unfold f_X11_number_262 f_X11_number_279 f_X11_number_292
    have z : ∀ (y : Int64) (w : Int32), (w.toInt = 5 ∧ x3.toInt = 0 ∨ w.toInt = 2 ∧ ¬ x3.toInt = 0) → ((x1.toInt = 1 ∧ y = -(dv T i (min m 18))) ∨ (¬ x1.toInt = 1 ∧ y = dv T i (min m 18))) → OK (some (stI (stL s 0 9 y) 0 6 w)) (RZ [] [5, 6, 10] σ fun t => NB T n i m (x1.toInt = 1) t) := fun y w hw hy => OK.zret ((cs.l (by decide) (by decide) (by decide) (by decide) (by decide)).o (by decide)) (hfin _ rfl rfl rfl hw hy)
    refine OK.ieq (fun h0 => ?_) (fun h0 => ?_)
    · exact OK.ieq (fun h3 => z _ _ (by omega) (.inr ⟨by omega, hs9⟩)) (fun h3 => z _ _ (by omega) (.inr ⟨by omega, hs9⟩))
    · exact OK.ieq (fun h3 => z _ _ (by omega) (.inl ⟨by omega, by rw [hs9]⟩)) (fun h3 => z _ _ (by omega) (.inl ⟨by omega, by rw [hs9]⟩))
  have hb0 := b_byteAt (σ.1 0 5) σ (by omega) ⟨by omega, by omega⟩
  rw [np, hT, hn] at hb0
  have hb1 := b_byteAt (σ.1 0 5 + 1) σ (by omega) ⟨by omega, by omega⟩
  rw [np1, hT, hn] at hb1
  have k169 : ¬ (bt T n (i + m) = 46 ∧ isD (bt T n (i + m + 1))) → OK (f_X11_number_169 x1 y0 σ) (RZ [] [5, 6, 10] σ fun t => NB T n i m (x1.toInt = 1) t) := fun hno => by
    unfold f_X11_number_169 f_X11_number_170
    refine OK.grd (.inl rfl) ?_
    refine OK.ieq (fun _ => ?_) (fun h => absurd li_0 (by have h : ¬ (0 : Int32).toInt = (0 : Int32).toInt := h; exact absurd rfl h))
    refine k262 y0 (stI σ 0 10 0) (CH.rf.o (by decide)) h9 (fun t t13 t10 t5 t6 t9 => ⟨hR, ?_, t9, .inr ⟨hno, ?_, ?_, ?_⟩⟩)
    · rw [t13]; exact h13
    · rw [t10]; exact li_0
    · rw [t5]; exact h5
    · omega
  unfold f_X11_number_134
  refine OK.bndR hb0 (fun v hv => ?_)
  dsimp only
  have l46 : (46 : Int32).toInt = 46 := by decide
  refine OK.ieq (fun h46 => ?_) (fun h46 => k169 (fun h => by have := hv.1; omega))
  refine OK.bndR hb1 (fun v1 hv1 => ?_)
  dsimp only
  refine OK.bndR (b_isDigit _ _) (fun w hw => ?_)
  dsimp only
  refine OK.ieq (fun hw0 => k169 (fun h => ?_)) (fun hw0 => ?_)
  · rw [← hv1.1] at h
    have := h.2
    rcases hw with hw | hw
    · exact hw.2 this
    · omega
  have hD1 : isD (bt T n (i + m + 1)) := by
    rw [← hv1.1]
    rcases hw with hw | hw
    · omega
    · exact hw.2
  have hyes : bt T n (i + m) = 46 ∧ isD (bt T n (i + m + 1)) := ⟨by rw [← hv.1]; omega, hD1⟩
  unfold f_X11_number_170
  refine OK.grd (.inr rfl) ?_
  refine OK.ieq (fun h => by have h : (1 : Int32).toInt = (0 : Int32).toInt := h; omega) (fun _ => ?_)
  have hb1' := b_byteAt (σ.1 0 5 + 1) (stI σ 0 10 1) (by omega) ⟨by show 0 ≤ (σ.1 0 3).toInt; omega, by show (σ.1 0 3).toInt ≤ 1000; omega⟩
  refine OK.bndR hb1' (fun v2 hv2 => ?_)
  dsimp only
  have f1 := FP.Core.ddiv_out (FP.Core.i2d_fin (v2 - 48)).notNaN fp10_fin fp10_nz
  have f2 := FP.Core.dadd_out' (FP.Core.l2d_fin ((stI σ 0 10 1).2.1 0 9)) f1
  refine OK.grd (fl_num f1) ?_
  refine OK.grd (fl_num f2) ?_
  refine OK.lt (fun z6 hz6 => ?_)
  have c6 : CH [] [5, 6, 10] σ z6 := by rw [hz6]; exact (CH.rf.o (by decide)).d
  have a1 : z6.1 1 = T := by rw [hz6]; exact hT
  have a3 : z6.1 0 3 = σ.1 0 3 := by rw [hz6]; rfl
  have a5 : z6.1 0 5 = σ.1 0 5 := by rw [hz6]; rfl
  have a10 : (z6.1 0 10).toInt = 1 := by rw [hz6]; exact li_1
  have a13 : z6.1 0 13 = σ.1 0 13 := by rw [hz6]; rfl
  have a9 : z6.2.1 0 9 = σ.2.1 0 9 := by rw [hz6]; rfl
  have k225 : ∀ y : UInt64, OK (f_X11_number_225 x1 y0 y z6) (RZ [] [5, 6, 10] σ fun t => NB T n i m (x1.toInt = 1) t) := fun y => by
    unfold f_X11_number_225 f_X11_number_260 f_X11_number_261
    have c7 : CH [] [5, 6, 10] σ (stI (stD z6 0 11 y) 0 5 ((stD z6 0 11 y).1 0 5 + 2)) := (c6.d).o (by decide)
    have b1 : (stI (stD z6 0 11 y) 0 5 ((stD z6 0 11 y).1 0 5 + 2)).1 1 = T := a1
    have b3 : ((stI (stD z6 0 11 y) 0 5 ((stD z6 0 11 y).1 0 5 + 2)).1 0 3).toInt = n := by
      show (z6.1 0 3).toInt = n
      rw [a3]; exact hn
    have b5 : (stI (stD z6 0 11 y) 0 5 ((stD z6 0 11 y).1 0 5 + 2)).1 0 5 = σ.1 0 5 + 2 := by
      show z6.1 0 5 + 2 = _
      rw [a5]
    have b10 : ((stI (stD z6 0 11 y) 0 5 ((stD z6 0 11 y).1 0 5 + 2)).1 0 10).toInt = 1 := a10
    have b13 : ((stI (stD z6 0 11 y) 0 5 ((stD z6 0 11 y).1 0 5 + 2)).1 0 13).toInt = 0 := by
      show (z6.1 0 13).toInt = 0
      rw [a13]; exact h13
    have b9 : (stI (stD z6 0 11 y) 0 5 ((stD z6 0 11 y).1 0 5 + 2)).2.1 0 9 = dv T i (min m 18) := by
      show z6.2.1 0 9 = _
      rw [a9]; exact h9
    generalize stI (stD z6 0 11 y) 0 5 ((stD z6 0 11 y).1 0 5 + 2) = s at c7 b1 b3 b5 b10 b13 b9 ⊢
    have fin : ∀ x3 : Int32, (x3.toInt = 0 ∧ ¬ (m ≤ 18 ∧ ¬ isD (bt T n (i + m + 2))) ∨ x3.toInt = 1 ∧ m ≤ 18 ∧ ¬ isD (bt T n (i + m + 2))) → OK (f_X11_number_262 x1 x3 s) (RZ [] [5, 6, 10] σ fun t => NB T n i m (x1.toInt = 1) t) := fun x3 h3 => k262 x3 s c7 b9 (fun t t13 t10 t5 t6 t9 => ⟨hR, by rw [t13]; exact b13, t9, .inl ⟨hyes.1, hyes.2, by rw [t10]; exact b10, by rw [t5, b5]; omega, by
      rcases h3 with h3 | h3
      · exact .inr ⟨by omega, h3.2⟩
      · exact .inl ⟨by omega, h3.2⟩⟩⟩)
    refine OK.ieq (fun hy0 => fin 0 (.inl ⟨lt_0, fun h => by omega⟩)) (fun hy0 => ?_)
    have hb2 := b_byteAt (s.1 0 5) s (by rw [b5]; omega) ⟨by omega, by omega⟩
    have np2' : (s.1 0 5).toNatClampNeg = i + m + 2 := by rw [b5]; exact np2
    rw [np2', b1, b3] at hb2
    refine OK.bndR hb2 (fun v3 hv3 => ?_)
    dsimp only
    refine OK.bndR (b_isDigit _ _) (fun w3 hw3 => ?_)
    dsimp only
    rw [hv3.1] at hw3
    refine OK.ieq (fun h0 => fin 1 (.inr ⟨lt_1, by omega, ?_⟩)) (fun h0 => fin 0 (.inl ⟨lt_0, fun h => ?_⟩))
    · rcases hw3 with hw3 | hw3
      · exact hw3.2
      · omega
    · rcases hw3 with hw3 | hw3
      · omega
      · exact h.2 hw3.2
  exact OK.ieq (fun _ => k225 _) (fun _ => k225 _)
theorem b_number_47 (x1 x2 : Int32) (T : Nat → Int32) (n : Int) (i : Nat) (hn2 : 0 ≤ n ∧ n ≤ 1000) (hx1 : x1.toInt = 0 ∨ x1.toInt = 1) (hx2 : x2.toInt = i) : ∀ (f m : Nat) (σ : ST), σ.1 1 = T → (σ.1 0 3).toInt = n → (σ.1 0 5).toInt = i + m → (σ.1 0 13).toInt = 0 → σ.2.1 0 9 = dv T i (min m 18) → (∀ j, j < m → isD (bt T n (i + j))) → ((i + m : Nat) : Int) ≤ 1001 → 1001 < f + i + m → OK (f_X11_number_47 f x1 x2 σ) (RZ [] [5, 6, 10] σ fun t => ∃ m, NB T n i m (x1.toInt = 1) t) := by
  intro f
  induction f with
  | zero => intro m σ h1 h2 h3 h4 h5 h6 h7 h8; omega
  | succ f ih =>
    intro m σ hT hn h5 h13 h9 hD hm hf
    rw [f_X11_number_47]
    have lt_0 := li_0
    have lt_1 := li_1
    have lt_18 := li_18
    have np : (σ.1 0 5).toNatClampNeg = i + m := nC (by omega)
    have es := il_subE (x := σ.1 0 5) (y := x2) (by omega) (by omega)
    have hb := b_byteAt (σ.1 0 5) σ (by omega) ⟨by omega, by omega⟩
    rw [np, hT, hn] at hb
    refine OK.bndR hb (fun v hv => ?_)
    dsimp only
    refine OK.bndR (b_isDigit _ _) (fun w hw => ?_)
    dsimp only
    rw [hv.1] at hw
    refine OK.ieq (fun h0 => ?_) (fun h0 => ?_)
    · have hR : RUN isD T n i m := ⟨hD, by
        rcases hw with hw | hw
        · exact hw.2
        · omega⟩
      have fin : ∀ y0 : Int32, (y0.toInt = 0 ∧ ¬ m ≤ 18 ∨ y0.toInt = 1 ∧ m ≤ 18) → OK (f_X11_number_134 x1 y0 σ) (RZ [] [5, 6, 10] σ fun t => ∃ m, NB T n i m (x1.toInt = 1) t) := fun y0 hy => (b_number_134 x1 y0 T n i m σ hT hn hn2 h5 hm hR h9 h13 hx1 hy).mono (fun t ht => ⟨ht.1, m, ht.2⟩)
      exact OK.ilt (fun h => fin 0 (by omega)) (fun h => fin 1 (by omega))
    · have hd : isD (bt T n (i + m)) := by
        rcases hw with hw | hw
        · omega
        · exact hw.2
      have hlt := (bt_rng (T := T) (n := n) (k := i + m)).2.2.mp (by unfold isD at hd; omega)
      have e5 := il_addE (x := σ.1 0 5) (y := 1) (by omega) (by omega)
      have hD' : ∀ j, j < m + 1 → isD (bt T n (i + j)) := fun j hj => by
        by_cases e : j = m
        · rw [e]; exact hd
        · exact hD j (by omega)
      have nx : ∀ y : Int64, y = dv T i (min (m + 1) 18) → OK (f_X11_number_102 (f_X11_number_47 f) x1 x2 y σ) (RZ [] [5, 6, 10] σ fun t => ∃ m, NB T n i m (x1.toInt = 1) t) := fun y hy => by
        unfold f_X11_number_102
        refine OK.trZ (ih (m + 1) (stI (stL σ 0 9 y) 0 5 ((stL σ 0 9 y).1 0 5 + 1)) hT hn (by show (σ.1 0 5 + 1).toInt = _; omega) h13 hy hD' (by omega) (by omega)) ((CH.rf.l (by decide) (by decide) (by decide) (by decide) (by decide)).o (by decide)) (fun _ h => h) (fun _ h => h) (fun _ _ h => h)
      refine OK.ile (fun hle => ?_) (fun hgt => ?_)
      · refine nx _ ?_
        rw [h9]
        congr 1
        omega
      · refine OK.bndR hb (fun u hu => ?_)
        dsimp only
        refine nx _ ?_
        have e1 : min m 18 = m := by omega
        have e2 : min (m + 1) 18 = m + 1 := by omega
        rw [h9, e1, e2, dv, hu.2 hlt]
/-- a number's token from there on -/
def NT (T : Nat → Int32) (n : Int) (s : Nat) (t : ST) : Prop := (bt T n s = 45 ∧ ∃ m, NB T n (s + 1) m True t) ∨ (¬ bt T n s = 45 ∧ ∃ m, NB T n s m False t)
theorem NB.iff {T : Nat → Int32} {n : Int} {i m : Nat} {a b : Prop} {t : ST} (hab : a ↔ b) (h : NB T n i m a t) : NB T n i m b t := by
  have e : a = b := propext hab
  rw [← e]; exact h
theorem b_number (σ : ST) (s : Nat) (hn2 : 0 ≤ (σ.1 0 3).toInt ∧ (σ.1 0 3).toInt ≤ 1000) (h5 : (σ.1 0 5).toInt = s) (hs : s ≤ 1000) (h13 : (σ.1 0 13).toInt = 0) : OK (f_X11_number σ) (RZ [] [5, 6, 10] σ fun t => NT (σ.1 1) (σ.1 0 3).toInt s t) := by
  unfold f_X11_number f_X11_number_18 f_X11_number_33
  have lt_0 := li_0
  have lt_1 := li_1
  have lu := FUi
  have l45 : (45 : Int32).toInt = 45 := by decide
  have np : (σ.1 0 5).toNatClampNeg = s := nC (by omega)
  have hb := b_byteAt (σ.1 0 5) σ (by omega) ⟨by omega, by omega⟩
  rw [np] at hb
  have e0 := il_addE (x := σ.1 0 5) (y := 0) (by omega) (by omega)
  have e1 := il_addE (x := σ.1 0 5) (y := 1) (by omega) (by omega)
  have c : ∀ y : Int32, CH [] [5, 6, 10] σ (stL (stI σ 0 5 (σ.1 0 5 + y)) 0 9 0) := fun y => (CH.rf.o (by decide)).l (by decide) (by decide) (by decide) (by decide) (by decide)
  refine OK.bndR hb (fun v hv => ?_)
  dsimp only
  refine OK.ieq (fun h45 => ?_) (fun h45 => ?_)
  · refine OK.ieq (fun h => by omega) (fun _ => ?_)
    refine OK.trZ (b_number_47 1 (σ.1 0 5 + 1) (σ.1 1) (σ.1 0 3).toInt (s + 1) hn2 (.inr lt_1) (by omega) FU 0 (stL (stI σ 0 5 (σ.1 0 5 + 1)) 0 9 0) rfl rfl (by show (σ.1 0 5 + 1).toInt = _; omega) h13 ?_ (fun j hj => by omega) (by omega) (by omega)) (c 1) (fun _ h => h) (fun _ h => h) (fun t _ ht => ?_)
    · show (0 : Int64) = dv (σ.1 1) (s + 1) (min 0 18)
      rfl
    · obtain ⟨m, hm⟩ := ht
      exact .inl ⟨by have := hv.1; omega, m, hm.iff ⟨fun _ => trivial, fun _ => lt_1⟩⟩
  · refine OK.ieq (fun _ => ?_) (fun h => absurd rfl h)
    refine OK.trZ (b_number_47 0 (σ.1 0 5 + 0) (σ.1 1) (σ.1 0 3).toInt s hn2 (.inl lt_0) (by omega) FU 0 (stL (stI σ 0 5 (σ.1 0 5 + 0)) 0 9 0) rfl rfl (by show (σ.1 0 5 + 0).toInt = _; omega) h13 ?_ (fun j hj => by omega) (by omega) (by omega)) (c 0) (fun _ h => h) (fun _ h => h) (fun t _ ht => ?_)
    · show (0 : Int64) = dv (σ.1 1) s (min 0 18)
      rfl
    · obtain ⟨m, hm⟩ := ht
      exact .inr ⟨by have := hv.1; omega, m, hm.iff ⟨fun h => by omega, fun h => h.elim⟩⟩
/-- what the token is that begins at a place -/
def TB_ (T : Nat → Int32) (n : Int) (s : Nat) (t : ST) : Prop := (t.1 0 4).toInt = s ∧
  ((bt T n s < 0 ∧ (t.1 0 6).toInt = 0 ∧ (t.1 0 13).toInt = 0 ∧ (t.1 0 5).toInt = s) ∨
   (isL (bt T n s) ∧ (t.1 0 13).toInt = 0 ∧ ∃ m, RUN isL T n s m ∧ (t.1 0 5).toInt = s + m ∧ (t.1 0 8).toInt = m ∧ t.2.1 0 7 = w27 T s (min m 8) ∧ ((t.1 0 6).toInt = 1 ∧ m ≤ 8 ∨ (t.1 0 6).toInt = 5 ∧ ¬ m ≤ 8)) ∨
   ((isD (bt T n s) ∨ bt T n s = 45 ∧ isD (bt T n (s + 1))) ∧ NT T n s t) ∨
   (bt T n s = 34 ∧ (t.1 0 13).toInt = 0 ∧ ∃ m, RUN isL T n (s + 1) m ∧ (t.1 0 5).toInt = s + 1 + m + 1 ∧ (t.1 0 8).toInt = m ∧ ((t.1 0 6).toInt = 3 ∧ m ≤ 12 ∧ bt T n (s + 1 + m) = 34 ∨ (t.1 0 6).toInt = 5 ∧ ¬ (m ≤ 12 ∧ bt T n (s + 1 + m) = 34))) ∨
   ((0 ≤ bt T n s ∧ ¬ isL (bt T n s) ∧ ¬ isD (bt T n s) ∧ ¬ (bt T n s = 45 ∧ isD (bt T n (s + 1))) ∧ ¬ bt T n s = 34) ∧ (t.1 0 5).toInt = s + 1 ∧ (((bt T n s = 123 ∨ bt T n s = 125 ∨ bt T n s = 91 ∨ bt T n s = 93 ∨ bt T n s = 44 ∨ bt T n s = 59) ∧ (t.1 0 6).toInt = 4 ∧ (t.1 0 13).toInt = bt T n s) ∨ (¬ (bt T n s = 123 ∨ bt T n s = 125 ∨ bt T n s = 91 ∨ bt T n s = 93 ∨ bt T n s = 44 ∨ bt T n s = 59) ∧ (t.1 0 6).toInt = 5 ∧ (t.1 0 13).toInt = 0))))
/-- blanks from there up to there -/
def SK (T : Nat → Int32) (n : Int) (p s : Nat) : Prop := p ≤ s ∧ (∀ i, p ≤ i → i < s → isB (bt T n i)) ∧ ¬ isB (bt T n s)
theorem SK.uniq {T : Nat → Int32} {n : Int} {p s u : Nat} (h : SK T n p s) (k : SK T n p u) : s = u := by
  rcases Nat.lt_trichotomy s u with h3 | h3 | h3
  · exact absurd (k.2.1 s h.1 h3) h.2.2
  · exact h3
  · exact absurd (h.2.1 u k.1 h3) k.2.2
theorem b_quoted (σ : ST) (s : Nat) (hn2 : 0 ≤ (σ.1 0 3).toInt ∧ (σ.1 0 3).toInt ≤ 1000) (h5 : (σ.1 0 5).toInt = s) (hs : s < 1000) : OK (f_X11_quoted σ) (RZ [] [5, 6, 8] σ fun t => ∃ m, RUN isL (σ.1 1) (σ.1 0 3).toInt (s + 1) m ∧ (t.1 0 5).toInt = s + 1 + m + 1 ∧ (t.1 0 8).toInt = m ∧ ((t.1 0 6).toInt = 3 ∧ m ≤ 12 ∧ bt (σ.1 1) (σ.1 0 3).toInt (s + 1 + m) = 34 ∨ (t.1 0 6).toInt = 5 ∧ ¬ (m ≤ 12 ∧ bt (σ.1 1) (σ.1 0 3).toInt (s + 1 + m) = 34))) := by
  unfold f_X11_quoted f_X11_quoted_42
  have lt_0 := li_0
  have lt_1 := li_1
  have lt_12 := li_12
  have l34 : (34 : Int32).toInt = 34 := by decide
  have e1 := il_addE (x := σ.1 0 5) (y := 1) (by omega) (by omega)
  refine OK.bndZ (b_word 12 (stI σ 0 5 (σ.1 0 5 + 1)) (by omega) (s + 1) hn2 (by show (σ.1 0 5 + 1).toInt = _; omega) (by omega)) (fun t c ht => ?_)
  obtain ⟨m, hR, t5, t8, t7⟩ := ht
  have hR : RUN isL (σ.1 1) (σ.1 0 3).toInt (s + 1) m := hR
  have c' : CH [] [5, 6, 8] σ t := (CH.rf.o (by decide)).trans (c.mono (by decide) (by decide))
  have hm : ((s + 1 + m : Nat) : Int) ≤ 1001 := by
    by_cases h0 : m = 0
    · omega
    · have hl := hR.1 (m - 1) (by omega)
      have := (bt_rng (T := σ.1 1) (n := (σ.1 0 3).toInt) (k := s + 1 + (m - 1))).2.2.mp (by unfold isL at hl; omega)
      omega
  have e5 := il_addE (x := t.1 0 5) (y := 1) (by omega) (by omega)
  have k43 : ∀ y0 : Int32, (y0.toInt = 0 ∧ ¬ (m ≤ 12 ∧ bt (σ.1 1) (σ.1 0 3).toInt (s + 1 + m) = 34) ∨ y0.toInt = 1 ∧ (m ≤ 12 ∧ bt (σ.1 1) (σ.1 0 3).toInt (s + 1 + m) = 34)) → OK (f_X11_quoted_43 y0 t) (RZ [] [5, 6, 8] σ fun t => ∃ m, RUN isL (σ.1 1) (σ.1 0 3).toInt (s + 1) m ∧ (t.1 0 5).toInt = s + 1 + m + 1 ∧ (t.1 0 8).toInt = m ∧ ((t.1 0 6).toInt = 3 ∧ m ≤ 12 ∧ bt (σ.1 1) (σ.1 0 3).toInt (s + 1 + m) = 34 ∨ (t.1 0 6).toInt = 5 ∧ ¬ (m ≤ 12 ∧ bt (σ.1 1) (σ.1 0 3).toInt (s + 1 + m) = 34))) := fun y0 hy => by
    unfold f_X11_quoted_43 f_X11_quoted_64
    have l3 := li_3
    have l5 := li_5
    have z : ∀ w : Int32, (w.toInt = 3 ∧ m ≤ 12 ∧ bt (σ.1 1) (σ.1 0 3).toInt (s + 1 + m) = 34 ∨ w.toInt = 5 ∧ ¬ (m ≤ 12 ∧ bt (σ.1 1) (σ.1 0 3).toInt (s + 1 + m) = 34)) → OK (some (stI (stI t 0 5 (t.1 0 5 + 1)) 0 6 w)) (RZ [] [5, 6, 8] σ fun t => ∃ m, RUN isL (σ.1 1) (σ.1 0 3).toInt (s + 1) m ∧ (t.1 0 5).toInt = s + 1 + m + 1 ∧ (t.1 0 8).toInt = m ∧ ((t.1 0 6).toInt = 3 ∧ m ≤ 12 ∧ bt (σ.1 1) (σ.1 0 3).toInt (s + 1 + m) = 34 ∨ (t.1 0 6).toInt = 5 ∧ ¬ (m ≤ 12 ∧ bt (σ.1 1) (σ.1 0 3).toInt (s + 1 + m) = 34))) := fun w hw => OK.zret ((c'.o (by decide)).o (by decide)) ⟨m, hR, (show (t.1 0 5 + 1).toInt = _ by omega), t8, hw⟩
    refine OK.ieq (fun h => z 5 (.inr ⟨l5, ?_⟩)) (fun h => z 3 (.inl ⟨l3, ?_⟩))
    · rcases hy with hy | hy
      · exact hy.2
      · omega
    · rcases hy with hy | hy
      · omega
      · exact hy.2
  refine OK.ilt (fun h => k43 0 (.inl ⟨lt_0, fun h9 => by omega⟩)) (fun h => ?_)
  have t3 : (t.1 0 3).toInt = (σ.1 0 3).toInt := by rw [c'.2.1 3 (by decide)]
  have t1 : t.1 1 = σ.1 1 := c'.1 1 (by decide) (by decide)
  have np : (t.1 0 5).toNatClampNeg = s + 1 + m := nC (by omega)
  have hb := b_byteAt (t.1 0 5) t (by omega) ⟨by omega, by omega⟩
  rw [np, t1, t3] at hb
  refine OK.bndR hb (fun v hv => ?_)
  dsimp only
  exact OK.ieq (fun h9 => k43 1 (.inr ⟨lt_1, by omega, by have := hv.1; omega⟩)) (fun h9 => k43 0 (.inl ⟨lt_0, fun h8 => by have := hv.1; omega⟩))
theorem b_go_0 (T : Nat → Int32) (n : Int) (p : Nat) (hn2 : 0 ≤ n ∧ n ≤ 1000) : ∀ (f k : Nat) (σ : ST), σ.1 1 = T → (σ.1 0 3).toInt = n → (σ.1 0 5).toInt = k → p ≤ k → (∀ i, p ≤ i → i < k → isB (bt T n i)) → ((k : Int) ≤ 1003) → 1003 < f + k → OK (f_X11_go_0 f σ) (RZ [] GI σ fun t => ∃ s, SK T n p s ∧ TB_ T n s t) := by
  intro f
  induction f with
  | zero => intro k σ h1 h2 h3 h4 h5 h6 h7; omega
  | succ f ih =>
    intro k σ hT hn h5 hpk hB hk hf
    rw [f_X11_go_0]
    unfold f_X11_go_26 f_X11_go_136 f_X11_go_101
    have lt_0 := li_0
    have lt_1 := li_1
    have lt_5 := li_5
    have lt_8 := li_8
    have l32 := li_32
    have l10 := li_10
    have l45 : (45 : Int32).toInt = 45 := by decide
    have np : (σ.1 0 5).toNatClampNeg = k := nC (by omega)
    have e1 := il_addE (x := σ.1 0 5) (y := 1) (by omega) (by omega)
    have np1 : (σ.1 0 5 + 1).toNatClampNeg = k + 1 := nC (by omega)
    have hb := b_byteAt (σ.1 0 5) σ (by omega) ⟨by omega, by omega⟩
    rw [np, hT, hn] at hb
    have nx : isB (bt T n k) → OK (f_X11_go_0 f (stI σ 0 5 (σ.1 0 5 + 1))) (RZ [] GI σ fun t => ∃ s, SK T n p s ∧ TB_ T n s t) := fun hb9 => by
      have hlt := (bt_rng (T := T) (n := n) (k := k)).2.2.mp (by unfold isB at hb9; omega)
      refine OK.trZ (ih (k + 1) (stI σ 0 5 (σ.1 0 5 + 1)) hT hn (by show (σ.1 0 5 + 1).toInt = _; omega) (by omega) (fun i i1 i2 => ?_) (by omega) (by omega)) (CH.rf.o (by decide)) (fun _ h => h) (fun _ h => h) (fun _ _ h => h)
      by_cases e : i = k
      · rw [e]; exact hb9
      · exact hB i i1 (by omega)
    refine OK.bndR hb (fun v hv => ?_)
    dsimp only
    refine OK.ieq (fun h => nx (.inl (by have := hv.1; omega))) (fun h32 => ?_)
    refine OK.bndR hb (fun v2 hv2 => ?_)
    dsimp only
    refine OK.ieq (fun h => nx (.inr (by have := hv2.1; omega))) (fun h10 => ?_)
    have hSK : SK T n p k := ⟨hpk, hB, by have a := hv.1; have b := hv2.1; unfold isB; omega⟩
    have z1 : (stI σ 0 4 (σ.1 0 5)).1 1 = T := hT
    have z3 : ((stI σ 0 4 (σ.1 0 5)).1 0 3).toInt = n := hn
    have z5 : (stI σ 0 4 (σ.1 0 5)).1 0 5 = σ.1 0 5 := rfl
    have z4 : ((stI σ 0 4 (σ.1 0 5)).1 0 4).toInt = k := h5
    have cz : CH [] GI σ (stI σ 0 4 (σ.1 0 5)) := CH.rf.o (by decide)
    generalize stI σ 0 4 (σ.1 0 5) = z at z1 z3 z5 z4 cz ⊢
    have hbz := b_byteAt (z.1 0 5) z (by rw [z5]; omega) ⟨by omega, by omega⟩
    have npz : (z.1 0 5).toNatClampNeg = k := by rw [z5]; exact np
    rw [npz, z1, z3] at hbz
    refine OK.bndR hbz (fun c hc => ?_)
    dsimp only
    have y1 : (stI z 0 13 0).1 1 = T := z1
    have y3 : ((stI z 0 13 0).1 0 3).toInt = n := z3
    have y5 : ((stI z 0 13 0).1 0 5).toInt = k := by show (z.1 0 5).toInt = k; rw [z5]; exact h5
    have y4 : ((stI z 0 13 0).1 0 4).toInt = k := z4
    have y13 : ((stI z 0 13 0).1 0 13).toInt = 0 := li_0
    have cy : CH [] GI σ (stI z 0 13 0) := cz.o (by decide)
    refine OK.ile (fun hc0 => ?_) (fun hc0 => ?_)
    · have hc1 := hc.1
      have hlt := (bt_rng (T := T) (n := n) (k := k)).2.2.mp (by omega)
      generalize stI z 0 13 0 = y at y1 y3 y5 y4 y13 cy ⊢
      have done : ∀ t : ST, CH [] GI σ t → (t.1 0 4).toInt = k → TB_ T n k t → OK (some t) (RZ [] GI σ fun t => ∃ s, SK T n p s ∧ TB_ T n s t) := fun t ct t4 ht => OK.zret ct ⟨k, hSK, ht⟩
      have k136 : (isD (bt T n k) ∨ bt T n k = 45 ∧ isD (bt T n (k + 1))) → OK ((f_X11_number y).bind fun q => some q) (RZ [] GI σ fun t => ∃ s, SK T n p s ∧ TB_ T n s t) := fun hd => by
        have hnum := b_number y k (by rw [y3]; exact hn2) y5 (by omega) y13
        rw [y1, y3] at hnum
        refine OK.bndZ hnum (fun t ct ht => ?_)
        have t4 : (t.1 0 4).toInt = k := by rw [ct.2.1 4 (by decide)]; exact y4
        exact done t (cy.trans (ct.mono (by decide) (by decide))) t4 ⟨t4, .inr (.inr (.inl ⟨hd, ht⟩))⟩
      have k143 : ¬ isL (bt T n k) → ¬ isD (bt T n k) → ¬ (bt T n k = 45 ∧ isD (bt T n (k + 1))) → OK (f_X11_go_143 c y) (RZ [] GI σ fun t => ∃ s, SK T n p s ∧ TB_ T n s t) := fun hnl hnd hnm => by
        unfold f_X11_go_143
        have l34 : (34 : Int32).toInt = 34 := by decide
        refine OK.ieq (fun h34 => ?_) (fun h34 => ?_)
        · have hq := b_quoted y k (by rw [y3]; exact hn2) y5 (by omega)
          rw [y1, y3] at hq
          refine OK.bndZ hq (fun t ct ht => ?_)
          have t4 : (t.1 0 4).toInt = k := by rw [ct.2.1 4 (by decide)]; exact y4
          have t13 : (t.1 0 13).toInt = 0 := by rw [ct.2.1 13 (by decide)]; exact y13
          exact done t (cy.trans (ct.mono (by decide) (by decide))) t4 ⟨t4, .inr (.inr (.inr (.inl ⟨by omega, t13, ht⟩)))⟩
        · have ls : (123 : Int32).toInt = 123 ∧ (125 : Int32).toInt = 125 ∧ (91 : Int32).toInt = 91 ∧ (93 : Int32).toInt = 93 ∧ (44 : Int32).toInt = 44 ∧ (59 : Int32).toInt = 59 := by decide
          have ey := il_addE (x := y.1 0 5) (y := 1) (by omega) (by omega)
          have l4 := li_4
          have k169 : ∀ y0 : Int32, ((y0.toInt = c.toInt ∧ (c.toInt = 123 ∨ c.toInt = 125 ∨ c.toInt = 91 ∨ c.toInt = 93 ∨ c.toInt = 44 ∨ c.toInt = 59)) ∨ y0.toInt = 0 ∧ ¬ (c.toInt = 123 ∨ c.toInt = 125 ∨ c.toInt = 91 ∨ c.toInt = 93 ∨ c.toInt = 44 ∨ c.toInt = 59)) → OK (f_X11_go_169 y0 y) (RZ [] GI σ fun t => ∃ s, SK T n p s ∧ TB_ T n s t) := fun y0 hy0 => by
            unfold f_X11_go_169 f_X11_go_185
            have fin : ∀ w : Int32, ((w.toInt = 4 ∧ 0 < y0.toInt) ∨ w.toInt = 5 ∧ y0.toInt ≤ 0) → OK (some (stI (stI (stI y 0 13 y0) 0 6 w) 0 5 ((stI (stI y 0 13 y0) 0 6 w).1 0 5 + 1))) (RZ [] GI σ fun t => ∃ s, SK T n p s ∧ TB_ T n s t) := fun w hw => by
              refine done _ (((cy.o (by decide)).o (by decide)).o (by decide)) y4 ⟨y4, .inr (.inr (.inr (.inr ⟨⟨by omega, hnl, hnd, hnm, by omega⟩, (show (y.1 0 5 + 1).toInt = _ by omega), ?_⟩)))⟩
              rcases hy0 with hy0 | hy0
              · refine .inl ⟨by rw [← hc1]; exact hy0.2, ?_, ?_⟩
                · show w.toInt = 4
                  omega
                · show y0.toInt = _
                  omega
              · refine .inr ⟨by rw [← hc1]; exact hy0.2, ?_, ?_⟩
                · show w.toInt = 5
                  omega
                · show y0.toInt = _
                  omega
            refine OK.ile (fun h => ?_) (fun h => ?_)
            · have h : y0.toInt ≤ (0 : Int32).toInt := h
              exact fin 5 (by omega)
            · have h : (0 : Int32).toInt < y0.toInt := h
              exact fin 4 (by omega)
          unfold f_X11_isSign f_X11_isSign_36
          refine OK.bndR (s := y) (Q := fun v => v.toInt = 1 ∧ (c.toInt = 123 ∨ c.toInt = 125 ∨ c.toInt = 91 ∨ c.toInt = 93 ∨ c.toInt = 44 ∨ c.toInt = 59) ∨ v.toInt = 0 ∧ ¬ (c.toInt = 123 ∨ c.toInt = 125 ∨ c.toInt = 91 ∨ c.toInt = 93 ∨ c.toInt = 44 ∨ c.toInt = 59)) ?_ (fun q hq => ?_)
          · refine OK.ieq (fun _ => OK.roret (by omega)) (fun _ => ?_)
            refine OK.ieq (fun _ => OK.roret (by omega)) (fun _ => ?_)
            refine OK.ieq (fun _ => OK.roret (by omega)) (fun _ => ?_)
            refine OK.ieq (fun _ => OK.roret (by omega)) (fun _ => ?_)
            refine OK.ieq (fun _ => OK.roret (by omega)) (fun _ => ?_)
            exact OK.ieq (fun _ => OK.roret (by omega)) (fun _ => OK.roret (by omega))
          · dsimp only
            exact OK.ieq (fun _ => k169 0 (by omega)) (fun _ => k169 c (by omega))
      refine OK.bndR (b_isLetter _ _) (fun q7 h7 => ?_)
      dsimp only
      refine OK.ieq (fun hl0 => ?_) (fun hl1 => ?_)
      · have hnl : ¬ isL (bt T n k) := by unfold isL; rw [← hc1]; omega
        refine OK.bndR (b_isDigit _ _) (fun q9 h9 => ?_)
        dsimp only
        rw [hc1] at h9
        refine OK.ieq (fun hd0 => ?_) (fun hd1 => ?_)
        · have hnd : ¬ isD (bt T n k) := by
            rcases h9 with h9 | h9
            · exact h9.2
            · omega
          refine OK.ieq (fun h45 => ?_) (fun h45 => k143 hnl hnd (fun h => by omega))
          have ey := il_addE (x := y.1 0 5) (y := 1) (by omega) (by omega)
          have hb1 := b_byteAt (y.1 0 5 + 1) y (by omega) ⟨by omega, by omega⟩
          have npy : (y.1 0 5 + 1).toNatClampNeg = k + 1 := nC (by omega)
          rw [npy, y1, y3] at hb1
          refine OK.bndR hb1 (fun q11 h11 => ?_)
          dsimp only
          refine OK.bndR (b_isDigit _ _) (fun q13 h13 => ?_)
          dsimp only
          rw [h11.1] at h13
          refine OK.ieq (fun h0 => k143 hnl hnd (fun h => ?_)) (fun h1 => k136 (.inr ⟨by omega, ?_⟩))
          · rcases h13 with h13 | h13
            · exact h13.2 h.2
            · omega
          · rcases h13 with h13 | h13
            · omega
            · exact h13.2
        · refine k136 (.inl ?_)
          rcases h9 with h9 | h9
          · omega
          · exact h9.2
      · have hL : isL (bt T n k) := by unfold isL; rw [← hc1]; omega
        have hwd := b_word 8 y (by omega) k (by rw [y3]; exact hn2) y5 (by omega)
        rw [y1, y3] at hwd
        refine OK.bndZ hwd (fun t ct ht => ?_)
        obtain ⟨m, hR, t5, t8, t7⟩ := ht
        have t4 : (t.1 0 4).toInt = k := by rw [ct.2.1 4 (by decide)]; exact y4
        have t13 : (t.1 0 13).toInt = 0 := by rw [ct.2.1 13 (by decide)]; exact y13
        have ct' : CH [] GI σ t := cy.trans (ct.mono (by decide) (by decide))
        have e8 : (8 : Int32).toInt.toNat = 8 := by decide
        rw [e8] at t7
        have fin : ∀ w : Int32, (w.toInt = 1 ∧ m ≤ 8 ∨ w.toInt = 5 ∧ ¬ m ≤ 8) → OK (some (stI t 0 6 w)) (RZ [] GI σ fun t => ∃ s, SK T n p s ∧ TB_ T n s t) := fun w hw => done _ (ct'.o (by decide)) t4 ⟨t4, .inr (.inl ⟨hL, t13, m, hR, t5, t8, t7, hw⟩)⟩
        exact OK.ilt (fun h => fin 5 (by omega)) (fun h => fin 1 (by omega))
    · refine OK.zret (cy.o (by decide)) ⟨k, hSK, y4, .inl ⟨by have := hc.1; omega, li_0, y13, y5⟩⟩
theorem b_go (σ : ST) (p : Nat) (hn2 : 0 ≤ (σ.1 0 3).toInt ∧ (σ.1 0 3).toInt ≤ 1000) (h5 : (σ.1 0 5).toInt = p) (hp : p ≤ 1003) : OK (f_X11_go σ) (RZ [] GI σ fun t => ∃ s, SK (σ.1 1) (σ.1 0 3).toInt p s ∧ TB_ (σ.1 1) (σ.1 0 3).toInt s t) := by
  have lu := FUi
  exact b_go_0 (σ.1 1) (σ.1 0 3).toInt p hn2 FU p σ rfl rfl h5 (Nat.le_refl _) (fun i h1 h2 => by omega) (by omega) (by omega)
/-! the reference: words -/
theorem OK.kac {α : Type} {o : Option (α × Nat)} {k : Nat} {P : α × Nat → Prop} (h : OK o (fun z => P (z.1, k + z.2))) : OK (ac k o) P := by
  obtain ⟨z, e, hz⟩ := h
  exact ⟨(z.1, k + z.2), by unfold ac; rw [e]; rfl, hz⟩
/-- an answer that leaves all as it is, and how many cells it took at most -/
def KO {α : Type} (σ : ST) (c : Nat) (Q : α → Prop) (q : (α × ST) × Nat) : Prop := q.1.2 = σ ∧ Q q.1.1 ∧ q.2 ≤ c
theorem OK.kret {α : Type} {σ : ST} {c x : Nat} {Q : α → Prop} {v : α} (h : Q v) (hx : x ≤ c) : OK (some ((v, σ), x)) (KO σ c Q) := ⟨_, rfl, rfl, h, hx⟩
theorem OK.bndK {α β : Type} {o : Option ((α × ST) × Nat)} {f : (α × ST) × Nat → Option (β × Nat)} {s : ST} {c : Nat} {Q : α → Prop} {P : β × Nat → Prop} (h : OK o (KO s c Q)) (k : ∀ (v : α) (x : Nat), Q v → x ≤ c → OK (f ((v, s), x)) P) : OK (o.bind f) P := by
  obtain ⟨⟨⟨v, t⟩, x⟩, e, h1, h2, h3⟩ := h
  have h1 : t = s := h1
  subst h1
  rw [e]; exact k v x h2 h3
theorem OK.kq {α : Type} {o : Option ((α × ST) × Nat)} {s : ST} {c d : Nat} {Q R : α → Prop} (h : OK o (KO s c Q)) (hc : c ≤ d) (k : ∀ v, Q v → R v) : OK o (KO s d R) := h.mono (fun q hq => ⟨hq.1, k _ hq.2.1, Nat.le_trans hq.2.2 hc⟩)
/-- the token is that word -/
def W_ (σ : ST) (V : Int64) : Prop := (σ.1 0 6).toInt = 1 ∧ σ.2.1 0 7 = V
theorem b_isWord (V : Int64) (σ : ST) : OK (f_X11_isWord V σ) (RO σ fun v => v.toInt = 0 ∧ ¬ W_ σ V ∨ v.toInt = 1 ∧ W_ σ V) := by
  unfold f_X11_isWord W_
  have lt_0 := li_0
  have lt_1 := li_1
  refine OK.ieq (fun h => ?_) (fun h => OK.roret (.inl ⟨by omega, fun h9 => by omega⟩))
  refine OK.ite (fun h2 => ?_) (fun h2 => ?_)
  · rw [lg_cmp_eq] at h2
    exact OK.roret (.inr ⟨by omega, by omega, h2⟩)
  · rw [lg_cmp_eq] at h2
    exact OK.roret (.inl ⟨by omega, fun h9 => h2 h9.2⟩)

def v_plan : Int64 := 323717
theorem sp_plan (σ : ST) : f_X11_spelt 112 108 97 110 0 0 σ = some ((v_plan, σ), 1) := by
  have e : spl (spf 112 108 97 110 0 0) 7 0 0 = some v_plan := by decide
  unfold f_X11_spelt
  rw [e]
  rfl
def v_record : Int64 := 261008005
theorem sp_record (σ : ST) : f_X11_spelt 114 101 99 111 114 100 σ = some ((v_record, σ), 1) := by
  have e : spl (spf 114 101 99 111 114 100) 7 0 0 = some v_record := by decide
  unfold f_X11_spelt
  rw [e]
  rfl
def v_was : Int64 := 16813
theorem sp_was (σ : ST) : f_X11_spelt 119 97 115 0 0 0 σ = some ((v_was, σ), 1) := by
  have e : spl (spf 119 97 115 0 0 0) 7 0 0 = some v_was := by decide
  unfold f_X11_spelt
  rw [e]
  rfl
def v_else : Int64 := 107681
theorem sp_else (σ : ST) : f_X11_spelt 101 108 115 101 0 0 σ = some ((v_else, σ), 1) := by
  have e : spl (spf 101 108 115 101 0 0) 7 0 0 = some v_else := by decide
  unfold f_X11_spelt
  rw [e]
  rfl
def v_list : Int64 := 243290
theorem sp_list (σ : ST) : f_X11_spelt 108 105 115 116 0 0 σ = some ((v_list, σ), 1) := by
  have e : spl (spf 108 105 115 116 0 0) 7 0 0 = some v_list := by decide
  unfold f_X11_spelt
  rw [e]
  rfl
def v_either : Int64 := 76927149
theorem sp_either (σ : ST) : f_X11_spelt 101 105 116 104 101 114 σ = some ((v_either, σ), 1) := by
  have e : spl (spf 101 105 116 104 101 114) 7 0 0 = some v_either := by decide
  unfold f_X11_spelt
  rw [e]
  rfl
def v_or : Int64 := 423
theorem sp_or (σ : ST) : f_X11_spelt 111 114 0 0 0 0 σ = some ((v_or, σ), 1) := by
  have e : spl (spf 111 114 0 0 0 0) 7 0 0 = some v_or := by decide
  unfold f_X11_spelt
  rw [e]
  rfl
def v_none : Int64 := 286880
theorem sp_none (σ : ST) : f_X11_spelt 110 111 110 101 0 0 σ = some ((v_none, σ), 1) := by
  have e : spl (spf 110 111 110 101 0 0) 7 0 0 = some v_none := by decide
  unfold f_X11_spelt
  rw [e]
  rfl
def v_flag : Int64 := 126880
theorem sp_flag (σ : ST) : f_X11_spelt 102 108 97 103 0 0 σ = some ((v_flag, σ), 1) := by
  have e : spl (spf 102 108 97 103 0 0) 7 0 0 = some v_flag := by decide
  unfold f_X11_spelt
  rw [e]
  rfl
def v_int : Int64 := 6959
theorem sp_int (σ : ST) : f_X11_spelt 105 110 116 0 0 0 σ = some ((v_int, σ), 1) := by
  have e : spl (spf 105 110 116 0 0 0) 7 0 0 = some v_int := by decide
  unfold f_X11_spelt
  rw [e]
  rfl
def v_long : Int64 := 247516
theorem sp_long (σ : ST) : f_X11_spelt 108 111 110 103 0 0 σ = some ((v_long, σ), 1) := by
  have e : spl (spf 108 111 110 103 0 0) 7 0 0 = some v_long := by decide
  unfold f_X11_spelt
  rw [e]
  rfl
def v_real : Int64 := 357978
theorem sp_real (σ : ST) : f_X11_spelt 114 101 97 108 0 0 σ = some ((v_real, σ), 1) := by
  have e : spl (spf 114 101 97 108 0 0) 7 0 0 = some v_real := by decide
  unfold f_X11_spelt
  rw [e]
  rfl
def v_text : Int64 := 397973
theorem sp_text (σ : ST) : f_X11_spelt 116 101 120 116 0 0 σ = some ((v_text, σ), 1) := by
  have e : spl (spf 116 101 120 116 0 0) 7 0 0 = some v_text := by decide
  unfold f_X11_spelt
  rw [e]
  rfl
def v_yes : Int64 := 18379
theorem sp_yes (σ : ST) : f_X11_spelt 121 101 115 0 0 0 σ = some ((v_yes, σ), 1) := by
  have e : spl (spf 121 101 115 0 0 0) 7 0 0 = some v_yes := by decide
  unfold f_X11_spelt
  rw [e]
  rfl
def v_no : Int64 := 393
theorem sp_no (σ : ST) : f_X11_spelt 110 111 0 0 0 0 σ = some ((v_no, σ), 1) := by
  have e : spl (spf 110 111 0 0 0 0) 7 0 0 = some v_no := by decide
  unfold f_X11_spelt
  rw [e]
  rfl
def KB : List Int64 := [v_plan, v_record, v_was, v_else, v_list, v_either, v_or, v_none, v_flag, v_int, v_long, v_real, v_text, v_yes, v_no]
theorem b_isPlan (σ : ST) : OK (f_X11_isPlan σ) (KO σ 1 fun v => v.toInt = 0 ∧ ¬ W_ σ v_plan ∨ v.toInt = 1 ∧ W_ σ v_plan) := by
  unfold f_X11_isPlan
  rw [sp_plan]
  refine OK.kac (k := 1) ?_
  refine OK.bndR (b_isWord v_plan σ) (fun v hv => ?_)
  dsimp only
  refine OK.grd (b01 (by omega)) ?_
  exact ⟨_, rfl, rfl, hv, Nat.le_refl 1⟩
theorem b_isRecord (σ : ST) : OK (f_X11_isRecord σ) (KO σ 1 fun v => v.toInt = 0 ∧ ¬ W_ σ v_record ∨ v.toInt = 1 ∧ W_ σ v_record) := by
  unfold f_X11_isRecord
  rw [sp_record]
  refine OK.kac (k := 1) ?_
  refine OK.bndR (b_isWord v_record σ) (fun v hv => ?_)
  dsimp only
  refine OK.grd (b01 (by omega)) ?_
  exact ⟨_, rfl, rfl, hv, Nat.le_refl 1⟩
theorem b_isWas (σ : ST) : OK (f_X11_isWas σ) (KO σ 1 fun v => v.toInt = 0 ∧ ¬ W_ σ v_was ∨ v.toInt = 1 ∧ W_ σ v_was) := by
  unfold f_X11_isWas
  rw [sp_was]
  refine OK.kac (k := 1) ?_
  refine OK.bndR (b_isWord v_was σ) (fun v hv => ?_)
  dsimp only
  refine OK.grd (b01 (by omega)) ?_
  exact ⟨_, rfl, rfl, hv, Nat.le_refl 1⟩
theorem b_isElse (σ : ST) : OK (f_X11_isElse σ) (KO σ 1 fun v => v.toInt = 0 ∧ ¬ W_ σ v_else ∨ v.toInt = 1 ∧ W_ σ v_else) := by
  unfold f_X11_isElse
  rw [sp_else]
  refine OK.kac (k := 1) ?_
  refine OK.bndR (b_isWord v_else σ) (fun v hv => ?_)
  dsimp only
  refine OK.grd (b01 (by omega)) ?_
  exact ⟨_, rfl, rfl, hv, Nat.le_refl 1⟩
theorem b_isOr (σ : ST) : OK (f_X11_isOr σ) (KO σ 1 fun v => v.toInt = 0 ∧ ¬ W_ σ v_or ∨ v.toInt = 1 ∧ W_ σ v_or) := by
  unfold f_X11_isOr
  rw [sp_or]
  refine OK.kac (k := 1) ?_
  refine OK.bndR (b_isWord v_or σ) (fun v hv => ?_)
  dsimp only
  refine OK.grd (b01 (by omega)) ?_
  exact ⟨_, rfl, rfl, hv, Nat.le_refl 1⟩
theorem b_isYes (σ : ST) : OK (f_X11_isYes σ) (KO σ 1 fun v => v.toInt = 0 ∧ ¬ W_ σ v_yes ∨ v.toInt = 1 ∧ W_ σ v_yes) := by
  unfold f_X11_isYes
  rw [sp_yes]
  refine OK.kac (k := 1) ?_
  refine OK.bndR (b_isWord v_yes σ) (fun v hv => ?_)
  dsimp only
  refine OK.grd (b01 (by omega)) ?_
  exact ⟨_, rfl, rfl, hv, Nat.le_refl 1⟩
theorem b_isNo (σ : ST) : OK (f_X11_isNo σ) (KO σ 1 fun v => v.toInt = 0 ∧ ¬ W_ σ v_no ∨ v.toInt = 1 ∧ W_ σ v_no) := by
  unfold f_X11_isNo
  rw [sp_no]
  refine OK.kac (k := 1) ?_
  refine OK.bndR (b_isWord v_no σ) (fun v hv => ?_)
  dsimp only
  refine OK.grd (b01 (by omega)) ?_
  exact ⟨_, rfl, rfl, hv, Nat.le_refl 1⟩
def SH (σ : ST) (v : Int32) : Prop := v.toInt = 0 ∧ W_ σ v_none ∨ v.toInt = 1 ∧ W_ σ v_flag ∨ v.toInt = 2 ∧ W_ σ v_int ∨ v.toInt = 3 ∧ W_ σ v_long ∨ v.toInt = 4 ∧ W_ σ v_real ∨ v.toInt = 5 ∧ W_ σ v_text ∨ v.toInt = 6 ∧ W_ σ v_list ∨ v.toInt = 8 ∧ W_ σ v_either ∨ v.toInt = -1 ∧ ¬ W_ σ v_none ∧ ¬ W_ σ v_flag ∧ ¬ W_ σ v_int ∧ ¬ W_ σ v_long ∧ ¬ W_ σ v_real ∧ ¬ W_ σ v_text ∧ ¬ W_ σ v_list ∧ ¬ W_ σ v_either
theorem b_sortHere (σ : ST) : OK (f_X11_sortHere σ) (KO σ 8 (SH σ)) := by
  unfold f_X11_sortHere SH
  have lm := li_m1
  have lt_0 := li_0
  have lt_1 := li_1
  have lt_2 := li_2
  have lt_3 := li_3
  have lt_4 := li_4
  have lt_5 := li_5
  have lt_6 := li_6
  have lt_8 := li_8
  rw [sp_none]
  refine OK.kac (k := 1) ?_
  refine OK.bndR (b_isWord v_none σ) (fun v0 hv0 => ?_)
  dsimp only
  refine OK.ieq (fun h => ?_) (fun h => ⟨_, rfl, rfl, .inl ⟨lt_0, ?_⟩, by dsimp only; omega⟩)
  rotate_left
  · rcases hv0 with hv0 | hv0
    · omega
    · exact hv0.2
  rw [sp_flag]
  refine OK.kac (k := 1) ?_
  refine OK.bndR (b_isWord v_flag σ) (fun v1 hv1 => ?_)
  dsimp only
  refine OK.ieq (fun h => ?_) (fun h => ⟨_, rfl, rfl, .inr (.inl ⟨lt_1, ?_⟩), by dsimp only; omega⟩)
  rotate_left
  · rcases hv1 with hv1 | hv1
    · omega
    · exact hv1.2
  rw [sp_int]
  refine OK.kac (k := 1) ?_
  refine OK.bndR (b_isWord v_int σ) (fun v2 hv2 => ?_)
  dsimp only
  refine OK.ieq (fun h => ?_) (fun h => ⟨_, rfl, rfl, .inr (.inr (.inl ⟨lt_2, ?_⟩)), by dsimp only; omega⟩)
  rotate_left
  · rcases hv2 with hv2 | hv2
    · omega
    · exact hv2.2
  rw [sp_long]
  refine OK.kac (k := 1) ?_
  refine OK.bndR (b_isWord v_long σ) (fun v3 hv3 => ?_)
  dsimp only
  refine OK.ieq (fun h => ?_) (fun h => ⟨_, rfl, rfl, .inr (.inr (.inr (.inl ⟨lt_3, ?_⟩))), by dsimp only; omega⟩)
  rotate_left
  · rcases hv3 with hv3 | hv3
    · omega
    · exact hv3.2
  rw [sp_real]
  refine OK.kac (k := 1) ?_
  refine OK.bndR (b_isWord v_real σ) (fun v4 hv4 => ?_)
  dsimp only
  refine OK.ieq (fun h => ?_) (fun h => ⟨_, rfl, rfl, .inr (.inr (.inr (.inr (.inl ⟨lt_4, ?_⟩)))), by dsimp only; omega⟩)
  rotate_left
  · rcases hv4 with hv4 | hv4
    · omega
    · exact hv4.2
  rw [sp_text]
  refine OK.kac (k := 1) ?_
  refine OK.bndR (b_isWord v_text σ) (fun v5 hv5 => ?_)
  dsimp only
  refine OK.ieq (fun h => ?_) (fun h => ⟨_, rfl, rfl, .inr (.inr (.inr (.inr (.inr (.inl ⟨lt_5, ?_⟩))))), by dsimp only; omega⟩)
  rotate_left
  · rcases hv5 with hv5 | hv5
    · omega
    · exact hv5.2
  rw [sp_list]
  refine OK.kac (k := 1) ?_
  refine OK.bndR (b_isWord v_list σ) (fun v6 hv6 => ?_)
  dsimp only
  refine OK.ieq (fun h => ?_) (fun h => ⟨_, rfl, rfl, .inr (.inr (.inr (.inr (.inr (.inr (.inl ⟨lt_6, ?_⟩)))))), by dsimp only; omega⟩)
  rotate_left
  · rcases hv6 with hv6 | hv6
    · omega
    · exact hv6.2
  rw [sp_either]
  refine OK.kac (k := 1) ?_
  refine OK.bndR (b_isWord v_either σ) (fun v7 hv7 => ?_)
  dsimp only
  refine OK.ieq (fun h => ⟨_, rfl, rfl, .inr (.inr (.inr (.inr (.inr (.inr (.inr (.inr (⟨lm, ?_, ?_, ?_, ?_, ?_, ?_, ?_, ?_⟩)))))))), by dsimp only; omega⟩) (fun h => ⟨_, rfl, rfl, .inr (.inr (.inr (.inr (.inr (.inr (.inr (.inl ⟨lt_8, ?_⟩))))))), by dsimp only; omega⟩)
  · rcases hv0 with hv0 | hv0
    · exact hv0.2
    · omega
  · rcases hv1 with hv1 | hv1
    · exact hv1.2
    · omega
  · rcases hv2 with hv2 | hv2
    · exact hv2.2
    · omega
  · rcases hv3 with hv3 | hv3
    · exact hv3.2
    · omega
  · rcases hv4 with hv4 | hv4
    · exact hv4.2
    · omega
  · rcases hv5 with hv5 | hv5
    · exact hv5.2
    · omega
  · rcases hv6 with hv6 | hv6
    · exact hv6.2
    · omega
  · rcases hv7 with hv7 | hv7
    · exact hv7.2
    · omega
  · rcases hv7 with hv7 | hv7
    · omega
    · exact hv7.2

/-- a name: a word that is none of those that mean something -/
def NM (σ : ST) : Prop := (σ.1 0 6).toInt = 1 ∧ ∀ V, V ∈ KB → ¬ σ.2.1 0 7 = V
theorem NM.no {σ : ST} {V : Int64} (hV : V ∈ KB) (h : W_ σ V) : ¬ NM σ := fun hn => hn.2 V hV h.2
theorem b_isName (σ : ST) : OK (f_X11_isName σ) (KO σ 15 fun v => v.toInt = 0 ∧ ¬ NM σ ∨ v.toInt = 1 ∧ NM σ) := by
  unfold f_X11_isName f_X11_isName_56
  have lt_0 := li_0
  have lt_1 := li_1
  have lm := li_m1
  have y : ∀ (c : Nat), ¬ NM σ → OK (f_X11_isName_61 1 σ) (KO σ c fun v => v.toInt = 0 ∧ ¬ NM σ ∨ v.toInt = 1 ∧ NM σ) := fun c hn => by
    unfold f_X11_isName_61
    refine OK.ieq (fun _ => ?_) (fun _ => OK.kret (.inl ⟨lt_0, hn⟩) (Nat.zero_le _))
    exact OK.ieq (fun h => by omega) (fun _ => OK.kret (.inl ⟨lt_0, hn⟩) (Nat.zero_le _))
  have up : ∀ (x c d : Nat) (o : Option ((Int32 × ST) × Nat)), OK o (KO σ c fun v => v.toInt = 0 ∧ ¬ NM σ ∨ v.toInt = 1 ∧ NM σ) → x + c ≤ d → OK o (fun z => KO σ d (fun v => v.toInt = 0 ∧ ¬ NM σ ∨ v.toInt = 1 ∧ NM σ) (z.1, x + z.2)) := fun x c d o ho hx => ho.mono (fun q hq => ⟨hq.1, hq.2.1, by have := hq.2.2; show x + q.2 ≤ d; omega⟩)
  refine OK.bndK (b_sortHere σ) (fun v x hv hx => ?_)
  refine OK.kac (up x 7 15 _ ?_ (by omega))
  dsimp only
  refine OK.ile (fun h => y 7 ?_) (fun h => ?_)
  · unfold SH at hv
    rcases hv with hv | hv | hv | hv | hv | hv | hv | hv | hv
    · exact NM.no (by decide) hv.2
    · exact NM.no (by decide) hv.2
    · exact NM.no (by decide) hv.2
    · exact NM.no (by decide) hv.2
    · exact NM.no (by decide) hv.2
    · exact NM.no (by decide) hv.2
    · exact NM.no (by decide) hv.2
    · exact NM.no (by decide) hv.2
    · omega
  have hs : (¬ W_ σ v_none ∧ ¬ W_ σ v_flag ∧ ¬ W_ σ v_int ∧ ¬ W_ σ v_long ∧ ¬ W_ σ v_real ∧ ¬ W_ σ v_text ∧ ¬ W_ σ v_list ∧ ¬ W_ σ v_either) := by
    unfold SH at hv
    rcases hv with hv | hv | hv | hv | hv | hv | hv | hv | hv
    · omega
    · omega
    · omega
    · omega
    · omega
    · omega
    · omega
    · omega
    · exact hv.2
  refine OK.bndK (b_isPlan σ) (fun w0 x0 hw0 hx0 => ?_)
  refine OK.kac (up x0 6 7 _ ?_ (by omega))
  dsimp only
  refine OK.ieq (fun h => ?_) (fun h => y 6 (NM.no (V := v_plan) (by decide) ?_))
  rotate_left
  · rcases hw0 with hw0 | hw0
    · omega
    · exact hw0.2
  refine OK.bndK (b_isRecord σ) (fun w1 x1 hw1 hx1 => ?_)
  refine OK.kac (up x1 5 6 _ ?_ (by omega))
  dsimp only
  refine OK.ieq (fun h => ?_) (fun h => y 5 (NM.no (V := v_record) (by decide) ?_))
  rotate_left
  · rcases hw1 with hw1 | hw1
    · omega
    · exact hw1.2
  refine OK.bndK (b_isWas σ) (fun w2 x2 hw2 hx2 => ?_)
  refine OK.kac (up x2 4 5 _ ?_ (by omega))
  dsimp only
  refine OK.ieq (fun h => ?_) (fun h => y 4 (NM.no (V := v_was) (by decide) ?_))
  rotate_left
  · rcases hw2 with hw2 | hw2
    · omega
    · exact hw2.2
  refine OK.bndK (b_isElse σ) (fun w3 x3 hw3 hx3 => ?_)
  refine OK.kac (up x3 3 4 _ ?_ (by omega))
  dsimp only
  refine OK.ieq (fun h => ?_) (fun h => y 3 (NM.no (V := v_else) (by decide) ?_))
  rotate_left
  · rcases hw3 with hw3 | hw3
    · omega
    · exact hw3.2
  refine OK.bndK (b_isOr σ) (fun w4 x4 hw4 hx4 => ?_)
  refine OK.kac (up x4 2 3 _ ?_ (by omega))
  dsimp only
  refine OK.ieq (fun h => ?_) (fun h => y 2 (NM.no (V := v_or) (by decide) ?_))
  rotate_left
  · rcases hw4 with hw4 | hw4
    · omega
    · exact hw4.2
  refine OK.bndK (b_isYes σ) (fun w5 x5 hw5 hx5 => ?_)
  refine OK.kac (up x5 1 2 _ ?_ (by omega))
  dsimp only
  refine OK.ieq (fun h => ?_) (fun h => y 1 (NM.no (V := v_yes) (by decide) ?_))
  rotate_left
  · rcases hw5 with hw5 | hw5
    · omega
    · exact hw5.2
  refine OK.bndK (b_isNo σ) (fun w6 x6 hw6 hx6 => ?_)
  refine OK.kac (up x6 0 1 _ ?_ (by omega))
  dsimp only
  refine OK.ieq (fun h => ?_) (fun h => y 0 (NM.no (V := v_no) (by decide) ?_))
  rotate_left
  · rcases hw6 with hw6 | hw6
    · omega
    · exact hw6.2
  unfold f_X11_isName_61
  refine OK.ieq (fun h6 => ?_) (fun h6 => OK.kret (.inl ⟨lt_0, fun hn => by have := hn.1; omega⟩) (Nat.zero_le _))
  refine OK.ieq (fun _ => ?_) (fun h9 => absurd rfl h9)
  have t1 : (σ.1 0 6).toInt = 1 := by omega
  have ne : ∀ V, ¬ W_ σ V → ¬ σ.2.1 0 7 = V := fun V h9 h8 => h9 ⟨t1, h8⟩
  refine OK.kret (.inr ⟨lt_1, t1, ?_⟩) (Nat.zero_le _)
  have nw : ¬ W_ σ v_plan ∧ ¬ W_ σ v_record ∧ ¬ W_ σ v_was ∧ ¬ W_ σ v_else ∧ ¬ W_ σ v_or ∧ ¬ W_ σ v_yes ∧ ¬ W_ σ v_no := by
    refine ⟨?_, ?_, ?_, ?_, ?_, ?_, ?_⟩
    · rcases hw0 with hw0 | hw0
      · exact hw0.2
      · omega
    · rcases hw1 with hw1 | hw1
      · exact hw1.2
      · omega
    · rcases hw2 with hw2 | hw2
      · exact hw2.2
      · omega
    · rcases hw3 with hw3 | hw3
      · exact hw3.2
      · omega
    · rcases hw4 with hw4 | hw4
      · exact hw4.2
      · omega
    · rcases hw5 with hw5 | hw5
      · exact hw5.2
      · omega
    · rcases hw6 with hw6 | hw6
      · exact hw6.2
      · omega
  intro V hV
  unfold KB at hV
  rcases List.mem_cons.mp hV with rfl | hV
  · exact ne _ (nw.1)
  rcases List.mem_cons.mp hV with rfl | hV
  · exact ne _ (nw.2.1)
  rcases List.mem_cons.mp hV with rfl | hV
  · exact ne _ (nw.2.2.1)
  rcases List.mem_cons.mp hV with rfl | hV
  · exact ne _ (nw.2.2.2.1)
  rcases List.mem_cons.mp hV with rfl | hV
  · exact ne _ (hs.2.2.2.2.2.2.1)
  rcases List.mem_cons.mp hV with rfl | hV
  · exact ne _ (hs.2.2.2.2.2.2.2)
  rcases List.mem_cons.mp hV with rfl | hV
  · exact ne _ (nw.2.2.2.2.1)
  rcases List.mem_cons.mp hV with rfl | hV
  · exact ne _ (hs.1)
  rcases List.mem_cons.mp hV with rfl | hV
  · exact ne _ (hs.2.1)
  rcases List.mem_cons.mp hV with rfl | hV
  · exact ne _ (hs.2.2.1)
  rcases List.mem_cons.mp hV with rfl | hV
  · exact ne _ (hs.2.2.2.1)
  rcases List.mem_cons.mp hV with rfl | hV
  · exact ne _ (hs.2.2.2.2.1)
  rcases List.mem_cons.mp hV with rfl | hV
  · exact ne _ (hs.2.2.2.2.2.1)
  rcases List.mem_cons.mp hV with rfl | hV
  · exact ne _ (nw.2.2.2.2.2.1)
  rcases List.mem_singleton.mp hV with rfl
  exact ne _ (nw.2.2.2.2.2.2)

/-- whether the token fits a type of that sort -/
def FT_ (σ : ST) (s : Int) : Prop := (s = 0 ∧ W_ σ v_none) ∨ (s = 1 ∧ (W_ σ v_yes ∨ W_ σ v_no)) ∨ (s = 2 ∧ (σ.1 0 6).toInt = 2 ∧ (σ.1 0 10).toInt = 0 ∧ -2147483648 ≤ (σ.2.1 0 9).toInt ∧ (σ.2.1 0 9).toInt ≤ 2147483647) ∨ (s = 3 ∧ (σ.1 0 6).toInt = 2 ∧ (σ.1 0 10).toInt = 0) ∨ (s = 4 ∧ (σ.1 0 6).toInt = 2) ∨ (s = 5 ∧ (σ.1 0 6).toInt = 3) ∨ (s = 6 ∧ (σ.1 0 13).toInt = 91) ∨ (s = 7 ∧ (σ.1 0 13).toInt = 123)
def ftc (s : Int) : Nat := if s = 0 then 8 else if s = 1 then 2 else 0
theorem b_fits (p0 : Int32) (σ : ST) (h0 : 0 ≤ p0.toInt ∧ p0.toInt < 800) : OK (f_X11_fits p0 σ) (KO σ (ftc (σ.1 2 p0.toNatClampNeg).toInt) fun v => v.toInt = 0 ∧ ¬ FT_ σ (σ.1 2 p0.toNatClampNeg).toInt ∨ v.toInt = 1 ∧ FT_ σ (σ.1 2 p0.toNatClampNeg).toInt) := by
  unfold f_X11_fits f_X11_fits_75
  have lt_0 := li_0
  have lt_1 := li_1
  have lt_2 := li_2
  have lt_3 := li_3
  have lt_4 := li_4
  have lt_5 := li_5
  have lt_6 := li_6
  have lt_7 := li_7
  have l91 := li_91
  have l123 := li_123
  have lm := li_m1
  refine OK.grd h0 ?_
  generalize σ.1 2 p0.toNatClampNeg = s
  have yes : ∀ c : Nat, FT_ σ s.toInt → OK (some (((1 : Int32), σ), 0)) (KO σ c fun v => v.toInt = 0 ∧ ¬ FT_ σ s.toInt ∨ v.toInt = 1 ∧ FT_ σ s.toInt) := fun c h => OK.kret (.inr ⟨lt_1, h⟩) (Nat.zero_le _)
  have no : ∀ c : Nat, ¬ FT_ σ s.toInt → OK (some (((0 : Int32), σ), 0)) (KO σ c fun v => v.toInt = 0 ∧ ¬ FT_ σ s.toInt ∨ v.toInt = 1 ∧ FT_ σ s.toInt) := fun c h => OK.kret (.inl ⟨lt_0, h⟩) (Nat.zero_le _)
  have shift : ∀ (x c d : Nat) (o : Option ((Int32 × ST) × Nat)), OK o (KO σ c fun v => v.toInt = 0 ∧ ¬ FT_ σ s.toInt ∨ v.toInt = 1 ∧ FT_ σ s.toInt) → x + c ≤ d → OK o (fun z => KO σ d (fun v => v.toInt = 0 ∧ ¬ FT_ σ s.toInt ∨ v.toInt = 1 ∧ FT_ σ s.toInt) (z.1, x + z.2)) := fun x c d o ho hx => ho.mono (fun q hq => ⟨hq.1, hq.2.1, by have := hq.2.2; show x + q.2 ≤ d; omega⟩)
  refine OK.ieq (fun h => ?_) (fun n0 => ?_)
  · have e : s.toInt = 0 := by omega
    have ec : ftc s.toInt = 8 := by unfold ftc; rw [if_pos e]
    rw [ec]
    refine OK.bndK (b_sortHere σ) (fun v x hv hx => ?_)
    refine OK.kac (shift x 0 8 _ ?_ (by omega))
    dsimp only
    unfold SH at hv
    refine OK.ieq (fun h9 => yes 0 (.inl ⟨e, ?_⟩)) (fun h9 => no 0 (fun hf => ?_))
    · rcases hv with hv | hv | hv | hv | hv | hv | hv | hv | hv
      · exact hv.2
      · omega
      · omega
      · omega
      · omega
      · omega
      · omega
      · omega
      · omega
    · have hw : W_ σ v_none := by
        unfold FT_ at hf
        rcases hf with hf | hf | hf | hf | hf | hf | hf | hf
        · exact hf.2
        · omega
        · omega
        · omega
        · omega
        · omega
        · omega
        · omega
      have h7 := hw.2
      rcases hv with hv | hv | hv | hv | hv | hv | hv | hv | hv
      · omega
      · exact absurd (h7.symm.trans hv.2.2) (by decide)
      · exact absurd (h7.symm.trans hv.2.2) (by decide)
      · exact absurd (h7.symm.trans hv.2.2) (by decide)
      · exact absurd (h7.symm.trans hv.2.2) (by decide)
      · exact absurd (h7.symm.trans hv.2.2) (by decide)
      · exact absurd (h7.symm.trans hv.2.2) (by decide)
      · exact absurd (h7.symm.trans hv.2.2) (by decide)
      · exact hv.2.1 hw
  refine OK.ieq (fun h => ?_) (fun n1 => ?_)
  · have e : s.toInt = 1 := by omega
    have ec : ftc s.toInt = 2 := by unfold ftc; rw [if_neg (by omega), if_pos e]
    rw [ec]
    refine OK.bndK (b_isYes σ) (fun v x hv hx => ?_)
    refine OK.kac (shift x 1 2 _ ?_ (by omega))
    dsimp only
    refine OK.ieq (fun h9 => ?_) (fun h9 => yes 1 (.inr (.inl ⟨e, .inl ?_⟩)))
    rotate_left
    · rcases hv with hv | hv
      · omega
      · exact hv.2
    refine OK.bndK (b_isNo σ) (fun v2 x2 hv2 hx2 => ?_)
    refine OK.kac (shift x2 0 1 _ ?_ (by omega))
    dsimp only
    refine OK.ieq (fun h8 => no 0 (fun hf => ?_)) (fun h8 => yes 0 (.inr (.inl ⟨e, .inr ?_⟩)))
    · have hw : W_ σ v_yes ∨ W_ σ v_no := by
        unfold FT_ at hf
        rcases hf with hf | hf | hf | hf | hf | hf | hf | hf
        · omega
        · exact hf.2
        · omega
        · omega
        · omega
        · omega
        · omega
        · omega
      rcases hw with hw | hw
      · rcases hv with hv | hv
        · exact hv.2 hw
        · omega
      · rcases hv2 with hv2 | hv2
        · exact hv2.2 hw
        · omega
    · rcases hv2 with hv2 | hv2
      · omega
      · exact hv2.2
  have F : FT_ σ s.toInt ↔ (s.toInt = 2 ∧ (σ.1 0 6).toInt = 2 ∧ (σ.1 0 10).toInt = 0 ∧ -2147483648 ≤ (σ.2.1 0 9).toInt ∧ (σ.2.1 0 9).toInt ≤ 2147483647) ∨ (s.toInt = 3 ∧ (σ.1 0 6).toInt = 2 ∧ (σ.1 0 10).toInt = 0) ∨ (s.toInt = 4 ∧ (σ.1 0 6).toInt = 2) ∨ (s.toInt = 5 ∧ (σ.1 0 6).toInt = 3) ∨ (s.toInt = 6 ∧ (σ.1 0 13).toInt = 91) ∨ (s.toInt = 7 ∧ (σ.1 0 13).toInt = 123) := by
    unfold FT_
    constructor
    · intro h
      rcases h with h | h | h
      · omega
      · omega
      · exact h
    · intro h
      exact .inr (.inr h)
  refine OK.ieq (fun h => ?_) (fun n2 => ?_)
  · refine OK.ieq (fun h6 => ?_) (fun h6 => no _ (fun hf => by have := F.mp hf; omega))
    refine OK.ieq (fun h10 => ?_) (fun h10 => no _ (fun hf => by have := F.mp hf; omega))
    have l1 : (-2147483648 : Int64).toInt = -2147483648 := by decide
    have l2 : (2147483647 : Int64).toInt = 2147483647 := by decide
    refine OK.bndR (b_within _ _ _ _) (fun w hw => ?_)
    dsimp only
    exact OK.ieq (fun h9 => no _ (fun hf => by have := F.mp hf; omega)) (fun h9 => yes _ (F.mpr (by omega)))
  refine OK.ieq (fun h => ?_) (fun n3 => ?_)
  · refine OK.ieq (fun h6 => ?_) (fun h6 => no _ (fun hf => by have := F.mp hf; omega))
    exact OK.ieq (fun h10 => yes _ (F.mpr (by omega))) (fun h10 => no _ (fun hf => by have := F.mp hf; omega))
  refine OK.ieq (fun h => ?_) (fun n4 => ?_)
  · exact OK.ieq (fun h6 => yes _ (F.mpr (by omega))) (fun h6 => no _ (fun hf => by have := F.mp hf; omega))
  refine OK.ieq (fun h => ?_) (fun n5 => ?_)
  · exact OK.ieq (fun h6 => yes _ (F.mpr (by omega))) (fun h6 => no _ (fun hf => by have := F.mp hf; omega))
  refine OK.ieq (fun h => ?_) (fun n6 => ?_)
  · exact OK.ieq (fun h6 => yes _ (F.mpr (by omega))) (fun h6 => no _ (fun hf => by have := F.mp hf; omega))
  refine OK.ieq (fun h => ?_) (fun n7 => no _ (fun hf => by have := F.mp hf; omega))
  exact OK.ieq (fun h6 => yes _ (F.mpr (by omega))) (fun h6 => no _ (fun hf => by have := F.mp hf; omega))
/-- whether a literal begins -/
def LT_ (σ : ST) : Prop := W_ σ v_none ∨ W_ σ v_yes ∨ W_ σ v_no ∨ (σ.1 0 6).toInt = 2 ∨ (σ.1 0 6).toInt = 3 ∨ (σ.1 0 13).toInt = 91
theorem b_isLiteral (σ : ST) : OK (f_X11_isLiteral σ) (KO σ 10 fun v => v.toInt = 0 ∧ ¬ LT_ σ ∨ v.toInt = 1 ∧ LT_ σ) := by
  unfold f_X11_isLiteral f_X11_isLiteral_46
  have lt_0 := li_0
  have lt_1 := li_1
  have lt_2 := li_2
  have lt_3 := li_3
  have l91 := li_91
  have lm := li_m1
  have yes : ∀ c : Nat, LT_ σ → OK (some (((1 : Int32), σ), 0)) (KO σ c fun v => v.toInt = 0 ∧ ¬ LT_ σ ∨ v.toInt = 1 ∧ LT_ σ) := fun c h => OK.kret (.inr ⟨lt_1, h⟩) (Nat.zero_le _)
  have shift : ∀ (x c d : Nat) (o : Option ((Int32 × ST) × Nat)), OK o (KO σ c fun v => v.toInt = 0 ∧ ¬ LT_ σ ∨ v.toInt = 1 ∧ LT_ σ) → x + c ≤ d → OK o (fun z => KO σ d (fun v => v.toInt = 0 ∧ ¬ LT_ σ ∨ v.toInt = 1 ∧ LT_ σ) (z.1, x + z.2)) := fun x c d o ho hx => ho.mono (fun q hq => ⟨hq.1, hq.2.1, by have := hq.2.2; show x + q.2 ≤ d; omega⟩)
  refine OK.bndK (b_sortHere σ) (fun v x hv hx => ?_)
  refine OK.kac (shift x 2 10 _ ?_ (by omega))
  dsimp only
  unfold SH at hv
  refine OK.ieq (fun h => yes 2 (.inl ?_)) (fun h => ?_)
  · rcases hv with hv | hv | hv | hv | hv | hv | hv | hv | hv
    · exact hv.2
    · omega
    · omega
    · omega
    · omega
    · omega
    · omega
    · omega
    · omega
  have hnn : ¬ W_ σ v_none := fun hw => by
    have h7 := hw.2
    rcases hv with hv | hv | hv | hv | hv | hv | hv | hv | hv
    · omega
    · exact absurd (h7.symm.trans hv.2.2) (by decide)
    · exact absurd (h7.symm.trans hv.2.2) (by decide)
    · exact absurd (h7.symm.trans hv.2.2) (by decide)
    · exact absurd (h7.symm.trans hv.2.2) (by decide)
    · exact absurd (h7.symm.trans hv.2.2) (by decide)
    · exact absurd (h7.symm.trans hv.2.2) (by decide)
    · exact absurd (h7.symm.trans hv.2.2) (by decide)
    · exact hv.2.1 hw
  refine OK.bndK (b_isYes σ) (fun v2 x2 hv2 hx2 => ?_)
  refine OK.kac (shift x2 1 2 _ ?_ (by omega))
  dsimp only
  refine OK.ieq (fun h2 => ?_) (fun h2 => yes 1 (.inr (.inl ?_)))
  rotate_left
  · rcases hv2 with hv2 | hv2
    · omega
    · exact hv2.2
  refine OK.bndK (b_isNo σ) (fun v3 x3 hv3 hx3 => ?_)
  refine OK.kac (shift x3 0 1 _ ?_ (by omega))
  dsimp only
  refine OK.ieq (fun h3 => ?_) (fun h3 => yes 0 (.inr (.inr (.inl ?_))))
  rotate_left
  · rcases hv3 with hv3 | hv3
    · omega
    · exact hv3.2
  refine OK.ieq (fun h6 => yes 0 (.inr (.inr (.inr (.inl (by omega)))))) (fun h6 => ?_)
  refine OK.ieq (fun h63 => yes 0 (.inr (.inr (.inr (.inr (.inl (by omega))))))) (fun h63 => ?_)
  refine OK.ieq (fun h13 => yes 0 (.inr (.inr (.inr (.inr (.inr (by omega))))))) (fun h13 => ?_)
  refine OK.kret (.inl ⟨lt_0, fun hL => ?_⟩) (Nat.zero_le _)
  rcases hL with hL | hL | hL | hL | hL | hL
  · exact hnn hL
  · rcases hv2 with hv2 | hv2
    · exact hv2.2 hL
    · omega
  · rcases hv3 with hv3 | hv3
    · exact hv3.2 hL
    · omega
  · omega
  · omega
  · omega
theorem b_bitsOf (p0 : Int32) (σ : ST) (h0 : 0 ≤ p0.toInt ∧ p0.toInt < 800) : OK (f_X11_bitsOf p0 σ) (KO σ 1 fun _ => True) := by
  unfold f_X11_bitsOf f_X11_bitsOf_31 f_X11_bitsOf_65
  refine OK.grd h0 ?_
  refine OK.ieq (fun _ => ?_) (fun _ => ?_)
  · exact OK.ieq (fun _ => OK.bndR (b_dtl _ σ) (fun v _ => OK.kret trivial (Nat.zero_le _))) (fun _ => OK.bndR (b_dtl _ σ) (fun v _ => OK.kret trivial (Nat.zero_le _)))
  refine OK.ieq (fun _ => ?_) (fun _ => ?_)
  · refine OK.bndK (b_isYes σ) (fun v x hv hx => ?_)
    refine OK.kac ?_
    dsimp only
    exact OK.ieq (fun _ => ⟨_, rfl, rfl, trivial, hx⟩) (fun _ => ⟨_, rfl, rfl, trivial, hx⟩)
  refine OK.ieq (fun _ => OK.kret trivial (Nat.zero_le _)) (fun _ => ?_)
  exact OK.ieq (fun _ => OK.kret trivial (Nat.zero_le _)) (fun _ => OK.kret trivial (Nat.zero_le _))
/-- a mistake told -/
theorem b_wrong (p0 p1 : Int32) (σ : ST) : OK (f_X11_wrong p0 p1 σ) (RC [] [12] σ fun v _ => v.toInt = 0) := by
  unfold f_X11_wrong f_X11_wrong_21
  exact OK.ieq (fun _ => OK.cret (CH.rf.o (by decide)) li_0) (fun _ => OK.cret (CH.rf.o (by decide)) li_0)
theorem b_wrongHere (p0 : Int32) (σ : ST) : OK (f_X11_wrongHere p0 σ) (RC [] [12] σ fun v _ => v.toInt = 0) := by
  unfold f_X11_wrongHere
  refine OK.bndC (b_wrong _ _ σ) (fun v t c hv => ?_)
  dsimp only
  exact OK.grd (b01 (.inl hv)) (OK.cret c hv)
/-- how much of the text is left, the token counted -/
def uT (σ : ST) : Nat := ((σ.1 0 3).toInt - (σ.1 0 5).toInt).toNat + (if (σ.1 0 6).toInt = 0 then 0 else 1)
/-- the text is being read -/
def TX (σ : ST) : Prop := bI (σ.1 0 3) 0 1000 ∧ bI (σ.1 0 5) 0 1001 ∧ ((σ.1 0 6).toInt = 3 → 0 ≤ (σ.1 0 8).toInt ∧ (σ.1 0 8).toInt ≤ 12) ∧ (¬ (σ.1 0 13).toInt = 0 → ¬ (σ.1 0 6).toInt = 0)
theorem run_le {P : Int → Prop} {T : Nat → Int32} {n : Int} {s m : Nat} (hP : ∀ c, P c → 0 ≤ c) (h : RUN P T n s m) (h0 : 0 < m) : ((s + m : Nat) : Int) ≤ n := by
  have hl := hP _ (h.1 (m - 1) (by omega))
  have := (bt_rng (T := T) (n := n) (k := s + (m - 1))).2.2.mp hl
  omega
theorem isL_0 : ∀ c, isL c → 0 ≤ c := fun c h => by unfold isL at h; omega
theorem isD_0 : ∀ c, isD c → 0 ≤ c := fun c h => by unfold isD at h; omega
/-- what a token leaves of the text -/
theorem TB_.left {T : Nat → Int32} {n : Int} {p s : Nat} {t : ST} (hn : 0 ≤ n ∧ n ≤ 1000) (hp : p ≤ 1001) (hs : SK T n p s) (h : TB_ T n s t) : bI (t.1 0 5) 0 1001 ∧ ((t.1 0 6).toInt = 3 → 0 ≤ (t.1 0 8).toInt ∧ (t.1 0 8).toInt ≤ 12) ∧ ((t.1 0 6).toInt = 0 → n ≤ (t.1 0 5).toInt) ∧ (¬ (t.1 0 6).toInt = 0 → (p : Int) + 1 ≤ (t.1 0 5).toInt ∧ (p : Int) < n) := by
  obtain ⟨s1, s2, s3⟩ := hs
  have hsp : s = p ∨ (s : Int) ≤ n := by
    by_cases e : s = p
    · exact .inl e
    · have hb := s2 (s - 1) (by omega) (by omega)
      have := (bt_rng (T := T) (n := n) (k := s - 1)).2.2.mp (by unfold isB at hb; omega)
      exact .inr (by omega)
  have hlt := (bt_rng (T := T) (n := n) (k := s)).2.2
  obtain ⟨h4, h | h | h | h | h⟩ := h
  · have : ¬ (s : Int) < n := fun h9 => by have := hlt.mpr h9; omega
    exact ⟨⟨by omega, by omega⟩, fun h9 => by omega, fun _ => by omega, fun h9 => by omega⟩
  · obtain ⟨hL, h13, m, hR, t5, t8, t7, t6⟩ := h
    have hs0 := hlt.mp (isL_0 _ hL)
    have hm : 0 < m := by
      by_cases e : m = 0
      · rw [e] at hR
        exact absurd hL hR.2
      · omega
    have := run_le isL_0 hR hm
    exact ⟨⟨by omega, by omega⟩, fun h9 => by omega, fun h9 => by omega, fun h9 => by omega⟩
  · obtain ⟨hd, hN⟩ := h
    have hs0 : (s : Int) < n := hlt.mp (by
      rcases hd with hd | hd
      · exact isD_0 _ hd
      · omega)
    have key : ∀ (i m : Nat) (g : Prop), NB T n i m g t → (i = s ∨ i = s + 1) → isD (bt T n i) → bI (t.1 0 5) 0 1001 ∧ ((t.1 0 6).toInt = 3 → 0 ≤ (t.1 0 8).toInt ∧ (t.1 0 8).toInt ≤ 12) ∧ ((t.1 0 6).toInt = 0 → n ≤ (t.1 0 5).toInt) ∧ (¬ (t.1 0 6).toInt = 0 → (p : Int) + 1 ≤ (t.1 0 5).toInt ∧ (p : Int) < n) := fun i m g hNB hi hdi => by
      obtain ⟨hR, n13, n9, hh⟩ := hNB
      have hm : 0 < m := by
        by_cases e : m = 0
        · rw [e] at hR
          exact absurd hdi hR.2
        · omega
      have h1 := run_le isD_0 hR hm
      rcases hh with ⟨a1, a2, a3, a4, a5⟩ | ⟨a1, a2, a3, a4⟩
      · have h2 := (bt_rng (T := T) (n := n) (k := i + m + 1)).2.2.mp (isD_0 _ a2)
        exact ⟨⟨by omega, by omega⟩, fun h9 => by omega, fun h9 => by omega, fun h9 => by omega⟩
      · exact ⟨⟨by omega, by omega⟩, fun h9 => by omega, fun h9 => by omega, fun h9 => by omega⟩
    rcases hN with ⟨h45, m, hm⟩ | ⟨h45, m, hm⟩
    · refine key (s + 1) m _ hm (.inr rfl) ?_
      rcases hd with hd | hd
      · unfold isD at hd; omega
      · exact hd.2
    · refine key s m _ hm (.inl rfl) ?_
      rcases hd with hd | hd
      · exact hd
      · exact absurd hd.1 h45
  · obtain ⟨h34, h13, m, hR, t5, t8, t6⟩ := h
    have hs0 := hlt.mp (by omega)
    have h1 : ((s + 1 + m : Nat) : Int) ≤ n := by
      by_cases e : m = 0
      · omega
      · exact run_le isL_0 hR (by omega)
    exact ⟨⟨by omega, by omega⟩, fun h9 => by omega, fun h9 => by omega, fun h9 => by omega⟩
  · obtain ⟨h0, t5, t6⟩ := h
    have hs0 := hlt.mp h0.1
    exact ⟨⟨by omega, by omega⟩, fun h9 => by omega, fun h9 => by omega, fun h9 => by omega⟩
theorem TB_.sgn {T : Nat → Int32} {n : Int} {s : Nat} {t : ST} (h : TB_ T n s t) : ¬ (t.1 0 13).toInt = 0 → ¬ (t.1 0 6).toInt = 0 := by
  intro h13
  obtain ⟨h4, h | h | h | h | h⟩ := h
  · omega
  · omega
  · rcases h.2 with ⟨_, m, hm⟩ | ⟨_, m, hm⟩
    · have := hm.2.1; omega
    · have := hm.2.1; omega
  · omega
  · omega
theorem b_goT (σ : ST) (h : TX σ) : OK (f_X11_go σ) (RZ [] GI σ fun t => TX t ∧ uT t ≤ ((σ.1 0 3).toInt - (σ.1 0 5).toInt).toNat) := by
  obtain ⟨⟨n1, n2⟩, ⟨p1, p2⟩, _, _⟩ := h
  have np := nN_ p1
  refine (b_go σ (σ.1 0 5).toNatClampNeg ⟨n1, n2⟩ np.symm (by omega)).mono (fun t ht => ?_)
  obtain ⟨c, s, hs, hT⟩ := ht
  obtain ⟨a1, a2, a3, a4⟩ := hT.left ⟨n1, n2⟩ (by omega) hs
  have e3 : t.1 0 3 = σ.1 0 3 := c.2.1 3 (by decide)
  refine ⟨c, ⟨by rw [e3]; exact ⟨n1, n2⟩, a1, a2, hT.sgn⟩, ?_⟩
  unfold uT
  rw [e3]
  have a11 := a1.1
  split
  · rename_i h9
    have := a3 h9
    omega
  · rename_i h9
    have := a4 h9
    omega
theorem b_mark (p0 : Int32) (σ : ST) (h : TX σ) : OK (f_X11_mark p0 σ) (RC [] [4, 5, 6, 8, 10, 12, 13] σ fun v t => TX t ∧ (v.toInt = 0 ∧ uT t ≤ uT σ ∨ v.toInt = 1 ∧ (σ.1 0 13).toInt = p0.toInt ∧ uT t ≤ ((σ.1 0 3).toInt - (σ.1 0 5).toInt).toNat)) := by
  unfold f_X11_mark
  have lt_1 := li_1
  refine OK.ieq (fun h13 => ?_) (fun h13 => ?_)
  · refine OK.bndZ (b_goT σ h) (fun t c ht => ?_)
    exact OK.cret (c.mono (by decide) (by decide)) ⟨ht.1, .inr ⟨lt_1, h13, ht.2⟩⟩
  · refine OK.bndC (b_wrongHere _ σ) (fun v t c hv => ?_)
    dsimp only
    refine OK.grd (b01 (.inl hv)) ?_
    have e3 : t.1 0 3 = σ.1 0 3 := c.2.1 3 (by decide)
    have e5 : t.1 0 5 = σ.1 0 5 := c.2.1 5 (by decide)
    have e6 : t.1 0 6 = σ.1 0 6 := c.2.1 6 (by decide)
    have e8 : t.1 0 8 = σ.1 0 8 := c.2.1 8 (by decide)
    refine OK.cret (c.mono (by decide) (by decide)) ⟨?_, .inl ⟨hv, ?_⟩⟩
    · unfold TX
      rw [e3, e5, e6, e8, c.2.1 13 (by decide)]; exact h
    · unfold uT
      rw [e3, e5, e6]
      exact Nat.le_refl _
/-! the reference: a value's text -/
theorem b_isValue (σ : ST) : OK (f_X11_isValue σ) (KO σ 10 fun v => v.toInt = 0 ∨ v.toInt = 1) := by
  unfold f_X11_isValue f_X11_isValue_16
  have lt_0 := li_0
  have lt_1 := li_1
  refine OK.bndK (b_isLiteral σ) (fun v x hv hx => ?_)
  refine OK.kac ?_
  dsimp only
  refine OK.ieq (fun _ => ?_) (fun _ => ⟨_, rfl, rfl, .inr lt_1, hx⟩)
  exact OK.ieq (fun _ => ⟨_, rfl, rfl, .inr lt_1, hx⟩) (fun _ => ⟨_, rfl, rfl, .inl lt_0, hx⟩)
/-- what trying the branches takes -/
def cs (S B : Nat → Int32) (t : Nat) : Nat → Nat
  | 0 => 0
  | k + 1 => cs S B t k + ftc (S (B (4 * t + k)).toNatClampNeg).toInt
theorem cs_mono {S B : Nat → Int32} {t : Nat} : ∀ {j k : Nat}, j ≤ k → cs S B t j ≤ cs S B t k := by
  intro j k h
  induction k with
  | zero =>
    have : j = 0 := by omega
    rw [this]
    exact Nat.le_refl _
  | succ k ih =>
    by_cases e : j = k + 1
    · rw [e]; exact Nat.le_refl _
    · have := ih (by omega)
      rw [cs]
      omega
theorem cs_10 {hi : Int} {S A M B : Nat → Int32} {rm : Int} {d : Nat} {t : Int32} (h : VT hi S A M B rm d t) (hs : (S t.toNatClampNeg).toInt = 8) {k : Nat} (hk : (k : Int) ≤ (M t.toNatClampNeg).toInt) : cs S B t.toNatClampNeg k ≤ 10 := by
  obtain ⟨_, m1, _, m3⟩ := h.eit hs
  have f2 : ∀ s : Int, ftc s = 8 ∧ s = 0 ∨ ftc s = 2 ∧ s = 1 ∨ ftc s = 0 ∧ ¬ s = 0 ∧ ¬ s = 1 := fun s => by
    unfold ftc
    split
    · omega
    · split <;> omega
  have k4 : k = 0 ∨ k = 1 ∨ k = 2 ∨ k = 3 ∨ k = 4 := by omega
  have a := f2 (S (B (4 * t.toNatClampNeg + 0)).toNatClampNeg).toInt
  have b := f2 (S (B (4 * t.toNatClampNeg + 1)).toNatClampNeg).toInt
  have c := f2 (S (B (4 * t.toNatClampNeg + 2)).toNatClampNeg).toInt
  have e := f2 (S (B (4 * t.toNatClampNeg + 3)).toNatClampNeg).toInt
  rcases k4 with rfl | rfl | rfl | rfl | rfl
  · rw [cs]; omega
  · rw [cs, cs]; omega
  · have := m3 0 1 (by omega) (by omega)
    rw [cs, cs, cs]; omega
  · have := m3 0 1 (by omega) (by omega)
    have := m3 0 2 (by omega) (by omega)
    have := m3 1 2 (by omega) (by omega)
    rw [cs, cs, cs, cs]; omega
  · have := m3 0 1 (by omega) (by omega)
    have := m3 0 2 (by omega) (by omega)
    have := m3 1 2 (by omega) (by omega)
    have := m3 0 3 (by omega) (by omega)
    have := m3 1 3 (by omega) (by omega)
    have := m3 2 3 (by omega) (by omega)
    rw [cs, cs, cs, cs, cs]; omega
theorem b_branchFor_2 (t : Int32) (σ : ST) {a : Int} {d : Nat} (h : VS σ a d t) (hs : (σ.1 2 t.toNatClampNeg).toInt = 8) : ∀ (n : Nat) (x2 : Int32), (0 ≤ x2.toInt ∧ x2.toInt ≤ (σ.1 4 t.toNatClampNeg).toInt ∧ (σ.1 4 t.toNatClampNeg).toInt - x2.toInt < n) → OK (f_X11_branchFor_2 n t x2 σ) (fun q => q.1.2 = σ ∧ (q.1.1.toInt = -1 ∨ 0 ≤ q.1.1.toInt ∧ q.1.1.toInt < (σ.1 4 t.toNatClampNeg).toInt) ∧ q.2 + cs (σ.1 2) (σ.1 5) t.toNatClampNeg x2.toNatClampNeg ≤ cs (σ.1 2) (σ.1 5) t.toNatClampNeg (σ.1 4 t.toNatClampNeg).toNatClampNeg) := by
  intro n
  have g := h.rng
  obtain ⟨_, m1, m2, m3⟩ := h.eit hs
  have lt_1 := li_1
  have lt_4 := li_4
  have lm := li_m1
  have nt := nN_ g.1
  have nM := nN_ (x := σ.1 4 t.toNatClampNeg) (by omega)
  have e1 := mlE (k := 4) (y := t) 4 li_4 (by omega) (by omega)
  induction n with
  | zero => intro x2 hx; omega
  | succ n ih =>
    intro x2 hx
    rw [f_X11_branchFor_2]
    have n2 := nN_ hx.1
    have e2 := il_addE (x := 4 * t) (y := x2) (by omega) (by omega)
    have e3 := il_addE (x := x2) (y := 1) (by omega) (by omega)
    have e4 : (4 * t + x2).toNatClampNeg = 4 * t.toNatClampNeg + x2.toNatClampNeg := nC (by omega)
    refine OK.grd g ?_
    refine OK.ile (fun _ => ⟨_, rfl, rfl, .inl lm, ?_⟩) (fun hlt => ?_)
    · have : x2.toNatClampNeg = (σ.1 4 t.toNatClampNeg).toNatClampNeg := by omega
      rw [this]
      show 0 + _ ≤ _
      omega
    refine OK.grd ⟨by omega, by omega⟩ ?_
    rw [e4]
    have hB := (m2 x2.toNatClampNeg (by omega)).1
    refine OK.bndK (b_fits _ σ hB.rng) (fun v x hv hxc => ?_)
    refine OK.kac ?_
    dsimp only
    have hc : cs (σ.1 2) (σ.1 5) t.toNatClampNeg (x2.toNatClampNeg + 1) = cs (σ.1 2) (σ.1 5) t.toNatClampNeg x2.toNatClampNeg + ftc (σ.1 2 (σ.1 5 (4 * t.toNatClampNeg + x2.toNatClampNeg)).toNatClampNeg).toInt := rfl
    have n3 : (x2 + 1).toNatClampNeg = x2.toNatClampNeg + 1 := nC (by omega)
    have hmn := cs_mono (S := σ.1 2) (B := σ.1 5) (t := t.toNatClampNeg) (show x2.toNatClampNeg + 1 ≤ (σ.1 4 t.toNatClampNeg).toNatClampNeg by omega)
    refine OK.ieq (fun _ => ?_) (fun _ => ⟨_, rfl, rfl, .inr ⟨by dsimp only; omega, by dsimp only; omega⟩, ?_⟩)
    · refine (ih (x2 + 1) (by omega)).mono (fun q hq => ⟨hq.1, hq.2.1, ?_⟩)
      have h9 := hq.2.2
      rw [n3] at h9
      omega
    · dsimp only
      omega
theorem b_branchFor (t : Int32) (σ : ST) {a : Int} {d : Nat} (h : VS σ a d t) (hs : (σ.1 2 t.toNatClampNeg).toInt = 8) : OK (f_X11_branchFor t σ) (KO σ 10 fun v => v.toInt = -1 ∨ 0 ≤ v.toInt ∧ v.toInt < (σ.1 4 t.toNatClampNeg).toInt) := by
  have lt_0 := li_0
  have lu := FUi
  obtain ⟨_, m1, _⟩ := h.eit hs
  have nM := nN_ (x := σ.1 4 t.toNatClampNeg) (by omega)
  have h10 := cs_10 h hs (k := (σ.1 4 t.toNatClampNeg).toNatClampNeg) (by omega)
  refine (b_branchFor_2 t σ h hs FU 0 (by omega)).mono (fun q hq => ⟨hq.1, hq.2.1, ?_⟩)
  have := hq.2.2
  omega
abbrev WC : List Nat := [20, 23, 24, 25, 26, 27, 28, 29, 30]
abbrev WI : List Nat := [4, 5, 6, 8, 10, 12, 13, 46]
def WX (LV : Nat → Nat) (σ : ST) : Prop := PLs σ ∧ TX σ ∧ NL LV σ
def pot (σ : ST) : Int := (σ.1 0 46).toInt + 4 * (uT σ : Nat)
/-- from there to there: more nodes, those there were as they were -/
def WG (LV : Nat → Nat) (σ : ST) (LV' : Nat → Nat) (t : ST) : Prop := CH WC WI σ t ∧ WX LV' t ∧ (σ.1 0 46).toInt ≤ (t.1 0 46).toInt ∧ ∀ r : Nat, (r : Int) < (σ.1 0 46).toInt → LV' r = LV r ∧ t.1 20 r = σ.1 20 r
theorem WG.rf {LV : Nat → Nat} {σ : ST} (h : WX LV σ) : WG LV σ LV σ := ⟨CH.rf, h, by omega, fun _ _ => ⟨rfl, rfl⟩⟩
theorem WG.trans {L0 L1 L2 : Nat → Nat} {σ s t : ST} (h : WG L0 σ L1 s) (k : WG L1 s L2 t) : WG L0 σ L2 t := by
  obtain ⟨a1, a2, a3, a4⟩ := h
  obtain ⟨b1, b2, b3, b4⟩ := k
  refine ⟨a1.trans b1, b2, by omega, fun r hr => ?_⟩
  have x := a4 r hr
  have y := b4 r (by omega)
  exact ⟨y.1.trans x.1, y.2.trans x.2⟩
/-- one token further on -/
theorem WX.go {LV : Nat → Nat} {σ : ST} (h : WX LV σ) : OK (f_X11_go σ) (fun t => WG LV σ LV t ∧ uT t ≤ ((σ.1 0 3).toInt - (σ.1 0 5).toInt).toNat ∧ t.1 0 46 = σ.1 0 46) := by
  refine (b_goT σ h.2.1).mono (fun t ht => ?_)
  obtain ⟨c, h1, h2⟩ := ht
  have e46 : t.1 0 46 = σ.1 0 46 := c.2.1 46 (by decide)
  refine ⟨⟨c.mono (by decide) (by decide), ⟨h.1.ch c (by decide) (by decide), h1, h.2.2.ch c (by decide) (by decide)⟩, by rw [e46]; omega, fun r _ => ⟨rfl, by rw [c.1 20 (by decide) (by decide)]⟩⟩, h2, e46⟩
theorem uT_ne {σ : ST} (h : ¬ (σ.1 0 6).toInt = 0) : uT σ = ((σ.1 0 3).toInt - (σ.1 0 5).toInt).toNat + 1 := by
  unfold uT
  rw [if_neg h]
theorem uT_le {σ : ST} : ((σ.1 0 3).toInt - (σ.1 0 5).toInt).toNat ≤ uT σ := by
  unfold uT
  omega
/-- what reading a value's text ends with -/
def VK (LV : Nat → Nat) (σ : ST) (e m : Int) (q : (Int32 × ST) × Nat) : Prop := CH WC WI σ q.1.2 ∧ (q.1.1.toInt = 0 ∧ q.2 + 40 * uT q.1.2 ≤ 40 * uT σ + 30 ∨ q.1.1.toInt = 1 ∧ q.2 + 40 * uT q.1.2 ≤ 40 * uT σ ∧ ∃ LV', WG LV σ LV' q.1.2 ∧ pot q.1.2 ≤ pot σ + e ∧ (σ.1 0 46).toInt + m ≤ (q.1.2.1 0 46).toInt)
theorem VK.bad {LV LV' : Nat → Nat} {σ s : ST} {e m : Int} {x : Nat} {p0 : Int32} (g : WG LV σ LV' s) (hx : x + 40 * uT s ≤ 40 * uT σ + 30) : OK ((f_X11_wrongHere p0 s).bind fun q => if q.1 = 0 ∨ q.1 = 1 then some ((q.1, q.2), 0) else none) (fun z => VK LV σ e m (z.1, x + z.2)) := by
  refine OK.bndC (b_wrongHere p0 s) (fun v t c hv => ?_)
  dsimp only
  refine OK.grd (b01 (.inl hv)) ?_
  have e3 : t.1 0 3 = s.1 0 3 := c.2.1 3 (by decide)
  have e5 : t.1 0 5 = s.1 0 5 := c.2.1 5 (by decide)
  have e6 : t.1 0 6 = s.1 0 6 := c.2.1 6 (by decide)
  have eu : uT t = uT s := by unfold uT; rw [e3, e5, e6]
  refine ⟨_, rfl, g.1.trans (c.mono (by decide) (by decide)), .inl ⟨hv, ?_⟩⟩
  show x + 0 + 40 * uT t ≤ _
  rw [eu]
  omega
def VPO (LV : Nat → Nat) (σ : ST) (dp p : Int32) : Prop := p.toInt = -1 ∧ dp.toInt = 0 ∨ (0 ≤ p.toInt ∧ p.toInt < (σ.1 0 46).toInt) ∧ (LV p.toNatClampNeg : Int) + 1 = dp.toInt ∧ ¬ (σ.1 20 p.toNatClampNeg).toInt = 5
def rmP (σ : ST) (p : Int32) : Int := (σ.1 8 p.toNatClampNeg).toInt
def cVal (N : Nat) (rv : Int32 → Int32 → Int32 → Int32 → Int32 → ST → Option ((Int32 × ST) × Nat)) : Prop := ∀ (p t dp pa ix : Int32) (σ : ST) (LV : Nat → Nat), WX LV σ → (0 ≤ p.toInt ∧ p.toInt < (σ.1 0 32).toInt) → VS σ (rmP σ p) 4 t → (0 ≤ dp.toInt ∧ dp.toInt ≤ 31) → VPO LV σ dp pa → pot σ ≤ 4050 → 2 * (32 - dp.toInt) ≤ (N : Int) → OK (rv p t dp pa ix σ) (VK LV σ 1 1)
def VNV (LV : Nat → Nat) (σ : ST) (dp v : Int32) : Prop := (0 ≤ v.toInt ∧ v.toInt < (σ.1 0 46).toInt) ∧ (LV v.toNatClampNeg : Int) = dp.toInt ∧ ¬ (σ.1 20 v.toNatClampNeg).toInt = 5
theorem VNV.g {L0 L1 : Nat → Nat} {σ t : ST} {dp v : Int32} (h : VNV L0 σ dp v) (g : WG L0 σ L1 t) : VNV L1 t dp v := by
  obtain ⟨a1, a2, a3⟩ := h
  obtain ⟨_, _, b3, b4⟩ := g
  have n1 := nN_ a1.1
  have b := b4 v.toNatClampNeg (by omega)
  refine ⟨by omega, by rw [b.1]; exact a2, by rw [b.2]; exact a3⟩
def cIts (N : Nat) (ri : Int32 → Int32 → Int32 → Int32 → ST → Option ((Int32 × ST) × Nat)) : Prop := ∀ (p t dp v : Int32) (σ : ST) (LV : Nat → Nat), WX LV σ → (0 ≤ p.toInt ∧ p.toInt < (σ.1 0 32).toInt) → VS σ (rmP σ p) 4 t → (σ.1 2 t.toNatClampNeg).toInt = 6 → (0 ≤ dp.toInt ∧ dp.toInt ≤ 30) → VNV LV σ dp v → ¬ (σ.1 0 6).toInt = 0 → pot σ ≤ 4051 → 2 * (32 - dp.toInt) ≤ (N : Int) + 1 → OK (ri p t dp v σ) (fun q => VK LV σ 0 0 (q.1, q.2 + 30))
def cPts (N : Nat) (rp : Int32 → Int32 → Int32 → Int32 → ST → Option ((Int32 × ST) × Nat)) : Prop := ∀ (p t dp v : Int32) (σ : ST) (LV : Nat → Nat), WX LV σ → (0 ≤ p.toInt ∧ p.toInt < (σ.1 0 32).toInt) → VS σ (rmP σ p) 4 t → (σ.1 2 t.toNatClampNeg).toInt = 7 → (0 ≤ dp.toInt ∧ dp.toInt ≤ 30) → VNV LV σ dp v → ¬ (σ.1 0 6).toInt = 0 → pot σ ≤ 4051 → 2 * (32 - dp.toInt) ≤ (N : Int) + 1 → OK (rp p t dp v σ) (fun q => VK LV σ 0 0 (q.1, q.2 + 30))
theorem VK.comp {LV L1 : Nat → Nat} {σ s : ST} {e m e2 m2 : Int} {x y : Nat} {o : Option ((Int32 × ST) × Nat)} (g : WG LV σ L1 s) (hx : x + 40 * uT s ≤ 40 * uT σ + y) (hp : pot s + e2 ≤ pot σ + e) (hm : (σ.1 0 46).toInt + m ≤ (s.1 0 46).toInt + m2) (h : OK o (fun q => VK L1 s e2 m2 (q.1, q.2 + y))) : OK o (fun z => VK LV σ e m (z.1, x + z.2)) := by
  refine h.mono (fun q hq => ?_)
  obtain ⟨c, hq⟩ := hq
  refine ⟨g.1.trans c, ?_⟩
  rcases hq with ⟨h1, h2⟩ | ⟨h1, h2, L2, g2, h3, h4⟩
  · have h2 : q.2 + y + 40 * uT q.1.2 ≤ 40 * uT s + 30 := h2
    exact .inl ⟨h1, (show x + q.2 + 40 * uT q.1.2 ≤ 40 * uT σ + 30 by omega)⟩
  · have h2 : q.2 + y + 40 * uT q.1.2 ≤ 40 * uT s := h2
    have h3 : pot q.1.2 ≤ pot s + e2 := h3
    have h4 : (s.1 0 46).toInt + m2 ≤ (q.1.2.1 0 46).toInt := h4
    exact .inr ⟨h1, (show x + q.2 + 40 * uT q.1.2 ≤ 40 * uT σ by omega), L2, g.trans g2, (show pot q.1.2 ≤ _ by omega), (show _ ≤ (q.1.2.1 0 46).toInt by omega)⟩
theorem VK.y0 {LV : Nat → Nat} {σ : ST} {e m : Int} {o : Option ((Int32 × ST) × Nat)} (h : OK o (VK LV σ e m)) : OK o (fun q => VK LV σ e m (q.1, q.2 + 0)) := h
theorem WG.vs {L0 L1 : Nat → Nat} {σ t : ST} (g : WG L0 σ L1 t) : (∀ (a : Int) (d : Nat) (x : Int32), VS σ a d x → VS t a d x) ∧ t.1 2 = σ.1 2 ∧ t.1 3 = σ.1 3 ∧ t.1 8 = σ.1 8 ∧ t.1 11 = σ.1 11 ∧ t.1 15 = σ.1 15 ∧ t.1 0 32 = σ.1 0 32 := ⟨fun _ _ _ hx => VT.tr hx g.1 (by decide), g.1.1 2 (by decide) (by decide), g.1.1 3 (by decide) (by decide), g.1.1 8 (by decide) (by decide), g.1.1 11 (by decide) (by decide), g.1.1 15 (by decide) (by decide), g.1.2.1 32 (by decide)⟩
theorem b_its_25 {N : Nat} {ri rp : Int32 → Int32 → Int32 → Int32 → ST → Option ((Int32 × ST) × Nat)} {rv : Int32 → Int32 → Int32 → Int32 → Int32 → ST → Option ((Int32 × ST) × Nat)} (hv : cVal N rv) (p t dp v : Int32) (hdp : 0 ≤ dp.toInt ∧ dp.toInt ≤ 30) (hN : 2 * (32 - dp.toInt) ≤ (N : Int) + 2) : ∀ (n : Nat) (x5 x6 : Int32) (σ : ST) (LV : Nat → Nat), WX LV σ → (0 ≤ p.toInt ∧ p.toInt < (σ.1 0 32).toInt) → VS σ (rmP σ p) 4 t → (σ.1 2 t.toNatClampNeg).toInt = 6 → VNV LV σ dp v → (x6.toInt = 1 → pot σ ≤ 4050) → (x6.toInt = 0 ∨ x6.toInt = 1) → (uT σ : Int) + x6.toInt < n → OK (f_X11_items_25 ri rp rv n p t dp v x5 x6 σ) (VK LV σ (4 * x6.toInt - 4) 0) := by
  intro n
  have lt_0 := li_0
  have lt_1 := li_1
  have l44 : (44 : Int32).toInt = 44 := by decide
  have l93 : (93 : Int32).toInt = 93 := by decide
  have ad := il_addE (x := dp) (y := 1) (by omega) (by omega)
  induction n with
  | zero => intro x5 x6 σ LV h1 h2 h3 h4 h5 h6 h7 h8; omega
  | succ n ih =>
    intro x5 x6 σ LV hX hp ht h6 hV hpt hx6 hn
    rw [f_X11_items_25]
    refine OK.ieq (fun hx0 => ?_) (fun hx1 => ?_)
    · refine OK.bndC (b_mark 93 σ hX.2.1) (fun w u c hw => ?_)
      dsimp only
      refine OK.grd (b01 (by omega)) ?_
      have c' : CH WC WI σ u := c.mono (by decide) (by decide)
      have e46 : u.1 0 46 = σ.1 0 46 := c.2.1 46 (by decide)
      have ul := uT_le (σ := σ)
      refine ⟨_, rfl, c', ?_⟩
      rcases hw.2 with ⟨a1, a2⟩ | ⟨a1, a2, a3⟩
      · exact .inl ⟨a1, (show 0 + 40 * uT u ≤ _ by omega)⟩
      · have hne : ¬ (σ.1 0 6).toInt = 0 := hX.2.1.2.2.2 (by omega)
        have eu := uT_ne hne
        refine .inr ⟨a1, (show 0 + 40 * uT u ≤ _ by omega), LV, ⟨c', ⟨hX.1.ch c (by decide) (by decide), hw.1, hX.2.2.ch c (by decide) (by decide)⟩, by rw [e46]; omega, fun r _ => ⟨rfl, by rw [c.1 20 (by decide) (by decide)]⟩⟩, ?_, ?_⟩
        · show pot u ≤ _
          unfold pot
          rw [e46]
          omega
        · show _ ≤ (u.1 0 46).toInt
          rw [e46]
          omega
    · refine OK.grd ht.rng ?_
      have l := ht.lst h6
      have hA : VS σ (rmP σ p) 4 (σ.1 3 t.toNatClampNeg) := l.2.up
      refine OK.bnd (hv p (σ.1 3 t.toNatClampNeg) (dp + 1) v x5 σ LV hX hp hA (by omega) (.inr ⟨hV.1, by have := hV.2.1; omega, hV.2.2⟩) (hpt (by omega)) (by omega)) (fun q hq => ?_)
      refine OK.kac ?_
      obtain ⟨c, hq⟩ := hq
      rcases hq with ⟨q1, q2⟩ | ⟨q1, q2, L2, g, q3, q4⟩
      · refine OK.ieq (fun _ => ⟨_, rfl, c, .inl ⟨lt_0, ?_⟩⟩) (fun h => by omega)
        show q.2 + 0 + 40 * uT q.1.2 ≤ _
        omega
      · refine OK.ieq (fun h => by omega) (fun _ => ?_)
        obtain ⟨g1, g2, g3, g4, g5, g6, g7⟩ := g.vs
        unfold f_X11_items_70
        have hp' : 0 ≤ p.toInt ∧ p.toInt < (q.1.2.1 0 32).toInt := by rw [g7]; exact hp
        have ht' : VS q.1.2 (rmP q.1.2 p) 4 t := by
          have e : rmP q.1.2 p = rmP σ p := by unfold rmP; rw [g4]
          rw [e]; exact g1 _ _ _ ht
        have h6' : (q.1.2.1 2 t.toNatClampNeg).toInt = 6 := by rw [g2]; exact h6
        refine OK.ieq (fun h44 => ?_) (fun h44 => ?_)
        · refine OK.ieq (fun h => by omega) (fun _ => ?_)
          have hne : ¬ (q.1.2.1 0 6).toInt = 0 := g.2.1.2.1.2.2.2 (by omega)
          have eu := uT_ne hne
          refine OK.bnd (g.2.1.go) (fun s hs => ?_)
          obtain ⟨gs, hu, e46⟩ := hs
          obtain ⟨f1, f2, f3, f4, f5, f6, f7⟩ := gs.vs
          have hps : pot s + 4 ≤ pot q.1.2 := by unfold pot; rw [e46]; omega
          have hms := gs.2.2.1
          refine VK.comp (y := 0) (e2 := 4 * (1 : Int32).toInt - 4) (m2 := 0) (g.trans gs) (by omega) (by omega) (by omega) (VK.y0 (ih (x5 + 1) 1 s L2 gs.2.1 (by rw [f7]; exact hp') ?_ (by rw [f2]; exact h6') ((hV.g g).g gs) (fun _ => by have := hpt (by omega); omega) (.inr lt_1) (by omega)))
          have e : rmP s p = rmP q.1.2 p := by unfold rmP; rw [f4]
          rw [e]; exact f1 _ _ _ ht'
        · refine OK.ieq (fun _ => ?_) (fun h => absurd rfl h)
          exact VK.comp (y := 0) (e2 := 4 * (0 : Int32).toInt - 4) (m2 := 0) g (by omega) (by omega) (by omega) (VK.y0 (ih (x5 + 1) 0 q.1.2 L2 g.2.1 hp' ht' h6' (hV.g g) (fun h => by omega) (.inl lt_0) (by omega)))
theorem b_its_top {N : Nat} {ri rp : Int32 → Int32 → Int32 → Int32 → ST → Option ((Int32 × ST) × Nat)} {rv : Int32 → Int32 → Int32 → Int32 → Int32 → ST → Option ((Int32 × ST) × Nat)} (hv : cVal N rv) : cIts (N + 1) (f_X11_items ri rp rv) := by
  intro p t dp v σ LV hX hp ht h6 hdp hV hne hpt hN
  unfold f_X11_items
  have lt_0 := li_0
  have lt_1 := li_1
  have lu := FUi
  have l93 : (93 : Int32).toInt = 93 := by decide
  have eu := uT_ne hne
  refine OK.bnd hX.go (fun s hs => ?_)
  obtain ⟨g, hu, e46⟩ := hs
  obtain ⟨g1, g2, g3, g4, g5, g6, g7⟩ := g.vs
  have hps : pot s + 4 ≤ pot σ := by unfold pot; rw [e46]; omega
  have hms := g.2.2.1
  have h1 := g.2.1.2.1.1
  have h2 := g.2.1.2.1.2.1
  obtain ⟨h11, h12⟩ := h1
  obtain ⟨h21, h22⟩ := h2
  have hus : uT s ≤ 1001 := by
    unfold uT
    split <;> omega
  refine OK.ieq (fun h9 => ?_) (fun h9 => ?_)
  · have hne2 : ¬ (s.1 0 6).toInt = 0 := g.2.1.2.1.2.2.2 (by omega)
    have eu2 := uT_ne hne2
    refine OK.bnd g.2.1.go (fun r hr => ?_)
    obtain ⟨gr, hur, e46r⟩ := hr
    have hpr : pot r + 4 ≤ pot s := by unfold pot; rw [e46r]; omega
    have hmr := gr.2.2.1
    refine ⟨_, rfl, (g.trans gr).1, .inr ⟨lt_1, ?_, LV, g.trans gr, ?_, ?_⟩⟩
    · show 0 + 30 + 40 * uT r ≤ 40 * uT σ
      omega
    · show pot r ≤ pot σ + 0
      omega
    · show (σ.1 0 46).toInt + 0 ≤ (r.1 0 46).toInt
      omega
  · have h := b_its_25 (ri := ri) (rp := rp) hv p t dp v hdp (by omega) FU 0 1 s LV g.2.1 (by rw [g7]; exact hp) (by
      have e : rmP s p = rmP σ p := by unfold rmP; rw [g4]
      rw [e]; exact g1 _ _ _ ht) (by rw [g2]; exact h6) (hV.g g) (fun _ => by omega) (.inr lt_1) (by omega)
    have h2 := VK.comp (x := 30) (y := 0) (e := 0) (m := 0) g (by omega) (show pot s + (4 * (1 : Int32).toInt - 4) ≤ pot σ + 0 by omega) (show (σ.1 0 46).toInt + 0 ≤ (s.1 0 46).toInt + 0 by omega) (VK.y0 h)
    refine h2.mono (fun q hq => ?_)
    have e : q.2 + 30 = 30 + q.2 := Nat.add_comm _ _
    rw [e]
    exact hq
theorem WX.row {LV : Nat → Nat} {σ : ST} (h : WX LV σ) {p x5 : Int32} {a : Int} (hp : 0 ≤ p.toInt ∧ p.toInt < (σ.1 0 32).toInt) (ha : 0 ≤ a ∧ a < rmP σ p) (hx : x5.toInt = 6 * p.toInt + a) : (0 ≤ x5.toInt ∧ x5.toInt < 36) ∧ bI (σ.1 11 x5.toNatClampNeg) 0 8 ∧ ∀ k : Nat, (k : Int) < (σ.1 11 x5.toNatClampNeg).toInt → VS σ (rmP σ p) 4 (σ.1 15 (8 * x5.toNatClampNeg + k)) := by
  have np := nN_ hp.1
  obtain ⟨⟨p1, p2⟩, h2, _⟩ := h.1
  obtain ⟨r1, r2⟩ := h2 p.toNatClampNeg (by omega)
  have ha2 : a < (σ.1 8 p.toNatClampNeg).toInt := ha.2
  obtain ⟨f1, f2⟩ := r2 a.toNat (by omega)
  have e : x5.toNatClampNeg = 6 * p.toNatClampNeg + a.toNat := nC (by omega)
  rw [← e] at f1 f2
  exact ⟨by omega, f1, fun k hk => (f2 k hk).wk (by decide)⟩
theorem TX.of {σ t : ST} (h : TX σ) (e3 : t.1 0 3 = σ.1 0 3) (e5 : t.1 0 5 = σ.1 0 5) (e6 : t.1 0 6 = σ.1 0 6) (e8 : t.1 0 8 = σ.1 0 8) (e13 : t.1 0 13 = σ.1 0 13) : TX t ∧ uT t = uT σ := by
  refine ⟨?_, ?_⟩
  · unfold TX
    rw [e3, e5, e6, e8, e13]; exact h
  · unfold uT
    rw [e3, e5, e6]
theorem b_pts_171 {ri rp : Int32 → Int32 → Int32 → Int32 → ST → Option ((Int32 × ST) × Nat)} {rv : Int32 → Int32 → Int32 → Int32 → Int32 → ST → Option ((Int32 × ST) × Nat)} (p dp v x5 : Int32) (a : Int) (hdp : 0 ≤ dp.toInt ∧ dp.toInt ≤ 30) : ∀ (n : Nat) (x7 : Int32) (σ : ST) (LV : Nat → Nat), WX LV σ → (0 ≤ p.toInt ∧ p.toInt < (σ.1 0 32).toInt) → (0 ≤ a ∧ a < rmP σ p) → x5.toInt = 6 * p.toInt + a → VNV LV σ dp v → ¬ (σ.1 0 6).toInt = 0 → pot σ + (8 - x7.toInt) ≤ 4090 → (0 ≤ x7.toInt ∧ x7.toInt ≤ 8 ∧ (8 : Int) - x7.toInt < n) → OK (f_X11_parts_171 ri rp rv n v x5 x7 σ) (VK LV σ (4 - x7.toInt) 0) := by
  intro n
  have lt_0 := li_0
  have lt_1 := li_1
  have lt_8 := li_8
  induction n with
  | zero => intro x7 σ LV h1 h2 h3 h4 h5 h6 h7 h8; omega
  | succ n ih =>
    intro x7 σ LV hX hp ha hx5 hV hne hpt h7
    rw [f_X11_parts_171]
    unfold f_X11_parts_233
    obtain ⟨r1, r2, r3⟩ := hX.row hp ha hx5
    have r21 := r2.1
    have r22 := r2.2
    have n5 := nN_ r1.1
    have n7 := nN_ h7.1
    have a7 := il_addE (x := x7) (y := 1) (by omega) (by omega)
    have b1 := mlE (k := 8) (y := x5) 8 li_8 (by omega) (by omega)
    have b2 := il_addE (x := 8 * x5) (y := x7) (by omega) (by omega)
    have e8 : (8 * x5 + x7).toNatClampNeg = 8 * x5.toNatClampNeg + x7.toNatClampNeg := nC (by omega)
    have eu := uT_ne hne
    refine OK.grd ⟨by omega, by omega⟩ ?_
    refine OK.ile (fun _ => ?_) (fun hlt => ?_)
    · refine OK.bnd hX.go (fun s hs => ?_)
      obtain ⟨g, hu, e46⟩ := hs
      have hms := g.2.2.1
      refine ⟨_, rfl, g.1, .inr ⟨lt_1, ?_, LV, g, ?_, ?_⟩⟩
      · show 0 + 40 * uT s ≤ 40 * uT σ
        omega
      · show pot s ≤ pot σ + (4 - x7.toInt)
        unfold pot
        rw [e46]
        omega
      · show (σ.1 0 46).toInt + 0 ≤ (s.1 0 46).toInt
        omega
    refine OK.bndR (b_hasChild v x7 σ hX.2.2.1 hV.1) (fun w hw => ?_)
    dsimp only
    refine OK.ieq (fun _ => ?_) (fun _ => ?_)
    · refine OK.grd ⟨by omega, by omega⟩ ?_
      refine OK.ieq (fun _ => ?_) (fun _ => ?_)
      · have h := VK.bad (LV := LV) (e := 4 - x7.toInt) (m := 0) (x := 0) (p0 := 6) (WG.rf hX) (by omega)
        refine h.mono (fun q hq => ?_)
        have e : 0 + q.2 = q.2 := Nat.zero_add _
        rw [e] at hq
        exact hq
      · have h46 := hX.2.2.1.1.1
        have nv := nN_ h46
        have hpp : (σ.1 0 46).toInt < 4096 := by unfold pot at hpt; omega
        refine OK.bndZ (b_fills _ v x7 σ LV hX.2.2 hpp hX.1.2.2 (by omega) (by rw [e8]; exact r3 _ (by omega)) (LV v.toNatClampNeg + 1) (by have := hV.2.1; omega) ⟨hV.1, rfl, hV.2.2⟩) (fun t ct ht => ?_)
        obtain ⟨t1, t2, t3⟩ := ht
        obtain ⟨tx, tu⟩ := hX.2.1.of (ct.2.1 3 (by decide)) (ct.2.1 5 (by decide)) (ct.2.1 6 (by decide)) (ct.2.1 8 (by decide)) (ct.2.1 13 (by decide))
        have g : WG LV σ (upL LV (σ.1 0 46).toNatClampNeg (LV v.toNatClampNeg + 1)) t := ⟨ct.mono (by decide) (by decide), ⟨hX.1.ch ct (by decide) (by decide), tx, t2⟩, by omega, fun r hr => ⟨upL_no (by omega), t3 r hr⟩⟩
        have hpt2 : pot t = pot σ + 1 := by unfold pot; rw [t1, tu]; omega
        obtain ⟨g1, g2, g3, g4, g5, g6, g7⟩ := g.vs
        have h := ih (x7 + 1) t _ g.2.1 (by rw [g7]; exact hp) (by unfold rmP; rw [g4]; exact ha) hx5 (hV.g g) (by rw [ct.2.1 6 (by decide)]; exact hne) (by omega) (by omega)
        have h2 := VK.comp (x := 0) (y := 0) (e := 4 - x7.toInt) (m := 0) g (by omega) (show pot t + (4 - (x7 + 1).toInt) ≤ pot σ + (4 - x7.toInt) by omega) (show (σ.1 0 46).toInt + 0 ≤ (t.1 0 46).toInt + 0 by omega) (VK.y0 h)
        refine h2.mono (fun q hq => ?_)
        have e : 0 + q.2 = q.2 := Nat.zero_add _
        rw [e] at hq
        exact hq
    · have h := ih (x7 + 1) σ LV hX hp ha hx5 hV hne (by omega) (by omega)
      have h2 := VK.comp (x := 0) (y := 0) (e := 4 - x7.toInt) (m := 0) (WG.rf hX) (by omega) (show pot σ + (4 - (x7 + 1).toInt) ≤ pot σ + (4 - x7.toInt) by omega) (show (σ.1 0 46).toInt + 0 ≤ (σ.1 0 46).toInt + 0 by omega) (VK.y0 h)
      refine h2.mono (fun q hq => ?_)
      have e : 0 + q.2 = q.2 := Nat.zero_add _
      rw [e] at hq
      exact hq
theorem b_pts_33 {N : Nat} {ri rp : Int32 → Int32 → Int32 → Int32 → ST → Option ((Int32 × ST) × Nat)} {rv : Int32 → Int32 → Int32 → Int32 → Int32 → ST → Option ((Int32 × ST) × Nat)} (hv : cVal N rv) (p dp v x5 : Int32) (a : Int) (hdp : 0 ≤ dp.toInt ∧ dp.toInt ≤ 30) (hN : 2 * (32 - dp.toInt) ≤ (N : Int) + 2) : ∀ (n : Nat) (x6 : Int32) (σ : ST) (LV : Nat → Nat), WX LV σ → (0 ≤ p.toInt ∧ p.toInt < (σ.1 0 32).toInt) → (0 ≤ a ∧ a < rmP σ p) → x5.toInt = 6 * p.toInt + a → VNV LV σ dp v → pot σ ≤ 4050 → (x6.toInt = 0 ∨ x6.toInt = 1) → (uT σ : Int) + x6.toInt < n → OK (f_X11_parts_33 ri rp rv n p dp v x5 x6 σ) (VK LV σ 4 0) := by
  intro n
  have lt_0 := li_0
  have lt_1 := li_1
  have lt_8 := li_8
  have lu := FUi
  have l44 : (44 : Int32).toInt = 44 := by decide
  have l125 := li_125
  have ad := il_addE (x := dp) (y := 1) (by omega) (by omega)
  induction n with
  | zero => intro x6 σ LV h1 h2 h3 h4 h5 h6 h7 h8; omega
  | succ n ih =>
    intro x6 σ LV hX hp ha hx5 hV hpt hx6 hn
    rw [f_X11_parts_33]
    obtain ⟨r1, r2, r3⟩ := hX.row hp ha hx5
    have r21 := r2.1
    have r22 := r2.2
    have n5 := nN_ r1.1
    have b1 := mlE (k := 8) (y := x5) 8 li_8 (by omega) (by omega)
    refine OK.ieq (fun hx0 => ?_) (fun hx1 => ?_)
    · refine OK.ieq (fun hs => ?_) (fun _ => ?_)
      · have hne : ¬ (σ.1 0 6).toInt = 0 := hX.2.1.2.2.2 (by omega)
        have h := b_pts_171 (ri := ri) (rp := rp) (rv := rv) p dp v x5 a hdp FU 0 σ LV hX hp ha hx5 hV hne (by omega) (by omega)
        rw [lt_0] at h
        exact h
      · have h := VK.bad (LV := LV) (e := 4) (m := 0) (x := 0) (p0 := 1) (WG.rf hX) (by omega)
        refine h.mono (fun q hq => ?_)
        have e : 0 + q.2 = q.2 := Nat.zero_add _
        rw [e] at hq
        exact hq
    · refine OK.bndK (b_isName σ) (fun w x hw hx => ?_)
      refine OK.kac ?_
      dsimp only
      refine OK.ieq (fun _ => VK.bad (WG.rf hX) (by omega)) (fun hw1 => ?_)
      have hNM : NM σ := by
        rcases hw with hw | hw
        · omega
        · exact hw.2
      have hne : ¬ (σ.1 0 6).toInt = 0 := by have := hNM.1; omega
      have eu := uT_ne hne
      refine OK.bndR (b_fieldOf x5 _ σ (by omega) r2) (fun f hf => ?_)
      dsimp only
      unfold f_X11_parts_85
      refine OK.ilt (fun _ => VK.bad (WG.rf hX) (by omega)) (fun hf0 => ?_)
      obtain ⟨j, j1, j2⟩ : ∃ j : Nat, (j : Int) < (σ.1 11 x5.toNatClampNeg).toInt ∧ f.toInt = 8 * x5.toInt + j := by
        rcases hf with hf | hf
        · omega
        · exact hf
      clear hf
      refine OK.bndR (b_hasChild v _ σ hX.2.2.1 hV.1) (fun y hy => ?_)
      dsimp only
      refine OK.ieq (fun _ => ?_) (fun _ => VK.bad (WG.rf hX) (by omega))
      refine OK.bnd hX.go (fun s hs => ?_)
      obtain ⟨g, hu, e46⟩ := hs
      obtain ⟨g1, g2, g3, g4, g5, g6, g7⟩ := g.vs
      have hps : pot s + 4 ≤ pot σ := by unfold pot; rw [e46]; omega
      have hms := g.2.2.1
      refine OK.grd ⟨by omega, by omega⟩ ?_
      have ef : f.toNatClampNeg = 8 * x5.toNatClampNeg + j := nC (by omega)
      have erm : rmP s p = rmP σ p := by unfold rmP; rw [g4]
      have hT : VS s (rmP s p) 4 (s.1 15 f.toNatClampNeg) := by
        rw [erm, g6, ef]
        exact g1 _ _ _ (r3 j j1)
      have hVs := hV.g g
      refine OK.bnd (hv p _ (dp + 1) v _ s LV g.2.1 (by rw [g7]; exact hp) hT (by omega) (.inr ⟨hVs.1, by have := hVs.2.1; omega, hVs.2.2⟩) (by omega) (by omega)) (fun q hq => ?_)
      obtain ⟨c, hq⟩ := hq
      refine OK.mono (P := fun z : (Int32 × ST) × Nat => VK LV σ 4 0 (z.1, x + z.2)) (OK.kac ?_) (fun _ h => h)
      rcases hq with ⟨q1, q2⟩ | ⟨q1, q2, L2, gq, q3, q4⟩
      · refine OK.ieq (fun _ => ⟨_, rfl, g.1.trans c, .inl ⟨lt_0, ?_⟩⟩) (fun h => by omega)
        show x + (q.2 + 0) + 40 * uT q.1.2 ≤ _
        omega
      · refine OK.ieq (fun h => by omega) (fun _ => ?_)
        have gg := g.trans gq
        obtain ⟨k1, k2, k3, k4, k5, k6, k7⟩ := gg.vs
        have hp' : 0 ≤ p.toInt ∧ p.toInt < (q.1.2.1 0 32).toInt := by rw [k7]; exact hp
        have ha' : 0 ≤ a ∧ a < rmP q.1.2 p := by unfold rmP; rw [k4]; exact ha
        unfold f_X11_parts_139
        have fin : ∀ (L3 : Nat → Nat) (u : ST) (x6' : Int32), WG LV σ L3 u → (0 ≤ p.toInt ∧ p.toInt < (u.1 0 32).toInt) → (0 ≤ a ∧ a < rmP u p) → (x6'.toInt = 0 ∨ x6'.toInt = 1) → x + q.2 + 40 * uT u ≤ 40 * uT σ → pot u ≤ pot σ → (uT u : Int) + x6'.toInt < n → OK (f_X11_parts_33 ri rp rv n p dp v x5 x6' u) (fun z => VK LV σ 4 0 (z.1, x + (q.2 + z.2))) := fun L3 u x6' gu hpu hau h6u hxu hpotu hnu => by
          have h := VK.comp (x := x + q.2) (y := 0) (e := 4) (m := 0) gu (by omega) (show pot u + 4 ≤ pot σ + 4 by omega) (by have := gu.2.2.1; omega) (VK.y0 (ih x6' u L3 gu.2.1 hpu hau hx5 (hV.g gu) (by omega) h6u hnu))
          refine h.mono (fun z hz => ?_)
          have e : x + q.2 + z.2 = x + (q.2 + z.2) := Nat.add_assoc _ _ _
          rw [e] at hz
          exact hz
        refine OK.ieq (fun h44 => ?_) (fun h44 => ?_)
        · refine OK.ieq (fun h => by omega) (fun _ => ?_)
          have hne2 : ¬ (q.1.2.1 0 6).toInt = 0 := gq.2.1.2.1.2.2.2 (by omega)
          have eu2 := uT_ne hne2
          refine OK.bnd gq.2.1.go (fun r hr => ?_)
          obtain ⟨gr, hur, e46r⟩ := hr
          obtain ⟨m1, m2, m3, m4, m5, m6, m7⟩ := gr.vs
          have hpr : pot r + 4 ≤ pot q.1.2 := by unfold pot; rw [e46r]; omega
          exact fin L2 r 1 (gg.trans gr) (by rw [m7]; exact hp') (by unfold rmP; rw [m4]; exact ha') (.inr lt_1) (by omega) (by omega) (by omega)
        · refine OK.ieq (fun _ => ?_) (fun h => absurd rfl h)
          exact fin L2 q.1.2 0 gg hp' ha' (.inl lt_0) (by omega) (by omega) (by omega)
theorem b_pts_top {N : Nat} {ri rp : Int32 → Int32 → Int32 → Int32 → ST → Option ((Int32 × ST) × Nat)} {rv : Int32 → Int32 → Int32 → Int32 → Int32 → ST → Option ((Int32 × ST) × Nat)} (hv : cVal N rv) : cPts (N + 1) (f_X11_parts ri rp rv) := by
  intro p t dp v σ LV hX hp ht h7 hdp hV hne hpt hN
  unfold f_X11_parts f_X11_parts_31
  have lt_0 := li_0
  have lt_1 := li_1
  have lt_6 := li_6
  have lu := FUi
  have eu := uT_ne hne
  have hr := ht.rcd h7
  obtain ⟨p61, p62⟩ := hX.1.1
  have np := nN_ hp.1
  have rm6 := (hX.1.2.1 p.toNatClampNeg (by omega)).1
  have hr2 : (σ.1 3 t.toNatClampNeg).toInt < (σ.1 8 p.toNatClampNeg).toInt := hr.2
  have b1 := mlE (k := 6) (y := p) 6 li_6 (by omega) (by omega)
  have b2 := il_addE (x := 6 * p) (y := σ.1 3 t.toNatClampNeg) (by omega) (by omega)
  refine OK.grd ht.rng ?_
  refine OK.bnd hX.go (fun s hs => ?_)
  obtain ⟨g, hu, e46⟩ := hs
  obtain ⟨g1, g2, g3, g4, g5, g6, g7⟩ := g.vs
  have hps : pot s + 4 ≤ pot σ := by unfold pot; rw [e46]; omega
  have hms := g.2.2.1
  obtain ⟨h11, h12⟩ := g.2.1.2.1.1
  obtain ⟨h21, h22⟩ := g.2.1.2.1.2.1
  have hus : uT s ≤ 1001 := by
    unfold uT
    split <;> omega
  have fin : ∀ x6 : Int32, (x6.toInt = 0 ∨ x6.toInt = 1) → OK (f_X11_parts_33 ri rp rv FU p dp v (6 * p + σ.1 3 t.toNatClampNeg) x6 s) (fun q => VK LV σ 0 0 (q.1, q.2 + 30)) := fun x6 h6 => by
    have h := b_pts_33 (ri := ri) (rp := rp) hv p dp v (6 * p + σ.1 3 t.toNatClampNeg) (σ.1 3 t.toNatClampNeg).toInt hdp (by omega) FU x6 s LV g.2.1 (by rw [g7]; exact hp) (by unfold rmP; rw [g4]; exact hr) (by omega) (hV.g g) (by omega) h6 (by omega)
    have h2 := VK.comp (x := 30) (y := 0) (e := 0) (m := 0) g (by omega) (show pot s + 4 ≤ pot σ + 0 by omega) (show (σ.1 0 46).toInt + 0 ≤ (s.1 0 46).toInt + 0 by omega) (VK.y0 h)
    refine h2.mono (fun q hq => ?_)
    have e : q.2 + 30 = 30 + q.2 := Nat.add_comm _ _
    rw [e]
    exact hq
  exact OK.ieq (fun _ => fin 0 (.inl lt_0)) (fun _ => fin 1 (.inr lt_1))
theorem b_val_104 {N : Nat} {ri rp : Int32 → Int32 → Int32 → Int32 → ST → Option ((Int32 × ST) × Nat)} {rv : Int32 → Int32 → Int32 → Int32 → Int32 → ST → Option ((Int32 × ST) × Nat)} (hi : cIts N ri) (hq_ : cPts N rp) (p u dp pa ix b : Int32) (x : Nat) (σ : ST) (LV : Nat → Nat) (hX : WX LV σ) (hp : 0 ≤ p.toInt ∧ p.toInt < (σ.1 0 32).toInt) (hu : VS σ (rmP σ p) 4 u) (hf : FT_ σ (σ.1 2 u.toNatClampNeg).toInt) (hdp : 0 ≤ dp.toInt ∧ dp.toInt ≤ 30) (hpo : VPO LV σ dp pa) (hpt : pot σ ≤ 4050) (hN : 2 * (32 - dp.toInt) ≤ (N : Int) + 1) (hx : x ≤ 28) : OK (f_X11_value_104 ri rp rv p dp pa ix b u 0 σ) (fun z => VK LV σ 1 1 (z.1, x + z.2)) := by
  unfold f_X11_value_104
  have lt_0 := li_0
  have lt_1 := li_1
  have lt_5 := li_5
  have lt_6 := li_6
  have lt_7 := li_7
  have h46 := hX.2.2.1.1.1
  have nv := nN_ h46
  have hpp : (σ.1 0 46).toInt < 4096 := by unfold pot at hpt; omega
  have hne : ¬ (σ.1 0 6).toInt = 0 := by
    unfold FT_ at hf
    rcases hf with hf | hf | hf | hf | hf | hf | hf | hf
    · have := hf.2.1; omega
    · rcases hf.2 with h | h
      · have := h.1; omega
      · have := h.1; omega
    · omega
    · omega
    · omega
    · omega
    · exact hX.2.1.2.2.2 (by omega)
    · exact hX.2.1.2.2.2 (by omega)
  refine OK.ile (fun _ => ?_) (fun h => by omega)
  refine OK.grd hu.rng ?_
  refine OK.bndC (b_laysNode _ pa ix b σ LV hX.2.2 hpp dp.toInt.toNat (by omega) ?_) (fun v t ct ht => ?_)
  · rcases hpo with hpo | hpo
    · exact .inl ⟨hpo.1, by omega⟩
    · exact .inr ⟨hpo.1, by omega, hpo.2.2⟩
  obtain ⟨t1, t2, t3, t4⟩ := ht
  dsimp only
  subst t1
  obtain ⟨tx, tu⟩ := hX.2.1.of (ct.2.1 3 (by decide)) (ct.2.1 5 (by decide)) (ct.2.1 6 (by decide)) (ct.2.1 8 (by decide)) (ct.2.1 13 (by decide))
  have t6 : t.1 0 6 = σ.1 0 6 := ct.2.1 6 (by decide)
  have g : WG LV σ (upL LV (σ.1 0 46).toNatClampNeg dp.toInt.toNat) t := by
    refine ⟨ct.mono (by decide) (by decide), ⟨hX.1.ch ct (by decide) (by decide), tx, t3⟩, by omega, fun r hr => ⟨upL_no (by omega), ?_⟩⟩
    rw [t4]
    exact upd_no (by omega)
  have hpt2 : pot t = pot σ + 1 := by unfold pot; rw [t2, tu]; omega
  obtain ⟨g1, g2, g3, g4, g5, g6, g7⟩ := g.vs
  have hp' : 0 ≤ p.toInt ∧ p.toInt < (t.1 0 32).toInt := by rw [g7]; exact hp
  have hu' : VS t (rmP t p) 4 u := by
    have e : rmP t p = rmP σ p := by unfold rmP; rw [g4]
    rw [e]; exact g1 _ _ _ hu
  have t20 : t.1 20 (σ.1 0 46).toNatClampNeg = σ.1 2 u.toNatClampNeg := by rw [t4]; exact upd_at
  have tLV : (upL LV (σ.1 0 46).toNatClampNeg dp.toInt.toNat (σ.1 0 46).toNatClampNeg : Int) = dp.toInt := by rw [upL_at]; omega
  have fin : ∀ o : Option ((Int32 × ST) × Nat), OK o (fun q => VK (upL LV (σ.1 0 46).toNatClampNeg dp.toInt.toNat) t 0 0 (q.1, q.2 + 30)) → OK (o.bind fun q => ac q.2 (if q.1.1 = 0 ∨ q.1.1 = 1 then some ((q.1.1, q.1.2), 0) else none)) (fun z => VK LV σ 1 1 (z.1, x + z.2)) := fun o ho => by
    have h2 := VK.comp (LV := LV) (σ := σ) (x := x) (y := 30) (e := 1) (m := 1) g (by omega) (show pot t + 0 ≤ pot σ + 1 by omega) (show (σ.1 0 46).toInt + 1 ≤ (t.1 0 46).toInt + 0 by omega) ho
    obtain ⟨q, eq, hq⟩ := h2
    have hq1 : q.1.1.toInt = 0 ∨ q.1.1.toInt = 1 := by
      rcases hq.2 with h | h
      · exact .inl h.1
      · exact .inr h.1
    rw [eq]
    refine OK.kac (OK.grd (b01 hq1) ⟨_, rfl, ?_⟩)
    exact hq
  refine OK.ieq (fun h6 => fin _ ?_) (fun h6 => ?_)
  · rw [g2] at h6
    exact hi p u dp (σ.1 0 46) t _ g.2.1 hp' hu' (by rw [g2]; omega) hdp ⟨⟨h46, by omega⟩, tLV, by rw [t20]; omega⟩ (by rw [t6]; exact hne) (by omega) hN
  refine OK.ieq (fun h7 => fin _ ?_) (fun h7 => ?_)
  · rw [g2] at h7
    exact hq_ p u dp (σ.1 0 46) t _ g.2.1 hp' hu' (by rw [g2]; omega) hdp ⟨⟨h46, by omega⟩, tLV, by rw [t20]; omega⟩ (by rw [t6]; exact hne) (by omega) hN
  · refine OK.bndK (b_bitsOf u t hu'.rng) (fun w y hw hy => ?_)
    refine OK.kac ?_
    dsimp only
    have gv : 0 ≤ (σ.1 0 46).toInt ∧ (σ.1 0 46).toInt < 4096 := ⟨h46, hpp⟩
    refine OK.grd gv ?_
    have k247 : ∀ (z : Int32) (s : ST), s.1 = t.1 → s.2.1 9 = t.2.1 9 → s.2.1 12 = t.2.1 12 → s.2.1 14 = t.2.1 14 ∧ s.2.1 17 = t.2.1 17 ∧ s.2.1 18 = t.2.1 18 → bI z 0 12 → OK (f_X11_value_247 ri rp rv z (σ.1 0 46) s) (fun q => VK LV σ 1 1 (q.1, x + (y + q.2))) := fun z s es s9 s12 s14 hz => by
      unfold f_X11_value_247
      refine OK.grd gv ?_
      have cs : CH WC WI σ (stI s 23 (σ.1 0 46).toNatClampNeg z) := by
        refine g.1.trans (CH.i ⟨fun c _ _ => by rw [es], fun i _ => by rw [es], s9, s12, s14.1, s14.2.1, s14.2.2⟩ (by decide) (by decide))
      have Ns : NL (upL LV (σ.1 0 46).toNatClampNeg dp.toInt.toNat) s := t3.of (by rw [es]) (by rw [es]) (by rw [es]) (by rw [es]) (by rw [es]) (by rw [es]) (by rw [es]) (by rw [es])
      have N2 := Ns.has (v := (σ.1 0 46).toNatClampNeg) hz (by rw [es]; omega)
      have e20 : (stI s 23 (σ.1 0 46).toNatClampNeg z).1 20 = t.1 20 := by show s.1 20 = _; rw [es]
      have e46 : (stI s 23 (σ.1 0 46).toNatClampNeg z).1 0 46 = t.1 0 46 := by show s.1 0 46 = _; rw [es]
      obtain ⟨sx, su⟩ := TX.of (t := stI s 23 (σ.1 0 46).toNatClampNeg z) tx (by show s.1 0 3 = _; rw [es]) (by show s.1 0 5 = _; rw [es]) (by show s.1 0 6 = _; rw [es]) (by show s.1 0 8 = _; rw [es]) (by show s.1 0 13 = _; rw [es])
      have e6 : (stI s 23 (σ.1 0 46).toNatClampNeg z).1 0 6 = σ.1 0 6 := by show s.1 0 6 = _; rw [es, t6]
      have P2 : PLs (stI s 23 (σ.1 0 46).toNatClampNeg z) := hX.1.ch cs (by decide) (by decide)
      generalize stI s 23 (σ.1 0 46).toNatClampNeg z = r at cs N2 e20 e46 sx su e6 P2 ⊢
      have gr : WG LV σ (upL LV (σ.1 0 46).toNatClampNeg dp.toInt.toNat) r := ⟨cs, ⟨P2, sx, N2⟩, by rw [e46]; omega, fun k hk => ⟨upL_no (by omega), by rw [e20, t4]; exact upd_no (by omega)⟩⟩
      have eur := uT_ne (σ := r) (by rw [e6]; exact hne)
      refine OK.bnd gr.2.1.go (fun k hk => ?_)
      obtain ⟨gk, huk, e46k⟩ := hk
      have hpk : pot k + 4 ≤ pot t := by unfold pot; rw [e46k, e46]; omega
      refine ⟨_, rfl, (gr.trans gk).1, .inr ⟨lt_1, ?_, _, gr.trans gk, ?_, ?_⟩⟩
      · show x + (y + 0) + 40 * uT k ≤ 40 * uT σ
        omega
      · show pot k ≤ pot σ + 1
        omega
      · show (σ.1 0 46).toInt + 1 ≤ (k.1 0 46).toInt
        rw [e46k, e46]
        omega
    have k221 : ∀ (yy : Int64) (s : ST), s.1 = t.1 → s.2.1 9 = t.2.1 9 → s.2.1 12 = t.2.1 12 → s.2.1 14 = t.2.1 14 ∧ s.2.1 17 = t.2.1 17 ∧ s.2.1 18 = t.2.1 18 → OK (f_X11_value_221 ri rp rv u (σ.1 0 46) yy (σ.1 0 46) s) (fun q => VK LV σ 1 1 (q.1, x + (y + q.2))) := fun yy s es s9 s12 s14 => by
      unfold f_X11_value_221
      refine OK.grd gv ?_
      refine OK.grd hu.rng ?_
      have e1 : (stL s 22 (σ.1 0 46).toNatClampNeg yy).1 = t.1 := es
      refine OK.ieq (fun h5 => ?_) (fun h5 => k247 _ _ e1 (by rw [stL_ne (by decide)]; exact s9) (by rw [stL_ne (by decide)]; exact s12) (by rw [stL_ne (by decide), stL_ne (by decide), stL_ne (by decide)]; exact s14) (bz (by decide) (by decide)))
      refine k247 _ _ e1 (by rw [stL_ne (by decide)]; exact s9) (by rw [stL_ne (by decide)]; exact s12) (by rw [stL_ne (by decide), stL_ne (by decide), stL_ne (by decide)]; exact s14) ?_
      rw [e1] at h5 ⊢
      rw [g2] at h5
      have h3 : (t.1 0 6).toInt = 3 := by
        rw [t6]
        unfold FT_ at hf
        rcases hf with hf | hf | hf | hf | hf | hf | hf | hf
        · omega
        · omega
        · omega
        · omega
        · omega
        · omega
        · omega
        · omega
      exact tx.2.2.1 h3
    have e1 : (stL t 21 (σ.1 0 46).toNatClampNeg w).1 = t.1 := rfl
    exact OK.ieq (fun _ => k221 _ _ e1 (stL_ne (by decide)) (stL_ne (by decide)) ⟨stL_ne (by decide), stL_ne (by decide), stL_ne (by decide)⟩) (fun _ => k221 _ _ e1 (stL_ne (by decide)) (stL_ne (by decide)) ⟨stL_ne (by decide), stL_ne (by decide), stL_ne (by decide)⟩)
theorem b_val_42 {N : Nat} {ri rp : Int32 → Int32 → Int32 → Int32 → ST → Option ((Int32 × ST) × Nat)} {rv : Int32 → Int32 → Int32 → Int32 → Int32 → ST → Option ((Int32 × ST) × Nat)} (hi : cIts N ri) (hq_ : cPts N rp) (p u dp pa ix b : Int32) (x : Nat) (σ : ST) (LV : Nat → Nat) (hX : WX LV σ) (hp : 0 ≤ p.toInt ∧ p.toInt < (σ.1 0 32).toInt) (hu : VS σ (rmP σ p) 4 u) (hdp : 0 ≤ dp.toInt ∧ dp.toInt ≤ 31) (hpo : VPO LV σ dp pa) (hpt : pot σ ≤ 4050) (hN : 2 * (32 - dp.toInt) ≤ (N : Int) + 1) (hx : x ≤ 10) : OK (f_X11_value_42 ri rp rv p dp pa ix b u σ) (fun z => VK LV σ 1 1 (z.1, x + z.2)) := by
  unfold f_X11_value_42 f_X11_value_99 f_X11_value_103
  have lt_0 := li_0
  have lt_1 := li_1
  have lt_31 := li_31
  have bad : ∀ (k : Int32) (y : Nat), 0 < k.toInt → y ≤ 30 → OK (f_X11_value_104 ri rp rv p dp pa ix b u k σ) (fun z => VK LV σ 1 1 (z.1, y + z.2)) := fun k y hk hy => by
    unfold f_X11_value_104
    refine OK.ile (fun h => by omega) (fun _ => ?_)
    exact VK.bad (WG.rf hX) (by omega)
  refine OK.bndK (b_isValue σ) (fun w y hw hy => ?_)
  refine OK.kac ?_
  dsimp only
  have sh : ∀ (y : Nat) (o : Option ((Int32 × ST) × Nat)), OK o (fun z => VK LV σ 1 1 (z.1, (x + y) + z.2)) → OK o (fun z => VK LV σ 1 1 ((z.1, y + z.2).1, x + (z.1, y + z.2).2)) := fun y o ho => ho.mono (fun q hq => by
    have e : x + y + q.2 = x + (y + q.2) := Nat.add_assoc _ _ _
    rw [e] at hq
    exact hq)
  refine OK.ieq (fun _ => sh y _ (bad 1 (x + y) (by omega) (by omega))) (fun _ => ?_)
  refine OK.bndK (b_fits u σ hu.rng) (fun w2 y2 hw2 hy2 => ?_)
  have hy2' : y2 ≤ 8 := by
    refine Nat.le_trans hy2 ?_
    unfold ftc
    split
    · omega
    · split <;> omega
  refine OK.kac ?_
  dsimp only
  have sh2 : ∀ (o : Option ((Int32 × ST) × Nat)), OK o (fun z => VK LV σ 1 1 (z.1, (x + y + y2) + z.2)) → OK o (fun z => VK LV σ 1 1 (z.1, x + (y + (y2 + z.2)))) := fun o ho => ho.mono (fun q hq => by
    have e : x + y + y2 + q.2 = x + (y + (y2 + q.2)) := by omega
    rw [e] at hq
    exact hq)
  have l2 := li_2
  have l4 := li_4
  refine OK.ieq (fun _ => sh2 _ (bad 2 _ (by omega) (by omega))) (fun hw21 => ?_)
  have hf : FT_ σ (σ.1 2 u.toNatClampNeg).toInt := by
    rcases hw2 with h | h
    · omega
    · exact h.2
  refine OK.ile (fun _ => sh2 _ (bad 4 _ (by omega) (by omega))) (fun h31 => ?_)
  have ok := sh2 _ (b_val_104 (rv := rv) hi hq_ p u dp pa ix b (x + y + y2) σ LV hX hp hu hf (by omega) hpo hpt hN (by omega))
  refine OK.ilt (fun _ => ok) (fun _ => ?_)
  refine OK.ilt (fun _ => ok) (fun hpa => ?_)
  have h46 := hX.2.2.1.1.2
  have gpa : 0 ≤ pa.toInt ∧ pa.toInt < 4096 := by
    rcases hpo with h | h
    · omega
    · omega
  refine OK.grd gpa ?_
  exact OK.ieq (fun _ => sh2 _ (bad 4 _ (by omega) (by omega))) (fun _ => ok)
theorem b_val_top {N : Nat} {ri rp : Int32 → Int32 → Int32 → Int32 → ST → Option ((Int32 × ST) × Nat)} {rv : Int32 → Int32 → Int32 → Int32 → Int32 → ST → Option ((Int32 × ST) × Nat)} (hi : cIts N ri) (hq_ : cPts N rp) : cVal (N + 1) (f_X11_value ri rp rv) := by
  intro p t dp pa ix σ LV hX hp ht hdp hpo hpt hN
  unfold f_X11_value f_X11_value_20
  have lt_0 := li_0
  have lt_4 := li_4
  have lt_8 := li_8
  have lm := li_m1
  have gt := ht.rng
  refine OK.grd gt ?_
  refine OK.ieq (fun h8 => ?_) (fun h8 => ?_)
  · refine OK.bndK (b_branchFor t σ ht (by omega)) (fun b x hb hx => ?_)
    refine OK.kac ?_
    dsimp only
    obtain ⟨k1, k2, k3, k4⟩ := ht.eit (by omega)
    refine OK.ile (fun hb0 => ?_) (fun _ => b_val_42 hi hq_ p t dp pa ix b x σ LV hX hp ht hdp hpo hpt hN hx)
    have hb' : 0 ≤ b.toInt ∧ b.toInt < (σ.1 4 t.toNatClampNeg).toInt := by omega
    have a1 := mlE (k := 4) (y := t) 4 li_4 (by omega) (by omega)
    have a2 := il_addE (x := 4 * t) (y := b) (by omega) (by omega)
    have n1 := nN_ gt.1
    have n2 := nN_ hb'.1
    have e4 : (4 * t + b).toNatClampNeg = 4 * t.toNatClampNeg + b.toNatClampNeg := nC (by omega)
    refine OK.grd ⟨by omega, by omega⟩ ?_
    rw [e4]
    exact b_val_42 hi hq_ p _ dp pa ix b x σ LV hX hp (k3 b.toNatClampNeg (by omega)).1.up hdp hpo hpt hN hx
  · refine OK.ile (fun h => by omega) (fun _ => ?_)
    have h := b_val_42 (rv := rv) hi hq_ p t dp pa ix (-1) 0 σ LV hX hp ht hdp hpo hpt hN (by omega)
    refine h.mono (fun q hq => ?_)
    have e : 0 + q.2 = q.2 := Nat.zero_add _
    rw [e] at hq
    exact hq
theorem b_RV : ∀ N : Nat, cIts N (R_X11_items N).1 ∧ cPts N (R_X11_items N).2.1 ∧ cVal N (R_X11_items N).2.2 := by
  intro N
  induction N with
  | zero =>
    refine ⟨?_, ?_, ?_⟩
    · intro p t dp v σ LV hX hp ht h6 hdp hV hne hpt hN
      omega
    · intro p t dp v σ LV hX hp ht h6 hdp hV hne hpt hN
      omega
    · intro p t dp pa ix σ LV hX hp ht hdp hpo hpt hN
      omega
  | succ N ih => exact ⟨b_its_top ih.2.2, b_pts_top ih.2.2, b_val_top ih.1 ih.2.1⟩
/-! the reference: write -/
theorem IB.ch {C I : List Nat} {σ t : ST} (h : IB σ) (c : CH C I σ t) (hC : ∀ c, c ∈ [2, 3, 4, 5, 8, 11, 15, 19, 32, 33, 35, 38, 45] → c ∉ C) (hI : ∀ i, i ∈ [32, 68, 73, 83, 92] → i ∉ I) : IB t := by
  refine ⟨h.1.ch c (hI 32 (by decide)) (fun x hx => hC x ?_), ?_, ?_, ?_, ?_, ?_, ?_, ?_, ?_, ?_⟩
  · exact (by decide : ∀ x, x ∈ [2, 3, 4, 5, 8, 11, 15, 19] → x ∈ [2, 3, 4, 5, 8, 11, 15, 19, 32, 33, 35, 38, 45]) x hx
  · unfold PB
    rw [c.1 35 (by decide) (hC 35 (by decide))]; exact h.2.1
  · rw [c.1 32 (by decide) (hC 32 (by decide)), c.2.1 32 (hI 32 (by decide))]; exact h.2.2.1
  · rw [c.1 33 (by decide) (hC 33 (by decide))]; exact h.2.2.2.1
  · rw [c.1 38 (by decide) (hC 38 (by decide))]; exact h.2.2.2.2.1
  · rw [c.2.1 68 (hI 68 (by decide))]; exact h.2.2.2.2.2.1
  · rw [c.2.1 73 (hI 73 (by decide))]; exact h.2.2.2.2.2.2.1
  · rw [c.2.1 83 (hI 83 (by decide))]; exact h.2.2.2.2.2.2.2.1
  · rw [c.2.1 92 (hI 92 (by decide))]; exact h.2.2.2.2.2.2.2.2.1
  · unfold TH
    rw [c.1 45 (by decide) (hC 45 (by decide))]; exact h.2.2.2.2.2.2.2.2.2
theorem b_begins (p0 : Int32) (σ : ST) (h : 0 ≤ p0.toInt ∧ p0.toInt ≤ 1000) : OK (f_X11_begins p0 σ) (fun t => CH [] [2, 3, 4, 5, 6, 8, 10, 12, 13] σ t ∧ TX t ∧ uT t ≤ p0.toInt.toNat ∧ t.1 0 2 = 0 ∧ t.1 0 3 = p0 ∧ t.1 0 12 = 0 ∧ ∃ s, SK (σ.1 1) p0.toInt 0 s ∧ TB_ (σ.1 1) p0.toInt s t) := by
  unfold f_X11_begins
  have c : CH [] [2, 3, 4, 5, 6, 8, 10, 12, 13] σ (stI (stI (stI (stI σ 0 3 p0) 0 2 0) 0 5 0) 0 12 0) := (((CH.rf.o (by decide)).o (by decide)).o (by decide)).o (by decide)
  refine OK.bnd (b_go (stI (stI (stI (stI σ 0 3 p0) 0 2 0) 0 5 0) 0 12 0) 0 h li_0 (by decide)) (fun t ht => ?_)
  obtain ⟨ct, s, hs, hT⟩ := ht
  have hs : SK (σ.1 1) p0.toInt 0 s := hs
  have hT : TB_ (σ.1 1) p0.toInt s t := hT
  obtain ⟨a1, a2, a3, a4⟩ := hT.left h (by decide) hs
  have e3 : t.1 0 3 = p0 := ct.2.1 3 (by decide)
  have e2 : t.1 0 2 = 0 := ct.2.1 2 (by decide)
  have e12 : t.1 0 12 = 0 := ct.2.1 12 (by decide)
  refine OK.ret ⟨c.trans (ct.mono (by decide) (by decide)), ⟨by rw [e3]; exact h, a1, a2, hT.sgn⟩, ?_, e2, e3, e12, s, hs, hT⟩
  unfold uT
  rw [e3]
  have a11 := a1.1
  split
  · rename_i h9
    have := a3 h9
    omega
  · rename_i h9
    have := a4 h9
    omega
/-- a text is read, and what that costs -/
def WRb (σ : ST) (c : Prop) (n : Int) (q : (Int32 × ST) × Nat) : Prop := IB q.1.2 ∧ q.1.2.1 1 = σ.1 1 ∧ q.1.2.1 0 32 = σ.1 0 32 ∧ (c ∧ q.1.2.1 0 2 = 0 ∧ (q.2 : Int) ≤ 40 * n + 30 ∨ ¬ c ∧ q.1.2.1 0 2 = σ.1 0 2 ∧ q.2 = 0)
def WRd (σ : ST) (p0 p1 p2 : Int32) : Prop := (0 ≤ p0.toInt ∧ p0.toInt < 4) ∧ (0 ≤ p1.toInt ∧ p1.toInt < (σ.1 0 32).toInt) ∧ 0 ≤ p2.toInt ∧ p2.toInt ≤ (σ.1 0 2).toInt
theorem b_write (p0 p1 p2 : Int32) (σ : ST) (hI : IB σ) (htp : bI (σ.1 0 2) 0 1000) : OK (f_X11_write p0 p1 p2 σ) (WRb σ (WRd σ p0 p1 p2) p2.toInt) := by
  unfold f_X11_write
  have lt_0 := li_0
  have lm := li_m1
  have l0 := l64_0
  have l3 := l64_3
  have lr := FRi
  have hs := hI.th 0
  have e1 : (stI σ 0 0 0).1 0 2 = σ.1 0 2 := rfl
  have e2 : (stI σ 0 0 0).1 1 = σ.1 1 := rfl
  have e3 : (stI σ 0 0 0).1 0 32 = σ.1 0 32 := rfl
  obtain ⟨tp1, tp2⟩ := htp
  generalize stI σ 0 0 0 = s at hs e1 e2 e3 ⊢
  have no : ∀ v : Int32, ¬ WRd σ p0 p1 p2 → OK (some ((v, s), 0)) (WRb σ (WRd σ p0 p1 p2) p2.toInt) := fun v h => ⟨_, rfl, hs, e2, e3, .inr ⟨h, e1, rfl⟩⟩
  have a0 := i64 p0
  have a2 := i64 p2
  have a3 := i64 (s.1 0 2)
  have e1' : (s.1 0 2).toInt = (σ.1 0 2).toInt := by rw [e1]
  have e3' : (s.1 0 32).toInt = (σ.1 0 32).toInt := by rw [e3]
  refine OK.bndR (b_within _ _ _ _) (fun v hv => ?_)
  dsimp only
  refine OK.ieq (fun _ => no _ (fun h => by unfold WRd at h; omega)) (fun _ => ?_)
  refine OK.bndR (b_isPlanAt p1 s hs.1.1) (fun w hw => ?_)
  dsimp only
  refine OK.ieq (fun _ => no _ (fun h => by unfold WRd at h; omega)) (fun _ => ?_)
  refine OK.bndR (b_within _ _ _ _) (fun x hx => ?_)
  dsimp only
  refine OK.ieq (fun _ => no _ (fun h => by unfold WRd at h; omega)) (fun _ => ?_)
  have hc : WRd σ p0 p1 p2 := by unfold WRd; omega
  have hp1 : 0 ≤ p1.toInt ∧ p1.toInt < (s.1 0 32).toInt := by omega
  have hp2 : 0 ≤ p2.toInt ∧ p2.toInt ≤ 1000 := by omega
  have hp0 : 0 ≤ p0.toInt ∧ p0.toInt < 4 := by omega
  refine OK.bnd (b_begins p2 s hp2) (fun t ht => ?_)
  obtain ⟨ct, tx, tu, t2, t3, t12, _⟩ := ht
  unfold f_X11_rootType
  have n799 : (799 : Int32).toNatClampNeg = 799 := by decide
  rw [n799]
  refine OK.lt (fun q5 hq5 => ?_)
  subst hq5
  dsimp only
  have hr0 : IB t := hs.ch ct (by decide) (by decide)
  have cr : CH [2, 3] [2, 3, 4, 5, 6, 8, 10, 12, 13, 46] s (stI (stI (stI t 0 46 0) 2 799 7) 3 799 0) := (((ct.mono (by decide) (by decide)).o (by decide)).i (by decide) (by decide)).i (by decide) (by decide)
  have hr1 : IB (stI (stI (stI t 0 46 0) 2 799 7) 3 799 0) := by
    have hP : PLs (stI t 0 46 0) := hr0.1.of rfl rfl rfl rfl rfl rfl rfl rfl rfl
    exact ⟨hP.root, hr0.2.1, hr0.2.2.1, hr0.2.2.2.1, hr0.2.2.2.2.1, hr0.2.2.2.2.2.1, hr0.2.2.2.2.2.2.1, hr0.2.2.2.2.2.2.2.1, hr0.2.2.2.2.2.2.2.2.1, hr0.2.2.2.2.2.2.2.2.2⟩
  have hS : ((stI (stI (stI t 0 46 0) 2 799 7) 3 799 0).1 2 799) = 7 := upd_at (f := (stI t 0 46 0).1 2) (i := 799) (v := 7)
  have hA : ((stI (stI (stI t 0 46 0) 2 799 7) 3 799 0).1 3 799) = 0 := upd_at (f := (stI (stI t 0 46 0) 2 799 7).1 3) (i := 799) (v := 0)
  have e46 : (stI (stI (stI t 0 46 0) 2 799 7) 3 799 0).1 0 46 = 0 := rfl
  obtain ⟨rx, ru⟩ := TX.of (t := stI (stI (stI t 0 46 0) 2 799 7) 3 799 0) tx rfl rfl rfl rfl rfl
  have r2 : (stI (stI (stI t 0 46 0) 2 799 7) 3 799 0).1 0 2 = 0 := t2
  generalize stI (stI (stI t 0 46 0) 2 799 7) 3 799 0 = r at cr hr1 hS hA e46 rx ru r2 ⊢
  have r1 : r.1 1 = σ.1 1 := by rw [cr.1 1 (by decide) (by decide)]; exact e2
  have r32 : r.1 0 32 = σ.1 0 32 := by rw [cr.2.1 32 (by decide)]; exact e3
  have r32' : (r.1 0 32).toInt = (σ.1 0 32).toInt := by rw [r32]
  have e46' : (r.1 0 46).toInt = 0 := by rw [e46]; exact li_0
  have hX : WX (fun _ => 0) r := ⟨hr1.1, rx, NL.nil e46⟩
  have np1 := nN_ hp1.1
  have rm := (hr1.1.2.1 p1.toNatClampNeg (by omega)).1
  have l7 : (7 : Int32).toInt = 7 := by decide
  have lt_799 := li_799
  have root : VS r (rmP r p1) 4 799 := by
    have h1 : VS r (rmP r p1) 1 799 := by
      refine ⟨⟨by omega, by omega⟩, ?_, ?_, ?_, ?_⟩
      · rw [n799, hS]; omega
      · rw [n799, hS]; intro h; omega
      · rw [n799, hA]; intro _; unfold rmP; omega
      · rw [n799, hS]; intro h; omega
    exact h1.up.up.up
  have hpot : pot r ≤ 4050 := by unfold pot; omega
  refine OK.bnd ((b_RV FRB).2.2 p1 799 0 (-1) 0 r (fun _ => 0) hX (by omega) root (by omega) (.inl ⟨by omega, by omega⟩) hpot (by omega)) (fun q hq => ?_)
  refine OK.kac ?_
  obtain ⟨cq, hq⟩ := hq
  have Iq : IB q.1.2 := hr1.ch cq (by decide) (by decide)
  have q1 : q.1.2.1 1 = σ.1 1 := by rw [cq.1 1 (by decide) (by decide)]; exact r1
  have q2 : q.1.2.1 0 2 = 0 := by rw [cq.2.1 2 (by decide)]; exact r2
  have q32 : q.1.2.1 0 32 = σ.1 0 32 := by rw [cq.2.1 32 (by decide)]; exact r32
  have hcost : (q.2 : Int) ≤ 40 * p2.toInt + 30 := by
    rcases hq with ⟨_, h⟩ | ⟨_, h, _⟩
    · omega
    · omega
  unfold f_X11_write_84 f_X11_write_111 f_X11_write_116
  have k129 : ∀ (x4 : Int32) (u : ST), IB u → u.1 1 = σ.1 1 → u.1 0 2 = 0 → u.1 0 32 = σ.1 0 32 → OK (f_X11_write_129 x4 u) (fun z => WRb σ (WRd σ p0 p1 p2) p2.toInt (z.1, q.2 + z.2)) := fun x4 u Iu u1 u2 u32 => by
    unfold f_X11_write_129
    exact OK.ieq (fun _ => ⟨_, rfl, Iu, u1, u32, .inl ⟨hc, u2, hcost⟩⟩) (fun _ => ⟨_, rfl, Iu, u1, u32, .inl ⟨hc, u2, hcost⟩⟩)
  have k118n : ∀ (u : ST), IB u → u.1 1 = σ.1 1 → u.1 0 2 = 0 → u.1 0 32 = σ.1 0 32 → ∀ x4 : Int32, x4.toInt = 0 → OK (f_X11_write_118 p0 p1 x4 u) (fun z => WRb σ (WRd σ p0 p1 p2) p2.toInt (z.1, q.2 + z.2)) := fun u Iu u1 u2 u32 x4 h4 => by
    unfold f_X11_write_118
    exact OK.ieq (fun _ => k129 _ u Iu u1 u2 u32) (fun h => by omega)
  have k84n : ∀ (u : ST), IB u → u.1 1 = σ.1 1 → u.1 0 2 = 0 → u.1 0 32 = σ.1 0 32 → ∀ x4 : Int32, x4.toInt = 0 → OK (f_X11_write_84 p0 p1 p2 x4 u) (fun z => WRb σ (WRd σ p0 p1 p2) p2.toInt (z.1, q.2 + z.2)) := fun u Iu u1 u2 u32 x4 h4 => by
    unfold f_X11_write_84
    exact OK.ieq (fun _ => k118n u Iu u1 u2 u32 _ h4) (fun h => by omega)
  refine OK.ieq (fun h0 => ?_) (fun h0 => ?_)
  · exact OK.ieq (fun _ => k118n q.1.2 Iq q1 q2 q32 _ (by omega)) (fun h => by omega)
  obtain ⟨L2, g, q3, q4⟩ : ∃ LV', WG (fun _ => 0) r LV' q.1.2 ∧ pot q.1.2 ≤ pot r + 1 ∧ (r.1 0 46).toInt + 1 ≤ (q.1.2.1 0 46).toInt := by
    rcases hq with ⟨h, _⟩ | ⟨_, _, h⟩
    · omega
    · exact h
  refine OK.ieq (fun _ => ?_) (fun _ => ?_)
  · refine OK.ieq (fun h => by omega) (fun _ => ?_)
    refine OK.bndZ (b_writesTree q.1.2 g.2.1.2.2 (by omega)) (fun u cu hu => ?_)
    have Iu : IB u := Iq.ch cu (by decide) (by decide)
    have u1 : u.1 1 = σ.1 1 := by rw [cu.1 1 (by decide) (by decide)]; exact q1
    have u2 : u.1 0 2 = 0 := by rw [cu.2.1 2 (by decide)]; exact q2
    have u32 : u.1 0 32 = σ.1 0 32 := by rw [cu.2.1 32 (by decide)]; exact q32
    have u32' : (u.1 0 32).toInt = (σ.1 0 32).toInt := by rw [u32]
    have yes : OK (f_X11_write_118 p0 p1 1 u) (fun z => WRb σ (WRd σ p0 p1 p2) p2.toInt (z.1, q.2 + z.2)) := by
      unfold f_X11_write_118
      refine OK.ieq (fun h => by have := li_1; omega) (fun _ => ?_)
      refine OK.bndZ (b_becomes p0 p1 u hu hp0) (fun y cy hy => ?_)
      have n0 := nN_ hp0.1
      refine k129 1 y ⟨Iu.1.ch cy (by decide) (by decide), ?_, ?_, ?_, ?_, ?_, ?_, ?_, ?_, ?_⟩ (by rw [cy.1 1 (by decide) (by decide)]; exact u1) (by rw [cy.2.1 2 (by decide)]; exact u2) (by rw [cy.2.1 32 (by decide)]; exact u32)
      · unfold PB
        rw [cy.1 35 (by decide) (by decide)]; exact Iu.2.1
      · rw [hy.1, cy.2.1 32 (by decide)]
        intro i hi
        unfold upd
        split
        · omega
        · exact Iu.2.2.1 i hi
      · rw [hy.2]
        exact upd_all (P := fun x => bI x 0 400) Iu.2.2.2.1 hu
      · rw [cy.1 38 (by decide) (by decide)]; exact Iu.2.2.2.2.1
      · rw [cy.2.1 68 (by decide)]; exact Iu.2.2.2.2.2.1
      · rw [cy.2.1 73 (by decide)]; exact Iu.2.2.2.2.2.2.1
      · rw [cy.2.1 83 (by decide)]; exact Iu.2.2.2.2.2.2.2.1
      · rw [cy.2.1 92 (by decide)]; exact Iu.2.2.2.2.2.2.2.2.1
      · unfold TH
        rw [cy.1 45 (by decide) (by decide)]; exact Iu.2.2.2.2.2.2.2.2.2
    refine OK.ieq (fun _ => yes) (fun _ => ?_)
    refine OK.bndC (b_wrong _ _ u) (fun y z cz hz => ?_)
    dsimp only
    have Iz : IB z := Iu.ch cz (by decide) (by decide)
    refine OK.ieq (fun _ => ?_) (fun h => by omega)
    exact k118n z Iz (by rw [cz.1 1 (by decide) (by decide)]; exact u1) (by rw [cz.2.1 2 (by decide)]; exact u2) (by rw [cz.2.1 32 (by decide)]; exact u32) 0 li_0
  · refine OK.bndC (b_wrongHere _ q.1.2) (fun y z cz hz => ?_)
    dsimp only
    have Iz : IB z := Iq.ch cz (by decide) (by decide)
    refine OK.ieq (fun _ => ?_) (fun h => by omega)
    exact k118n z Iz (by rw [cz.1 1 (by decide) (by decide)]; exact q1) (by rw [cz.2.1 2 (by decide)]; exact q2) (by rw [cz.2.1 32 (by decide)]; exact q32) y hz
