/-! the reference: write -/
theorem IB.ch {C I : List Nat} {σ t : ST} (h : IB σ) (c : CH C I σ t) (hC : ∀ c, c ∈ [2, 3, 4, 5, 8, 11, 15, 19, 32, 33, 35, 38, 45] → c ∉ C) (hI : ∀ i, i ∈ [32, 68, 73, 83, 92] → i ∉ I) : IB t := by
  refine ⟨h.1.ch c (hI 32 (by decide)) (fun x hx => hC x ?_), ?_, ?_, ?_, ?_, ?_, ?_, ?_, ?_, ?_⟩
  · exact (by decide : ∀ x, x ∈ [2, 3, 4, 5, 8, 11, 15, 19] → x ∈ [2, 3, 4, 5, 8, 11, 15, 19, 32, 33, 35, 38, 45]) x hx
  · unfold PB
    rw [c.1 35 (by decide) (hC 35 (by decide))]; exact h.2.1
  · rw [c.1 32 (by decide) (hC 32 (by decide)), c.2.1 32 (hI 32 (by decide))]; exact h.2.2.1
  · rw [c.1 33 (by decide) (hC 33 (by decide))]; exact h.2.2.2.1
  · rw [c.1 38 (by decide) (hC 38 (by decide))]; exact h.2.2.2.2.1
  · rw [c.2.1 68 (hI 68 (by decide))]; exact h.2.2.2.2.2.1
  · rw [c.2.1 73 (hI 73 (by decide))]; exact h.2.2.2.2.2.2.1
  · rw [c.2.1 83 (hI 83 (by decide))]; exact h.2.2.2.2.2.2.2.1
  · rw [c.2.1 92 (hI 92 (by decide))]; exact h.2.2.2.2.2.2.2.2.1
  · unfold TH
    rw [c.1 45 (by decide) (hC 45 (by decide))]; exact h.2.2.2.2.2.2.2.2.2
theorem b_begins (p0 : Int32) (σ : ST) (h : 0 ≤ p0.toInt ∧ p0.toInt ≤ 1000) : OK (f_X11_begins p0 σ) (fun t => CH [] [2, 3, 4, 5, 6, 8, 10, 12, 13] σ t ∧ TX t ∧ uT t ≤ p0.toInt.toNat ∧ t.1 0 2 = 0 ∧ t.1 0 3 = p0 ∧ t.1 0 12 = 0 ∧ ∃ s, SK (σ.1 1) p0.toInt 0 s ∧ TB_ (σ.1 1) p0.toInt s t) := by
  unfold f_X11_begins
  have c : CH [] [2, 3, 4, 5, 6, 8, 10, 12, 13] σ (stI (stI (stI (stI σ 0 3 p0) 0 2 0) 0 5 0) 0 12 0) := (((CH.rf.o (by decide)).o (by decide)).o (by decide)).o (by decide)
  refine OK.bnd (b_go (stI (stI (stI (stI σ 0 3 p0) 0 2 0) 0 5 0) 0 12 0) 0 h li_0 (by decide)) (fun t ht => ?_)
  obtain ⟨ct, s, hs, hT⟩ := ht
  have hs : SK (σ.1 1) p0.toInt 0 s := hs
  have hT : TB_ (σ.1 1) p0.toInt s t := hT
  obtain ⟨a1, a2, a3, a4⟩ := hT.left h (by decide) hs
  have e3 : t.1 0 3 = p0 := ct.2.1 3 (by decide)
  have e2 : t.1 0 2 = 0 := ct.2.1 2 (by decide)
  have e12 : t.1 0 12 = 0 := ct.2.1 12 (by decide)
  refine OK.ret ⟨c.trans (ct.mono (by decide) (by decide)), ⟨by rw [e3]; exact h, a1, a2, hT.sgn⟩, ?_, e2, e3, e12, s, hs, hT⟩
  unfold uT
  rw [e3]
  have a11 := a1.1
  split
  · rename_i h9
    have := a3 h9
    omega
  · rename_i h9
    have := a4 h9
    omega
/-- a text is read, and what that costs -/
def WRb (σ : ST) (c : Prop) (n : Int) (q : (Int32 × ST) × Nat) : Prop := IB q.1.2 ∧ q.1.2.1 1 = σ.1 1 ∧ q.1.2.1 0 32 = σ.1 0 32 ∧ (c ∧ q.1.2.1 0 2 = 0 ∧ (q.2 : Int) ≤ 40 * n + 30 ∨ ¬ c ∧ q.1.2.1 0 2 = σ.1 0 2 ∧ q.2 = 0)
def WRd (σ : ST) (p0 p1 p2 : Int32) : Prop := (0 ≤ p0.toInt ∧ p0.toInt < 4) ∧ (0 ≤ p1.toInt ∧ p1.toInt < (σ.1 0 32).toInt) ∧ 0 ≤ p2.toInt ∧ p2.toInt ≤ (σ.1 0 2).toInt
theorem b_write (p0 p1 p2 : Int32) (σ : ST) (hI : IB σ) (htp : bI (σ.1 0 2) 0 1000) : OK (f_X11_write p0 p1 p2 σ) (WRb σ (WRd σ p0 p1 p2) p2.toInt) := by
  unfold f_X11_write
  have lt_0 := li_0
  have lm := li_m1
  have l0 := l64_0
  have l3 := l64_3
  have lr := FRi
  have hs := hI.th 0
  have e1 : (stI σ 0 0 0).1 0 2 = σ.1 0 2 := rfl
  have e2 : (stI σ 0 0 0).1 1 = σ.1 1 := rfl
  have e3 : (stI σ 0 0 0).1 0 32 = σ.1 0 32 := rfl
  obtain ⟨tp1, tp2⟩ := htp
  generalize stI σ 0 0 0 = s at hs e1 e2 e3 ⊢
  have no : ∀ v : Int32, ¬ WRd σ p0 p1 p2 → OK (some ((v, s), 0)) (WRb σ (WRd σ p0 p1 p2) p2.toInt) := fun v h => ⟨_, rfl, hs, e2, e3, .inr ⟨h, e1, rfl⟩⟩
  have a0 := i64 p0
  have a2 := i64 p2
  have a3 := i64 (s.1 0 2)
  have e1' : (s.1 0 2).toInt = (σ.1 0 2).toInt := by rw [e1]
  have e3' : (s.1 0 32).toInt = (σ.1 0 32).toInt := by rw [e3]
  refine OK.bndR (b_within _ _ _ _) (fun v hv => ?_)
  dsimp only
  refine OK.ieq (fun _ => no _ (fun h => by unfold WRd at h; omega)) (fun _ => ?_)
  refine OK.bndR (b_isPlanAt p1 s hs.1.1) (fun w hw => ?_)
  dsimp only
  refine OK.ieq (fun _ => no _ (fun h => by unfold WRd at h; omega)) (fun _ => ?_)
  refine OK.bndR (b_within _ _ _ _) (fun x hx => ?_)
  dsimp only
  refine OK.ieq (fun _ => no _ (fun h => by unfold WRd at h; omega)) (fun _ => ?_)
  have hc : WRd σ p0 p1 p2 := by unfold WRd; omega
  have hp1 : 0 ≤ p1.toInt ∧ p1.toInt < (s.1 0 32).toInt := by omega
  have hp2 : 0 ≤ p2.toInt ∧ p2.toInt ≤ 1000 := by omega
  have hp0 : 0 ≤ p0.toInt ∧ p0.toInt < 4 := by omega
  refine OK.bnd (b_begins p2 s hp2) (fun t ht => ?_)
  obtain ⟨ct, tx, tu, t2, t3, t12, _⟩ := ht
  unfold f_X11_rootType
  have n799 : (799 : Int32).toNatClampNeg = 799 := by decide
  rw [n799]
  refine OK.lt (fun q5 hq5 => ?_)
  subst hq5
  dsimp only
  have hr0 : IB t := hs.ch ct (by decide) (by decide)
  have cr : CH [2, 3] [2, 3, 4, 5, 6, 8, 10, 12, 13, 46] s (stI (stI (stI t 0 46 0) 2 799 7) 3 799 0) := (((ct.mono (by decide) (by decide)).o (by decide)).i (by decide) (by decide)).i (by decide) (by decide)
  have hr1 : IB (stI (stI (stI t 0 46 0) 2 799 7) 3 799 0) := by
    have hP : PLs (stI t 0 46 0) := hr0.1.of rfl rfl rfl rfl rfl rfl rfl rfl rfl
    exact ⟨hP.root, hr0.2.1, hr0.2.2.1, hr0.2.2.2.1, hr0.2.2.2.2.1, hr0.2.2.2.2.2.1, hr0.2.2.2.2.2.2.1, hr0.2.2.2.2.2.2.2.1, hr0.2.2.2.2.2.2.2.2.1, hr0.2.2.2.2.2.2.2.2.2⟩
  have hS : ((stI (stI (stI t 0 46 0) 2 799 7) 3 799 0).1 2 799) = 7 := upd_at (f := (stI t 0 46 0).1 2) (i := 799) (v := 7)
  have hA : ((stI (stI (stI t 0 46 0) 2 799 7) 3 799 0).1 3 799) = 0 := upd_at (f := (stI (stI t 0 46 0) 2 799 7).1 3) (i := 799) (v := 0)
  have e46 : (stI (stI (stI t 0 46 0) 2 799 7) 3 799 0).1 0 46 = 0 := rfl
  obtain ⟨rx, ru⟩ := TX.of (t := stI (stI (stI t 0 46 0) 2 799 7) 3 799 0) tx rfl rfl rfl rfl rfl
  have r2 : (stI (stI (stI t 0 46 0) 2 799 7) 3 799 0).1 0 2 = 0 := t2
  generalize stI (stI (stI t 0 46 0) 2 799 7) 3 799 0 = r at cr hr1 hS hA e46 rx ru r2 ⊢
  have r1 : r.1 1 = σ.1 1 := by rw [cr.1 1 (by decide) (by decide)]; exact e2
  have r32 : r.1 0 32 = σ.1 0 32 := by rw [cr.2.1 32 (by decide)]; exact e3
  have r32' : (r.1 0 32).toInt = (σ.1 0 32).toInt := by rw [r32]
  have e46' : (r.1 0 46).toInt = 0 := by rw [e46]; exact li_0
  have hX : WX (fun _ => 0) r := ⟨hr1.1, rx, NL.nil e46⟩
  have np1 := nN_ hp1.1
  have rm := (hr1.1.2.1 p1.toNatClampNeg (by omega)).1
  have l7 : (7 : Int32).toInt = 7 := by decide
  have lt_799 := li_799
  have root : VS r (rmP r p1) 4 799 := by
    have h1 : VS r (rmP r p1) 1 799 := by
      refine ⟨⟨by omega, by omega⟩, ?_, ?_, ?_, ?_⟩
      · rw [n799, hS]; omega
      · rw [n799, hS]; intro h; omega
      · rw [n799, hA]; intro _; unfold rmP; omega
      · rw [n799, hS]; intro h; omega
    exact h1.up.up.up
  have hpot : pot r ≤ 4050 := by unfold pot; omega
  refine OK.bnd ((b_RV FRB).2.2 p1 799 0 (-1) 0 r (fun _ => 0) hX (by omega) root (by omega) (.inl ⟨by omega, by omega⟩) hpot (by omega)) (fun q hq => ?_)
  refine OK.kac ?_
  obtain ⟨cq, hq⟩ := hq
  have Iq : IB q.1.2 := hr1.ch cq (by decide) (by decide)
  have q1 : q.1.2.1 1 = σ.1 1 := by rw [cq.1 1 (by decide) (by decide)]; exact r1
  have q2 : q.1.2.1 0 2 = 0 := by rw [cq.2.1 2 (by decide)]; exact r2
  have q32 : q.1.2.1 0 32 = σ.1 0 32 := by rw [cq.2.1 32 (by decide)]; exact r32
  have hcost : (q.2 : Int) ≤ 40 * p2.toInt + 30 := by
    rcases hq with ⟨_, h⟩ | ⟨_, h, _⟩
    · omega
    · omega
  unfold f_X11_write_84 f_X11_write_111 f_X11_write_116
  have k129 : ∀ (x4 : Int32) (u : ST), IB u → u.1 1 = σ.1 1 → u.1 0 2 = 0 → u.1 0 32 = σ.1 0 32 → OK (f_X11_write_129 x4 u) (fun z => WRb σ (WRd σ p0 p1 p2) p2.toInt (z.1, q.2 + z.2)) := fun x4 u Iu u1 u2 u32 => by
    unfold f_X11_write_129
    exact OK.ieq (fun _ => ⟨_, rfl, Iu, u1, u32, .inl ⟨hc, u2, hcost⟩⟩) (fun _ => ⟨_, rfl, Iu, u1, u32, .inl ⟨hc, u2, hcost⟩⟩)
  have k118n : ∀ (u : ST), IB u → u.1 1 = σ.1 1 → u.1 0 2 = 0 → u.1 0 32 = σ.1 0 32 → ∀ x4 : Int32, x4.toInt = 0 → OK (f_X11_write_118 p0 p1 x4 u) (fun z => WRb σ (WRd σ p0 p1 p2) p2.toInt (z.1, q.2 + z.2)) := fun u Iu u1 u2 u32 x4 h4 => by
    unfold f_X11_write_118
    exact OK.ieq (fun _ => k129 _ u Iu u1 u2 u32) (fun h => by omega)
  have k84n : ∀ (u : ST), IB u → u.1 1 = σ.1 1 → u.1 0 2 = 0 → u.1 0 32 = σ.1 0 32 → ∀ x4 : Int32, x4.toInt = 0 → OK (f_X11_write_84 p0 p1 p2 x4 u) (fun z => WRb σ (WRd σ p0 p1 p2) p2.toInt (z.1, q.2 + z.2)) := fun u Iu u1 u2 u32 x4 h4 => by
    unfold f_X11_write_84
    exact OK.ieq (fun _ => k118n u Iu u1 u2 u32 _ h4) (fun h => by omega)
  refine OK.ieq (fun h0 => ?_) (fun h0 => ?_)
  · exact OK.ieq (fun _ => k118n q.1.2 Iq q1 q2 q32 _ (by omega)) (fun h => by omega)
  obtain ⟨L2, g, q3, q4⟩ : ∃ LV', WG (fun _ => 0) r LV' q.1.2 ∧ pot q.1.2 ≤ pot r + 1 ∧ (r.1 0 46).toInt + 1 ≤ (q.1.2.1 0 46).toInt := by
    rcases hq with ⟨h, _⟩ | ⟨_, _, h⟩
    · omega
    · exact h
  refine OK.ieq (fun _ => ?_) (fun _ => ?_)
  · refine OK.ieq (fun h => by omega) (fun _ => ?_)
    refine OK.bndZ (b_writesTree q.1.2 g.2.1.2.2 (by omega)) (fun u cu hu => ?_)
    have Iu : IB u := Iq.ch cu (by decide) (by decide)
    have u1 : u.1 1 = σ.1 1 := by rw [cu.1 1 (by decide) (by decide)]; exact q1
    have u2 : u.1 0 2 = 0 := by rw [cu.2.1 2 (by decide)]; exact q2
    have u32 : u.1 0 32 = σ.1 0 32 := by rw [cu.2.1 32 (by decide)]; exact q32
    have u32' : (u.1 0 32).toInt = (σ.1 0 32).toInt := by rw [u32]
    have yes : OK (f_X11_write_118 p0 p1 1 u) (fun z => WRb σ (WRd σ p0 p1 p2) p2.toInt (z.1, q.2 + z.2)) := by
      unfold f_X11_write_118
      refine OK.ieq (fun h => by have := li_1; omega) (fun _ => ?_)
      refine OK.bndZ (b_becomes p0 p1 u hu hp0) (fun y cy hy => ?_)
      have n0 := nN_ hp0.1
      refine k129 1 y ⟨Iu.1.ch cy (by decide) (by decide), ?_, ?_, ?_, ?_, ?_, ?_, ?_, ?_, ?_⟩ (by rw [cy.1 1 (by decide) (by decide)]; exact u1) (by rw [cy.2.1 2 (by decide)]; exact u2) (by rw [cy.2.1 32 (by decide)]; exact u32)
      · unfold PB
        rw [cy.1 35 (by decide) (by decide)]; exact Iu.2.1
      · rw [hy.1, cy.2.1 32 (by decide)]
        intro i hi
        unfold upd
        split
        · omega
        · exact Iu.2.2.1 i hi
      · rw [hy.2]
        exact upd_all (P := fun x => bI x 0 400) Iu.2.2.2.1 hu
      · rw [cy.1 38 (by decide) (by decide)]; exact Iu.2.2.2.2.1
      · rw [cy.2.1 68 (by decide)]; exact Iu.2.2.2.2.2.1
      · rw [cy.2.1 73 (by decide)]; exact Iu.2.2.2.2.2.2.1
      · rw [cy.2.1 83 (by decide)]; exact Iu.2.2.2.2.2.2.2.1
      · rw [cy.2.1 92 (by decide)]; exact Iu.2.2.2.2.2.2.2.2.1
      · unfold TH
        rw [cy.1 45 (by decide) (by decide)]; exact Iu.2.2.2.2.2.2.2.2.2
    refine OK.ieq (fun _ => yes) (fun _ => ?_)
    refine OK.bndC (b_wrong _ _ u) (fun y z cz hz => ?_)
    dsimp only
    have Iz : IB z := Iu.ch cz (by decide) (by decide)
    refine OK.ieq (fun _ => ?_) (fun h => by omega)
    exact k118n z Iz (by rw [cz.1 1 (by decide) (by decide)]; exact u1) (by rw [cz.2.1 2 (by decide)]; exact u2) (by rw [cz.2.1 32 (by decide)]; exact u32) 0 li_0
  · refine OK.bndC (b_wrongHere _ q.1.2) (fun y z cz hz => ?_)
    dsimp only
    have Iz : IB z := Iq.ch cz (by decide) (by decide)
    refine OK.ieq (fun _ => ?_) (fun h => by omega)
    exact k118n z Iz (by rw [cz.1 1 (by decide) (by decide)]; exact q1) (by rw [cz.2.1 2 (by decide)]; exact q2) (by rw [cz.2.1 32 (by decide)]; exact q32) y hz
