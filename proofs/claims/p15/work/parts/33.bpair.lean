/-! the reference: pairs of records, misses -/
def ME (σ : ST) : Prop := PLs σ ∧ WR2 σ ∧ PB σ
theorem ME.ch {C I : List Nat} {σ τ : ST} (h : ME σ) (c : CH C I σ τ) (hC : ∀ c, c ∈ [2, 3, 4, 5, 8, 11, 15, 19, 35] → c ∉ C) (hI : ∀ i, i ∈ [32, 53, 54] → i ∉ I) : ME τ := by
  refine ⟨h.1.ch c (hI 32 (by decide)) (fun x hx => hC x ?_), ?_, ?_⟩
  · exact (by decide : ∀ x, x ∈ [2, 3, 4, 5, 8, 11, 15, 19] → x ∈ [2, 3, 4, 5, 8, 11, 15, 19, 35]) x hx
  · unfold WR2
    rw [c.2.1 32 (hI 32 (by decide)), c.2.1 53 (hI 53 (by decide)), c.2.1 54 (hI 54 (by decide))]
    exact h.2.1
  · unfold PB
    rw [c.1 35 (by decide) (hC 35 (by decide))]
    exact h.2.2
/-- a record of the writer, of the reader -/
def wrec (σ : ST) (w : Int32) : Prop := 0 ≤ w.toInt ∧ w.toInt < (σ.1 8 (σ.1 0 53).toNatClampNeg).toInt
def rrec (σ : ST) (r : Int32) : Prop := 0 ≤ r.toInt ∧ r.toInt < (σ.1 8 (σ.1 0 54).toNatClampNeg).toInt
def rmW (σ : ST) : Int := (σ.1 8 (σ.1 0 53).toNatClampNeg).toInt
def rmR (σ : ST) : Int := (σ.1 8 (σ.1 0 54).toNatClampNeg).toInt
theorem wrec_i {σ : ST} {w : Int32} (h0 : 0 ≤ w.toInt) (h : w.toInt < rmW σ) : wrec σ w := ⟨h0, h⟩
theorem rrec_i {σ : ST} {w : Int32} (h0 : 0 ≤ w.toInt) (h : w.toInt < rmR σ) : rrec σ w := ⟨h0, h⟩
theorem ME.w {σ : ST} (h : ME σ) : bI (σ.1 0 53) 0 5 ∧ bI (σ.1 0 54) 0 5 ∧ (1 ≤ rmW σ ∧ rmW σ ≤ 6) ∧ 1 ≤ rmR σ ∧ rmR σ ≤ 6 := by
  obtain ⟨⟨⟨p1, p2⟩, hp, _⟩, ⟨⟨w1, w2⟩, r1, r2⟩, _⟩ := h
  have n1 := nN_ w1
  have n2 := nN_ r1
  have a := (hp (σ.1 0 53).toNatClampNeg (by omega)).1
  have b := (hp (σ.1 0 54).toNatClampNeg (by omega)).1
  exact ⟨⟨by omega, by omega⟩, ⟨by omega, by omega⟩, a, b⟩
/-- the fields of a writer's record -/
theorem ME.wf4 {σ : ST} (h : ME σ) {w : Int32} (hw : wrec σ w) : bI (σ.1 11 (6 * (σ.1 0 53).toNatClampNeg + w.toNatClampNeg)) 0 8 ∧ ∀ j : Nat, (j : Int) < (σ.1 11 (6 * (σ.1 0 53).toNatClampNeg + w.toNatClampNeg)).toInt → VC σ (rmW σ) 4 (σ.1 15 (8 * (6 * (σ.1 0 53).toNatClampNeg + w.toNatClampNeg) + j)) := by
  obtain ⟨⟨⟨p1, p2⟩, hp, _⟩, ⟨⟨w1, w2⟩, r1, r2⟩, _⟩ := h
  have n1 := nN_ w1
  have n2 := nN_ hw.1
  have n3 := hw.2
  exact (hp (σ.1 0 53).toNatClampNeg (by omega)).2 w.toNatClampNeg (by omega)
theorem ME.wf {σ : ST} (h : ME σ) {w : Int32} (hw : wrec σ w) : bI (σ.1 11 (6 * (σ.1 0 53).toNatClampNeg + w.toNatClampNeg)) 0 8 ∧ ∀ j : Nat, (j : Int) < (σ.1 11 (6 * (σ.1 0 53).toNatClampNeg + w.toNatClampNeg)).toInt → VS σ (rmW σ) 4 (σ.1 15 (8 * (6 * (σ.1 0 53).toNatClampNeg + w.toNatClampNeg) + j)) := ⟨(h.wf4 hw).1, fun j hj => ((h.wf4 hw).2 j hj).wk (by decide)⟩
theorem ME.rf4 {σ : ST} (h : ME σ) {r : Int32} (hr : rrec σ r) : bI (σ.1 11 (6 * (σ.1 0 54).toNatClampNeg + r.toNatClampNeg)) 0 8 ∧ ∀ j : Nat, (j : Int) < (σ.1 11 (6 * (σ.1 0 54).toNatClampNeg + r.toNatClampNeg)).toInt → VC σ (rmR σ) 4 (σ.1 15 (8 * (6 * (σ.1 0 54).toNatClampNeg + r.toNatClampNeg) + j)) := by
  obtain ⟨⟨⟨p1, p2⟩, hp, _⟩, ⟨⟨w1, w2⟩, r1, r2⟩, _⟩ := h
  have n1 := nN_ r1
  have n2 := nN_ hr.1
  have n3 := hr.2
  exact (hp (σ.1 0 54).toNatClampNeg (by omega)).2 r.toNatClampNeg (by omega)
theorem ME.rf {σ : ST} (h : ME σ) {r : Int32} (hr : rrec σ r) : bI (σ.1 11 (6 * (σ.1 0 54).toNatClampNeg + r.toNatClampNeg)) 0 8 ∧ ∀ j : Nat, (j : Int) < (σ.1 11 (6 * (σ.1 0 54).toNatClampNeg + r.toNatClampNeg)).toInt → VS σ (rmR σ) 4 (σ.1 15 (8 * (6 * (σ.1 0 54).toNatClampNeg + r.toNatClampNeg) + j)) := ⟨(h.rf4 hr).1, fun j hj => ((h.rf4 hr).2 j hj).wk (by decide)⟩
/-- the writer's field for a reader's one: none, or one with a type -/
theorem ME.ff4 {σ : ST} (h : ME σ) {w f : Int32} (hw : wrec σ w) (hf : 0 ≤ f.toInt ∧ f.toInt < 576) : OK (f_X11_fieldFor w f σ) (RO σ fun v => v.toInt = -1 ∨ (0 ≤ v.toInt ∧ v.toInt < 576) ∧ VC σ (rmW σ) 4 (σ.1 15 v.toNatClampNeg)) := by
  obtain ⟨b1, b2, b3, b4⟩ := h.w
  have w1 := hw.1
  have w2 : w.toInt < rmW σ := hw.2
  obtain ⟨c1, c2⟩ := h.wf4 hw
  have n1 := nN_ b1.1
  have n2 := nN_ w1
  have b11 := b1.1
  have b12 := b1.2
  have c12 := c1.2
  refine (b_fieldFor w f σ hf (by omega) b1 c1).roq (fun v hv => ?_)
  rcases hv with hv | ⟨j, j1, j2⟩
  · exact .inl hv
  · have e : v.toNatClampNeg = 8 * (6 * (σ.1 0 53).toNatClampNeg + w.toNatClampNeg) + j := nC (by omega)
    exact .inr ⟨by omega, by rw [e]; exact c2 j j1⟩
theorem ME.ff {σ : ST} (h : ME σ) {w f : Int32} (hw : wrec σ w) (hf : 0 ≤ f.toInt ∧ f.toInt < 576) : OK (f_X11_fieldFor w f σ) (RO σ fun v => v.toInt = -1 ∨ (0 ≤ v.toInt ∧ v.toInt < 576) ∧ VS σ (rmW σ) 4 (σ.1 15 v.toNatClampNeg)) := (h.ff4 hw hf).roq (fun v hv => by
  rcases hv with hv | hv
  · exact .inl hv
  · exact .inr ⟨hv.1, hv.2.wk (by decide)⟩)
theorem fo3_tr {σ τ : ST} (e11 : τ.1 11 = σ.1 11) (e12 : τ.2.1 12 = σ.2.1 12) : ∀ (n : Nat) (x1 : Int32) (x2 : Int64) (x4 : Int32), f_X11_fieldOf_3 n x1 x2 x4 τ = (f_X11_fieldOf_3 n x1 x2 x4 σ).map (fun q => (q.1, τ)) := by
  intro n
  induction n with
  | zero => intro x1 x2 x4; rfl
  | succ n ih =>
    intro x1 x2 x4
    rw [f_X11_fieldOf_3, f_X11_fieldOf_3, e11, e12]
    split
    · split
      · rfl
      · split
        · split
          · rfl
          · exact ih _ _ _
        · rfl
    · rfl
theorem ff_tr {σ τ : ST} (e53 : τ.1 0 53 = σ.1 0 53) (e11 : τ.1 11 = σ.1 11) (e12 : τ.2.1 12 = σ.2.1 12) (e14 : τ.2.1 14 = σ.2.1 14) (w f v : Int32) (h : f_X11_fieldFor w f σ = some (v, σ)) : f_X11_fieldFor w f τ = some (v, τ) := by
  unfold f_X11_fieldFor f_X11_fieldOf at h ⊢
  rw [fo3_tr e11 e12, e53, e12]
  split at h
  · rename_i h0
    rw [if_pos h0]
    obtain ⟨⟨q, s⟩, hq, h⟩ := ib h
    rw [hq]
    dsimp only [Option.map_some, Option.bind_some] at h ⊢
    have hs : s = σ := by
      have := fo3_tr (σ := σ) (τ := σ) rfl rfl FU (6 * σ.1 0 53 + w) (σ.2.1 12 f.toNatClampNeg) 0
      rw [hq] at this
      dsimp only [Option.map_some] at this
      exact (Prod.mk.inj (Option.some.inj this)).2
    subst hs
    split at h
    · rename_i h1
      rw [if_pos h1]
      have := (Prod.mk.inj (Option.some.inj h)).1
      rw [this]
    · rename_i h1
      rw [if_neg h1, e14]
      split at h
      · rename_i h2
        rw [if_pos h2]
        have := (Prod.mk.inj (Option.some.inj h)).1
        rw [this]
      · rename_i h2
        rw [if_neg h2, fo3_tr e11 e12, e53]
        obtain ⟨⟨q2, s2⟩, hq2, h⟩ := ib h
        rw [hq2]
        dsimp only [Option.map_some, Option.bind_some] at h ⊢
        have := (Prod.mk.inj (Option.some.inj h)).1
        rw [this]
  · cases h
/-- all that the reader's record asks for matches -/
def HO (σ : ST) (w r : Int32) : Prop := ∀ (k : Nat) (f v : Int32), (k : Int) < (σ.1 11 (6 * (σ.1 0 54).toNatClampNeg + r.toNatClampNeg)).toInt → f.toInt = 8 * (6 * (σ.1 0 54).toInt + r.toInt) + k → f_X11_fieldFor w f σ = some (v, σ) → 0 ≤ v.toInt → MS σ (σ.1 15 v.toNatClampNeg) (σ.1 15 f.toNatClampNeg)
theorem b_holds_24 (w r x3 : Int32) (σ : ST) (hM : ME σ) (hw : wrec σ w) (hr : rrec σ r) (h3 : x3.toInt = 6 * (σ.1 0 54).toInt + r.toInt) : ∀ (n : Nat) (x4 : Int32), (0 ≤ x4.toInt ∧ x4.toInt ≤ 8 ∧ (8 : Int) - x4.toInt < n) → (∀ (k : Nat) (f v : Int32), (k : Int) < x4.toInt → f.toInt = 8 * (6 * (σ.1 0 54).toInt + r.toInt) + k → f_X11_fieldFor w f σ = some (v, σ) → 0 ≤ v.toInt → MS σ (σ.1 15 v.toNatClampNeg) (σ.1 15 f.toNatClampNeg)) → OK (f_X11_holds_24 n w x3 x4 σ) (RO σ fun v => v.toInt = 0 ∨ v.toInt = 1 ∧ HO σ w r) := by
  intro n
  obtain ⟨b1, b2, b3, b4⟩ := hM.w
  have r1 := hr.1
  have r2 : r.toInt < rmR σ := hr.2
  obtain ⟨c1, c2⟩ := hM.rf hr
  have n1 := nN_ b2.1
  have n2 := nN_ r1
  have b11 := b2.1
  have b12 := b2.2
  have c11 := c1.1
  have c12 := c1.2
  have e3 : x3.toNatClampNeg = 6 * (σ.1 0 54).toNatClampNeg + r.toNatClampNeg := nC (by omega)
  have lt_0 := li_0
  have lt_1 := li_1
  have lt_8 := li_8
  induction n with
  | zero => intro x4 h; omega
  | succ n ih =>
    intro x4 h4 hk
    rw [f_X11_holds_24]
    unfold f_X11_holds_94
    have a1 := mlE (k := 8) (y := x3) 8 li_8 (by omega) (by omega)
    have a2 := il_addE (x := 8 * x3) (y := x4) (by omega) (by omega)
    have a3 := il_addE (x := x4) (y := 1) (by omega) (by omega)
    have n4 := nN_ h4.1
    have e5 : (8 * x3 + x4).toNatClampNeg = 8 * (6 * (σ.1 0 54).toNatClampNeg + r.toNatClampNeg) + x4.toNatClampNeg := nC (by omega)
    refine OK.grd ⟨by omega, by omega⟩ ?_
    rw [e3]
    refine OK.ile (fun h => OK.roret (.inr ⟨by omega, ?_⟩)) (fun h => ?_)
    · intro k f v k1 k2 k3 k4
      exact hk k f v (by omega) k2 k3 k4
    have hf := hM.ff hw (f := 8 * x3 + x4) (by omega)
    obtain ⟨⟨v, s⟩, ef, es, hv⟩ := hf
    have es : s = σ := es
    subst es
    rw [ef]
    show OK (if (0 : Int32) ≤ v then _ else _) _
    have next : (0 ≤ v.toInt → MS s (s.1 15 v.toNatClampNeg) (s.1 15 (8 * x3 + x4).toNatClampNeg)) → OK (f_X11_holds_24 n w x3 (x4 + 1) s) (RO s fun v => v.toInt = 0 ∨ v.toInt = 1 ∧ HO s w r) := fun hm => by
      refine ih (x4 + 1) (by omega) (fun k f u k1 k2 k3 k4 => ?_)
      by_cases e : (k : Int) < x4.toInt
      · exact hk k f u e k2 k3 k4
      · have ef2 : f = 8 * x3 + x4 := Int32.toInt_inj.mp (by omega)
        rw [ef2] at k3 ⊢
        rw [ef] at k3
        have ev : v = u := (Prod.mk.inj (Option.some.inj k3)).1
        rw [← ev] at k4 ⊢
        exact hm k4
    refine OK.ile (fun h0 => ?_) (fun h0 => ?_)
    · have hv' : (0 ≤ v.toInt ∧ v.toInt < 576) ∧ VS s (rmW s) 4 (s.1 15 v.toNatClampNeg) := by
        rcases hv with hv | hv
        · have hv : v.toInt = -1 := hv
          omega
        · exact hv
      refine OK.grd hv'.1 ?_
      refine OK.grd ⟨by omega, by omega⟩ ?_
      have hc := c2 x4.toNatClampNeg (by omega)
      rw [← e5] at hc
      refine OK.bndR (bT_match _ _ s (by omega) (by omega) hM.2.2 hv'.2 hc (by omega) (by omega)) (fun u hu => ?_)
      dsimp only
      refine OK.ieq (fun _ => OK.roret (.inl (by omega))) (fun _ => next (fun _ => ?_))
      rcases hu with hu | hu
      · omega
      · exact hu.2
    · refine OK.grd ⟨by omega, by omega⟩ ?_
      exact OK.ieq (fun _ => OK.roret (.inl (by omega))) (fun _ => next (fun h9 => by omega))
theorem b_holds (w r : Int32) (σ : ST) (hM : ME σ) (hw : wrec σ w) (hr : rrec σ r) : OK (f_X11_holds w r σ) (RO σ fun v => v.toInt = 0 ∨ v.toInt = 1 ∧ HO σ w r) := by
  unfold f_X11_holds
  obtain ⟨b1, b2, b3, b4⟩ := hM.w
  have w1 := hw.1
  have w2 : w.toInt < rmW σ := hw.2
  have r1 := hr.1
  have r2 : r.toInt < rmR σ := hr.2
  have b21 := b2.1
  have b22 := b2.2
  have lt_0 := li_0
  have lt_6 := li_6
  have lu := FUi
  have a1 := mlE (k := 6) (y := σ.1 0 54) 6 li_6 (by omega) (by omega)
  have a2 := il_addE (x := 6 * σ.1 0 54) (y := r) (by omega) (by omega)
  refine OK.bndR (b_namesMay w r σ (by omega) (by omega) b1 b2) (fun v hv => ?_)
  dsimp only
  refine OK.ieq (fun _ => OK.roret (.inl (by omega))) (fun _ => ?_)
  exact b_holds_24 w r _ σ hM hw hr (by omega) FU 0 (by omega) (fun k f v k1 => by omega)
theorem d6 {x : Int32} (h0 : 0 ≤ x.toInt) (h : x.toInt < 36) : (x / 6).toInt = x.toInt / 6 ∧ (x - x / 6 * 6).toInt = x.toInt % 6 := by
  have key : ∀ n : Nat, n < 36 → ((Int32.ofNat n) / 6).toInt = ((n : Int) / 6) ∧ ((Int32.ofNat n) - (Int32.ofNat n) / 6 * 6).toInt = ((n : Int) % 6) ∧ (Int32.ofNat n).toInt = (n : Int) := by decide
  have e : x = Int32.ofNat x.toInt.toNat := Int32.toInt_inj.mp (by rw [(key x.toInt.toNat (by omega)).2.2]; omega)
  have k := key x.toInt.toNat (by omega)
  rw [← e] at k
  refine ⟨k.1.trans ?_, k.2.1.trans ?_⟩
  · congr 1; omega
  · congr 1; omega
/-- the pairs that stand are of records that are there -/
def PC (σ : ST) (m : Int) : Prop := ∀ k : Nat, (k : Int) < m → ¬ σ.1 35 k = 0 → ((k : Int) / 6) < rmW σ ∧ ((k : Int) % 6) < rmR σ
theorem PB.up {σ : ST} (h : PB σ) {i : Nat} {v : Int32} (hv : v.toInt = 0 ∨ v.toInt = 1) : PB (stI σ 35 i v) := by
  intro k
  show (upd (σ.1 35) i v k).toInt = 0 ∨ (upd (σ.1 35) i v k).toInt = 1
  unfold upd
  split
  · exact hv
  · exact h k
/-- what laying the pairs ends with -/
def PP (σ : ST) : Prop := ME σ ∧ PC σ 36 ∧ ∀ (w r : Int32), 0 ≤ w.toInt → w.toInt < 6 → 0 ≤ r.toInt → r.toInt < 6 → ¬ σ.1 35 (6 * w.toNatClampNeg + r.toNatClampNeg) = 0 → HO σ w r
def cnt36 (σ : ST) : Nat := cntZ (fun k => ¬ σ.1 35 k = 0) 36
theorem b_lp_72 {k63 : Int32 → ST → Option ST} {P : ST → Prop} (c0 : Nat) : ∀ (n : Nat) (x3 x4 : Int32) (σ : ST), ME σ → PC σ 36 → (0 ≤ x4.toInt ∧ x4.toInt ≤ 36 ∧ (36 : Int) - x4.toInt < n) → (x3.toInt = 0 ∨ x3.toInt = 1) → cnt36 σ ≤ c0 → (x3.toInt = 1 → cnt36 σ + 1 ≤ c0) → (x3.toInt = 0 → ∀ (w r : Int32), 0 ≤ w.toInt → w.toInt < 6 → 0 ≤ r.toInt → r.toInt < 6 → 6 * w.toInt + r.toInt < x4.toInt → ¬ σ.1 35 (6 * w.toNatClampNeg + r.toNatClampNeg) = 0 → HO σ w r) → (∀ (x3 : Int32) (t : ST), CH [35] [] σ t → ME t → PC t 36 → (x3.toInt = 0 ∧ PP t ∨ x3.toInt = 1 ∧ cnt36 t + 1 ≤ c0) → OK (k63 x3 t) P) → OK (f_X11_laysPairs_72 k63 n x3 x4 σ) P := by
  intro n
  induction n with
  | zero => intro x3 x4 σ hM hC h4; omega
  | succ n ih =>
    intro x3 x4 σ hM hC h4 h3 hc hc1 hh hk
    rw [f_X11_laysPairs_72]
    unfold f_X11_laysPairs_116
    have lt_0 := li_0
    have lt_1 := li_1
    have lt_36 := li_36
    refine OK.ile (fun h => ?_) (fun h => ?_)
    · refine hk x3 σ CH.rf hM hC ?_
      rcases h3 with h3 | h3
      · exact .inl ⟨h3, hM, hC, fun w r a1 a2 a3 a4 a5 => hh h3 w r a1 a2 a3 a4 (by omega) a5⟩
      · exact .inr ⟨h3, hc1 h3⟩
    have a3 := il_addE (x := x4) (y := 1) (by omega) (by omega)
    obtain ⟨d1, d2⟩ := d6 (x := x4) h4.1 (by omega)
    have n4 := nN_ h4.1
    have n5 := nN_ (x := x4 / 6) (by omega)
    have n6 := nN_ (x := x4 - x4 / 6 * 6) (by omega)
    have same : ∀ w r : Int32, 0 ≤ w.toInt → w.toInt < 6 → 0 ≤ r.toInt → r.toInt < 6 → 6 * w.toInt + r.toInt = x4.toInt → w = x4 / 6 ∧ r = x4 - x4 / 6 * 6 := fun w r a1 a2 a3 a4 a5 => ⟨Int32.toInt_inj.mp (by omega), Int32.toInt_inj.mp (by omega)⟩
    have e66 : 6 * (x4 / 6).toNatClampNeg + (x4 - x4 / 6 * 6).toNatClampNeg = x4.toNatClampNeg := by omega
    refine OK.grd ⟨by omega, by omega⟩ ?_
    refine OK.ite (fun h0 => ?_) (fun h0 => ?_)
    · refine ih _ _ _ hM hC (by omega) h3 hc hc1 (fun h30 w r a1 a2 a3 a4 a5 a6 => ?_) hk
      by_cases e : 6 * w.toInt + r.toInt = x4.toInt
      · obtain ⟨rfl, rfl⟩ := same w r a1 a2 a3 a4 e
        rw [e66] at a6
        exact absurd h0 a6
      · exact hh h30 w r a1 a2 a3 a4 (by omega) a6
    · have hp := hC x4.toNatClampNeg (by omega) h0
      have hw : wrec σ (x4 / 6) := wrec_i (by omega) (by omega)
      have hr : rrec σ (x4 - x4 / 6 * 6) := rrec_i (by omega) (by omega)
      refine OK.bndR (b_holds _ _ σ hM hw hr) (fun v hv => ?_)
      dsimp only
      refine OK.ieq (fun hv0 => ?_) (fun hv0 => ?_)
      · have v0 : (vp_nar .boolean (0 : Int32)) = 0 := rfl
        rw [v0]
        have ch : CH [35] [] σ (stI σ 35 x4.toNatClampNeg 0) := CH.rf.i (by decide) (by decide)
        have hM1 : ME (stI σ 35 x4.toNatClampNeg 0) := ⟨hM.1, hM.2.1, hM.2.2.up (by omega)⟩
        have mono : ∀ k, ¬ (stI σ 35 x4.toNatClampNeg 0).1 35 k = 0 → ¬ σ.1 35 k = 0 := fun k hk => by
          have hk : ¬ upd (σ.1 35) x4.toNatClampNeg 0 k = 0 := hk
          unfold upd at hk
          split at hk
          · exact absurd rfl hk
          · exact hk
        have hlt : cnt36 (stI σ 35 x4.toNatClampNeg 0) + 1 ≤ cnt36 σ := cntZ_lt (p := fun k => ¬ (stI σ 35 x4.toNatClampNeg 0).1 35 k = 0) (q := fun k => ¬ σ.1 35 k = 0) mono (c := x4.toNatClampNeg) (fun h9 => h9 (show upd (σ.1 35) x4.toNatClampNeg 0 x4.toNatClampNeg = 0 from upd_at)) h0 36 (by omega)
        refine ih 1 _ _ hM1 (fun k k1 k2 => hC k k1 (mono k k2)) (by omega) (by omega) (by omega) (fun _ => by omega) (fun h9 => by omega) (fun y t ct => ?_)
        exact hk y t (ch.trans ct)
      · have hH : HO σ (x4 / 6) (x4 - x4 / 6 * 6) := by
          rcases hv with hv | hv
          · omega
          · exact hv.2
        refine ih _ _ _ hM hC (by omega) h3 hc hc1 (fun h30 w r a1 a2 a3 a4 a5 a6 => ?_) hk
        by_cases e : 6 * w.toInt + r.toInt = x4.toInt
        · obtain ⟨rfl, rfl⟩ := same w r a1 a2 a3 a4 e
          exact hH
        · exact hh h30 w r a1 a2 a3 a4 (by omega) a6
theorem b_lp_63 : ∀ (n : Nat) (x3 : Int32) (σ : ST), ME σ → PC σ 36 → (x3.toInt = 0 ∧ PP σ ∨ x3.toInt = 1 ∧ cnt36 σ + 1 < n) → 0 < n → OK (f_X11_laysPairs_63 n x3 σ) (RZ [35] [] σ PP) := by
  intro n
  induction n with
  | zero => intro x3 σ hM hC h h0; omega
  | succ n ih =>
    intro x3 σ hM hC h h0
    rw [f_X11_laysPairs_63]
    have lt_0 := li_0
    have lu := FUi
    refine OK.ieq (fun h3 => ?_) (fun h3 => ?_)
    · rcases h with h | h
      · exact OK.zret CH.rf h.2
      · omega
    · have h1 : cnt36 σ + 1 < n + 1 := by omega
      refine b_lp_72 (cnt36 σ) FU 0 0 σ hM hC (by omega) (by omega) (Nat.le_refl _) (fun h9 => by omega) (fun _ w r a1 a2 a3 a4 a5 => by omega) (fun y t ct hMt hCt hy => ?_)
      refine OK.trZ (ih y t hMt hCt ?_ (by omega)) ct (fun _ h => h) (fun _ h => h) (fun _ _ h => h)
      rcases hy with hy | hy
      · exact .inl hy
      · exact .inr ⟨hy.1, by omega⟩
theorem b_lp_12 (x1 x2 : Int32) : ∀ (n : Nat) (x3 : Int32) (σ : ST), ME σ → x1 = σ.1 0 53 → x2 = σ.1 0 54 → PC σ x3.toInt → (0 ≤ x3.toInt ∧ x3.toInt ≤ 36 ∧ (36 : Int) - x3.toInt < n) → OK (f_X11_laysPairs_12 n x1 x2 x3 σ) (RZ [35] [] σ PP) := by
  intro n
  induction n with
  | zero => intro x3 σ hM h1 h2 hC h3; omega
  | succ n ih =>
    intro x3 σ hM h1 h2 hC h3
    rw [f_X11_laysPairs_12]
    unfold f_X11_laysPairs_53
    have lt_0 := li_0
    have lt_1 := li_1
    have lt_36 := li_36
    have lu := FUi
    obtain ⟨⟨b11, b12⟩, ⟨b21, b22⟩, b3, b4⟩ := hM.w
    refine OK.ile (fun h => ?_) (fun h => ?_)
    · have e : x3.toInt = 36 := by omega
      rw [e] at hC
      have := cntZ_le (p := fun k => ¬ σ.1 35 k = 0) 36
      have e2 : cnt36 σ = cntZ (fun k => ¬ σ.1 35 k = 0) 36 := rfl
      exact b_lp_63 FU 1 σ hM hC (.inr ⟨by omega, by omega⟩) (by omega)
    have a3 := il_addE (x := x3) (y := 1) (by omega) (by omega)
    obtain ⟨d1, d2⟩ := d6 (x := x3) h3.1 (by omega)
    have n3 := nN_ h3.1
    have e53 : rmW σ = (σ.1 8 x1.toNatClampNeg).toInt := by rw [h1]; rfl
    have e54 : rmR σ = (σ.1 8 x2.toNatClampNeg).toInt := by rw [h2]; rfl
    have hx1 : x1.toInt = (σ.1 0 53).toInt := by rw [h1]
    have hx2 : x2.toInt = (σ.1 0 54).toInt := by rw [h2]
    have k54 : ∀ y0 : Int32, (y0 = 0 ∨ y0 = 1 ∧ (x3.toInt / 6) < rmW σ ∧ (x3.toInt % 6) < rmR σ) → OK (f_X11_laysPairs_54 (f_X11_laysPairs_12 n) x1 x2 x3 y0 x3 σ) (RZ [35] [] σ PP) := fun y0 hy => by
      unfold f_X11_laysPairs_54
      have v0 : vp_nar .boolean y0 = y0 := by
        rcases hy with hy | hy
        · rw [hy]; rfl
        · rw [hy.1]; rfl
      rw [v0]
      refine OK.grd ⟨by omega, by omega⟩ ?_
      have ch : CH [35] [] σ (stI σ 35 x3.toNatClampNeg y0) := CH.rf.i (by decide) (by decide)
      have yb : y0.toInt = 0 ∨ y0.toInt = 1 := by
        rcases hy with hy | hy
        · rw [hy]; omega
        · rw [hy.1]; omega
      refine OK.trZ (ih (x3 + 1) (stI σ 35 x3.toNatClampNeg y0) ⟨hM.1, hM.2.1, hM.2.2.up yb⟩ h1 h2 (fun k k1 k2 => ?_) (by omega)) ch (fun _ h => h) (fun _ h => h) (fun _ _ h => h)
      have k2 : ¬ upd (σ.1 35) x3.toNatClampNeg y0 k = 0 := k2
      show ((k : Int) / 6) < rmW σ ∧ ((k : Int) % 6) < rmR σ
      unfold upd at k2
      split at k2
      · rename_i e
        rcases hy with hy | hy
        · exact absurd hy k2
        · have : (k : Int) = x3.toInt := by omega
          rw [this]; exact hy.2
      · rename_i e
        exact hC k (by omega) k2
    refine OK.grd ⟨by omega, by omega⟩ ?_
    refine OK.ile (fun _ => k54 0 (.inl rfl)) (fun g1 => ?_)
    refine OK.grd ⟨by omega, by omega⟩ ?_
    refine OK.ile (fun _ => k54 0 (.inl rfl)) (fun g2 => ?_)
    exact k54 1 (.inr ⟨rfl, by omega, by omega⟩)
theorem b_laysPairs (p0 p1 : Int32) (σ : ST) (hP : PLs σ) (hB : PB σ) (h0 : 0 ≤ p0.toInt ∧ p0.toInt < (σ.1 0 32).toInt) (h1 : 0 ≤ p1.toInt ∧ p1.toInt < (σ.1 0 32).toInt) : OK (f_X11_laysPairs p0 p1 σ) (RZ [35] [53, 54] σ fun t => PP t ∧ t.1 0 53 = p0 ∧ t.1 0 54 = p1) := by
  unfold f_X11_laysPairs
  have lt_0 := li_0
  have lu := FUi
  have hM : ME (stI (stI σ 0 53 p0) 0 54 p1) := ⟨hP.of rfl rfl rfl rfl rfl rfl rfl rfl rfl, ⟨h0, h1⟩, hB⟩
  refine OK.trZ (b_lp_12 p0 p1 FU 0 (stI (stI σ 0 53 p0) 0 54 p1) hM rfl rfl (fun k k1 => by omega) (by omega)) ((CH.rf.o (by decide)).o (by decide)) (fun _ h => h) (fun _ h => by cases h) (fun t ct hPP => ⟨hPP, ?_, ?_⟩)
  · rw [ct.2.1 53 (by decide)]; rfl
  · rw [ct.2.1 54 (by decide)]; rfl
