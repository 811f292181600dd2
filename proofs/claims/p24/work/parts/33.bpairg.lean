/-! the reference: pairs of records, misses -/
def ME (σ : ST) : Prop := PLs σ ∧ WR2 σ ∧ PB σ
theorem ME.ch {C I : List Nat} {σ τ : ST} (h : ME σ) (c : CH C I σ τ) (hC : ∀ c, c ∈ [2, 3, 4, 5, 8, 11, 15, 19, 35] → c ∉ C) (hI : ∀ i, i ∈ [32, 53, 54] → i ∉ I) : ME τ := by
  refine ⟨h.1.ch c (hI 32 (by decide)) (fun x hx => hC x ?_), ?_, ?_⟩
  · exact (by decide : ∀ x, x ∈ [2, 3, 4, 5, 8, 11, 15, 19] → x ∈ [2, 3, 4, 5, 8, 11, 15, 19, 35]) x hx
  · unfold WR2
    rw [c.2.1 32 (hI 32 (by decide)), c.2.1 53 (hI 53 (by decide)), c.2.1 54 (hI 54 (by decide))]
    exact h.2.1
  · unfold PB
    rw [c.1 35 (by decide) (hC 35 (by decide))]
    exact h.2.2
/-- a record of the writer, of the reader -/
def wrec (σ : ST) (w : Int32) : Prop := 0 ≤ w.toInt ∧ w.toInt < (σ.1 8 (σ.1 0 53).toNatClampNeg).toInt
def rrec (σ : ST) (r : Int32) : Prop := 0 ≤ r.toInt ∧ r.toInt < (σ.1 8 (σ.1 0 54).toNatClampNeg).toInt
def rmW (σ : ST) : Int := (σ.1 8 (σ.1 0 53).toNatClampNeg).toInt
def rmR (σ : ST) : Int := (σ.1 8 (σ.1 0 54).toNatClampNeg).toInt
theorem wrec_i {σ : ST} {w : Int32} (h0 : 0 ≤ w.toInt) (h : w.toInt < rmW σ) : wrec σ w := ⟨h0, h⟩
theorem rrec_i {σ : ST} {w : Int32} (h0 : 0 ≤ w.toInt) (h : w.toInt < rmR σ) : rrec σ w := ⟨h0, h⟩
theorem ME.w {σ : ST} (h : ME σ) : bI (σ.1 0 53) 0 5 ∧ bI (σ.1 0 54) 0 5 ∧ (1 ≤ rmW σ ∧ rmW σ ≤ 6) ∧ 1 ≤ rmR σ ∧ rmR σ ≤ 6 := by
  obtain ⟨⟨⟨p1, p2⟩, hp, _⟩, ⟨⟨w1, w2⟩, r1, r2⟩, _⟩ := h
  have n1 := nN_ w1
  have n2 := nN_ r1
  have a := (hp (σ.1 0 53).toNatClampNeg (by omega)).1
  have b := (hp (σ.1 0 54).toNatClampNeg (by omega)).1
  exact ⟨⟨by omega, by omega⟩, ⟨by omega, by omega⟩, a, b⟩
/-- the fields of a writer's record -/
theorem ME.wf4 {σ : ST} (h : ME σ) {w : Int32} (hw : wrec σ w) : bI (σ.1 11 (6 * (σ.1 0 53).toNatClampNeg + w.toNatClampNeg)) 0 8 ∧ ∀ j : Nat, (j : Int) < (σ.1 11 (6 * (σ.1 0 53).toNatClampNeg + w.toNatClampNeg)).toInt → VC σ (rmW σ) 4 (σ.1 15 (8 * (6 * (σ.1 0 53).toNatClampNeg + w.toNatClampNeg) + j)) := by
  obtain ⟨⟨⟨p1, p2⟩, hp, _⟩, ⟨⟨w1, w2⟩, r1, r2⟩, _⟩ := h
  have n1 := nN_ w1
  have n2 := nN_ hw.1
  have n3 := hw.2
  exact (hp (σ.1 0 53).toNatClampNeg (by omega)).2 w.toNatClampNeg (by omega)
theorem ME.wf {σ : ST} (h : ME σ) {w : Int32} (hw : wrec σ w) : bI (σ.1 11 (6 * (σ.1 0 53).toNatClampNeg + w.toNatClampNeg)) 0 8 ∧ ∀ j : Nat, (j : Int) < (σ.1 11 (6 * (σ.1 0 53).toNatClampNeg + w.toNatClampNeg)).toInt → VS σ (rmW σ) 4 (σ.1 15 (8 * (6 * (σ.1 0 53).toNatClampNeg + w.toNatClampNeg) + j)) := ⟨(h.wf4 hw).1, fun j hj => ((h.wf4 hw).2 j hj).wk (by decide)⟩
theorem ME.rf4 {σ : ST} (h : ME σ) {r : Int32} (hr : rrec σ r) : bI (σ.1 11 (6 * (σ.1 0 54).toNatClampNeg + r.toNatClampNeg)) 0 8 ∧ ∀ j : Nat, (j : Int) < (σ.1 11 (6 * (σ.1 0 54).toNatClampNeg + r.toNatClampNeg)).toInt → VC σ (rmR σ) 4 (σ.1 15 (8 * (6 * (σ.1 0 54).toNatClampNeg + r.toNatClampNeg) + j)) := by
  obtain ⟨⟨⟨p1, p2⟩, hp, _⟩, ⟨⟨w1, w2⟩, r1, r2⟩, _⟩ := h
  have n1 := nN_ r1
  have n2 := nN_ hr.1
  have n3 := hr.2
  exact (hp (σ.1 0 54).toNatClampNeg (by omega)).2 r.toNatClampNeg (by omega)
theorem ME.rf {σ : ST} (h : ME σ) {r : Int32} (hr : rrec σ r) : bI (σ.1 11 (6 * (σ.1 0 54).toNatClampNeg + r.toNatClampNeg)) 0 8 ∧ ∀ j : Nat, (j : Int) < (σ.1 11 (6 * (σ.1 0 54).toNatClampNeg + r.toNatClampNeg)).toInt → VS σ (rmR σ) 4 (σ.1 15 (8 * (6 * (σ.1 0 54).toNatClampNeg + r.toNatClampNeg) + j)) := ⟨(h.rf4 hr).1, fun j hj => ((h.rf4 hr).2 j hj).wk (by decide)⟩
/-- the writer's field for a reader's one: none, or one with a type -/
theorem ME.ff4 {σ : ST} (h : ME σ) {w f : Int32} (hw : wrec σ w) (hf : 0 ≤ f.toInt ∧ f.toInt < 576) : OK (f_X11_fieldFor w f σ) (RO σ fun v => v.toInt = -1 ∨ (0 ≤ v.toInt ∧ v.toInt < 576) ∧ VC σ (rmW σ) 4 (σ.1 15 v.toNatClampNeg)) := by
  obtain ⟨b1, b2, b3, b4⟩ := h.w
  have w1 := hw.1
  have w2 : w.toInt < rmW σ := hw.2
  obtain ⟨c1, c2⟩ := h.wf4 hw
  have n1 := nN_ b1.1
  have n2 := nN_ w1
  have b11 := b1.1
  have b12 := b1.2
  have c12 := c1.2
  refine (b_fieldFor w f σ hf (by omega) b1 c1).roq (fun v hv => ?_)
  rcases hv with hv | ⟨j, j1, j2⟩
  · exact .inl hv
  · have e : v.toNatClampNeg = 8 * (6 * (σ.1 0 53).toNatClampNeg + w.toNatClampNeg) + j := nC (by omega)
    exact .inr ⟨by omega, by rw [e]; exact c2 j j1⟩
theorem ME.ff {σ : ST} (h : ME σ) {w f : Int32} (hw : wrec σ w) (hf : 0 ≤ f.toInt ∧ f.toInt < 576) : OK (f_X11_fieldFor w f σ) (RO σ fun v => v.toInt = -1 ∨ (0 ≤ v.toInt ∧ v.toInt < 576) ∧ VS σ (rmW σ) 4 (σ.1 15 v.toNatClampNeg)) := (h.ff4 hw hf).roq (fun v hv => by
  rcases hv with hv | hv
  · exact .inl hv
  · exact .inr ⟨hv.1, hv.2.wk (by decide)⟩)
theorem fo3_tr {σ τ : ST} (e11 : τ.1 11 = σ.1 11) (e12 : τ.2.1 12 = σ.2.1 12) : ∀ (n : Nat) (x1 : Int32) (x2 : Int64) (x4 : Int32), f_X11_fieldOf_3 n x1 x2 x4 τ = (f_X11_fieldOf_3 n x1 x2 x4 σ).map (fun q => (q.1, τ)) := by
  intro n
  induction n with
  | zero => intro x1 x2 x4; rfl
  | succ n ih =>
    intro x1 x2 x4
    rw [f_X11_fieldOf_3, f_X11_fieldOf_3, e11, e12]
    split
    · split
      · rfl
      · split
        · split
          · rfl
          · exact ih _ _ _
        · rfl
    · rfl
theorem ff_tr {σ τ : ST} (e53 : τ.1 0 53 = σ.1 0 53) (e11 : τ.1 11 = σ.1 11) (e12 : τ.2.1 12 = σ.2.1 12) (e14 : τ.2.1 14 = σ.2.1 14) (w f v : Int32) (h : f_X11_fieldFor w f σ = some (v, σ)) : f_X11_fieldFor w f τ = some (v, τ) := by
  unfold f_X11_fieldFor f_X11_fieldOf at h ⊢
  rw [fo3_tr e11 e12, e53, e12]
  split at h
  · rename_i h0
    rw [if_pos h0]
    obtain ⟨⟨q, s⟩, hq, h⟩ := ib h
    rw [hq]
    dsimp only [Option.map_some, Option.bind_some] at h ⊢
    have hs : s = σ := by
      have := fo3_tr (σ := σ) (τ := σ) rfl rfl FU (6 * σ.1 0 53 + w) (σ.2.1 12 f.toNatClampNeg) 0
      rw [hq] at this
      dsimp only [Option.map_some] at this
      exact (Prod.mk.inj (Option.some.inj this)).2
    subst hs
    split at h
    · rename_i h1
      rw [if_pos h1]
      have := (Prod.mk.inj (Option.some.inj h)).1
      rw [this]
    · rename_i h1
      rw [if_neg h1, e14]
      split at h
      · rename_i h2
        rw [if_pos h2]
        have := (Prod.mk.inj (Option.some.inj h)).1
        rw [this]
      · rename_i h2
        rw [if_neg h2, fo3_tr e11 e12, e53]
        obtain ⟨⟨q2, s2⟩, hq2, h⟩ := ib h
        rw [hq2]
        dsimp only [Option.map_some, Option.bind_some] at h ⊢
        have := (Prod.mk.inj (Option.some.inj h)).1
        rw [this]
  · cases h
/-- all that the reader's record asks for matches -/
def HO (σ : ST) (w r : Int32) : Prop := ∀ (k : Nat) (f v : Int32), (k : Int) < (σ.1 11 (6 * (σ.1 0 54).toNatClampNeg + r.toNatClampNeg)).toInt → f.toInt = 8 * (6 * (σ.1 0 54).toInt + r.toInt) + k → f_X11_fieldFor w f σ = some (v, σ) → 0 ≤ v.toInt → MS σ (σ.1 15 v.toNatClampNeg) (σ.1 15 f.toNatClampNeg)
theorem b_holds_24 (w r x3 : Int32) (σ : ST) (hM : ME σ) (hw : wrec σ w) (hr : rrec σ r) (h3 : x3.toInt = 6 * (σ.1 0 54).toInt + r.toInt) : ∀ (n : Nat) (x4 : Int32), (0 ≤ x4.toInt ∧ x4.toInt ≤ 8 ∧ (8 : Int) - x4.toInt < n) → (∀ (k : Nat) (f v : Int32), (k : Int) < x4.toInt → f.toInt = 8 * (6 * (σ.1 0 54).toInt + r.toInt) + k → f_X11_fieldFor w f σ = some (v, σ) → 0 ≤ v.toInt → MS σ (σ.1 15 v.toNatClampNeg) (σ.1 15 f.toNatClampNeg)) → OK (f_X11_holds_24 n w x3 x4 σ) (RO σ fun v => v.toInt = 0 ∨ v.toInt = 1 ∧ HO σ w r) := by
  intro n
  obtain ⟨b1, b2, b3, b4⟩ := hM.w
  have r1 := hr.1
  have r2 : r.toInt < rmR σ := hr.2
  obtain ⟨c1, c2⟩ := hM.rf hr
  have n1 := nN_ b2.1
  have n2 := nN_ r1
  have b11 := b2.1
  have b12 := b2.2
  have c11 := c1.1
  have c12 := c1.2
  have e3 : x3.toNatClampNeg = 6 * (σ.1 0 54).toNatClampNeg + r.toNatClampNeg := nC (by omega)
  have lt_0 := li_0
  have lt_1 := li_1
  have lt_8 := li_8
  induction n with
  | zero => intro x4 h; omega
  | succ n ih =>
    intro x4 h4 hk
    rw [f_X11_holds_24]
    unfold f_X11_holds_94
    have a1 := mlE (k := 8) (y := x3) 8 li_8 (by omega) (by omega)
    have a2 := il_addE (x := 8 * x3) (y := x4) (by omega) (by omega)
    have a3 := il_addE (x := x4) (y := 1) (by omega) (by omega)
    have n4 := nN_ h4.1
    have e5 : (8 * x3 + x4).toNatClampNeg = 8 * (6 * (σ.1 0 54).toNatClampNeg + r.toNatClampNeg) + x4.toNatClampNeg := nC (by omega)
    refine OK.grd ⟨by omega, by omega⟩ ?_
    rw [e3]
    refine OK.ile (fun h => OK.roret (.inr ⟨by omega, ?_⟩)) (fun h => ?_)
    · intro k f v k1 k2 k3 k4
      exact hk k f v (by omega) k2 k3 k4
    have hf := hM.ff hw (f := 8 * x3 + x4) (by omega)
    obtain ⟨⟨v, s⟩, ef, es, hv⟩ := hf
    have es : s = σ := es
    subst es
    rw [ef]
    show OK (if (0 : Int32) ≤ v then _ else _) _
    have next : (0 ≤ v.toInt → MS s (s.1 15 v.toNatClampNeg) (s.1 15 (8 * x3 + x4).toNatClampNeg)) → OK (f_X11_holds_24 n w x3 (x4 + 1) s) (RO s fun v => v.toInt = 0 ∨ v.toInt = 1 ∧ HO s w r) := fun hm => by
      refine ih (x4 + 1) (by omega) (fun k f u k1 k2 k3 k4 => ?_)
      by_cases e : (k : Int) < x4.toInt
      · exact hk k f u e k2 k3 k4
      · have ef2 : f = 8 * x3 + x4 := Int32.toInt_inj.mp (by omega)
        rw [ef2] at k3 ⊢
        rw [ef] at k3
        have ev : v = u := (Prod.mk.inj (Option.some.inj k3)).1
        rw [← ev] at k4 ⊢
        exact hm k4
    refine OK.ile (fun h0 => ?_) (fun h0 => ?_)
    · have hv' : (0 ≤ v.toInt ∧ v.toInt < 576) ∧ VS s (rmW s) 4 (s.1 15 v.toNatClampNeg) := by
        rcases hv with hv | hv
        · have hv : v.toInt = -1 := hv
          omega
        · exact hv
      refine OK.grd hv'.1 ?_
      refine OK.grd ⟨by omega, by omega⟩ ?_
      have hc := c2 x4.toNatClampNeg (by omega)
      rw [← e5] at hc
      refine OK.bndR (bT_match _ _ s (by omega) (by omega) hM.2.2 hv'.2 hc (by omega) (by omega)) (fun u hu => ?_)
      dsimp only
      refine OK.ieq (fun _ => OK.roret (.inl (by omega))) (fun _ => next (fun _ => ?_))
      rcases hu with hu | hu
      · omega
      · exact hu.2
    · refine OK.grd ⟨by omega, by omega⟩ ?_
      exact OK.ieq (fun _ => OK.roret (.inl (by omega))) (fun _ => next (fun h9 => by omega))
theorem b_holds (w r : Int32) (σ : ST) (hM : ME σ) (hw : wrec σ w) (hr : rrec σ r) : OK (f_X11_holds w r σ) (RO σ fun v => v.toInt = 0 ∨ v.toInt = 1 ∧ HO σ w r) := by
  unfold f_X11_holds
  obtain ⟨b1, b2, b3, b4⟩ := hM.w
  have w1 := hw.1
  have w2 : w.toInt < rmW σ := hw.2
  have r1 := hr.1
  have r2 : r.toInt < rmR σ := hr.2
  have b21 := b2.1
  have b22 := b2.2
  have lt_0 := li_0
  have lt_6 := li_6
  have lu := FUi
  have a1 := mlE (k := 6) (y := σ.1 0 54) 6 li_6 (by omega) (by omega)
  have a2 := il_addE (x := 6 * σ.1 0 54) (y := r) (by omega) (by omega)
  refine OK.bndR (b_namesMay w r σ (by omega) (by omega) b1 b2) (fun v hv => ?_)
  dsimp only
  refine OK.ieq (fun _ => OK.roret (.inl (by omega))) (fun _ => ?_)
  exact b_holds_24 w r _ σ hM hw hr (by omega) FU 0 (by omega) (fun k f v k1 => by omega)
theorem d6 {x : Int32} (h0 : 0 ≤ x.toInt) (h : x.toInt < 36) : (x / 6).toInt = x.toInt / 6 ∧ (x - x / 6 * 6).toInt = x.toInt % 6 := by
  have key : ∀ n : Nat, n < 36 → ((Int32.ofNat n) / 6).toInt = ((n : Int) / 6) ∧ ((Int32.ofNat n) - (Int32.ofNat n) / 6 * 6).toInt = ((n : Int) % 6) ∧ (Int32.ofNat n).toInt = (n : Int) := by decide
  have e : x = Int32.ofNat x.toInt.toNat := Int32.toInt_inj.mp (by rw [(key x.toInt.toNat (by omega)).2.2]; omega)
  have k := key x.toInt.toNat (by omega)
  rw [← e] at k
  refine ⟨k.1.trans ?_, k.2.1.trans ?_⟩
  · congr 1; omega
  · congr 1; omega
/-- the pairs that stand are of records that are there -/
def PC (σ : ST) (m : Int) : Prop := ∀ k : Nat, (k : Int) < m → ¬ σ.1 35 k = 0 → ((k : Int) / 6) < rmW σ ∧ ((k : Int) % 6) < rmR σ
theorem PB.up {σ : ST} (h : PB σ) {i : Nat} {v : Int32} (hv : v.toInt = 0 ∨ v.toInt = 1) : PB (stI σ 35 i v) := by
  intro k
  show (upd (σ.1 35) i v k).toInt = 0 ∨ (upd (σ.1 35) i v k).toInt = 1
  unfold upd
  split
  · exact hv
  · exact h k
/-- what laying the pairs ends with -/
def PP (σ : ST) : Prop := ME σ ∧ PC σ 36 ∧ ∀ (w r : Int32), 0 ≤ w.toInt → w.toInt < 6 → 0 ≤ r.toInt → r.toInt < 6 → ¬ σ.1 35 (6 * w.toNatClampNeg + r.toNatClampNeg) = 0 → HO σ w r
def cnt36 (σ : ST) : Nat := cntZ (fun k => ¬ σ.1 35 k = 0) 36
theorem b_lp_72 {k63 : Int32 → ST → Option ST} {P : ST → Prop} (c0 : Nat) : ∀ (n : Nat) (x3 x4 : Int32) (σ : ST), ME σ → PC σ 36 → (0 ≤ x4.toInt ∧ x4.toInt ≤ 36 ∧ (36 : Int) - x4.toInt < n) → (x3.toInt = 0 ∨ x3.toInt = 1) → cnt36 σ ≤ c0 → (x3.toInt = 1 → cnt36 σ + 1 ≤ c0) → (x3.toInt = 0 → ∀ (w r : Int32), 0 ≤ w.toInt → w.toInt < 6 → 0 ≤ r.toInt → r.toInt < 6 → 6 * w.toInt + r.toInt < x4.toInt → ¬ σ.1 35 (6 * w.toNatClampNeg + r.toNatClampNeg) = 0 → HO σ w r) → (∀ (x3 : Int32) (t : ST), CH [35] [] σ t → ME t → PC t 36 → (x3.toInt = 0 ∧ PP t ∨ x3.toInt = 1 ∧ cnt36 t + 1 ≤ c0) → OK (k63 x3 t) P) → OK (f_X11_laysPairs_72 k63 n x3 x4 σ) P := by
  intro n
  induction n with
  | zero => intro x3 x4 σ hM hC h4; omega
  | succ n ih =>
    intro x3 x4 σ hM hC h4 h3 hc hc1 hh hk
    rw [f_X11_laysPairs_72]
    unfold f_X11_laysPairs_116
    have lt_0 := li_0
    have lt_1 := li_1
    have lt_36 := li_36
    refine OK.ile (fun h => ?_) (fun h => ?_)
    · refine hk x3 σ CH.rf hM hC ?_
      rcases h3 with h3 | h3
      · exact .inl ⟨h3, hM, hC, fun w r a1 a2 a3 a4 a5 => hh h3 w r a1 a2 a3 a4 (by omega) a5⟩
      · exact .inr ⟨h3, hc1 h3⟩
    have a3 := il_addE (x := x4) (y := 1) (by omega) (by omega)
    obtain ⟨d1, d2⟩ := d6 (x := x4) h4.1 (by omega)
    have n4 := nN_ h4.1
    have n5 := nN_ (x := x4 / 6) (by omega)
    have n6 := nN_ (x := x4 - x4 / 6 * 6) (by omega)
    have same : ∀ w r : Int32, 0 ≤ w.toInt → w.toInt < 6 → 0 ≤ r.toInt → r.toInt < 6 → 6 * w.toInt + r.toInt = x4.toInt → w = x4 / 6 ∧ r = x4 - x4 / 6 * 6 := fun w r a1 a2 a3 a4 a5 => ⟨Int32.toInt_inj.mp (by omega), Int32.toInt_inj.mp (by omega)⟩
    have e66 : 6 * (x4 / 6).toNatClampNeg + (x4 - x4 / 6 * 6).toNatClampNeg = x4.toNatClampNeg := by omega
    refine OK.grd ⟨by omega, by omega⟩ ?_
    refine OK.ite (fun h0 => ?_) (fun h0 => ?_)
    · refine ih _ _ _ hM hC (by omega) h3 hc hc1 (fun h30 w r a1 a2 a3 a4 a5 a6 => ?_) hk
      by_cases e : 6 * w.toInt + r.toInt = x4.toInt
      · obtain ⟨rfl, rfl⟩ := same w r a1 a2 a3 a4 e
        rw [e66] at a6
        exact absurd h0 a6
      · exact hh h30 w r a1 a2 a3 a4 (by omega) a6
    · have hp := hC x4.toNatClampNeg (by omega) h0
      have hw : wrec σ (x4 / 6) := wrec_i (by omega) (by omega)
      have hr : rrec σ (x4 - x4 / 6 * 6) := rrec_i (by omega) (by omega)
      refine OK.bndR (b_holds _ _ σ hM hw hr) (fun v hv => ?_)
      dsimp only
      refine OK.ieq (fun hv0 => ?_) (fun hv0 => ?_)
      · have v0 : (vp_nar .boolean (0 : Int32)) = 0 := rfl
        rw [v0]
        have ch : CH [35] [] σ (stI σ 35 x4.toNatClampNeg 0) := CH.rf.i (by decide) (by decide)
        have hM1 : ME (stI σ 35 x4.toNatClampNeg 0) := ⟨hM.1, hM.2.1, hM.2.2.up (by omega)⟩
        have mono : ∀ k, ¬ (stI σ 35 x4.toNatClampNeg 0).1 35 k = 0 → ¬ σ.1 35 k = 0 := fun k hk => by
          have hk : ¬ upd (σ.1 35) x4.toNatClampNeg 0 k = 0 := hk
          unfold upd at hk
          split at hk
          · exact absurd rfl hk
          · exact hk
        have hlt : cnt36 (stI σ 35 x4.toNatClampNeg 0) + 1 ≤ cnt36 σ := cntZ_lt (p := fun k => ¬ (stI σ 35 x4.toNatClampNeg 0).1 35 k = 0) (q := fun k => ¬ σ.1 35 k = 0) mono (c := x4.toNatClampNeg) (fun h9 => h9 (show upd (σ.1 35) x4.toNatClampNeg 0 x4.toNatClampNeg = 0 from upd_at)) h0 36 (by omega)
        refine ih 1 _ _ hM1 (fun k k1 k2 => hC k k1 (mono k k2)) (by omega) (by omega) (by omega) (fun _ => by omega) (fun h9 => by omega) (fun y t ct => ?_)
        exact hk y t (ch.trans ct)
      · have hH : HO σ (x4 / 6) (x4 - x4 / 6 * 6) := by
          rcases hv with hv | hv
          · omega
          · exact hv.2
        refine ih _ _ _ hM hC (by omega) h3 hc hc1 (fun h30 w r a1 a2 a3 a4 a5 a6 => ?_) hk
        by_cases e : 6 * w.toInt + r.toInt = x4.toInt
        · obtain ⟨rfl, rfl⟩ := same w r a1 a2 a3 a4 e
          exact hH
        · exact hh h30 w r a1 a2 a3 a4 (by omega) a6
theorem b_lp_63 : ∀ (n : Nat) (x3 : Int32) (σ : ST), ME σ → PC σ 36 → (x3.toInt = 0 ∧ PP σ ∨ x3.toInt = 1 ∧ cnt36 σ + 1 < n) → 0 < n → OK (f_X11_laysPairs_63 n x3 σ) (RZ [35] [] σ PP) := by
  intro n
  induction n with
  | zero => intro x3 σ hM hC h h0; omega
  | succ n ih =>
    intro x3 σ hM hC h h0
    rw [f_X11_laysPairs_63]
    have lt_0 := li_0
    have lu := FUi
    refine OK.ieq (fun h3 => ?_) (fun h3 => ?_)
    · rcases h with h | h
      · exact OK.zret CH.rf h.2
      · omega
    · have h1 : cnt36 σ + 1 < n + 1 := by omega
      refine b_lp_72 (cnt36 σ) FU 0 0 σ hM hC (by omega) (by omega) (Nat.le_refl _) (fun h9 => by omega) (fun _ w r a1 a2 a3 a4 a5 => by omega) (fun y t ct hMt hCt hy => ?_)
      refine OK.trZ (ih y t hMt hCt ?_ (by omega)) ct (fun _ h => h) (fun _ h => h) (fun _ _ h => h)
      rcases hy with hy | hy
      · exact .inl hy
      · exact .inr ⟨hy.1, by omega⟩
theorem b_lp_12 (x1 x2 : Int32) : ∀ (n : Nat) (x3 : Int32) (σ : ST), ME σ → x1 = σ.1 0 53 → x2 = σ.1 0 54 → PC σ x3.toInt → (0 ≤ x3.toInt ∧ x3.toInt ≤ 36 ∧ (36 : Int) - x3.toInt < n) → OK (f_X11_laysPairs_12 n x1 x2 x3 σ) (RZ [35] [] σ PP) := by
  intro n
  induction n with
  | zero => intro x3 σ hM h1 h2 hC h3; omega
  | succ n ih =>
    intro x3 σ hM h1 h2 hC h3
    rw [f_X11_laysPairs_12]
    unfold f_X11_laysPairs_53
    have lt_0 := li_0
    have lt_1 := li_1
    have lt_36 := li_36
    have lu := FUi
    obtain ⟨⟨b11, b12⟩, ⟨b21, b22⟩, b3, b4⟩ := hM.w
    refine OK.ile (fun h => ?_) (fun h => ?_)
    · have e : x3.toInt = 36 := by omega
      rw [e] at hC
      have := cntZ_le (p := fun k => ¬ σ.1 35 k = 0) 36
      have e2 : cnt36 σ = cntZ (fun k => ¬ σ.1 35 k = 0) 36 := rfl
      exact b_lp_63 FU 1 σ hM hC (.inr ⟨by omega, by omega⟩) (by omega)
    have a3 := il_addE (x := x3) (y := 1) (by omega) (by omega)
    obtain ⟨d1, d2⟩ := d6 (x := x3) h3.1 (by omega)
    have n3 := nN_ h3.1
    have e53 : rmW σ = (σ.1 8 x1.toNatClampNeg).toInt := by rw [h1]; rfl
    have e54 : rmR σ = (σ.1 8 x2.toNatClampNeg).toInt := by rw [h2]; rfl
    have hx1 : x1.toInt = (σ.1 0 53).toInt := by rw [h1]
    have hx2 : x2.toInt = (σ.1 0 54).toInt := by rw [h2]
    have k54 : ∀ y0 : Int32, (y0 = 0 ∨ y0 = 1 ∧ (x3.toInt / 6) < rmW σ ∧ (x3.toInt % 6) < rmR σ) → OK (f_X11_laysPairs_54 (f_X11_laysPairs_12 n) x1 x2 x3 y0 x3 σ) (RZ [35] [] σ PP) := fun y0 hy => by
      unfold f_X11_laysPairs_54
      have v0 : vp_nar .boolean y0 = y0 := by
        rcases hy with hy | hy
        · rw [hy]; rfl
        · rw [hy.1]; rfl
      rw [v0]
      refine OK.grd ⟨by omega, by omega⟩ ?_
      have ch : CH [35] [] σ (stI σ 35 x3.toNatClampNeg y0) := CH.rf.i (by decide) (by decide)
      have yb : y0.toInt = 0 ∨ y0.toInt = 1 := by
        rcases hy with hy | hy
        · rw [hy]; omega
        · rw [hy.1]; omega
      refine OK.trZ (ih (x3 + 1) (stI σ 35 x3.toNatClampNeg y0) ⟨hM.1, hM.2.1, hM.2.2.up yb⟩ h1 h2 (fun k k1 k2 => ?_) (by omega)) ch (fun _ h => h) (fun _ h => h) (fun _ _ h => h)
      have k2 : ¬ upd (σ.1 35) x3.toNatClampNeg y0 k = 0 := k2
      show ((k : Int) / 6) < rmW σ ∧ ((k : Int) % 6) < rmR σ
      unfold upd at k2
      split at k2
      · rename_i e
        rcases hy with hy | hy
        · exact absurd hy k2
        · have : (k : Int) = x3.toInt := by omega
          rw [this]; exact hy.2
      · rename_i e
        exact hC k (by omega) k2
    refine OK.grd ⟨by omega, by omega⟩ ?_
    refine OK.ile (fun _ => k54 0 (.inl rfl)) (fun g1 => ?_)
    refine OK.grd ⟨by omega, by omega⟩ ?_
    refine OK.ile (fun _ => k54 0 (.inl rfl)) (fun g2 => ?_)
    exact k54 1 (.inr ⟨rfl, by omega, by omega⟩)
theorem b_laysPairs (p0 p1 : Int32) (σ : ST) (hP : PLs σ) (hB : PB σ) (h0 : 0 ≤ p0.toInt ∧ p0.toInt < (σ.1 0 32).toInt) (h1 : 0 ≤ p1.toInt ∧ p1.toInt < (σ.1 0 32).toInt) : OK (f_X11_laysPairs p0 p1 σ) (RZ [35] [53, 54] σ fun t => PP t ∧ t.1 0 53 = p0 ∧ t.1 0 54 = p1) := by
  unfold f_X11_laysPairs
  have lt_0 := li_0
  have lu := FUi
  have hM : ME (stI (stI σ 0 53 p0) 0 54 p1) := ⟨hP.of rfl rfl rfl rfl rfl rfl rfl rfl rfl, ⟨h0, h1⟩, hB⟩
  refine OK.trZ (b_lp_12 p0 p1 FU 0 (stI (stI σ 0 53 p0) 0 54 p1) hM rfl rfl (fun k k1 => by omega) (by omega)) ((CH.rf.o (by decide)).o (by decide)) (fun _ h => h) (fun _ h => by cases h) (fun t ct hPP => ⟨hPP, ?_, ?_⟩)
  · rw [ct.2.1 53 (by decide)]; rfl
  · rw [ct.2.1 54 (by decide)]; rfl
/-! the reference: misses -/
theorem VT.tr {C I : List Nat} {σ t : ST} {a : Int} {d : Nat} {x : Int32} (h : VS σ a d x) (c : CH C I σ t) (hC : ∀ c, c ∈ [2, 3, 4, 5] → c ∉ C) : VS t a d x := by
  unfold VS
  rw [c.1 2 (by decide) (hC 2 (by decide)), c.1 3 (by decide) (hC 3 (by decide)), c.1 4 (by decide) (hC 4 (by decide)), c.1 5 (by decide) (hC 5 (by decide))]
  exact h
theorem rm_ch {C I : List Nat} {σ t : ST} (c : CH C I σ t) (hC : 8 ∉ C) (h53 : 53 ∉ I) (h54 : 54 ∉ I) : rmW t = rmW σ ∧ rmR t = rmR σ := by
  unfold rmW rmR
  rw [c.1 8 (by decide) hC, c.2.1 53 h53, c.2.1 54 h54]
  exact ⟨rfl, rfl⟩
def MI (σ : ST) : Prop := bI (σ.1 0 61) 0 20 ∧ ∀ i, bI (σ.1 38 i) 0 256
theorem b_misses_35 : ∀ (n : Nat) (x2 : Int32) (σ : ST), (0 ≤ (σ.1 0 61).toInt ∧ (σ.1 0 61).toInt < 20) → bI (σ.1 0 57) 0 256 → (0 ≤ x2.toInt ∧ x2.toInt ≤ 256 ∧ (256 : Int) - x2.toInt < n) → OK (f_X11_misses_35 n x2 σ) (RZ [39] [61] σ fun t => (t.1 0 61).toInt = (σ.1 0 61).toInt + 1) := by
  intro n
  induction n with
  | zero => intro x2 σ h1 h2 h3; omega
  | succ n ih =>
    intro x2 σ h1 h2 h3
    rw [f_X11_misses_35]
    have h2' := h2
    obtain ⟨a1, a2⟩ := h2
    have lt_1 := li_1
    have lt_256 := li_256
    have e1 := il_addE (x := σ.1 0 61) (y := 1) (by omega) (by omega)
    have e2 := il_addE (x := x2) (y := 1) (by omega) (by omega)
    have e3 := mlE (k := 256) (y := σ.1 0 61) 256 li_256 (by omega) (by omega)
    have e4 := il_addE (x := 256 * σ.1 0 61) (y := x2) (by omega) (by omega)
    refine OK.ile (fun h => OK.zret (CH.rf.o (by decide)) (show (σ.1 0 61 + 1).toInt = _ by omega)) (fun h => ?_)
    refine OK.grd ⟨by omega, by omega⟩ ?_
    refine OK.grd ⟨by omega, by omega⟩ ?_
    exact OK.trZ (ih (x2 + 1) (stI σ 39 (256 * σ.1 0 61 + x2).toNatClampNeg (σ.1 36 x2.toNatClampNeg)) h1 h2' (by omega)) (CH.rf.i (by decide) (by decide)) (fun _ h => h) (fun _ h => h) (fun _ _ h => h)
theorem b_misses (p0 : Int32) (σ : ST) (hm : MI σ) (hs : bI (σ.1 0 57) 0 256) : OK (f_X11_misses p0 σ) (RZ [37, 38, 39] [61] σ MI) := by
  unfold f_X11_misses
  have lt_0 := li_0
  have lt_20 := li_20
  have lu := FUi
  have hm' := hm
  obtain ⟨⟨m1, m2⟩, m3⟩ := hm
  refine OK.ieq (fun _ => OK.zret CH.rf hm') (fun h => ?_)
  refine OK.grd ⟨by omega, by omega⟩ ?_
  refine OK.grd (show 0 ≤ (σ.1 0 61).toInt ∧ (σ.1 0 61).toInt < 20 from ⟨by omega, by omega⟩) ?_
  refine OK.lt (fun z hz => ?_)
  have c : CH [37, 38, 39] [61] σ z := by rw [hz]; exact (CH.rf.i (by decide) (by decide)).i (by decide) (by decide)
  have e61 : z.1 0 61 = σ.1 0 61 := by rw [hz]; rfl
  have e57 : z.1 0 57 = σ.1 0 57 := by rw [hz]; rfl
  have e38 : ∀ i, bI (z.1 38 i) 0 256 := by
    rw [hz]
    exact upd_all (P := fun x => bI x 0 256) m3 hs
  refine OK.trZ (b_misses_35 FU 0 z (by rw [e61]; omega) (by rw [e57]; exact hs) (by omega)) c (by decide) (fun _ h => h) (fun t ct ht => ⟨⟨?_, ?_⟩, ?_⟩)
  · rw [ht, e61]; omega
  · rw [ht, e61]; omega
  · rw [ct.1 38 (by decide) (by decide)]; exact e38
def uN (σ : ST) : Nat := cntZ (fun k => σ.1 40 k = 0) 36
def LQ (σ t : ST) : Prop := MI t ∧ (t.1 0 57).toInt = (σ.1 0 57).toInt ∧ ∀ k, t.1 40 k = 0 → σ.1 40 k = 0
theorem LQ.trans {σ s t : ST} (h : LQ σ s) (k : LQ s t) : LQ σ t := ⟨k.1, k.2.1.trans h.2.1, fun x hx => h.2.2 x (k.2.2 x hx)⟩
theorem uN_le {σ t : ST} (h : ∀ k, t.1 40 k = 0 → σ.1 40 k = 0) : uN t ≤ uN σ := cntZ_mono (p := fun k => t.1 40 k = 0) (q := fun k => σ.1 40 k = 0) h 36
abbrev LC : List Nat := [36, 37, 38, 39, 40]
abbrev LI : List Nat := [57, 61]
theorem LQ.lv {σ s : ST} (c : CH LC LI σ s) (h0 : 0 ≤ (σ.1 0 57).toInt ∧ (σ.1 0 57).toInt ≤ 255) (hm : MI s) (hs : (s.1 0 57).toInt = (σ.1 0 57).toInt + 1) (hl : ∀ k, s.1 40 k = 0 → σ.1 40 k = 0) : CH LC LI σ (stI s 0 57 (s.1 0 57 - 1)) ∧ LQ σ (stI s 0 57 (s.1 0 57 - 1)) := by
  have lt_1 := li_1
  have e1 := il_subE (x := s.1 0 57) (y := 1) (by omega) (by omega)
  refine ⟨c.o (by decide), hm, ?_, hl⟩
  show (s.1 0 57 - 1).toInt = _
  omega
def cLook (N : Nat) (rl : Int32 → Int32 → ST → Option ST) : Prop := ∀ (w r : Int32) (σ : ST) (d e : Nat), ME σ → MI σ → VS σ (rmW σ) d w → VS σ (rmR σ) e r → d ≤ 4 → e ≤ 4 → 0 ≤ (σ.1 0 57).toInt → (σ.1 0 57).toInt + d + 5 * (uN σ : Nat) ≤ 180 → d + e + 8 * uN σ ≤ N → OK (rl w r σ) (RZ LC LI σ (LQ σ))
def cLookR (N : Nat) (rr : Int32 → Int32 → ST → Option ST) : Prop := ∀ (w r : Int32) (σ : ST), ME σ → MI σ → wrec σ w → rrec σ r → 0 ≤ (σ.1 0 57).toInt → (σ.1 0 57).toInt + 5 * (uN σ : Nat) ≤ 180 → 8 * uN σ + 1 ≤ N → OK (rr w r σ) (RZ LC LI σ (LQ σ))
theorem b_look_13 {N : Nat} {rl rr : Int32 → Int32 → ST → Option ST} (hl : cLook N rl) : ∀ (n : Nat) (w r x3 : Int32) (σ : ST) (d e : Nat), ME σ → MI σ → VS σ (rmW σ) d w → VS σ (rmR σ) e r → d ≤ 4 → e ≤ 4 → 0 ≤ (σ.1 0 57).toInt → (σ.1 0 57).toInt + d + 5 * (uN σ : Nat) ≤ 180 → d + e + 8 * uN σ ≤ N + 1 → (σ.1 2 w.toNatClampNeg).toInt = 8 → (0 ≤ x3.toInt ∧ x3.toInt ≤ 4 ∧ (4 : Int) - x3.toInt < n) → OK (f_X11_looksAt_13 rl rr n w r x3 σ) (RZ LC LI σ (LQ σ)) := by
  intro n
  induction n with
  | zero => intro w r x3 σ d e h1 h2 h3 h4 h5 h6 h7 h8 h9 hs h; omega
  | succ n ih =>
    intro w r x3 σ d e hM hI hw hr hd he h0 hS hN hs h3
    rw [f_X11_looksAt_13]
    have lt_0 := li_0
    have lt_1 := li_1
    have lt_4 := li_4
    obtain ⟨g1, g2, g3, g4⟩ := hw.eit hs
    obtain ⟨_, _, b3, b4⟩ := hM.w
    have gw := hw.rng
    have e1 := mlE (k := 4) (y := w) 4 li_4 (by omega) (by omega)
    have e2 := il_addE (x := 4 * w) (y := x3) (by omega) (by omega)
    have e3 := il_addE (x := x3) (y := 1) (by omega) (by omega)
    have n1 := nN_ gw.1
    have n2 := nN_ h3.1
    have e4 : (4 * w + x3).toNatClampNeg = 4 * w.toNatClampNeg + x3.toNatClampNeg := nC (by omega)
    refine OK.grd gw ?_
    refine OK.ile (fun _ => OK.zret CH.rf ⟨hI, rfl, fun _ h => h⟩) (fun h => ?_)
    have hk : ((x3.toNatClampNeg : Nat) : Int) < (σ.1 4 w.toNatClampNeg).toInt := by omega
    refine OK.bndZ (b_enters _ σ ⟨h0, by omega⟩) (fun q2 c2 s2 => ?_)
    have c2' : CH LC LI σ q2 := c2.mono (by decide) (by decide)
    have M2 : ME q2 := hM.ch c2 (by decide) (by decide)
    have I2 : MI q2 := by
      unfold MI
      rw [c2.2.1 61 (by decide), c2.1 38 (by decide) (by decide)]
      exact hI
    have l2 : ∀ k, q2.1 40 k = 0 → σ.1 40 k = 0 := fun k hk => by rw [c2.1 40 (by decide) (by decide)] at hk; exact hk
    obtain ⟨rm1, rm2⟩ := rm_ch c2 (by decide) (by decide) (by decide)
    have w2 := hw.tr c2 (by decide)
    have r2 : VS q2 (rmR q2) e r := by rw [rm2]; exact hr.tr c2 (by decide)
    refine OK.grd ⟨by omega, by omega⟩ ?_
    have hB : VS q2 (rmW q2) (d - 1) (q2.1 5 (4 * w + x3).toNatClampNeg) := by
      rw [rm1, e4, c2.1 5 (by decide) (by decide)]
      exact (g3 _ hk).1.tr c2 (by decide)
    have u2 := uN_le l2
    refine OK.bndR (bT_match _ _ q2 (by omega) (by omega) M2.2.2 hB r2 (by omega) (by omega)) (fun v hv => ?_)
    dsimp only
    unfold f_X11_looksAt_69
    have fin : ∀ s : ST, CH LC LI σ s → MI s → (s.1 0 57).toInt = (σ.1 0 57).toInt + 1 → (∀ k, s.1 40 k = 0 → σ.1 40 k = 0) → OK (f_X11_looksAt_13 rl rr n w r (x3 + 1) (stI s 0 57 (s.1 0 57 - 1))) (RZ LC LI σ (LQ σ)) := fun s cs ms ss ls => by
      obtain ⟨c9, q9⟩ := LQ.lv cs ⟨h0, by omega⟩ ms ss ls
      obtain ⟨rm3, rm4⟩ := rm_ch c9 (by decide) (by decide) (by decide)
      have u9 := uN_le q9.2.2
      have s9 := q9.2.1
      generalize stI s 0 57 (s.1 0 57 - 1) = y at c9 q9 rm3 rm4 u9 s9 ⊢
      refine OK.trZ (ih w r (x3 + 1) y d e (hM.ch c9 (by decide) (by decide)) q9.1 (by rw [rm3]; exact hw.tr c9 (by decide)) (by rw [rm4]; exact hr.tr c9 (by decide)) hd he (by omega) (by omega) (by omega) (by rw [c9.1 2 (by decide) (by decide)]; exact hs) (by omega)) c9 (fun _ h => h) (fun _ h => h) (fun t _ ht => q9.trans ht)
    refine OK.ieq (fun _ => ?_) (fun _ => ?_)
    · refine OK.bndZ (b_misses 4 q2 I2 ⟨by omega, by omega⟩) (fun q7 c7 m7 => ?_)
      refine fin q7 (c2'.trans (c7.mono (by decide) (by decide))) m7 (by rw [c7.2.1 57 (by decide)]; exact s2) (fun k hk => l2 k (by rw [c7.1 40 (by decide) (by decide)] at hk; exact hk))
    · refine OK.bndZ (hl _ r q2 (d - 1) e M2 I2 hB r2 (by omega) he (by omega) (by omega) (by omega)) (fun q9 c9 m9 => ?_)
      exact fin q9 (c2'.trans c9) m9.1 (m9.2.1.trans s2) (fun k hk => l2 k (m9.2.2 k hk))
theorem b_look_top {N : Nat} {rl rr : Int32 → Int32 → ST → Option ST} (hl : cLook N rl) (hr_ : cLookR N rr) : cLook (N + 1) (f_X11_looksAt rl rr) := by
  intro w r σ d e hM hI hw hr hd he h0 hS hN
  unfold f_X11_looksAt
  have lt_0 := li_0
  have lt_1 := li_1
  have lt_4 := li_4
  have lt_6 := li_6
  have lt_7 := li_7
  have lt_8 := li_8
  have lu := FUi
  have gw := hw.rng
  have gr := hr.rng
  obtain ⟨b1, b2, b3, b4⟩ := hM.w
  have hd1 : 1 ≤ d := by
    cases d with
    | zero => exact hw.elim
    | succ d => omega
  have he1 : 1 ≤ e := by
    cases e with
    | zero => exact hr.elim
    | succ e => omega
  have k253 : OK (f_X11_looksAt_253 rl rr w r σ) (RZ LC LI σ (LQ σ)) := by
    unfold f_X11_looksAt_253
    refine OK.bndR (bT_match w r σ (by omega) (by omega) hM.2.2 hw hr (by omega) (by omega)) (fun v hv => ?_)
    dsimp only
    refine OK.ieq (fun _ => ?_) (fun _ => OK.zret CH.rf ⟨hI, rfl, fun _ h => h⟩)
    refine OK.bndZ (b_misses 2 σ hI ⟨by omega, by omega⟩) (fun q7 c7 m7 => ?_)
    exact OK.zret (c7.mono (by decide) (by decide)) ⟨m7, by rw [c7.2.1 57 (by decide)], fun k hk => by rw [c7.1 40 (by decide) (by decide)] at hk; exact hk⟩
  have k196 : OK (f_X11_looksAt_196 rl rr w r σ) (RZ LC LI σ (LQ σ)) := by
    unfold f_X11_looksAt_196
    refine OK.grd gw ?_
    refine OK.ieq (fun h6 => ?_) (fun _ => k253)
    refine OK.grd gr ?_
    refine OK.ieq (fun h6' => ?_) (fun _ => k253)
    refine OK.bndZ (b_enters _ σ ⟨h0, by omega⟩) (fun q2 c2 s2 => ?_)
    have c2' : CH LC LI σ q2 := c2.mono (by decide) (by decide)
    have M2 : ME q2 := hM.ch c2 (by decide) (by decide)
    have I2 : MI q2 := by
      unfold MI
      rw [c2.2.1 61 (by decide), c2.1 38 (by decide) (by decide)]
      exact hI
    have l2 : ∀ k, q2.1 40 k = 0 → σ.1 40 k = 0 := fun k hk => by rw [c2.1 40 (by decide) (by decide)] at hk; exact hk
    obtain ⟨rm1, rm2⟩ := rm_ch c2 (by decide) (by decide) (by decide)
    have u2 := uN_le l2
    have a1 := hw.lst (by omega)
    have a2 := hr.lst (by omega)
    refine OK.bndZ (hl _ _ q2 (d - 1) (e - 1) M2 I2 (by rw [rm1, c2.1 3 (by decide) (by decide)]; exact a1.2.tr c2 (by decide)) (by rw [rm2, c2.1 3 (by decide) (by decide)]; exact a2.2.tr c2 (by decide)) (by omega) (by omega) (by omega) (by omega) (by omega)) (fun q9 c9 m9 => ?_)
    obtain ⟨cf, qf⟩ := LQ.lv (c2'.trans c9) ⟨h0, by omega⟩ m9.1 (m9.2.1.trans s2) (fun k hk => l2 k (m9.2.2 k hk))
    exact OK.zret cf qf
  refine OK.grd gw ?_
  refine OK.ieq (fun h8 => ?_) (fun h8 => ?_)
  · exact b_look_13 hl FU w r 0 σ d e hM hI hw hr hd he h0 hS (by omega) (by omega) (by omega)
  refine OK.grd gr ?_
  refine OK.ieq (fun h9 => ?_) (fun h9 => ?_)
  · obtain ⟨g1, g2, g3, g4⟩ := hr.eit (by omega)
    refine OK.bndR (bT_chosen w r σ (by omega) (by omega) hM.2.2 hw hr (by omega) (by omega) (by omega)) (fun v hv => ?_)
    dsimp only
    refine OK.ile (fun hv0 => ?_) (fun _ => ?_)
    · have hv' : 0 ≤ v.toInt ∧ v.toInt < (σ.1 4 r.toNatClampNeg).toInt := by
        rcases hv with hv | hv
        · omega
        · exact hv.1
      have e1 := mlE (k := 4) (y := r) 4 li_4 (by omega) (by omega)
      have e2 := il_addE (x := 4 * r) (y := v) (by omega) (by omega)
      have n1 := nN_ gr.1
      have n2 := nN_ hv'.1
      have e4 : (4 * r + v).toNatClampNeg = 4 * r.toNatClampNeg + v.toNatClampNeg := nC (by omega)
      refine OK.grd ⟨by omega, by omega⟩ ?_
      rw [e4]
      refine OK.bndZ (hl w _ σ d (e - 1) hM hI hw (g3 _ (by omega)).1 hd (by omega) h0 hS (by omega)) (fun q9 c9 m9 => ?_)
      exact OK.zret c9 m9
    · refine OK.bndZ (b_misses 3 σ hI ⟨by omega, by omega⟩) (fun q7 c7 m7 => ?_)
      exact OK.zret (c7.mono (by decide) (by decide)) ⟨m7, by rw [c7.2.1 57 (by decide)], fun k hk => by rw [c7.1 40 (by decide) (by decide)] at hk; exact hk⟩
  refine OK.ieq (fun h7 => ?_) (fun _ => k196)
  refine OK.ieq (fun h7' => ?_) (fun _ => k196)
  have rw_ := hw.rcd (by omega)
  have rr_ := hr.rcd (by omega)
  refine OK.bndR (b_namesMay _ _ σ (by omega) (by omega) b1 b2) (fun v hv => ?_)
  dsimp only
  refine OK.ieq (fun _ => k196) (fun _ => ?_)
  refine OK.bndZ (hr_ _ _ σ hM hI rw_ rr_ h0 (by omega) (by omega)) (fun q9 c9 m9 => ?_)
  exact OK.zret c9 m9
theorem b_lookr_40 {N : Nat} {rl rr : Int32 → Int32 → ST → Option ST} (hl : cLook N rl) : ∀ (n : Nat) (w r x3 x4 : Int32) (σ : ST), ME σ → MI σ → wrec σ w → rrec σ r → x3.toInt = 6 * (σ.1 0 54).toInt + r.toInt → 0 ≤ (σ.1 0 57).toInt → (σ.1 0 57).toInt + 5 * (uN σ : Nat) ≤ 175 → 8 * uN σ + 8 ≤ N → (0 ≤ x4.toInt ∧ x4.toInt ≤ 8 ∧ (8 : Int) - x4.toInt < n) → OK (f_X11_looksAtRecords_40 rl rr n w x3 x4 σ) (RZ LC LI σ (LQ σ)) := by
  intro n
  induction n with
  | zero => intro w r x3 x4 σ h1 h2 h3 h4 h5 h6 h7 h8 h; omega
  | succ n ih =>
    intro w r x3 x4 σ hM hI hw hr hx3 h0 hS hN h4
    rw [f_X11_looksAtRecords_40]
    have lt_0 := li_0
    have lt_1 := li_1
    have lt_8 := li_8
    obtain ⟨b1, b2, b3, b4⟩ := hM.w
    have b21 := b2.1
    have b22 := b2.2
    have r1 := hr.1
    have r2 : r.toInt < rmR σ := hr.2
    obtain ⟨f1, f2⟩ := hM.rf hr
    have f11 := f1.1
    have f12 := f1.2
    have a1 := mlE (k := 8) (y := x3) 8 li_8 (by omega) (by omega)
    have a2 := il_addE (x := 8 * x3) (y := x4) (by omega) (by omega)
    have a3 := il_addE (x := x4) (y := 1) (by omega) (by omega)
    have n1 := nN_ b21
    have n2 := nN_ r1
    have n4 := nN_ h4.1
    have e3 : x3.toNatClampNeg = 6 * (σ.1 0 54).toNatClampNeg + r.toNatClampNeg := nC (by omega)
    have e5 : (8 * x3 + x4).toNatClampNeg = 8 * (6 * (σ.1 0 54).toNatClampNeg + r.toNatClampNeg) + x4.toNatClampNeg := nC (by omega)
    refine OK.grd ⟨by omega, by omega⟩ ?_
    rw [e3]
    refine OK.ile (fun _ => OK.zret CH.rf ⟨hI, rfl, fun _ h => h⟩) (fun h => ?_)
    have hc := f2 x4.toNatClampNeg (by omega)
    rw [← e5] at hc
    refine OK.bndR (hM.ff hw (by omega)) (fun v hv => ?_)
    dsimp only
    refine OK.bndZ (b_enters _ σ ⟨h0, by omega⟩) (fun q2 c2 s2 => ?_)
    have c2' : CH LC LI σ q2 := c2.mono (by decide) (by decide)
    have M2 : ME q2 := hM.ch c2 (by decide) (by decide)
    have I2 : MI q2 := by
      unfold MI
      rw [c2.2.1 61 (by decide), c2.1 38 (by decide) (by decide)]
      exact hI
    have l2 : ∀ k, q2.1 40 k = 0 → σ.1 40 k = 0 := fun k hk => by rw [c2.1 40 (by decide) (by decide)] at hk; exact hk
    obtain ⟨rm1, rm2⟩ := rm_ch c2 (by decide) (by decide) (by decide)
    have u2 := uN_le l2
    unfold f_X11_looksAtRecords_116
    have fin : ∀ s : ST, CH LC LI σ s → MI s → (s.1 0 57).toInt = (σ.1 0 57).toInt + 1 → (∀ k, s.1 40 k = 0 → σ.1 40 k = 0) → OK (f_X11_looksAtRecords_40 rl rr n w x3 (x4 + 1) (stI s 0 57 (s.1 0 57 - 1))) (RZ LC LI σ (LQ σ)) := fun s cs ms ss ls => by
      obtain ⟨c9, q9⟩ := LQ.lv cs ⟨h0, by omega⟩ ms ss ls
      obtain ⟨rm3, rm4⟩ := rm_ch c9 (by decide) (by decide) (by decide)
      have u9 := uN_le q9.2.2
      have s9 := q9.2.1
      generalize stI s 0 57 (s.1 0 57 - 1) = y at c9 q9 rm3 rm4 u9 s9 ⊢
      have w9 : wrec y w := ⟨hw.1, by show w.toInt < rmW y; rw [rm3]; exact hw.2⟩
      have r9 : rrec y r := ⟨hr.1, by show r.toInt < rmR y; rw [rm4]; exact hr.2⟩
      refine OK.trZ (ih w r x3 (x4 + 1) y (hM.ch c9 (by decide) (by decide)) q9.1 w9 r9 (by rw [c9.2.1 54 (by decide)]; exact hx3) (by omega) (by omega) (by omega) (by omega)) c9 (fun _ h => h) (fun _ h => h) (fun t _ ht => q9.trans ht)
    refine OK.ilt (fun _ => ?_) (fun hv0 => ?_)
    · refine OK.grd ⟨by omega, by omega⟩ ?_
      refine OK.ieq (fun _ => ?_) (fun _ => ?_)
      · refine OK.bndZ (b_misses 1 q2 I2 ⟨by omega, by omega⟩) (fun q7 c7 m7 => ?_)
        exact fin q7 (c2'.trans (c7.mono (by decide) (by decide))) m7 (by rw [c7.2.1 57 (by decide)]; exact s2) (fun k hk => l2 k (by rw [c7.1 40 (by decide) (by decide)] at hk; exact hk))
      · exact fin q2 c2' I2 s2 l2
    · have hv' : (0 ≤ v.toInt ∧ v.toInt < 576) ∧ VS σ (rmW σ) 4 (σ.1 15 v.toNatClampNeg) := by
        rcases hv with hv | hv
        · omega
        · exact hv
      refine OK.grd hv'.1 ?_
      refine OK.grd ⟨by omega, by omega⟩ ?_
      refine OK.bndZ (hl _ _ q2 4 4 M2 I2 (by rw [rm1, c2.1 15 (by decide) (by decide)]; exact hv'.2.tr c2 (by decide)) (by rw [rm2, c2.1 15 (by decide) (by decide)]; exact hc.tr c2 (by decide)) (by omega) (by omega) (by omega) (by omega) (by omega)) (fun q9 c9 m9 => ?_)
      exact fin q9 (c2'.trans c9) m9.1 (m9.2.1.trans s2) (fun k hk => l2 k (m9.2.2 k hk))
theorem b_lookr_top {N : Nat} {rl rr : Int32 → Int32 → ST → Option ST} (hl : cLook N rl) : cLookR (N + 1) (f_X11_looksAtRecords rl rr) := by
  intro w r σ hM hI hw hr h0 hS hN
  unfold f_X11_looksAtRecords
  have lt_0 := li_0
  have lt_6 := li_6
  have lu := FUi
  obtain ⟨b1, b2, b3, b4⟩ := hM.w
  have b21 := b2.1
  have b22 := b2.2
  have w1 := hw.1
  have w2 : w.toInt < rmW σ := hw.2
  have r1 := hr.1
  have r2 : r.toInt < rmR σ := hr.2
  have a1 := mlE (k := 6) (y := w) 6 li_6 (by omega) (by omega)
  have a2 := il_addE (x := 6 * w) (y := r) (by omega) (by omega)
  have n1 := nN_ (x := 6 * w + r) (by omega)
  refine OK.grd ⟨by omega, by omega⟩ ?_
  refine OK.ite (fun hz => ?_) (fun _ => OK.zret CH.rf ⟨hI, rfl, fun _ h => h⟩)
  have v1 : (vp_nar .boolean (1 : Int32)) = 1 := rfl
  rw [v1]
  have c : CH LC LI σ (stI σ 40 (6 * w + r).toNatClampNeg 1) := CH.rf.i (by decide) (by decide)
  have hM1 : ME (stI σ 40 (6 * w + r).toNatClampNeg 1) := hM.ch c (by decide) (by decide)
  have mono : ∀ k, (stI σ 40 (6 * w + r).toNatClampNeg 1).1 40 k = 0 → σ.1 40 k = 0 := fun k hk => by
    have hk : upd (σ.1 40) (6 * w + r).toNatClampNeg 1 k = 0 := hk
    unfold upd at hk
    split at hk
    · exact absurd hk (by decide)
    · exact hk
  have hlt : uN (stI σ 40 (6 * w + r).toNatClampNeg 1) + 1 ≤ uN σ := cntZ_lt (p := fun k => (stI σ 40 (6 * w + r).toNatClampNeg 1).1 40 k = 0) (q := fun k => σ.1 40 k = 0) mono (c := (6 * w + r).toNatClampNeg) (fun h9 => by
    have h9 : upd (σ.1 40) (6 * w + r).toNatClampNeg 1 (6 * w + r).toNatClampNeg = 0 := h9
    rw [upd_at] at h9
    exact absurd h9 (by decide)) hz 36 (by omega)
  refine OK.lt (fun x2 hx2 => ?_)
  have e1 : ((stI σ 40 (6 * w + r).toNatClampNeg 1).1 0 54) = σ.1 0 54 := rfl
  rw [e1] at hx2
  have a3 := mlE (k := 6) (y := σ.1 0 54) 6 li_6 (by omega) (by omega)
  have a4 := il_addE (x := 6 * σ.1 0 54) (y := r) (by omega) (by omega)
  refine OK.trZ (b_lookr_40 hl FU w r x2 0 (stI σ 40 (6 * w + r).toNatClampNeg 1) hM1 hI hw hr (by rw [hx2]; show _ = 6 * (σ.1 0 54).toInt + _; omega) h0 (by show (σ.1 0 57).toInt + _ ≤ _; omega) (by omega) (by omega)) c (fun _ h => h) (fun _ h => h) (fun t _ ht => ⟨ht.1, ht.2.1, fun k hk => mono k (ht.2.2 k hk)⟩)
theorem b_RL : ∀ N : Nat, cLook N (R_X11_looksAt N).1 ∧ cLookR N (R_X11_looksAt N).2 := by
  intro N
  induction N with
  | zero =>
    refine ⟨?_, ?_⟩
    · intro w r σ d e hM hI hw hr hd he h0 hS hN
      cases d with
      | zero => exact hw.elim
      | succ d => omega
    · intro w r σ hM hI hw hr h0 hS hN
      omega
  | succ N ih => exact ⟨b_look_top ih.1 ih.2, b_lookr_top ih.1⟩
theorem b_lm_18 : ∀ (n : Nat) (x3 : Int32) (σ : ST), ME σ → MI σ → σ.1 0 57 = 0 → (0 ≤ x3.toInt ∧ x3.toInt ≤ 36 ∧ (36 : Int) - x3.toInt < n) → OK (f_X11_laysMisses_18 n x3 σ) (RZ LC LI σ MI) := by
  intro n
  induction n with
  | zero => intro x3 σ h1 h2 h3 h4; omega
  | succ n ih =>
    intro x3 σ hM hI hs h3
    rw [f_X11_laysMisses_18]
    have lt_0 := li_0
    have lt_1 := li_1
    have lt_36 := li_36
    have lr := FRi
    obtain ⟨b1, b2, b3, b4⟩ := hM.w
    refine OK.ile (fun _ => ?_) (fun h => ?_)
    · have u := cntZ_le (p := fun k => σ.1 40 k = 0) 36
      have eu : uN σ = cntZ (fun k => σ.1 40 k = 0) 36 := rfl
      have es : (σ.1 0 57).toInt = 0 := by rw [hs]; exact li_0
      refine OK.bndZ ((b_RL FRB).2 0 0 σ hM hI (wrec_i (by omega) (by omega)) (rrec_i (by omega) (by omega)) (by omega) (by omega) (by omega)) (fun q9 c9 m9 => ?_)
      exact OK.zret c9 m9.1
    · have a3 := il_addE (x := x3) (y := 1) (by omega) (by omega)
      refine OK.grd ⟨by omega, by omega⟩ ?_
      have c : CH LC LI σ (stI σ 40 x3.toNatClampNeg (vp_nar .boolean 0)) := CH.rf.i (by decide) (by decide)
      exact OK.trZ (ih (x3 + 1) _ (hM.ch c (by decide) (by decide)) hI hs (by omega)) c (fun _ h => h) (fun _ h => h) (fun _ _ h => h)
theorem b_laysMisses (p0 p1 : Int32) (σ : ST) (hP : PLs σ) (hB : PB σ) (hm : ∀ i, bI (σ.1 38 i) 0 256) (h0 : 0 ≤ p0.toInt ∧ p0.toInt < (σ.1 0 32).toInt) (h1 : 0 ≤ p1.toInt ∧ p1.toInt < (σ.1 0 32).toInt) : OK (f_X11_laysMisses p0 p1 σ) (RZ [35, 36, 37, 38, 39, 40] [53, 54, 57, 61] σ fun t => MI t ∧ PB t) := by
  unfold f_X11_laysMisses
  have lt_0 := li_0
  have lu := FUi
  refine OK.bndZ (b_laysPairs p0 p1 σ hP hB h0 h1) (fun t c ht => ?_)
  have c1 : CH LC LI t (stI (stI t 0 61 0) 0 57 0) := (CH.rf.o (by decide)).o (by decide)
  have hM : ME (stI (stI t 0 61 0) 0 57 0) := ht.1.1.ch c1 (by decide) (by decide)
  have hI : MI (stI (stI t 0 61 0) 0 57 0) := by
    refine ⟨bz (by decide) (by decide), ?_⟩
    show ∀ i, bI (t.1 38 i) 0 256
    rw [c.1 38 (by decide) (by decide)]
    exact hm
  have c2 : CH [35, 36, 37, 38, 39, 40] [53, 54, 57, 61] σ (stI (stI t 0 61 0) 0 57 0) := (c.mono (by decide) (by decide)).trans (c1.mono (by decide) (by decide))
  refine OK.trZ (b_lm_18 FU 0 _ hM hI rfl (by omega)) c2 (by decide) (by decide) (fun u cu hu => ⟨hu, ?_⟩)
  unfold PB
  rw [cu.1 35 (by decide) (by decide)]
  exact hM.2.2
/-! the reference: its tree -/
def tP (σ : ST) : Nat → Int := fun r => (σ.1 24 r).toInt
def tC (σ : ST) : Nat → Int := fun r => (σ.1 25 r).toInt
def tF (σ : ST) : Nat → Int := fun r => (σ.1 28 r).toInt
def tL (σ : ST) : Nat → Int := fun r => (σ.1 29 r).toInt
def tN (σ : ST) : Nat → Int := fun r => (σ.1 30 r).toInt
/-- how many stand at a child's place or behind it -/
def ms (S : Nat) (C : Nat → Int) (k : Nat) : Nat := cntZ (fun c => C k < C c ∨ C c = C k ∧ c ≤ k) S
theorem ms_le {S : Nat} {C : Nat → Int} {k : Nat} : ms S C k ≤ S := cntZ_le _
theorem ms_step {S : Nat} {C : Nat → Int} {k m : Nat} (hk : k < S) (h : C k < C m ∨ C k = C m ∧ m < k) : ms S C m + 1 ≤ ms S C k := cntZ_lt (p := fun c => C m < C c ∨ C c = C m ∧ c ≤ m) (q := fun c => C k < C c ∨ C c = C k ∧ c ≤ k) (fun r hr => by omega) (c := k) (by omega) (by omega) S hk
/-- a child of that row, or none -/
def isC (σ : ST) (p : Nat) (x : Int32) : Prop := x.toInt = -1 ∨ (0 ≤ x.toInt ∧ x.toInt < (σ.1 0 46).toInt) ∧ tP σ x.toNatClampNeg = p
def msx (σ : ST) (x : Int32) : Nat := if x.toInt = -1 then 0 else ms (σ.1 0 46).toInt.toNat (tC σ) x.toNatClampNeg
/-- the tree's order -/
def TO (σ : ST) : Prop := bI (σ.1 0 46) 0 4096 ∧ TRf (σ.1 0 46).toInt (tP σ) (tC σ) (tF σ) (tL σ) (tN σ) ∧ ∀ r : Nat, (r : Int) < (σ.1 0 46).toInt → tF σ r = -1 → tL σ r = -1
theorem TO.first {σ : ST} (h : TO σ) {p : Nat} (hp : (p : Int) < (σ.1 0 46).toInt) : isC σ p (σ.1 28 p) := by
  rcases (h.2.1 p hp).1 with a | ⟨a1, a2, a3⟩
  · exact .inl a
  · exact .inr ⟨⟨a1, a2⟩, a3⟩
theorem TO.next {σ : ST} (h : TO σ) {p : Nat} {x : Int32} (hx : isC σ p x) (h0 : ¬ x.toInt = -1) : isC σ p (σ.1 30 x.toNatClampNeg) ∧ msx σ (σ.1 30 x.toNatClampNeg) + 1 ≤ msx σ x := by
  rcases hx with hx | ⟨⟨x1, x2⟩, x3⟩
  · exact absurd hx h0
  have n1 := nN_ x1
  have n2 : ((((σ.1 0 46).toInt.toNat : Nat)) : Int) = (σ.1 0 46).toInt := Int.toNat_of_nonneg (by omega)
  have e0 : msx σ x = ms (σ.1 0 46).toInt.toNat (tC σ) x.toNatClampNeg := if_neg h0
  rcases (h.2.1 x.toNatClampNeg (by omega)).2.2 with a | ⟨a1, a2, a3, a4⟩
  · have a : (σ.1 30 x.toNatClampNeg).toInt = -1 := a
    have e1 : msx σ (σ.1 30 x.toNatClampNeg) = 0 := if_pos a
    refine ⟨.inl a, ?_⟩
    have h9 := cntZ_lt (p := fun _ => False) (q := fun c => tC σ x.toNatClampNeg < tC σ c ∨ tC σ c = tC σ x.toNatClampNeg ∧ c ≤ x.toNatClampNeg) (fun _ h => h.elim) (c := x.toNatClampNeg) (fun h => h) (by omega) (σ.1 0 46).toInt.toNat (by omega)
    rw [e1, e0]
    unfold ms
    omega
  · have a1 : 0 ≤ (σ.1 30 x.toNatClampNeg).toInt := a1
    have a2 : (σ.1 30 x.toNatClampNeg).toInt < (σ.1 0 46).toInt := a2
    have a3 : tP σ (σ.1 30 x.toNatClampNeg).toInt.toNat = tP σ x.toNatClampNeg := a3
    have a4 : tC σ x.toNatClampNeg < tC σ (σ.1 30 x.toNatClampNeg).toInt.toNat ∨ tC σ x.toNatClampNeg = tC σ (σ.1 30 x.toNatClampNeg).toInt.toNat ∧ (σ.1 30 x.toNatClampNeg).toInt < x.toNatClampNeg := a4
    have e1 : msx σ (σ.1 30 x.toNatClampNeg) = ms (σ.1 0 46).toInt.toNat (tC σ) (σ.1 30 x.toNatClampNeg).toNatClampNeg := if_neg (by omega)
    have n3 := nN_ a1
    refine ⟨.inr ⟨⟨a1, a2⟩, a3.trans x3⟩, ?_⟩
    rw [e0, e1]
    have a4' : tC σ x.toNatClampNeg < tC σ (σ.1 30 x.toNatClampNeg).toNatClampNeg ∨ tC σ x.toNatClampNeg = tC σ (σ.1 30 x.toNatClampNeg).toNatClampNeg ∧ (σ.1 30 x.toNatClampNeg).toInt < x.toNatClampNeg := a4
    exact ms_step (by omega) (by omega)
theorem msx_le {σ : ST} (h : TO σ) {x : Int32} : msx σ x ≤ 4096 := by
  unfold msx
  split
  · omega
  · have := ms_le (S := (σ.1 0 46).toInt.toNat) (C := tC σ) (k := x.toNatClampNeg)
    have := h.1.2
    omega
theorem b_hasChild_10 : ∀ (n : Nat) (p : Nat) (x2 x3 x4 : Int32) (σ : ST), TO σ → isC σ p x4 → (x3.toInt = 0 ∨ x3.toInt = 1) → msx σ x4 < n → OK (f_X11_hasChild_10 n x2 x3 x4 σ) (RO σ fun v => v.toInt = 0 ∨ v.toInt = 1) := by
  intro n
  induction n with
  | zero => intro p x2 x3 x4 σ h1 h2 h3 h4; omega
  | succ n ih =>
    intro p x2 x3 x4 σ hT hx h3 hn
    rw [f_X11_hasChild_10]
    unfold f_X11_hasChild_30 f_X11_hasChild_35
    have lt_0 := li_0
    have lt_1 := li_1
    refine OK.ilt (fun _ => OK.grd (b01 h3) (OK.roret h3)) (fun h => ?_)
    obtain ⟨a1, a2⟩ := hT.next hx (by omega)
    have hr : 0 ≤ x4.toInt ∧ x4.toInt < 4096 := by
      have := hT.1.2
      rcases hx with hx | hx
      · omega
      · omega
    refine OK.ieq (fun _ => ?_) (fun _ => OK.grd hr (ih p _ _ _ _ hT a1 (by omega) (by omega)))
    refine OK.grd hr ?_
    exact OK.ieq (fun _ => OK.grd hr (ih p _ _ _ _ hT a1 (by omega) (by omega))) (fun _ => OK.grd hr (ih p _ _ _ _ hT a1 (by omega) (by omega)))
theorem b_hasChild (p0 p1 : Int32) (σ : ST) (hT : TO σ) (h : 0 ≤ p0.toInt ∧ p0.toInt < (σ.1 0 46).toInt) : OK (f_X11_hasChild p0 p1 σ) (RO σ fun v => v.toInt = 0 ∨ v.toInt = 1) := by
  unfold f_X11_hasChild
  have lt_0 := li_0
  have lu := FUi
  have h46 := hT.1.2
  have n1 := nN_ h.1
  have := msx_le hT (x := σ.1 28 p0.toNatClampNeg)
  refine OK.grd ⟨by omega, by omega⟩ ?_
  exact b_hasChild_10 FU p0.toNatClampNeg _ _ _ _ hT (hT.first (by omega)) (by omega) (by omega)
/-- the newest row is to be linked -/
def JP (σ : ST) (p v : Int32) : Prop := TO σ ∧ v.toInt = (σ.1 0 46).toInt - 1 ∧ (0 ≤ p.toInt ∧ p.toInt < v.toInt) ∧ tP σ v.toNatClampNeg = p.toInt ∧ ∀ r : Nat, (r : Int) < (σ.1 0 46).toInt → tF σ r < v.toInt ∧ tL σ r < v.toInt ∧ tN σ r < v.toInt
theorem b_joins_147 (p v : Int32) (σ s : ST) (hJ : JP σ p v) (c : CH [28, 29, 30] [] σ s) (e29 : s.1 29 = σ.1 29) (hT : TRf (σ.1 0 46).toInt (tP σ) (tC σ) (tF s) (if (s.1 30 v.toNatClampNeg).toInt = -1 then updZ (tL σ) p.toNatClampNeg ((v.toNatClampNeg : Nat) : Int) else tL σ) (tN s)) (hF : ∀ r : Nat, (r : Int) < (σ.1 0 46).toInt → tF s r = -1 → (if (s.1 30 v.toNatClampNeg).toInt = -1 then updZ (tL σ) p.toNatClampNeg ((v.toNatClampNeg : Nat) : Int) else tL σ) r = -1) (hn : (s.1 30 v.toNatClampNeg).toInt = -1 ∨ 0 ≤ (s.1 30 v.toNatClampNeg).toInt) : OK (f_X11_joins_147 p v s) (RZ [28, 29, 30] [] σ TO) := by
  obtain ⟨⟨h46, _, _⟩, j1, j2, j3, j4⟩ := hJ
  have lt_0 := li_0
  have h461 := h46.1
  have h462 := h46.2
  have n2 := nN_ (x := v) (by omega)
  have e46 : s.1 0 46 = σ.1 0 46 := c.2.1 46 (by decide)
  have e24 : s.1 24 = σ.1 24 := c.1 24 (by decide) (by decide)
  have e25 : s.1 25 = σ.1 25 := c.1 25 (by decide) (by decide)
  have pP : tP s = tP σ := by unfold tP; rw [e24]
  have pC : tC s = tC σ := by unfold tC; rw [e25]
  have pL : tL s = tL σ := by unfold tL; rw [e29]
  unfold f_X11_joins_147
  refine OK.grd ⟨by omega, by omega⟩ ?_
  refine OK.ile (fun h => ?_) (fun h => ?_)
  · have hne : ¬ (s.1 30 v.toNatClampNeg).toInt = -1 := by omega
    rw [if_neg hne] at hT
    refine OK.zret c ⟨by rw [e46]; exact h46, ?_, fun r hr h9 => ?_⟩
    · rw [pP, pC, pL, e46]; exact hT
    · rw [e46] at hr
      have := hF r hr h9
      rw [if_neg hne] at this
      rw [pL]; exact this
  · have he : (s.1 30 v.toNatClampNeg).toInt = -1 := by omega
    rw [if_pos he] at hT
    refine OK.grd ⟨by omega, by omega⟩ ?_
    have cu : CH [28, 29, 30] [] σ (stI s 29 p.toNatClampNeg v) := c.i (by decide) (by decide)
    have u46 : (stI s 29 p.toNatClampNeg v).1 0 46 = s.1 0 46 := rfl
    have uP : tP (stI s 29 p.toNatClampNeg v) = tP s := rfl
    have uC : tC (stI s 29 p.toNatClampNeg v) = tC s := rfl
    have uF : tF (stI s 29 p.toNatClampNeg v) = tF s := rfl
    have uN : tN (stI s 29 p.toNatClampNeg v) = tN s := rfl
    have uL : tL (stI s 29 p.toNatClampNeg v) = updZ (tL s) p.toNatClampNeg v.toInt := vw_upd
    generalize stI s 29 p.toNatClampNeg v = u at cu u46 uP uC uF uN uL ⊢
    have ev : v.toInt = ((v.toNatClampNeg : Nat) : Int) := n2.symm
    refine OK.zret cu ⟨by rw [u46, e46]; exact h46, ?_, fun r hr h9 => ?_⟩
    · rw [uP, uC, uF, uN, uL, pP, pC, pL, u46, e46, ev]; exact hT
    · rw [u46, e46] at hr
      rw [uF] at h9
      have := hF r hr h9
      rw [if_pos he] at this
      rw [uL, pL, ev]; exact this
theorem b_joins_101 (p v x3 : Int32) (σ : ST) (hJ : JP σ p v) (hx : (x3.toInt = -1 ∧ (tF σ p.toNatClampNeg = -1 ∨ tC σ v.toNatClampNeg ≤ tC σ (tF σ p.toNatClampNeg).toNat)) ∨ ((0 ≤ x3.toInt ∧ x3.toInt < v.toInt) ∧ tP σ x3.toNatClampNeg = p.toInt ∧ tC σ x3.toNatClampNeg < tC σ v.toNatClampNeg ∧ (tN σ x3.toNatClampNeg = -1 ∨ tC σ v.toNatClampNeg ≤ tC σ (tN σ x3.toNatClampNeg).toNat) ∧ ¬ tF σ p.toNatClampNeg = -1)) : OK (f_X11_joins_101 p v x3 σ) (RZ [28, 29, 30] [] σ TO) := by
  have hJ' := hJ
  obtain ⟨⟨h46, hT, hFL⟩, j1, j2, j3, j4⟩ := hJ
  have lt_0 := li_0
  have lm := li_m1
  have h461 := h46.1
  have h462 := h46.2
  have n1 := nN_ j2.1
  have n2 := nN_ (x := v) (by omega)
  have gp : 0 ≤ p.toInt ∧ p.toInt < 4096 := by omega
  have gv : 0 ≤ v.toInt ∧ v.toInt < 4096 := by omega
  have hvr : ((v.toNatClampNeg : Nat) : Int) = (σ.1 0 46).toInt - 1 := by omega
  have j3' : tP σ v.toNatClampNeg = ((p.toNatClampNeg : Nat) : Int) := by omega
  have fresh : ∀ r : Nat, (r : Int) < (σ.1 0 46).toInt → tF σ r < ((v.toNatClampNeg : Nat) : Int) ∧ tL σ r < ((v.toNatClampNeg : Nat) : Int) ∧ tN σ r < ((v.toNatClampNeg : Nat) : Int) := fun r hr => by
    have := j4 r hr
    omega
  have ev : v.toInt = ((v.toNatClampNeg : Nat) : Int) := n2.symm
  unfold f_X11_joins_101 f_X11_joins_125
  rcases hx with ⟨x1, x2⟩ | ⟨x1, x2, x3', x4, x5⟩
  · refine OK.ile (fun h => by omega) (fun _ => ?_)
    refine OK.grd gp ?_
    refine OK.grd gv ?_
    refine OK.ile (fun h => by omega) (fun _ => ?_)
    refine OK.grd gp ?_
    have hF := TRf.first hT (row := v.toNatClampNeg) (p := p.toNatClampNeg) hvr (by omega) j3' fresh x2
    have hFr := (hT p.toNatClampNeg (by omega)).1
    have cs : CH [28, 29, 30] [] σ (stI (stI σ 30 v.toNatClampNeg (σ.1 28 p.toNatClampNeg)) 28 p.toNatClampNeg v) := (CH.rf.i (by decide) (by decide)).i (by decide) (by decide)
    have e28 : (stI (stI σ 30 v.toNatClampNeg (σ.1 28 p.toNatClampNeg)) 28 p.toNatClampNeg v).1 28 = upd (σ.1 28) p.toNatClampNeg v := rfl
    have e30 : (stI (stI σ 30 v.toNatClampNeg (σ.1 28 p.toNatClampNeg)) 28 p.toNatClampNeg v).1 30 = upd (σ.1 30) v.toNatClampNeg (σ.1 28 p.toNatClampNeg) := rfl
    have e29 : (stI (stI σ 30 v.toNatClampNeg (σ.1 28 p.toNatClampNeg)) 28 p.toNatClampNeg v).1 29 = σ.1 29 := rfl
    generalize stI (stI σ 30 v.toNatClampNeg (σ.1 28 p.toNatClampNeg)) 28 p.toNatClampNeg v = s at cs e28 e30 e29 ⊢
    have sF : tF s = updZ (tF σ) p.toNatClampNeg ((v.toNatClampNeg : Nat) : Int) := by
      unfold tF
      rw [e28, ← ev]
      exact vw_upd
    have sN : tN s = updZ (tN σ) v.toNatClampNeg (tF σ p.toNatClampNeg) := by
      unfold tN
      rw [e30]
      exact vw_upd
    have rd : (s.1 30 v.toNatClampNeg).toInt = tF σ p.toNatClampNeg := by rw [e30, upd_at]; rfl
    refine b_joins_147 p v σ s hJ' cs e29 ?_ ?_ ?_
    · rw [rd, sF, sN]; exact hF
    · intro r hr h9
      rw [sF] at h9
      rw [rd]
      unfold updZ at h9
      split at h9
      · omega
      · rename_i e
        split
        · unfold updZ
          rw [if_neg e]
          exact hFL r hr h9
        · exact hFL r hr h9
    · rw [rd]
      rcases hFr with h9 | h9
      · exact .inl h9
      · exact .inr h9.1
  · have n3 := nN_ x1.1
    refine OK.ile (fun _ => ?_) (fun h => by omega)
    refine OK.grd ⟨by omega, by omega⟩ ?_
    refine OK.grd gv ?_
    refine OK.ile (fun _ => ?_) (fun h => by omega)
    refine OK.grd ⟨by omega, by omega⟩ ?_
    have hqv : ¬ v.toNatClampNeg = x3.toNatClampNeg := by omega
    have hA := TRf.after hT (row := v.toNatClampNeg) (p := p.toNatClampNeg) (q := x3.toNatClampNeg) hvr j3' fresh (by omega) (by omega) x3' x4
    have hNr := (hT x3.toNatClampNeg (by omega)).2.2
    have cs : CH [28, 29, 30] [] σ (stI (stI σ 30 v.toNatClampNeg (σ.1 30 x3.toNatClampNeg)) 30 x3.toNatClampNeg v) := (CH.rf.i (by decide) (by decide)).i (by decide) (by decide)
    have e28 : (stI (stI σ 30 v.toNatClampNeg (σ.1 30 x3.toNatClampNeg)) 30 x3.toNatClampNeg v).1 28 = σ.1 28 := rfl
    have e29 : (stI (stI σ 30 v.toNatClampNeg (σ.1 30 x3.toNatClampNeg)) 30 x3.toNatClampNeg v).1 29 = σ.1 29 := rfl
    have e30 : (stI (stI σ 30 v.toNatClampNeg (σ.1 30 x3.toNatClampNeg)) 30 x3.toNatClampNeg v).1 30 = upd (upd (σ.1 30) v.toNatClampNeg (σ.1 30 x3.toNatClampNeg)) x3.toNatClampNeg v := rfl
    generalize stI (stI σ 30 v.toNatClampNeg (σ.1 30 x3.toNatClampNeg)) 30 x3.toNatClampNeg v = s at cs e28 e29 e30 ⊢
    have sF : tF s = tF σ := by unfold tF; rw [e28]
    have sN : tN s = updZ (updZ (tN σ) v.toNatClampNeg (tN σ x3.toNatClampNeg)) x3.toNatClampNeg ((v.toNatClampNeg : Nat) : Int) := by
      have b : (fun r => (upd (σ.1 30) v.toNatClampNeg (σ.1 30 x3.toNatClampNeg) r).toInt) = updZ (tN σ) v.toNatClampNeg (tN σ x3.toNatClampNeg) := vw_upd
      have a : tN s = updZ (fun r => (upd (σ.1 30) v.toNatClampNeg (σ.1 30 x3.toNatClampNeg) r).toInt) x3.toNatClampNeg v.toInt := by
        unfold tN
        rw [e30]
        exact vw_upd
      rw [a, b, ev]
    have rd : (s.1 30 v.toNatClampNeg).toInt = tN σ x3.toNatClampNeg := by rw [e30, upd_no hqv, upd_at]; rfl
    refine b_joins_147 p v σ s hJ' cs e29 ?_ ?_ ?_
    · rw [rd, sF, sN]; exact hA
    · intro r hr h9
      rw [sF] at h9
      rw [rd]
      split
      · unfold updZ
        split
        · rename_i e
          rw [e] at h9
          exact absurd h9 x5
        · exact hFL r hr h9
      · exact hFL r hr h9
    · rw [rd]
      rcases hNr with h9 | h9
      · exact .inl h9
      · exact .inr h9.1
theorem b_joins_65 : ∀ (n : Nat) (p v x3 x4 : Int32) (σ : ST), JP σ p v → isC σ p.toNatClampNeg x4 → (x4.toInt = -1 ∨ x4.toInt < v.toInt) → ((x3.toInt = -1 ∧ x4 = σ.1 28 p.toNatClampNeg) ∨ ((0 ≤ x3.toInt ∧ x3.toInt < v.toInt) ∧ tP σ x3.toNatClampNeg = p.toInt ∧ tC σ x3.toNatClampNeg < tC σ v.toNatClampNeg ∧ ¬ tF σ p.toNatClampNeg = -1 ∧ (x4 = σ.1 30 x3.toNatClampNeg))) → msx σ x4 < n → OK (f_X11_joins_65 n p v x3 x4 σ) (RZ [28, 29, 30] [] σ TO) := by
  intro n
  induction n with
  | zero => intro p v x3 x4 σ h1 h2 h3 h4 h5; omega
  | succ n ih =>
    intro p v x3 x4 σ hJ hc hv hx hn
    rw [f_X11_joins_65]
    have lt_0 := li_0
    have hJ' := hJ
    obtain ⟨⟨h46, hT, hFL⟩, j1, j2, j3, j4⟩ := hJ
    have h461 := h46.1
    have h462 := h46.2
    have fin : (x4.toInt = -1 ∨ 0 ≤ x4.toInt ∧ tC σ v.toNatClampNeg ≤ tC σ x4.toNatClampNeg) → OK (f_X11_joins_101 p v x3 σ) (RZ [28, 29, 30] [] σ TO) := fun h => by
      refine b_joins_101 p v x3 σ hJ' ?_
      rcases hx with ⟨a1, a2⟩ | ⟨a1, a2, a3, a4, a5⟩
      · refine .inl ⟨a1, ?_⟩
        show (σ.1 28 p.toNatClampNeg).toInt = -1 ∨ tC σ v.toNatClampNeg ≤ tC σ (σ.1 28 p.toNatClampNeg).toInt.toNat
        rw [← a2]
        rcases h with h | h
        · exact .inl h
        · exact .inr h.2
      · refine .inr ⟨a1, a2, a3, ?_, a4⟩
        show (σ.1 30 x3.toNatClampNeg).toInt = -1 ∨ tC σ v.toNatClampNeg ≤ tC σ (σ.1 30 x3.toNatClampNeg).toInt.toNat
        rw [← a5]
        rcases h with h | h
        · exact .inl h
        · exact .inr h.2
    refine OK.ilt (fun h => fin ?_) (fun h => ?_)
    · rcases hc with hc | hc
      · exact .inl hc
      · omega
    have hc' : (0 ≤ x4.toInt ∧ x4.toInt < (σ.1 0 46).toInt) ∧ tP σ x4.toNatClampNeg = p.toNatClampNeg := by
      rcases hc with hc | hc
      · omega
      · exact hc
    have n1 := nN_ j2.1
    have n4 := nN_ hc'.1.1
    refine OK.grd ⟨by omega, by omega⟩ ?_
    refine OK.grd ⟨by omega, by omega⟩ ?_
    refine OK.ile (fun h2 => fin (.inr ⟨by omega, h2⟩)) (fun h2 => ?_)
    have h2 : tC σ x4.toNatClampNeg < tC σ v.toNatClampNeg := h2
    obtain ⟨a1, a2⟩ := TO.next ⟨h46, hT, hFL⟩ hc (by omega)
    have j4' := (j4 x4.toNatClampNeg (by omega)).2.2
    have j4' : (σ.1 30 x4.toNatClampNeg).toInt < v.toInt := j4'
    refine ih p v x4 _ σ hJ' a1 (.inr j4') (.inr ⟨by omega, by omega, h2, ?_, rfl⟩) (by omega)
    rcases hx with ⟨b1, b2⟩ | ⟨_, _, _, b4, _⟩
    · intro h9
      have h9 : (σ.1 28 p.toNatClampNeg).toInt = -1 := h9
      rw [← b2] at h9
      omega
    · exact b4
theorem JP.st {σ : ST} {p v : Int32} {i : Nat} {y : Int32} (h : JP σ p v) : JP (stI σ 23 i y) p v := h
theorem b_joins (p v : Int32) (σ : ST) (hJ : JP σ p v) : OK (f_X11_joins p v σ) (RZ [23, 28, 29, 30] [] σ fun t => TO t ∧ t.1 23 = upd (σ.1 23) p.toNatClampNeg (σ.1 23 p.toNatClampNeg + 1)) := by
  unfold f_X11_joins
  have lt_0 := li_0
  have lm := li_m1
  have lu := FUi
  have hJ1 := hJ.st (i := p.toNatClampNeg) (y := σ.1 23 p.toNatClampNeg + 1)
  obtain ⟨⟨h46, hT, hFL⟩, j1, j2, j3, j4⟩ := hJ
  have h461 := h46.1
  have h462 := h46.2
  have n1 := nN_ j2.1
  have n2 := nN_ (x := v) (by omega)
  have gp : 0 ≤ p.toInt ∧ p.toInt < 4096 := by omega
  have gv : 0 ≤ v.toInt ∧ v.toInt < 4096 := by omega
  have c : CH [23, 28, 29, 30] [] σ (stI σ 23 p.toNatClampNeg (σ.1 23 p.toNatClampNeg + 1)) := CH.rf.i (by decide) (by decide)
  have e23 : (stI σ 23 p.toNatClampNeg (σ.1 23 p.toNatClampNeg + 1)).1 23 = upd (σ.1 23) p.toNatClampNeg (σ.1 23 p.toNatClampNeg + 1) := rfl
  have eC : tC (stI σ 23 p.toNatClampNeg (σ.1 23 p.toNatClampNeg + 1)) = tC σ := rfl
  have eF : tF (stI σ 23 p.toNatClampNeg (σ.1 23 p.toNatClampNeg + 1)) = tF σ := rfl
  have eL : tL (stI σ 23 p.toNatClampNeg (σ.1 23 p.toNatClampNeg + 1)) = tL σ := rfl
  have eP : tP (stI σ 23 p.toNatClampNeg (σ.1 23 p.toNatClampNeg + 1)) = tP σ := rfl
  have e46 : (stI σ 23 p.toNatClampNeg (σ.1 23 p.toNatClampNeg + 1)).1 0 46 = σ.1 0 46 := rfl
  generalize stI σ 23 p.toNatClampNeg (σ.1 23 p.toNatClampNeg + 1) = s at hJ1 c e23 eC eF eL eP e46 ⊢
  have hT1 := hJ1.1
  have tr : ∀ o : Option ST, OK o (RZ [28, 29, 30] [] s TO) → OK o (RZ [23, 28, 29, 30] [] σ fun t => TO t ∧ t.1 23 = upd (σ.1 23) p.toNatClampNeg (σ.1 23 p.toNatClampNeg + 1)) := fun o ho => OK.trZ ho c (by decide) (fun _ h => h) (fun t ct ht => ⟨ht, by rw [ct.1 23 (by decide) (by decide)]; exact e23⟩)
  have hF1 : isC s p.toNatClampNeg (s.1 28 p.toNatClampNeg) := hT1.first (by rw [e46]; omega)
  have jp := hJ1.2.2.2.2 p.toNatClampNeg (by rw [e46]; omega)
  have jp1 : (s.1 28 p.toNatClampNeg).toInt < v.toInt := jp.1
  have jp2 : (s.1 29 p.toNatClampNeg).toInt < v.toInt := jp.2.1
  have hL1 := (hT1.2.1 p.toNatClampNeg (by rw [e46]; omega)).2.1
  have m1 := msx_le hT1 (x := s.1 28 p.toNatClampNeg)
  have mm : msx s (-1) = 0 := if_pos (by decide)
  have k45 : ((s.1 29 p.toNatClampNeg).toInt < 0 ∨ tC s v.toNatClampNeg ≤ tC s (s.1 29 p.toNatClampNeg).toNatClampNeg) → OK (f_X11_joins_45 p v (-1) s) (RZ [28, 29, 30] [] s TO) := fun hh => by
    unfold f_X11_joins_45 f_X11_joins_51
    refine OK.grd gp ?_
    refine OK.ile (fun h => ?_) (fun h => ?_)
    · exact b_joins_65 FU p v _ _ s hJ1 hF1 (.inr jp1) (.inl ⟨by omega, rfl⟩) (by omega)
    · refine OK.grd gp ?_
      have h1 : (s.1 28 p.toNatClampNeg).toInt = -1 := by
        rcases hF1 with h9 | h9
        · exact h9
        · omega
      have h2 : (s.1 29 p.toNatClampNeg).toInt = -1 := hT1.2.2 p.toNatClampNeg (by rw [e46]; omega) h1
      exact b_joins_65 FU p v _ _ s hJ1 hF1 (.inr jp1) (.inl ⟨h2, rfl⟩) (by omega)
  refine OK.grd gp ?_
  refine OK.ilt (fun h => tr _ (k45 (.inl (by omega)))) (fun h => ?_)
  have hl : 0 ≤ (s.1 29 p.toNatClampNeg).toInt ∧ (s.1 29 p.toNatClampNeg).toInt < (s.1 0 46).toInt ∧ tP s (s.1 29 p.toNatClampNeg).toNatClampNeg = p.toNatClampNeg ∧ tN s (s.1 29 p.toNatClampNeg).toNatClampNeg = -1 := by
    rcases hL1 with h9 | h9
    · have h9 : (s.1 29 p.toNatClampNeg).toInt = -1 := h9
      omega
    · exact h9
  have e46' : (s.1 0 46).toInt = (σ.1 0 46).toInt := by rw [e46]
  refine OK.grd ⟨by omega, by omega⟩ ?_
  refine OK.grd gv ?_
  refine OK.ile (fun h2 => tr _ (k45 (.inr h2))) (fun h2 => tr _ ?_)
  have h2 : tC s (s.1 29 p.toNatClampNeg).toNatClampNeg < tC s v.toNatClampNeg := h2
  unfold f_X11_joins_51
  refine OK.ile (fun h9 => by omega) (fun _ => ?_)
  refine OK.grd gp ?_
  have hfn : ¬ tF s p.toNatClampNeg = -1 := fun h9 => by
    have := hT1.2.2 p.toNatClampNeg (by rw [e46]; omega) h9
    have : (s.1 29 p.toNatClampNeg).toInt = -1 := this
    omega
  refine b_joins_65 FU p v _ _ s hJ1 (.inl (by omega)) (.inl (by omega)) (.inr ⟨⟨hl.1, jp2⟩, by omega, h2, hfn, ?_⟩) (by omega)
  refine Int32.toInt_inj.mp ?_
  have h9 : (s.1 30 (s.1 29 p.toNatClampNeg).toNatClampNeg).toInt = -1 := hl.2.2.2
  omega
/-! the reference: a node laid -/
def NL (LV : Nat → Nat) (σ : ST) : Prop := TO σ ∧ (∀ r : Nat, (r : Int) < (σ.1 0 46).toInt → LV r ≤ 31 ∧ (tP σ r = -1 ∧ LV r = 0 ∨ (0 ≤ tP σ r ∧ tP σ r < r) ∧ LV r = LV (tP σ r).toNat + 1)) ∧ ∀ r : Nat, (r : Int) < (σ.1 0 46).toInt → bI (σ.1 23 r) 0 ((σ.1 0 46).toInt + 12) ∧ ((σ.1 20 r).toInt = 5 → (σ.1 23 r).toInt ≤ 12)
theorem TO.of {σ t : ST} (h : TO σ) (e46 : t.1 0 46 = σ.1 0 46) (e24 : t.1 24 = σ.1 24) (e25 : t.1 25 = σ.1 25) (e28 : t.1 28 = σ.1 28) (e29 : t.1 29 = σ.1 29) (e30 : t.1 30 = σ.1 30) : TO t := by
  unfold TO tP tC tF tL tN at h ⊢
  rw [e46, e24, e25, e28, e29, e30]
  exact h
theorem NL.of {LV : Nat → Nat} {σ t : ST} (h : NL LV σ) (e46 : t.1 0 46 = σ.1 0 46) (e20 : t.1 20 = σ.1 20) (e23 : t.1 23 = σ.1 23) (e24 : t.1 24 = σ.1 24) (e25 : t.1 25 = σ.1 25) (e28 : t.1 28 = σ.1 28) (e29 : t.1 29 = σ.1 29) (e30 : t.1 30 = σ.1 30) : NL LV t := by
  refine ⟨h.1.of e46 e24 e25 e28 e29 e30, ?_, ?_⟩
  · unfold tP
    rw [e46, e24]
    exact h.2.1
  · rw [e46, e20, e23]
    exact h.2.2
theorem NL.ch {C I : List Nat} {LV : Nat → Nat} {σ t : ST} (h : NL LV σ) (c : CH C I σ t) (hC : ∀ c, c ∈ [20, 23, 24, 25, 28, 29, 30] → c ∉ C) (hI : 46 ∉ I) : NL LV t := h.of (c.2.1 46 hI) (c.1 20 (by decide) (hC 20 (by decide))) (c.1 23 (by decide) (hC 23 (by decide))) (c.1 24 (by decide) (hC 24 (by decide))) (c.1 25 (by decide) (hC 25 (by decide))) (c.1 28 (by decide) (hC 28 (by decide))) (c.1 29 (by decide) (hC 29 (by decide))) (c.1 30 (by decide) (hC 30 (by decide)))
theorem NL.has {LV : Nat → Nat} {σ : ST} (h : NL LV σ) {v : Nat} {y : Int32} (hy : bI y 0 12) (h0 : 0 ≤ (σ.1 0 46).toInt) : NL LV (stI σ 23 v y) := by
  refine ⟨h.1, h.2.1, fun r hr => ?_⟩
  show bI (upd (σ.1 23) v y r) 0 ((σ.1 0 46).toInt + 12) ∧ ((σ.1 20 r).toInt = 5 → (upd (σ.1 23) v y r).toInt ≤ 12)
  obtain ⟨y1, y2⟩ := hy
  unfold upd
  split
  · exact ⟨⟨y1, by omega⟩, fun _ => y2⟩
  · exact h.2.2 r hr
def upL (LV : Nat → Nat) (v l : Nat) : Nat → Nat := fun r => if r = v then l else LV r
theorem upL_at {LV : Nat → Nat} {v l : Nat} : upL LV v l v = l := if_pos rfl
theorem upL_no {LV : Nat → Nat} {v l r : Nat} (h : ¬ r = v) : upL LV v l r = LV r := if_neg h
abbrev NC : List Nat := [20, 23, 24, 25, 26, 27, 28, 29, 30]
theorem b_laysNode (p0 p1 p2 p3 : Int32) (σ : ST) (LV : Nat → Nat) (hN : NL LV σ) (hS : (σ.1 0 46).toInt < 4096) (l : Nat) (hl : l ≤ 31) (hp : p1.toInt = -1 ∧ l = 0 ∨ (0 ≤ p1.toInt ∧ p1.toInt < (σ.1 0 46).toInt) ∧ l = LV p1.toNatClampNeg + 1 ∧ ¬ (σ.1 20 p1.toNatClampNeg).toInt = 5) : OK (f_X11_laysNode p0 p1 p2 p3 σ) (RC NC [46] σ fun v t => v = σ.1 0 46 ∧ (t.1 0 46).toInt = (σ.1 0 46).toInt + 1 ∧ NL (upL LV (σ.1 0 46).toNatClampNeg l) t ∧ t.1 20 = upd (σ.1 20) (σ.1 0 46).toNatClampNeg p0) := by
  unfold f_X11_laysNode
  have lt_0 := li_0
  have lt_1 := li_1
  have lm := li_m1
  obtain ⟨⟨h46, hT, hFL⟩, hLV, hH⟩ := hN
  have h461 := h46.1
  have e1 := il_addE (x := σ.1 0 46) (y := 1) (by omega) (by omega)
  have nv := nN_ h461
  refine OK.grd ⟨by omega, by omega⟩ ?_
  refine OK.lt (fun z2 h2 => ?_)
  refine OK.lt (fun z3 h3 => ?_)
  refine OK.lt (fun z4 h4 => ?_)
  refine OK.lt (fun z5 h5 => ?_)
  have c : CH NC [46] σ z5 := by
    rw [h5, h4, h3, h2]
    exact (((((((((((CH.rf.o (by decide)).i (by decide) (by decide)).l (by decide) (by decide) (by decide) (by decide) (by decide)).l (by decide) (by decide) (by decide) (by decide) (by decide)).i (by decide) (by decide)).i (by decide) (by decide)).i (by decide) (by decide)).i (by decide) (by decide)).i (by decide) (by decide)).i (by decide) (by decide)).i (by decide) (by decide)).i (by decide) (by decide)
  have e46 : z5.1 0 46 = σ.1 0 46 + 1 := by rw [h5, h4, h3, h2]; rfl
  have e20 : z5.1 20 = upd (σ.1 20) (σ.1 0 46).toNatClampNeg p0 := by rw [h5, h4, h3, h2]; rfl
  have e23 : z5.1 23 = upd (σ.1 23) (σ.1 0 46).toNatClampNeg 0 := by rw [h5, h4, h3, h2]; rfl
  have e24 : z5.1 24 = upd (σ.1 24) (σ.1 0 46).toNatClampNeg p1 := by rw [h5, h4, h3, h2]; rfl
  have e25 : z5.1 25 = upd (σ.1 25) (σ.1 0 46).toNatClampNeg p2 := by rw [h5, h4, h3, h2]; rfl
  have e28 : z5.1 28 = upd (σ.1 28) (σ.1 0 46).toNatClampNeg (-1) := by rw [h5, h4, h3, h2]; rfl
  have e29 : z5.1 29 = upd (σ.1 29) (σ.1 0 46).toNatClampNeg (-1) := by rw [h5, h4, h3, h2]; rfl
  have e30 : z5.1 30 = upd (σ.1 30) (σ.1 0 46).toNatClampNeg (-1) := by rw [h5, h4, h3, h2]; rfl
  clear h5 h4 h3 h2
  have e46' : (z5.1 0 46).toInt = (σ.1 0 46).toInt + 1 := by rw [e46]; omega
  have sP : tP z5 = updZ (tP σ) (σ.1 0 46).toNatClampNeg p1.toInt := by unfold tP; rw [e24]; exact vw_upd
  have sC : tC z5 = updZ (tC σ) (σ.1 0 46).toNatClampNeg p2.toInt := by unfold tC; rw [e25]; exact vw_upd
  have sF : tF z5 = updZ (tF σ) (σ.1 0 46).toNatClampNeg (-1) := by unfold tF; rw [e28]; exact vw_upd
  have sL : tL z5 = updZ (tL σ) (σ.1 0 46).toNatClampNeg (-1) := by unfold tL; rw [e29]; exact vw_upd
  have sN : tN z5 = updZ (tN σ) (σ.1 0 46).toNatClampNeg (-1) := by unfold tN; rw [e30]; exact vw_upd
  have hTO : TO z5 := by
    refine ⟨⟨by omega, by omega⟩, ?_, fun r hr => ?_⟩
    · rw [sP, sC, sF, sL, sN, e46']
      exact TRf.grow hT nv _ _
    · rw [sF, sL]
      unfold updZ
      split
      · intro _; rfl
      · exact hFL r (by omega)
  have hLV5 : ∀ r : Nat, (r : Int) < (z5.1 0 46).toInt → upL LV (σ.1 0 46).toNatClampNeg l r ≤ 31 ∧ (tP z5 r = -1 ∧ upL LV (σ.1 0 46).toNatClampNeg l r = 0 ∨ (0 ≤ tP z5 r ∧ tP z5 r < r) ∧ upL LV (σ.1 0 46).toNatClampNeg l r = upL LV (σ.1 0 46).toNatClampNeg l (tP z5 r).toNat + 1) := by
    intro r hr
    by_cases e : r = (σ.1 0 46).toNatClampNeg
    · have ep : tP z5 r = p1.toInt := by rw [sP]; unfold updZ; rw [if_pos e]
      have el : upL LV (σ.1 0 46).toNatClampNeg l r = l := if_pos e
      rw [ep, el]
      refine ⟨hl, ?_⟩
      rcases hp with hp | ⟨hp1, hp2, _⟩
      · exact .inl hp
      · have n1 := nN_ hp1.1
        have e2 : p1.toInt.toNat = p1.toNatClampNeg := rfl
        rw [e2, upL_no (by omega)]
        exact .inr ⟨⟨hp1.1, by omega⟩, hp2⟩
    · have ep : tP z5 r = tP σ r := by rw [sP]; unfold updZ; rw [if_neg e]
      rw [ep, upL_no e]
      obtain ⟨a1, a2⟩ := hLV r (by omega)
      refine ⟨a1, ?_⟩
      rcases a2 with a2 | a2
      · exact .inl a2
      · refine .inr ⟨a2.1, ?_⟩
        rw [upL_no (by omega)]
        exact a2.2
  refine OK.ilt (fun h => ?_) (fun h => ?_)
  · refine OK.cret c ⟨rfl, e46', ⟨hTO, hLV5, fun r hr => ?_⟩, e20⟩
    rw [e46', e20, e23]
    unfold upd
    split
    · exact ⟨⟨by omega, by omega⟩, fun _ => by omega⟩
    · obtain ⟨⟨a1, a2⟩, a3⟩ := hH r (by omega)
      exact ⟨⟨a1, by omega⟩, a3⟩
  · have hp' : (0 ≤ p1.toInt ∧ p1.toInt < (σ.1 0 46).toInt) ∧ l = LV p1.toNatClampNeg + 1 ∧ ¬ (σ.1 20 p1.toNatClampNeg).toInt = 5 := by
      rcases hp with hp | hp
      · omega
      · exact hp
    have n1 := nN_ hp'.1.1
    have pv : ¬ p1.toNatClampNeg = (σ.1 0 46).toNatClampNeg := by omega
    have hJ : JP z5 p1 (σ.1 0 46) := by
      refine ⟨hTO, by omega, hp'.1, ?_, fun r hr => ?_⟩
      · rw [sP]; unfold updZ; rw [if_pos rfl]
      · rw [sF, sL, sN]
        by_cases e : r = (σ.1 0 46).toNatClampNeg
        · unfold updZ
          rw [if_pos e, if_pos e, if_pos e]
          omega
        · unfold updZ
          rw [if_neg e, if_neg e, if_neg e]
          obtain ⟨f1, f2, f3⟩ := hT r (by omega)
          omega
    refine OK.bndZ (b_joins p1 (σ.1 0 46) z5 hJ) (fun t ct ht => ?_)
    have et46 : (t.1 0 46).toInt = (σ.1 0 46).toInt + 1 := by rw [ct.2.1 46 (by decide)]; exact e46'
    have et20 : t.1 20 = z5.1 20 := ct.1 20 (by decide) (by decide)
    have et24 : t.1 24 = z5.1 24 := ct.1 24 (by decide) (by decide)
    obtain ⟨⟨b1, b2⟩, _⟩ := hH p1.toNatClampNeg (by omega)
    have hz23 : z5.1 23 p1.toNatClampNeg = σ.1 23 p1.toNatClampNeg := by rw [e23]; exact upd_no pv
    have e9 := il_addE (x := σ.1 23 p1.toNatClampNeg) (y := 1) (by omega) (by omega)
    refine OK.cret (c.trans (ct.mono (by decide) (by decide))) ⟨rfl, et46, ⟨ht.1, ?_, fun r hr => ?_⟩, et20.trans e20⟩
    · unfold tP
      rw [et24, ct.2.1 46 (by decide)]
      exact hLV5
    · rw [et46, et20, ht.2, hz23, e20, e23]
      by_cases e : r = p1.toNatClampNeg
      · rw [e, upd_at, upd_no pv]
        refine ⟨⟨by omega, by omega⟩, fun h5 => absurd h5 hp'.2.2⟩
      · rw [upd_no e]
        by_cases e2 : r = (σ.1 0 46).toNatClampNeg
        · rw [e2, upd_at]
          exact ⟨⟨by omega, by omega⟩, fun _ => by omega⟩
        · rw [upd_no e2, upd_no e2]
          obtain ⟨⟨a1, a2⟩, a3⟩ := hH r (by omega)
          exact ⟨⟨a1, by omega⟩, a3⟩
theorem b_firstOf (p0 : Int32) (σ : ST) {a : Int} {d : Nat} (h : VS σ a d p0) : OK (f_X11_firstOf p0 σ) (RO σ fun v => VS σ a d v ∧ ¬ (σ.1 2 v.toNatClampNeg).toInt = 8) := by
  unfold f_X11_firstOf
  have lt_4 := li_4
  have lt_8 := li_8
  have g := h.rng
  have e1 := mlE (k := 4) (y := p0) 4 li_4 (by omega) (by omega)
  have n1 := nN_ g.1
  have e4 : (4 * p0).toNatClampNeg = 4 * p0.toNatClampNeg + 0 := nC (by omega)
  refine OK.grd g ?_
  refine OK.ieq (fun h8 => ?_) (fun h8 => OK.roret ⟨h, by omega⟩)
  obtain ⟨g1, g2, g3, g4⟩ := h.eit (by omega)
  refine OK.grd ⟨by omega, by omega⟩ ?_
  rw [e4]
  have g5 := g3 0 (by omega)
  have g6 := g5.1.up
  have e5 : d - 1 + 1 = d := by omega
  rw [e5] at g6
  exact OK.roret ⟨g6, g5.2⟩
theorem b_fills (p0 p1 p2 : Int32) (σ : ST) (LV : Nat → Nat) (hN : NL LV σ) (hS : (σ.1 0 46).toInt < 4096) (h19 : ∀ i, bI (σ.1 19 i) 0 12) (hf : 0 ≤ p0.toInt ∧ p0.toInt < 576) {a : Int} (hv : VS σ a 4 (σ.1 15 p0.toNatClampNeg)) (l : Nat) (hl : l ≤ 31) (hp : (0 ≤ p1.toInt ∧ p1.toInt < (σ.1 0 46).toInt) ∧ l = LV p1.toNatClampNeg + 1 ∧ ¬ (σ.1 20 p1.toNatClampNeg).toInt = 5) : OK (f_X11_fills p0 p1 p2 σ) (RZ NC [46] σ fun t => (t.1 0 46).toInt = (σ.1 0 46).toInt + 1 ∧ NL (upL LV (σ.1 0 46).toNatClampNeg l) t ∧ ∀ r : Nat, (r : Int) < (σ.1 0 46).toInt → t.1 20 r = σ.1 20 r) := by
  have lt_0 := li_0
  have h461 := hN.1.1.1
  have nv := nN_ h461
  have key : ∀ (u y0 : Int32), VS σ a 4 u → OK (f_X11_fills_45 p0 u y0 p2 p1 (σ.1 2 u.toNatClampNeg) σ) (RZ NC [46] σ fun t => (t.1 0 46).toInt = (σ.1 0 46).toInt + 1 ∧ NL (upL LV (σ.1 0 46).toNatClampNeg l) t ∧ ∀ r : Nat, (r : Int) < (σ.1 0 46).toInt → t.1 20 r = σ.1 20 r) := fun u y0 hu => by
    unfold f_X11_fills_45
    refine OK.bndC (b_laysNode _ p1 p2 y0 σ LV hN hS l hl (.inr hp)) (fun v t c ht => ?_)
    obtain ⟨t1, t2, t3, t4⟩ := ht
    dsimp only
    subst t1
    have gv : 0 ≤ (σ.1 0 46).toInt ∧ (σ.1 0 46).toInt < 4096 := ⟨by omega, hS⟩
    have h20 : ∀ r : Nat, (r : Int) < (σ.1 0 46).toInt → t.1 20 r = σ.1 20 r := fun r hr => by rw [t4]; exact upd_no (by omega)
    refine OK.grd hf ?_
    refine OK.grd gv ?_
    refine OK.lt (fun z hz => ?_)
    have cz : CH NC [46] σ z := by rw [hz]; exact (c.l (by decide) (by decide) (by decide) (by decide) (by decide)).l (by decide) (by decide) (by decide) (by decide) (by decide)
    have ez : z.1 = t.1 := by rw [hz]; rfl
    have Nz : NL (upL LV (σ.1 0 46).toNatClampNeg l) z := t3.of (by rw [ez]) (by rw [ez]) (by rw [ez]) (by rw [ez]) (by rw [ez]) (by rw [ez]) (by rw [ez]) (by rw [ez])
    have e46 : (z.1 0 46).toInt = (σ.1 0 46).toInt + 1 := by rw [ez]; exact t2
    have k103 : ∀ y : Int32, bI y 0 12 → OK (f_X11_fills_103 (σ.1 0 46) y (σ.1 0 46) z) (RZ NC [46] σ fun t => (t.1 0 46).toInt = (σ.1 0 46).toInt + 1 ∧ NL (upL LV (σ.1 0 46).toNatClampNeg l) t ∧ ∀ r : Nat, (r : Int) < (σ.1 0 46).toInt → t.1 20 r = σ.1 20 r) := fun y hy => by
      unfold f_X11_fills_103
      refine OK.grd gv ?_
      refine OK.grd gv ?_
      refine OK.zret ((cz.i (by decide) (by decide)).i (by decide) (by decide)) ⟨e46, (Nz.has hy (by omega)).of rfl rfl rfl rfl rfl rfl rfl rfl, fun r hr => ?_⟩
      show z.1 20 r = σ.1 20 r
      rw [ez]
      exact h20 r hr
    refine OK.grd hu.rng ?_
    refine OK.ieq (fun _ => k103 _ ?_) (fun _ => k103 _ (bz (by decide) (by decide)))
    rw [cz.1 19 (by decide) (by decide)]
    exact h19 _
  unfold f_X11_fills
  refine OK.grd hf ?_
  refine OK.bndR (b_firstOf _ σ hv) (fun v h => ?_)
  dsimp only
  refine OK.grd h.1.rng ?_
  exact OK.ite (fun _ => key _ _ h.1) (fun _ => key _ _ h.1)
/-! the reference: reading -/
theorem MT.tr {C I : List Nat} {σ t : ST} {w r : Int32} (h : MS σ w r) (c : CH C I σ t) (hC : ∀ c, c ∈ [2, 3, 4, 5, 35] → c ∉ C) : MS t w r := by
  unfold MS
  rw [c.1 2 (by decide) (hC 2 (by decide)), c.1 3 (by decide) (hC 3 (by decide)), c.1 4 (by decide) (hC 4 (by decide)), c.1 5 (by decide) (hC 5 (by decide)), c.1 35 (by decide) (hC 35 (by decide))]
  exact h
theorem PP.ch {C I : List Nat} {σ t : ST} (h : PP σ) (c : CH C I σ t) (hC : ∀ c, c ∈ [2, 3, 4, 5, 8, 11, 15, 19, 35] → c ∉ C) (hI : ∀ i, i ∈ [32, 53, 54] → i ∉ I) : PP t := by
  obtain ⟨rm1, rm2⟩ := rm_ch c (hC 8 (by decide)) (hI 53 (by decide)) (hI 54 (by decide))
  have e35 := c.1 35 (by decide) (hC 35 (by decide))
  have e11 := c.1 11 (by decide) (hC 11 (by decide))
  have e15 := c.1 15 (by decide) (hC 15 (by decide))
  have e54 := c.2.1 54 (hI 54 (by decide))
  have e53 := c.2.1 53 (hI 53 (by decide))
  have hC2 : ∀ c, c ∈ [2, 3, 4, 5, 35] → c ∉ C := fun x hx => hC x ((by decide : ∀ x, x ∈ [2, 3, 4, 5, 35] → x ∈ [2, 3, 4, 5, 8, 11, 15, 19, 35]) x hx)
  refine ⟨h.1.ch c hC hI, ?_, ?_⟩
  · intro k k1 k2
    rw [rm1, rm2]
    rw [e35] at k2
    exact h.2.1 k k1 k2
  · intro w r a1 a2 a3 a4 a5 k f v k1 k2 k3 k4
    rw [e35] at a5
    rw [e11, e54] at k1
    rw [e54] at k2
    have k5 := ff_tr (σ := t) (τ := σ) e53.symm e11.symm c.2.2.2.1.symm c.2.2.2.2.1.symm w f v k3
    have m := h.2.2 w r a1 a2 a3 a4 a5 k f v k1 k2 k5 k4
    rw [e15]
    exact MT.tr m c hC2
abbrev RCs : List Nat := [20, 23, 24, 25, 26, 27, 28, 29, 30, 36, 41]
abbrev RIs : List Nat := [46, 57, 64, 66, 67, 68, 72]
def GX (LV : Nat → Nat) (σ : ST) : Prop := PP σ ∧ RD σ ∧ NL LV σ ∧ (σ.1 0 46).toInt ≤ 400
def GR (LV : Nat → Nat) (σ : ST) (LV' : Nat → Nat) (t : ST) : Prop := CH RCs RIs σ t ∧ GX LV' t ∧ (σ.1 0 46).toInt ≤ (t.1 0 46).toInt ∧ ∀ r : Nat, (r : Int) < (σ.1 0 46).toInt → LV' r = LV r ∧ t.1 20 r = σ.1 20 r
theorem GR.rf {LV : Nat → Nat} {σ : ST} (h : GX LV σ) : GR LV σ LV σ := ⟨CH.rf, h, by omega, fun _ _ => ⟨rfl, rfl⟩⟩
theorem GR.trans {L0 L1 L2 : Nat → Nat} {σ s t : ST} (h : GR L0 σ L1 s) (k : GR L1 s L2 t) : GR L0 σ L2 t := by
  obtain ⟨a1, a2, a3, a4⟩ := h
  obtain ⟨b1, b2, b3, b4⟩ := k
  refine ⟨a1.trans b1, b2, by omega, fun r hr => ?_⟩
  have x := a4 r hr
  have y := b4 r (by omega)
  exact ⟨y.1.trans x.1, y.2.trans x.2⟩
theorem GR.small {LV : Nat → Nat} {σ t : ST} {C I : List Nat} (h : GX LV σ) (c : CH C I σ t) (hC : ∀ c, c ∈ C → c ∈ [36, 41]) (hI : ∀ i, i ∈ I → i ∈ [57, 64, 66, 67, 68, 72]) (hR : RD t) : GR LV σ LV t := by
  have c' : CH [36, 41] [57, 64, 66, 67, 68, 72] σ t := c.mono hC hI
  refine ⟨c'.mono (by decide) (by decide), ⟨h.1.ch c' (by decide) (by decide), hR, h.2.2.1.ch c' (by decide) (by decide), ?_⟩, ?_, fun r hr => ⟨rfl, ?_⟩⟩
  · rw [c'.2.1 46 (by decide)]; exact h.2.2.2
  · rw [c'.2.1 46 (by decide)]; omega
  · rw [c'.1 20 (by decide) (by decide)]
theorem GR.vs {L0 L1 : Nat → Nat} {σ t : ST} (h : GR L0 σ L1 t) : (rmW t = rmW σ ∧ rmR t = rmR σ) ∧ (∀ (a : Int) (d : Nat) (x : Int32), VS σ a d x → VS t a d x) ∧ ∀ w r : Int32, MS σ w r → MS t w r := ⟨rm_ch h.1 (by decide) (by decide) (by decide), fun _ _ _ hx => VT.tr hx h.1 (by decide), fun _ _ hx => MT.tr hx h.1 (by decide)⟩
/-- what reading a value ends with -/
def RK (LV : Nat → Nat) (σ : ST) (b : Prop) (q : Int32 × ST) : Prop := ∃ LV', GR LV σ LV' q.2 ∧ (q.1.toInt = 0 ∧ (σ.1 0 57).toInt ≤ (q.2.1 0 57).toInt ∨ q.1.toInt = 1 ∧ (q.2.1 0 57).toInt = (σ.1 0 57).toInt ∧ (b → (σ.1 0 46).toInt + 1 ≤ (q.2.1 0 46).toInt))
theorem RK.no {LV LV' : Nat → Nat} {σ t : ST} {b : Prop} {v : Int32} (h : GR LV σ LV' t) (hs : (σ.1 0 57).toInt ≤ (t.1 0 57).toInt) (hv : v.toInt = 0) : OK (some (v, t)) (RK LV σ b) := ⟨_, rfl, LV', h, .inl ⟨hv, hs⟩⟩
theorem RK.fail {LV LV' : Nat → Nat} {σ s : ST} {b : Prop} {p0 p1 : Int32} (h : GR LV σ LV' s) (hs : (σ.1 0 57).toInt ≤ (s.1 0 57).toInt) : OK ((f_X11_fails p0 p1 s).bind fun q => if q.1 = 0 ∨ q.1 = 1 then some (q.1, q.2) else none) (RK LV σ b) := by
  refine OK.bndC (RD.fails h.2.1.2.1 CH.rf (C := [41]) (I := [66, 67, 68]) (by decide) (by decide) (by decide) (by decide)) (fun v t c hq => ?_)
  dsimp only
  refine OK.grd (b01 (by omega)) ?_
  exact RK.no (h.trans (GR.small h.2.1 c (by decide) (by decide) hq.2.1)) (by rw [c.2.1 57 (by decide)]; exact hs) hq.1
/-- the reader's type: none, or one that is matched -/
def RR (σ : ST) (w r : Int32) : Prop := r.toInt < 0 ∨ 0 ≤ r.toInt ∧ ∃ e : Nat, e ≤ 4 ∧ VS σ (rmR σ) e r ∧ MS σ w r
/-- the node that has the one to come -/
def PO (LV : Nat → Nat) (σ : ST) (dp p : Int32) : Prop := p.toInt = -1 ∧ dp.toInt = 0 ∨ (0 ≤ p.toInt ∧ p.toInt < (σ.1 0 46).toInt) ∧ (LV p.toNatClampNeg : Int) + 1 = dp.toInt ∧ ¬ (σ.1 20 p.toNatClampNeg).toInt = 5
def SC_ (σ : ST) (dp : Int32) (d : Nat) : Prop := 0 ≤ (σ.1 0 57).toInt ∧ (σ.1 0 57).toInt + d ≤ 5 * dp.toInt + 4
def cReads (N : Nat) (rd : Int32 → Int32 → Int32 → Int32 → Int32 → ST → Option (Int32 × ST)) : Prop := ∀ (w r dp p x : Int32) (σ : ST) (LV : Nat → Nat) (d : Nat), GX LV σ → VS σ (rmW σ) d w → d ≤ 4 → RR σ w r → (0 ≤ dp.toInt ∧ dp.toInt ≤ 31) → (0 ≤ r.toInt → PO LV σ dp p) → SC_ σ dp d → 6 * (32 - dp.toInt) + d ≤ (N : Int) → OK (rd w r dp p x σ) (RK LV σ (0 ≤ r.toInt))
/-- the node whose parts are read: none, or one so deep -/
def NV (LV : Nat → Nat) (σ : ST) (dp v : Int32) : Prop := (0 ≤ v.toInt ∧ v.toInt < (σ.1 0 46).toInt) ∧ (LV v.toNatClampNeg : Int) = dp.toInt ∧ ¬ (σ.1 20 v.toNatClampNeg).toInt = 5
theorem NV.gr {L0 L1 : Nat → Nat} {σ t : ST} {dp v : Int32} (h : NV L0 σ dp v) (g : GR L0 σ L1 t) : NV L1 t dp v := by
  obtain ⟨a1, a2, a3⟩ := h
  obtain ⟨_, _, b3, b4⟩ := g
  have n1 := nN_ a1.1
  have b := b4 v.toNatClampNeg (by omega)
  refine ⟨by omega, by rw [b.1]; exact a2, by rw [b.2]; exact a3⟩
def cItems (N : Nat) (ri : Int32 → Int32 → Int32 → Int32 → ST → Option (Int32 × ST)) : Prop := ∀ (w u dp v : Int32) (σ : ST) (LV : Nat → Nat) (d : Nat), GX LV σ → VS σ (rmW σ) d w → d ≤ 4 → (σ.1 2 w.toNatClampNeg).toInt = 6 → (u.toInt < 0 ∨ 0 ≤ u.toInt ∧ (∃ e : Nat, e ≤ 4 ∧ VS σ (rmR σ) e u ∧ (σ.1 2 u.toNatClampNeg).toInt = 6 ∧ MS σ (σ.1 3 w.toNatClampNeg) (σ.1 3 u.toNatClampNeg)) ∧ NV LV σ dp v) → (0 ≤ dp.toInt ∧ dp.toInt ≤ 30) → SC_ σ dp d → 6 * (32 - dp.toInt) + d ≤ (N : Int) + 1 → OK (ri w u dp v σ) (RK LV σ False)
def cRecd (N : Nat) (rr : Int32 → Int32 → Int32 → Int32 → ST → Option (Int32 × ST)) : Prop := ∀ (w u dp v : Int32) (σ : ST) (LV : Nat → Nat) (d : Nat), GX LV σ → VS σ (rmW σ) d w → d ≤ 4 → (σ.1 2 w.toNatClampNeg).toInt = 7 → (u.toInt < 0 ∨ 0 ≤ u.toInt ∧ (∃ e : Nat, e ≤ 4 ∧ VS σ (rmR σ) e u ∧ (σ.1 2 u.toNatClampNeg).toInt = 7 ∧ ¬ σ.1 35 (6 * (σ.1 3 w.toNatClampNeg).toNatClampNeg + (σ.1 3 u.toNatClampNeg).toNatClampNeg) = 0) ∧ NV LV σ dp v) → (0 ≤ dp.toInt ∧ dp.toInt ≤ 30) → SC_ σ dp d → 6 * (32 - dp.toInt) + d ≤ (N : Int) + 1 → OK (rr w u dp v σ) (RK LV σ False)
theorem GX.enters {LV : Nat → Nat} {σ : ST} (h : GX LV σ) (h0 : 0 ≤ (σ.1 0 57).toInt ∧ (σ.1 0 57).toInt < 200) (p0 : Int32) : OK (f_X11_enters p0 σ) (fun t => GR LV σ LV t ∧ (t.1 0 57).toInt = (σ.1 0 57).toInt + 1) := by
  refine OK.mono (b_enters p0 σ ⟨h0.1, by omega⟩) (fun t ht => ?_)
  obtain ⟨c, e⟩ := ht
  obtain ⟨r1, r2, r3⟩ := h.2.1
  refine ⟨GR.small h c (by decide) (by decide) ⟨?_, ⟨by omega, by omega⟩, ?_⟩, e⟩
  · rw [c.2.1 63 (by decide), c.2.1 64 (by decide), c.2.1 65 (by decide)]; exact r1
  · rw [c.2.1 68 (by decide)]; exact r3
/-- a step back -/
theorem GX.leaves {LV : Nat → Nat} {σ : ST} (h : GX LV σ) (h0 : 1 ≤ (σ.1 0 57).toInt) : GR LV σ LV (stI σ 0 57 (σ.1 0 57 - 1)) ∧ ((stI σ 0 57 (σ.1 0 57 - 1)).1 0 57).toInt = (σ.1 0 57).toInt - 1 := by
  obtain ⟨r1, ⟨r2, r2'⟩, r3⟩ := h.2.1
  have lt_1 := li_1
  have e1 := il_subE (x := σ.1 0 57) (y := 1) (by omega) (by omega)
  refine ⟨GR.small h (C := []) (I := [57]) (CH.rf.o (by decide)) (by decide) (by decide) ⟨r1, ?_, r3⟩, ?_⟩
  · exact ⟨(show 0 ≤ (σ.1 0 57 - 1).toInt by omega), (show (σ.1 0 57 - 1).toInt ≤ 256 by omega)⟩
  · show (σ.1 0 57 - 1).toInt = _
    omega
theorem b_reads_96 {N : Nat} {rd : Int32 → Int32 → Int32 → Int32 → Int32 → ST → Option (Int32 × ST)} {ri rr : Int32 → Int32 → Int32 → Int32 → ST → Option (Int32 × ST)} (hd : cReads N rd) (r dp p x x7 b : Int32) (σ : ST) (LV : Nat → Nat) (d : Nat) (hG : GX LV σ) (hb : VS σ (rmW σ) d b) (hd4 : d ≤ 3) (hr : RR σ b r) (hdp : 0 ≤ dp.toInt ∧ dp.toInt ≤ 31) (hpo : 0 ≤ r.toInt → PO LV σ dp p) (hs : SC_ σ dp (d + 1)) (hN : 6 * (32 - dp.toInt) + d ≤ (N : Int)) : OK (f_X11_reads_96 rd ri rr r dp p x x7 b σ) (RK LV σ (0 ≤ r.toInt)) := by
  unfold f_X11_reads_96
  obtain ⟨s1, s2⟩ := hs
  refine OK.bnd (hG.enters ⟨s1, by omega⟩ _) (fun t ht => ?_)
  obtain ⟨g, e⟩ := ht
  obtain ⟨⟨g1, g2⟩, g3, g4⟩ := g.vs
  have hr' : RR t b r := by
    rcases hr with hr | ⟨h0, e', h1, h2, h3⟩
    · exact .inl hr
    · exact .inr ⟨h0, e', h1, by rw [g2]; exact g3 _ _ _ h2, g4 _ _ h3⟩
  have hpo' : 0 ≤ r.toInt → PO LV t dp p := fun h => by
    rcases hpo h with h | ⟨a1, a2, a3⟩
    · exact .inl h
    · have n1 := nN_ a1.1
      have b := g.2.2.2 p.toNatClampNeg (by omega)
      have := g.2.2.1
      exact .inr ⟨by omega, a2, by rw [b.2]; exact a3⟩
  refine OK.bnd (hd b r dp p x t LV d g.2.1 (by rw [g1]; exact g3 _ _ _ hb) (by omega) hr' hdp hpo' ⟨by omega, by omega⟩ hN) (fun q hq => ?_)
  obtain ⟨LV', gq, hv⟩ := hq
  have hv2 : q.1.toInt = 0 ∨ q.1.toInt = 1 := by omega
  refine OK.grd (b01 hv2) ?_
  rcases hv with ⟨hv, hv5⟩ | ⟨hv, hv5, hv6⟩
  · obtain ⟨gl, el⟩ := gq.2.1.leaves (by omega)
    exact RK.no ((g.trans gq).trans gl) (by rw [el]; omega) hv
  · obtain ⟨gl, el⟩ := gq.2.1.leaves (by omega)
    refine ⟨_, rfl, LV', (g.trans gq).trans gl, .inr ⟨hv, ?_, fun hb => ?_⟩⟩
    · show ((stI q.2 0 57 (q.2.1 0 57 - 1)).1 0 57).toInt = _
      omega
    · have := hv6 hb
      have := g.2.2.1
      show (σ.1 0 46).toInt + 1 ≤ (q.2.1 0 46).toInt
      omega
theorem b_reads_227 {N : Nat} {rd : Int32 → Int32 → Int32 → Int32 → Int32 → ST → Option (Int32 × ST)} {ri rr : Int32 → Int32 → Int32 → Int32 → ST → Option (Int32 × ST)} (hi : cItems N ri) (hrr : cRecd N rr) (w dp u v : Int32) (σ : ST) (LV : Nat → Nat) (d : Nat) (hG : GX LV σ) (hw : VS σ (rmW σ) d w) (hd4 : d ≤ 4) (hw8 : ¬ (σ.1 2 w.toNatClampNeg).toInt = 8) (hu : u.toInt < 0 ∧ v.toInt = -1 ∨ 0 ≤ u.toInt ∧ (∃ e : Nat, e ≤ 4 ∧ VS σ (rmR σ) e u ∧ ¬ (σ.1 2 u.toNatClampNeg).toInt = 8 ∧ MS σ w u) ∧ (0 ≤ v.toInt ∧ v.toInt < (σ.1 0 46).toInt) ∧ (LV v.toNatClampNeg : Int) = dp.toInt ∧ σ.1 20 v.toNatClampNeg = σ.1 2 u.toNatClampNeg) (hdp : 0 ≤ dp.toInt ∧ dp.toInt ≤ 30) (hs : SC_ σ dp d) (hN : 6 * (32 - dp.toInt) + d ≤ (N : Int) + 1) : OK (f_X11_reads_227 rd ri rr w dp u v σ) (RK LV σ False) := by
  unfold f_X11_reads_227
  have lt_6 := li_6
  have lt_7 := li_7
  have lm := li_m1
  have fin : ∀ o : Option (Int32 × ST), OK o (RK LV σ False) → OK (o.bind fun q => if q.1 = 0 ∨ q.1 = 1 then some (q.1, q.2) else none) (RK LV σ False) := fun o ho => by
    refine OK.bnd ho (fun q hq => ?_)
    have hq' := hq
    obtain ⟨LV', g, h⟩ := hq
    exact OK.grd (b01 (by omega)) (OK.ret hq')
  refine OK.grd hw.rng ?_
  refine OK.ieq (fun h6 => fin _ ?_) (fun h6 => ?_)
  · refine hi w u dp v σ LV d hG hw hd4 (by omega) ?_ hdp hs (by omega)
    rcases hu with hu | ⟨h0, ⟨e, e1, e2, e3, e4⟩, a1, a2, a3⟩
    · exact .inl hu.1
    · have m := MT.lst e4 e3 (by omega)
      exact .inr ⟨h0, ⟨e, e1, e2, m.1, m.2⟩, a1, a2, by rw [a3]; have := m.1; omega⟩
  refine OK.ieq (fun h7 => fin _ ?_) (fun h7 => ?_)
  · refine hrr w u dp v σ LV d hG hw hd4 (by omega) ?_ hdp hs (by omega)
    rcases hu with hu | ⟨h0, ⟨e, e1, e2, e3, e4⟩, a1, a2, a3⟩
    · exact .inl hu.1
    · have m := MT.rcd e4 e3 (by omega)
      exact .inr ⟨h0, ⟨e, e1, e2, m.1, m.2⟩, a1, a2, by rw [a3]; have := m.1; omega⟩
  · have h400 := hG.2.2.2
    refine OK.bndC (b_readsLeaf w u v σ hG.2.1 hw.rng ?_) (fun x t c hq => ?_)
    · rcases hu with hu | ⟨h0, ⟨e, e1, e2, e3, e4⟩, a1, a2, a3⟩
      · exact .inl (by omega)
      · exact .inr ⟨e2.rng, by omega⟩
    dsimp only
    obtain ⟨hR, hx, h23⟩ := hq
    refine OK.grd (b01 hx) ?_
    have e57 : (t.1 0 57).toInt = (σ.1 0 57).toInt := by rw [c.2.1 57 (by decide)]
    have e46 : t.1 0 46 = σ.1 0 46 := c.2.1 46 (by decide)
    have e20 : t.1 20 = σ.1 20 := c.1 20 (by decide) (by decide)
    have hN : NL LV t := by
      rcases h23 with h23 | ⟨_, y, hy, h23⟩
      · exact hG.2.2.1.of e46 e20 h23 (c.1 24 (by decide) (by decide)) (c.1 25 (by decide) (by decide)) (c.1 28 (by decide) (by decide)) (c.1 29 (by decide) (by decide)) (c.1 30 (by decide) (by decide))
      · exact (hG.2.2.1.has (v := v.toNatClampNeg) hy hG.2.2.1.1.1.1).of e46 e20 h23 (c.1 24 (by decide) (by decide)) (c.1 25 (by decide) (by decide)) (c.1 28 (by decide) (by decide)) (c.1 29 (by decide) (by decide)) (c.1 30 (by decide) (by decide))
    have g : GR LV σ LV t := ⟨c.mono (by decide) (by decide), ⟨hG.1.ch c (by decide) (by decide), hR, hN, by rw [e46]; exact h400⟩, by rw [e46]; omega, fun r hr => ⟨rfl, by rw [e20]⟩⟩
    refine OK.ret ⟨LV, g, ?_⟩
    rcases hx with hx | hx
    · exact .inl ⟨hx, Int.le_of_eq e57.symm⟩
    · exact .inr ⟨hx, e57, fun h => h.elim⟩
theorem RK.up {LV LV' : Nat → Nat} {σ s : ST} {b : Prop} {o : Option (Int32 × ST)} (g : GR LV σ LV' s) (e57 : (s.1 0 57).toInt = (σ.1 0 57).toInt) (hb : b → (σ.1 0 46).toInt + 1 ≤ (s.1 0 46).toInt) (h : OK o (RK LV' s False)) : OK o (RK LV σ b) := by
  refine OK.mono h (fun q hq => ?_)
  obtain ⟨L2, g2, h2⟩ := hq
  refine ⟨L2, g.trans g2, ?_⟩
  rcases h2 with h2 | h2
  · exact .inl ⟨h2.1, by omega⟩
  · have := g2.2.2.1
    exact .inr ⟨h2.1, by omega, fun hb' => by have := hb hb'; omega⟩
theorem b_reads_180 {N : Nat} {rd : Int32 → Int32 → Int32 → Int32 → Int32 → ST → Option (Int32 × ST)} {ri rr : Int32 → Int32 → Int32 → Int32 → ST → Option (Int32 × ST)} (hi : cItems N ri) (hrr : cRecd N rr) (w dp p x c u : Int32) (b : Prop) (σ : ST) (LV : Nat → Nat) (d : Nat) (hG : GX LV σ) (hw : VS σ (rmW σ) d w) (hd4 : d ≤ 4) (hw8 : ¬ (σ.1 2 w.toNatClampNeg).toInt = 8) (hu : u.toInt < 0 ∧ ¬ b ∨ 0 ≤ u.toInt ∧ (∃ e : Nat, e ≤ 4 ∧ VS σ (rmR σ) e u ∧ ¬ (σ.1 2 u.toNatClampNeg).toInt = 8 ∧ MS σ w u) ∧ PO LV σ dp p) (hdp : 0 ≤ dp.toInt ∧ dp.toInt ≤ 30) (hs : SC_ σ dp d) (hN : 6 * (32 - dp.toInt) + d ≤ (N : Int) + 1) : OK (f_X11_reads_180 rd ri rr w dp p x c u σ) (RK LV σ b) := by
  unfold f_X11_reads_180
  have lt_0 := li_0
  have lm := li_m1
  have lt_400 := li_400
  have h400 := hG.2.2.2
  have h460 := hG.2.2.1.1.1.1
  refine OK.ilt (fun h => ?_) (fun h => ?_)
  · refine RK.up (GR.rf hG) rfl (fun hb => ?_) (b_reads_227 hi hrr w dp u (-1) σ LV d hG hw hd4 hw8 (.inl ⟨by omega, by omega⟩) hdp hs hN)
    rcases hu with hu | hu
    · exact absurd hb hu.2
    · omega
  have hu' : (∃ e : Nat, e ≤ 4 ∧ VS σ (rmR σ) e u ∧ ¬ (σ.1 2 u.toNatClampNeg).toInt = 8 ∧ MS σ w u) ∧ PO LV σ dp p := by
    rcases hu with hu | hu
    · omega
    · exact hu.2
  obtain ⟨⟨e, e1, e2, e3, e4⟩, hpo⟩ := hu'
  refine OK.ieq (fun _ => RK.fail (GR.rf hG) (by omega)) (fun hne => ?_)
  refine OK.grd e2.rng ?_
  refine OK.bndC (b_laysNode _ p x c σ LV hG.2.2.1 (by omega) dp.toInt.toNat (by omega) ?_) (fun v t ct ht => ?_)
  · rcases hpo with hpo | hpo
    · exact .inl ⟨hpo.1, by omega⟩
    · exact .inr ⟨hpo.1, by omega, hpo.2.2⟩
  obtain ⟨t1, t2, t3, t4⟩ := ht
  dsimp only
  subst t1
  have nv := nN_ h460
  have c' : CH RCs RIs σ t := ct.mono (by decide) (by decide)
  have hR : RD t := hG.2.1.of (ct.2.1 57 (by decide)) (ct.2.1 63 (by decide)) (ct.2.1 64 (by decide)) (ct.2.1 65 (by decide)) (by rw [ct.2.1 68 (by decide)]; exact hG.2.1.2.2)
  have g : GR LV σ (upL LV (σ.1 0 46).toNatClampNeg dp.toInt.toNat) t := by
    refine ⟨c', ⟨hG.1.ch ct (by decide) (by decide), hR, t3, by omega⟩, by omega, fun r hr => ⟨upL_no (by omega), ?_⟩⟩
    rw [t4]
    exact upd_no (by omega)
  obtain ⟨⟨g1, g2⟩, g3, g4⟩ := g.vs
  have e57 : (t.1 0 57).toInt = (σ.1 0 57).toInt := by rw [ct.2.1 57 (by decide)]
  have es2 : t.1 2 = σ.1 2 := ct.1 2 (by decide) (by decide)
  refine RK.up g e57 (fun _ => by omega) (b_reads_227 hi hrr w dp u (σ.1 0 46) t _ d g.2.1 (by rw [g1]; exact g3 _ _ _ hw) hd4 (by rw [es2]; exact hw8) (.inr ⟨by omega, ⟨e, e1, by rw [g2]; exact g3 _ _ _ e2, by rw [es2]; exact e3, g4 _ _ e4⟩, ⟨h460, by omega⟩, ?_, ?_⟩) hdp ⟨by rw [e57]; exact hs.1, by rw [e57]; exact hs.2⟩ hN)
  · rw [upL_at]
    omega
  · rw [t4, es2]
    exact upd_at
theorem b_reads_top {N : Nat} {rd : Int32 → Int32 → Int32 → Int32 → Int32 → ST → Option (Int32 × ST)} {ri rr : Int32 → Int32 → Int32 → Int32 → ST → Option (Int32 × ST)} (hrd : cReads N rd) (hi : cItems N ri) (hrr : cRecd N rr) : cReads (N + 1) (f_X11_reads rd ri rr) := by
  intro w r dp p x σ LV d hG hw hd4 hr hdp hpo hs hN
  unfold f_X11_reads
  have lt_0 := li_0
  have lt_1 := li_1
  have lt_4 := li_4
  have lt_8 := li_8
  have lt_31 := li_31
  have lm := li_m1
  have l0 := l64_0
  have l1 := l64_1
  have gw := hw.rng
  refine OK.ilt (fun h31 => ?_) (fun h31 => RK.fail (GR.rf hG) (by omega))
  refine OK.grd gw ?_
  refine OK.ieq (fun h8 => ?_) (fun h8 => ?_)
  · obtain ⟨k1, k2, k3, k4⟩ := hw.eit (by omega)
    have em := i64 (σ.1 4 w.toNatClampNeg)
    have em1 : ((σ.1 4 w.toNatClampNeg).toInt64 - 1).toInt = (σ.1 4 w.toNatClampNeg).toInt - 1 := by
      rw [Int64.toInt_sub, em, l1]
      obtain ⟨k, hk⟩ : ∃ k : Int, ((σ.1 4 w.toNatClampNeg).toInt - 1).bmod (2 ^ 64) = (σ.1 4 w.toNatClampNeg).toInt - 1 + 18446744073709551616 * k := ⟨-((σ.1 4 w.toNatClampNeg).toInt - 1).bdiv (2 ^ 64), by have := Int.bmod_add_bdiv ((σ.1 4 w.toNatClampNeg).toInt - 1) (2 ^ 64); omega⟩
      have h1 := Int.le_bmod (x := (σ.1 4 w.toNatClampNeg).toInt - 1) (m := 2 ^ 64) (by decide)
      have h2 := Int.bmod_lt (x := (σ.1 4 w.toNatClampNeg).toInt - 1) (m := 2 ^ 64) (by decide)
      omega
    refine OK.bndC (b_readsInt _ _ _ σ hG.2.1) (fun v t c hq => ?_)
    dsimp only
    have g : GR LV σ LV t := GR.small hG c (by decide) (by decide) hq.1
    have e57 : (t.1 0 57).toInt = (σ.1 0 57).toInt := by rw [c.2.1 57 (by decide)]
    refine OK.ieq (fun _ => RK.no g (by omega) (by omega)) (fun hv => ?_)
    have hk : 0 ≤ (t.2.1 0 70).toInt ∧ (t.2.1 0 70).toInt ≤ (σ.1 4 w.toNatClampNeg).toInt - 1 := by omega
    have ek := i32s hk.1 (by omega)
    generalize (t.2.1 0 70).toInt32 = kk at ek ⊢
    have a1 := mlE (k := 4) (y := w) 4 li_4 (by omega) (by omega)
    have a2 := il_addE (x := 4 * w) (y := kk) (by omega) (by omega)
    have n1 := nN_ gw.1
    have n2 := nN_ (x := kk) (by omega)
    have e4 : (4 * w + kk).toNatClampNeg = 4 * w.toNatClampNeg + kk.toNatClampNeg := nC (by omega)
    refine OK.grd ⟨by omega, by omega⟩ ?_
    rw [e4]
    obtain ⟨⟨g1, g2⟩, g3, g4⟩ := g.vs
    have e5 : t.1 5 = σ.1 5 := c.1 5 (by decide) (by decide)
    have hB : VS t (rmW t) (d - 1) (t.1 5 (4 * w.toNatClampNeg + kk.toNatClampNeg)) := by
      rw [e5, g1]
      exact g3 _ _ _ (k3 _ (by omega)).1
    have hpo' : 0 ≤ r.toInt → PO LV t dp p := fun h => by
      rcases hpo h with h | ⟨a1, a2, a3⟩
      · exact .inl h
      · have n1 := nN_ a1.1
        have b := g.2.2.2 p.toNatClampNeg (by omega)
        have := g.2.2.1
        exact .inr ⟨by omega, a2, by rw [b.2]; exact a3⟩
    have hs' : SC_ t dp (d - 1 + 1) := ⟨by rw [e57]; exact hs.1, by have := hs.2; omega⟩
    have e46 : (t.1 0 46).toInt = (σ.1 0 46).toInt := by rw [c.2.1 46 (by decide)]
    have up : ∀ o : Option (Int32 × ST), OK o (RK LV t (0 ≤ r.toInt)) → OK o (RK LV σ (0 ≤ r.toInt)) := fun o ho => by
      refine OK.mono ho (fun q hq => ?_)
      obtain ⟨L2, h1, h2⟩ := hq
      refine ⟨L2, g.trans h1, ?_⟩
      rcases h2 with h2 | ⟨h2, h3, h4⟩
      · exact .inl ⟨h2.1, by omega⟩
      · exact .inr ⟨h2, by omega, fun hb => by have := h4 hb; omega⟩
    refine OK.ilt (fun hr0 => ?_) (fun hr0 => ?_)
    · exact up _ (b_reads_96 hrd r dp p x _ _ t LV (d - 1) g.2.1 hB (by omega) (.inl (by omega)) hdp hpo' hs' (by omega))
    · have hr' : ∃ e : Nat, e ≤ 4 ∧ VS σ (rmR σ) e r ∧ MS σ w r := by
        rcases hr with hr | hr
        · omega
        · exact hr.2
      obtain ⟨e, e1, e2, e3⟩ := hr'
      have r2 : VS t (rmR t) e r := by rw [g2]; exact g3 _ _ _ e2
      obtain ⟨_, _, b3, b4⟩ := g.2.1.1.1.w
      refine OK.bndR (bT_match _ r t (by omega) (by omega) g.2.1.1.1.2.2 hB r2 (by omega) (by omega)) (fun m hm => ?_)
      dsimp only
      refine OK.ieq (fun _ => up _ (RK.fail (GR.rf g.2.1) (by omega))) (fun hm0 => ?_)
      refine up _ (b_reads_96 hrd r dp p x _ _ t LV (d - 1) g.2.1 hB (by omega) (.inr ⟨by omega, e, e1, r2, ?_⟩) hdp hpo' hs' (by omega))
      rcases hm with hm | hm
      · omega
      · exact hm.2
  · have hw8 : ¬ (σ.1 2 w.toNatClampNeg).toInt = 8 := by omega
    unfold f_X11_reads_157 f_X11_reads_158
    refine OK.ilt (fun hr0 => ?_) (fun hr0 => ?_)
    · refine OK.ile (fun h9 => by omega) (fun _ => ?_)
      exact b_reads_180 hi hrr w dp p x _ r _ σ LV d hG hw hd4 hw8 (.inl ⟨by omega, by omega⟩) (by omega) hs (by omega)
    have hr' : ∃ e : Nat, e ≤ 4 ∧ VS σ (rmR σ) e r ∧ MS σ w r := by
      rcases hr with hr | hr
      · omega
      · exact hr.2
    obtain ⟨e, e1, e2, e3⟩ := hr'
    obtain ⟨_, _, b3, b4⟩ := hG.1.1.w
    have gr := e2.rng
    refine OK.grd gr ?_
    refine OK.ieq (fun h9 => ?_) (fun h9 => ?_)
    · obtain ⟨k1, k2, k3, k4⟩ := e2.eit (by omega)
      obtain ⟨kk, kk1, kk2⟩ := (MT.iffR hw8 (by omega)).mp e3
      refine OK.bndR (bT_chosen w r σ (by omega) (by omega) hG.1.1.2.2 hw e2 (by omega) (by omega) (by omega)) (fun v hv => ?_)
      dsimp only
      have hv' : (0 ≤ v.toInt ∧ v.toInt < (σ.1 4 r.toNatClampNeg).toInt) ∧ MS σ w (σ.1 5 (4 * r.toNatClampNeg + v.toNatClampNeg)) := by
        rcases hv with hv | hv
        · exact absurd kk2 (hv.2 kk kk1)
        · exact hv
      have a1 := mlE (k := 4) (y := r) 4 li_4 (by omega) (by omega)
      have a2 := il_addE (x := 4 * r) (y := v) (by omega) (by omega)
      have n1 := nN_ gr.1
      have n2 := nN_ hv'.1.1
      have e4 : (4 * r + v).toNatClampNeg = 4 * r.toNatClampNeg + v.toNatClampNeg := nC (by omega)
      refine OK.ile (fun _ => ?_) (fun h => by omega)
      refine OK.grd ⟨by omega, by omega⟩ ?_
      rw [e4]
      have hk := k3 v.toNatClampNeg (by omega)
      have gk := hk.1.rng
      exact b_reads_180 hi hrr w dp p x _ _ _ σ LV d hG hw hd4 hw8 (.inr ⟨gk.1, ⟨e - 1, by omega, hk.1, hk.2, hv'.2⟩, hpo (by omega)⟩) (by omega) hs (by omega)
    · refine OK.ile (fun h9 => by omega) (fun _ => ?_)
      exact b_reads_180 hi hrr w dp p x _ r _ σ LV d hG hw hd4 hw8 (.inr ⟨by omega, ⟨e, e1, e2, by omega, e3⟩, hpo (by omega)⟩) (by omega) hs (by omega)
/-! the reference: reading lists and records -/
def UI (LV : Nat → Nat) (σ : ST) (w u dp v : Int32) : Prop := u.toInt < 0 ∨ 0 ≤ u.toInt ∧ (∃ e : Nat, e ≤ 4 ∧ VS σ (rmR σ) e u ∧ (σ.1 2 u.toNatClampNeg).toInt = 6 ∧ MS σ (σ.1 3 w.toNatClampNeg) (σ.1 3 u.toNatClampNeg)) ∧ NV LV σ dp v
theorem UI.gr {L0 L1 : Nat → Nat} {σ t : ST} {w u dp v : Int32} (h : UI L0 σ w u dp v) (g : GR L0 σ L1 t) : UI L1 t w u dp v := by
  obtain ⟨⟨g1, g2⟩, g3, g4⟩ := g.vs
  rcases h with h | ⟨h0, ⟨e, e1, e2, e3, e4⟩, h2⟩
  · exact .inl h
  · refine .inr ⟨h0, ⟨e, e1, by rw [g2]; exact g3 _ _ _ e2, by rw [g.1.1 2 (by decide) (by decide)]; exact e3, ?_⟩, h2.gr g⟩
    rw [g.1.1 3 (by decide) (by decide)]
    exact g4 _ _ e4
theorem b_items_27 {N : Nat} {rd : Int32 → Int32 → Int32 → Int32 → Int32 → ST → Option (Int32 × ST)} {ri rr : Int32 → Int32 → Int32 → Int32 → ST → Option (Int32 × ST)} (hrd : cReads N rd) (w u dp v x5 : Int32) (d : Nat) (hd4 : d ≤ 4) (h5 : x5.toInt ≤ 200) (hdp : 0 ≤ dp.toInt ∧ dp.toInt ≤ 30) (hN : 6 * (32 - dp.toInt) + d ≤ (N : Int) + 2) : ∀ (n : Nat) (x6 : Int32) (σ : ST) (LV : Nat → Nat), GX LV σ → VS σ (rmW σ) d w → (σ.1 2 w.toNatClampNeg).toInt = 6 → UI LV σ w u dp v → SC_ σ dp d → (0 ≤ x6.toInt ∧ x6.toInt ≤ 200 ∧ (200 : Int) - x6.toInt < n) → OK (f_X11_readsItems_27 rd ri rr n w u dp v x5 x6 σ) (RK LV σ False) := by
  intro n
  induction n with
  | zero => intro x6 σ LV h1 h2 h3 h4 h5 h6; omega
  | succ n ih =>
    intro x6 σ LV hG hw hs6 hu hs h6
    rw [f_X11_readsItems_27]
    have lt_0 := li_0
    have lt_1 := li_1
    have lm := li_m1
    have gw := hw.rng
    obtain ⟨l1, l2⟩ := hw.lst hs6
    have a6 := il_addE (x := x6) (y := 1) (by omega) (by omega)
    have ad := il_addE (x := dp) (y := 1) (by omega) (by omega)
    obtain ⟨s1, s2⟩ := hs
    refine OK.ile (fun _ => OK.ret ⟨LV, GR.rf hG, .inr ⟨by omega, rfl, fun h => h.elim⟩⟩) (fun h => ?_)
    refine OK.bnd (hG.enters ⟨s1, by omega⟩ _) (fun t ht => ?_)
    obtain ⟨g, e57⟩ := ht
    obtain ⟨⟨g1, g2⟩, g3, g4⟩ := g.vs
    have e3 : t.1 3 = σ.1 3 := g.1.1 3 (by decide) (by decide)
    have e2 : t.1 2 = σ.1 2 := g.1.1 2 (by decide) (by decide)
    refine OK.grd gw ?_
    have k64 : ∀ y0 : Int32, RR t (t.1 3 w.toNatClampNeg) y0 → (0 ≤ y0.toInt → PO LV t (dp + 1) v) → OK (f_X11_readsItems_64 rd ri rr (f_X11_readsItems_27 rd ri rr n) w u dp v x5 x6 y0 (t.1 3 w.toNatClampNeg) t) (RK LV σ False) := fun y0 hy hp => by
      unfold f_X11_readsItems_64
      refine OK.bnd (hrd _ y0 (dp + 1) v x6 t LV (d - 1) g.2.1 (by rw [g1, e3]; exact g3 _ _ _ l2) (by omega) hy (by omega) hp ⟨by omega, by omega⟩ (by omega)) (fun q hq => ?_)
      obtain ⟨L2, gq, hv⟩ := hq
      refine OK.ieq (fun h0 => ?_) (fun h0 => ?_)
      · rcases hv with hv | hv
        · exact RK.no (g.trans gq) (by omega) (by omega)
        · omega
      · have hv' : (q.2.1 0 57).toInt = (t.1 0 57).toInt := by omega
        obtain ⟨gl, el⟩ := gq.2.1.leaves (by omega)
        have gg := (g.trans gq).trans gl
        obtain ⟨⟨f1, f2⟩, f3, f4⟩ := gg.vs
        refine RK.up gg (by omega) (fun h => h.elim) (ih (x6 + 1) _ L2 gg.2.1 (by rw [f1]; exact f3 _ _ _ hw) (by rw [gg.1.1 2 (by decide) (by decide)]; exact hs6) (hu.gr gg) ⟨by omega, by omega⟩ (by omega))
    rcases hu.gr g with hu' | ⟨h0, ⟨e, e1, e2', e3', e4⟩, hv⟩
    · refine OK.ile (fun h9 => by omega) (fun _ => ?_)
      exact k64 _ (.inl (by omega)) (fun h9 => by omega)
    · refine OK.ile (fun _ => ?_) (fun h9 => by omega)
      refine OK.grd e2'.rng ?_
      have m := e2'.lst e3'
      exact k64 _ (.inr ⟨m.2.rng.1, e - 1, by omega, m.2, e4⟩) (fun _ => .inr ⟨hv.1, by have := hv.2.1; omega, hv.2.2⟩)
theorem b_items_top {N : Nat} {rd : Int32 → Int32 → Int32 → Int32 → Int32 → ST → Option (Int32 × ST)} {ri rr : Int32 → Int32 → Int32 → Int32 → ST → Option (Int32 × ST)} (hrd : cReads N rd) : cItems (N + 1) (f_X11_readsItems rd ri rr) := by
  intro w u dp v σ LV d hG hw hd4 hs6 hu hdp hs hN
  unfold f_X11_readsItems
  have lt_0 := li_0
  have lu := FUi
  have l0 := l64_0
  have l200 := l64_200
  refine OK.bndC (b_readsInt _ _ _ σ hG.2.1) (fun x t c hq => ?_)
  dsimp only
  have g : GR LV σ LV t := GR.small hG c (by decide) (by decide) hq.1
  have e57 : (t.1 0 57).toInt = (σ.1 0 57).toInt := by rw [c.2.1 57 (by decide)]
  refine OK.ieq (fun _ => RK.no g (by omega) (by omega)) (fun hv => ?_)
  have hk : 0 ≤ (t.2.1 0 70).toInt ∧ (t.2.1 0 70).toInt ≤ 200 := by omega
  have ek := i32s hk.1 (by omega)
  obtain ⟨⟨g1, g2⟩, g3, g4⟩ := g.vs
  have hu' : UI LV σ w u dp v := hu
  exact RK.up g e57 (fun h => h.elim) (b_items_27 hrd w u dp v _ d hd4 (by omega) hdp (by omega) FU 0 t LV g.2.1 (by rw [g1]; exact g3 _ _ _ hw) (by rw [g.1.1 2 (by decide) (by decide)]; exact hs6) (hu'.gr g) ⟨by rw [e57]; exact hs.1, by rw [e57]; exact hs.2⟩ (by omega))
def UR (LV : Nat → Nat) (σ : ST) (w u dp v x6 : Int32) : Prop := u.toInt < 0 ∨ 0 ≤ u.toInt ∧ (∃ e : Nat, e ≤ 4 ∧ VS σ (rmR σ) e u ∧ (σ.1 2 u.toNatClampNeg).toInt = 7 ∧ ¬ σ.1 35 (6 * (σ.1 3 w.toNatClampNeg).toNatClampNeg + (σ.1 3 u.toNatClampNeg).toNatClampNeg) = 0) ∧ NV LV σ dp v ∧ x6.toInt = 6 * (σ.1 0 54).toInt + (σ.1 3 u.toNatClampNeg).toInt
/-- a record is read: the writer's type, the reader's one or none, where the fields lie -/
def RB (LV : Nat → Nat) (σ : ST) (w u dp v x5 x6 : Int32) (d : Nat) : Prop := GX LV σ ∧ (VS σ (rmW σ) d w ∧ d ≤ 4 ∧ (σ.1 2 w.toNatClampNeg).toInt = 7 ∧ x5.toInt = 6 * (σ.1 0 53).toInt + (σ.1 3 w.toNatClampNeg).toInt) ∧ UR LV σ w u dp v x6 ∧ (0 ≤ dp.toInt ∧ dp.toInt ≤ 30) ∧ SC_ σ dp d
theorem RB.gr {L0 L1 : Nat → Nat} {σ t : ST} {w u dp v x5 x6 : Int32} {d : Nat} (h : RB L0 σ w u dp v x5 x6 d) (g : GR L0 σ L1 t) (e57 : (t.1 0 57).toInt = (σ.1 0 57).toInt) : RB L1 t w u dp v x5 x6 d := by
  obtain ⟨h1, ⟨h2, h3, h4, h5⟩, h6, h7, h8⟩ := h
  obtain ⟨⟨g1, g2⟩, g3, g4⟩ := g.vs
  have e2 : t.1 2 = σ.1 2 := g.1.1 2 (by decide) (by decide)
  have e3 : t.1 3 = σ.1 3 := g.1.1 3 (by decide) (by decide)
  have e35 : t.1 35 = σ.1 35 := g.1.1 35 (by decide) (by decide)
  have e53 : t.1 0 53 = σ.1 0 53 := g.1.2.1 53 (by decide)
  have e54 : t.1 0 54 = σ.1 0 54 := g.1.2.1 54 (by decide)
  refine ⟨g.2.1, ⟨by rw [g1]; exact g3 _ _ _ h2, h3, by rw [e2]; exact h4, by rw [e53, e3]; exact h5⟩, ?_, h7, ⟨by rw [e57]; exact h8.1, by rw [e57]; exact h8.2⟩⟩
  rcases h6 with h6 | ⟨a0, ⟨e, a1, a2, a3, a4⟩, a5, a6⟩
  · exact .inl h6
  · exact .inr ⟨a0, ⟨e, a1, by rw [g2]; exact g3 _ _ _ a2, by rw [e2]; exact a3, by rw [e35, e3]; exact a4⟩, a5.gr g, by rw [e54, e3]; exact a6⟩
/-- the writer's record -/
theorem RB.wr {LV : Nat → Nat} {σ : ST} {w u dp v x5 x6 : Int32} {d : Nat} (h : RB LV σ w u dp v x5 x6 d) : wrec σ (σ.1 3 w.toNatClampNeg) ∧ (0 ≤ x5.toInt ∧ x5.toInt < 36) ∧ bI (σ.1 11 x5.toNatClampNeg) 0 8 ∧ ∀ k : Nat, (k : Int) < (σ.1 11 x5.toNatClampNeg).toInt → VS σ (rmW σ) 4 (σ.1 15 (8 * x5.toNatClampNeg + k)) := by
  obtain ⟨h1, ⟨h2, h3, h4, h5⟩, h6, h7, h8⟩ := h
  have hw : wrec σ (σ.1 3 w.toNatClampNeg) := h2.rcd h4
  obtain ⟨b1, b2, b3, b4⟩ := h1.1.1.w
  have w1 := hw.1
  have w2 : (σ.1 3 w.toNatClampNeg).toInt < rmW σ := hw.2
  have b11 := b1.1
  have b12 := b1.2
  have n1 := nN_ b11
  have n2 := nN_ w1
  have e5 : x5.toNatClampNeg = 6 * (σ.1 0 53).toNatClampNeg + (σ.1 3 w.toNatClampNeg).toNatClampNeg := nC (by omega)
  have wf := h1.1.1.wf hw
  rw [← e5] at wf
  exact ⟨hw, by omega, wf.1, wf.2⟩
theorem RB.rr {LV : Nat → Nat} {σ : ST} {w u dp v x5 x6 : Int32} {d : Nat} (h : RB LV σ w u dp v x5 x6 d) (hu : 0 ≤ u.toInt) : rrec σ (σ.1 3 u.toNatClampNeg) ∧ (0 ≤ x6.toInt ∧ x6.toInt < 36) ∧ bI (σ.1 11 x6.toNatClampNeg) 0 8 ∧ (∀ k : Nat, (k : Int) < (σ.1 11 x6.toNatClampNeg).toInt → VS σ (rmR σ) 4 (σ.1 15 (8 * x6.toNatClampNeg + k))) ∧ HO σ (σ.1 3 w.toNatClampNeg) (σ.1 3 u.toNatClampNeg) ∧ NV LV σ dp v ∧ x6.toNatClampNeg = 6 * (σ.1 0 54).toNatClampNeg + (σ.1 3 u.toNatClampNeg).toNatClampNeg ∧ x6.toInt = 6 * (σ.1 0 54).toInt + (σ.1 3 u.toNatClampNeg).toInt := by
  obtain ⟨hw, _⟩ := h.wr
  obtain ⟨h1, ⟨h2, h3, h4, h5⟩, h6, h7, h8⟩ := h
  rcases h6 with h6 | ⟨a0, ⟨e, a1, a2, a3, a4⟩, a5, a6⟩
  · omega
  have hr : rrec σ (σ.1 3 u.toNatClampNeg) := a2.rcd a3
  obtain ⟨b1, b2, b3, b4⟩ := h1.1.1.w
  have w1 := hw.1
  have w2 : (σ.1 3 w.toNatClampNeg).toInt < rmW σ := hw.2
  have r1 := hr.1
  have r2 : (σ.1 3 u.toNatClampNeg).toInt < rmR σ := hr.2
  have b11 := b2.1
  have b12 := b2.2
  have n1 := nN_ b11
  have n2 := nN_ r1
  have e5 : x6.toNatClampNeg = 6 * (σ.1 0 54).toNatClampNeg + (σ.1 3 u.toNatClampNeg).toNatClampNeg := nC (by omega)
  have rf := h1.1.1.rf hr
  rw [← e5] at rf
  exact ⟨hr, by omega, rf.1, rf.2, h1.1.2.2 _ _ w1 (by omega) r1 (by omega) a4, a5, e5, a6⟩
theorem b_rec_217 {rd : Int32 → Int32 → Int32 → Int32 → Int32 → ST → Option (Int32 × ST)} {ri rr : Int32 → Int32 → Int32 → Int32 → ST → Option (Int32 × ST)} (w u dp v x5 x6 : Int32) (d : Nat) : ∀ (n : Nat) (x7 : Int32) (σ : ST) (LV : Nat → Nat), RB LV σ w u dp v x5 x6 d → (0 ≤ x7.toInt ∧ x7.toInt ≤ 8 ∧ (8 : Int) - x7.toInt < n) → OK (f_X11_readsRecord_217 rd ri rr n w u v x6 x7 σ) (RK LV σ False) := by
  intro n
  induction n with
  | zero => intro x7 σ LV h1 h2; omega
  | succ n ih =>
    intro x7 σ LV hB h7
    rw [f_X11_readsRecord_217]
    unfold f_X11_readsRecord_286
    have lt_0 := li_0
    have lt_1 := li_1
    have lt_8 := li_8
    have lt_400 := li_400
    have a7 := il_addE (x := x7) (y := 1) (by omega) (by omega)
    have hG := hB.1
    have done : OK (some ((1 : Int32), σ)) (RK LV σ False) := OK.ret ⟨LV, GR.rf hG, .inr ⟨by omega, rfl, fun h => h.elim⟩⟩
    refine OK.ilt (fun _ => done) (fun hu => ?_)
    obtain ⟨r1, r2, r3, r4, r5, r6, r7, r8⟩ := hB.rr (by omega)
    obtain ⟨w1, w2, w3, w4⟩ := hB.wr
    have r31 := r3.1
    have r32 := r3.2
    have b1 := mlE (k := 8) (y := x6) 8 li_8 (by omega) (by omega)
    have b2 := il_addE (x := 8 * x6) (y := x7) (by omega) (by omega)
    have n6 := nN_ r2.1
    have n7 := nN_ h7.1
    have e8 : (8 * x6 + x7).toNatClampNeg = 8 * x6.toNatClampNeg + x7.toNatClampNeg := nC (by omega)
    refine OK.grd ⟨by omega, by omega⟩ ?_
    refine OK.ile (fun _ => done) (fun h => ?_)
    refine OK.grd hB.2.1.1.rng ?_
    refine OK.bndR (hG.1.1.ff w1 (by omega)) (fun y hy => ?_)
    dsimp only
    refine OK.ile (fun _ => ih _ σ LV hB (by omega)) (fun _ => ?_)
    refine OK.ieq (fun _ => RK.fail (GR.rf hG) (by omega)) (fun hne => ?_)
    have h400 := hG.2.2.2
    have h460 := hG.2.2.1.1.1.1
    have nv := nN_ h460
    refine OK.bndZ (b_fills _ v x7 σ LV hG.2.2.1 (by omega) hG.1.1.1.2.2 (by omega) (by rw [e8]; exact r4 _ (by omega)) (LV v.toNatClampNeg + 1) (by have := r6.2.1; have := hB.2.2.2.1; omega) ⟨r6.1, rfl, r6.2.2⟩) (fun t ct ht => ?_)
    obtain ⟨t1, t2, t3⟩ := ht
    have e57 : (t.1 0 57).toInt = (σ.1 0 57).toInt := by rw [ct.2.1 57 (by decide)]
    have hR : RD t := hG.2.1.of (ct.2.1 57 (by decide)) (ct.2.1 63 (by decide)) (ct.2.1 64 (by decide)) (ct.2.1 65 (by decide)) (by rw [ct.2.1 68 (by decide)]; exact hG.2.1.2.2)
    have g : GR LV σ (upL LV (σ.1 0 46).toNatClampNeg (LV v.toNatClampNeg + 1)) t := ⟨ct.mono (by decide) (by decide), ⟨hG.1.ch ct (by decide) (by decide), hR, t2, by omega⟩, by omega, fun r hr => ⟨upL_no (by omega), t3 r hr⟩⟩
    exact RK.up g e57 (fun h => h.elim) (ih _ t _ (hB.gr g e57) (by omega))
theorem b_rec_83 {N : Nat} {rd : Int32 → Int32 → Int32 → Int32 → Int32 → ST → Option (Int32 × ST)} {ri rr : Int32 → Int32 → Int32 → Int32 → ST → Option (Int32 × ST)} (hrd : cReads N rd) {k43 : Int32 → Int32 → Int32 → Int32 → Int32 → Int32 → Int32 → ST → Option (Int32 × ST)} (w u dp v x5 x6 x7 x8 x9 : Int32) (d : Nat) (σ0 : ST) (L0 : Nat → Nat) (hB0 : RB L0 σ0 w u dp v x5 x6 d) (h7 : 0 ≤ x7.toInt ∧ x7.toInt < (σ0.1 11 x5.toNatClampNeg).toInt) (h8 : x8.toInt = 8 * x5.toInt + x7.toInt) (h9 : 0 ≤ x9.toInt ∧ x9.toInt ≤ (σ0.1 0 65).toInt) (hN : 6 * (32 - dp.toInt) + d ≤ (N : Int) + 2) (hk : ∀ (t : ST) (L1 : Nat → Nat), GR L0 σ0 L1 t → (t.1 0 57).toInt = (σ0.1 0 57).toInt → OK (k43 w u dp v x5 x6 (x7 + 1) t) (RK L0 σ0 False)) : ∀ (n : Nat) (x10 x11 : Int32) (σ : ST) (LV : Nat → Nat), GR L0 σ0 LV σ → (σ.1 0 57).toInt = (σ0.1 0 57).toInt + 1 → (0 ≤ x11.toInt ∧ x11.toInt ≤ 8 ∧ (8 : Int) - x11.toInt < n) → OK (f_X11_readsRecord_83 rd ri rr k43 n w u dp v x5 x6 x7 x8 x9 x10 x11 σ) (RK L0 σ0 False) := by
  intro n
  have lt_0 := li_0
  have lt_1 := li_1
  have lt_8 := li_8
  have lm := li_m1
  have hdp := hB0.2.2.2.1
  have ad := il_addE (x := dp) (y := 1) (by omega) (by omega)
  have s0 := hB0.2.2.2.2.1
  have s0' := hB0.2.2.2.2.2
  have hd1 : 1 ≤ d := by
    cases d with
    | zero => exact hB0.2.1.1.elim
    | succ d => omega
  induction n with
  | zero => intro x10 x11 σ LV h1 h2 h3; omega
  | succ n ih =>
    intro x10 x11 σ LV g e57 h11
    rw [f_X11_readsRecord_83]
    have hG := g.2.1
    obtain ⟨⟨g1, g2⟩, g3, g4⟩ := g.vs
    -- the bundle at this state, but for the steps
    have hBs : RB LV (stI σ 0 57 (σ.1 0 57 - 1)) w u dp v x5 x6 d := by
      obtain ⟨gl, el⟩ := hG.leaves (by omega)
      exact hB0.gr (g.trans gl) (by omega)
    have w' := hBs.wr
    have wr1 : wrec σ (σ.1 3 w.toNatClampNeg) := w'.1
    have wr2 := w'.2.1
    have wr3 : bI (σ.1 11 x5.toNatClampNeg) 0 8 := w'.2.2.1
    have wr4 : ∀ k : Nat, (k : Int) < (σ.1 11 x5.toNatClampNeg).toInt → VS σ (rmW σ) 4 (σ.1 15 (8 * x5.toNatClampNeg + k)) := w'.2.2.2
    have wr31 := wr3.1
    have wr32 := wr3.2
    have e11 : σ.1 11 = σ0.1 11 := g.1.1 11 (by decide) (by decide)
    have n5 := nN_ wr2.1
    have n7 := nN_ h7.1
    have e8 : x8.toNatClampNeg = 8 * x5.toNatClampNeg + x7.toNatClampNeg := nC (by omega)
    have h7' : ((x7.toNatClampNeg : Nat) : Int) < (σ.1 11 x5.toNatClampNeg).toInt := by rw [e11]; omega
    have hby : VS σ (rmW σ) 4 (σ.1 15 x8.toNatClampNeg) := by rw [e8]; exact wr4 _ h7'
    have g8 : 0 ≤ x8.toInt ∧ x8.toInt < 576 := by omega
    have k198 : ∀ (t : ST) (L1 : Nat → Nat), GR L0 σ0 L1 t → (t.1 0 57).toInt = (σ0.1 0 57).toInt + 1 → OK (f_X11_readsRecord_198 rd ri rr k43 w u dp v x5 x6 x7 t) (RK L0 σ0 False) := fun t L1 gt et => by
      unfold f_X11_readsRecord_198
      obtain ⟨gl, el⟩ := gt.2.1.leaves (by omega)
      exact hk _ L1 (gt.trans gl) (by omega)
    have k171 : OK (f_X11_readsRecord_171 rd ri rr k43 w u dp v x5 x6 x7 x8 x10 σ) (RK L0 σ0 False) := by
      unfold f_X11_readsRecord_171
      refine OK.ieq (fun _ => ?_) (fun _ => k198 σ LV g e57)
      refine OK.grd g8 ?_
      refine OK.bnd (hrd _ (-1) (dp + 1) (-1) 0 σ LV 4 hG hby (by omega) (.inl (by omega)) (by omega) (fun h => by omega) ⟨by omega, by omega⟩ (by omega)) (fun q hq => ?_)
      obtain ⟨L2, gq, hv⟩ := hq
      refine OK.ieq (fun h0 => ?_) (fun h0 => ?_)
      · rcases hv with hv | hv
        · exact RK.no (g.trans gq) (by omega) (by omega)
        · omega
      · exact k198 _ L2 (g.trans gq) (by omega)
    refine OK.ilt (fun _ => k171) (fun hu => ?_)
    have r' := hBs.rr (by omega)
    have rr1 : rrec σ (σ.1 3 u.toNatClampNeg) := r'.1
    have rr2 := r'.2.1
    have rr3 : bI (σ.1 11 x6.toNatClampNeg) 0 8 := r'.2.2.1
    have rr4 : ∀ k : Nat, (k : Int) < (σ.1 11 x6.toNatClampNeg).toInt → VS σ (rmR σ) 4 (σ.1 15 (8 * x6.toNatClampNeg + k)) := r'.2.2.2.1
    have rr6 : NV LV σ dp v := r'.2.2.2.2.2.1
    have rr7 : x6.toNatClampNeg = 6 * (σ.1 0 54).toNatClampNeg + (σ.1 3 u.toNatClampNeg).toNatClampNeg := r'.2.2.2.2.2.2.1
    have rr8 : x6.toInt = 6 * (σ.1 0 54).toInt + (σ.1 3 u.toNatClampNeg).toInt := r'.2.2.2.2.2.2.2
    have rr5 : HO σ (σ.1 3 w.toNatClampNeg) (σ.1 3 u.toNatClampNeg) := by
      have hp := hBs.2.2.1
      rcases hp with hp | ⟨_, ⟨e, a1, a2, a3, a4⟩, _⟩
      · omega
      · have a4 : ¬ σ.1 35 (6 * (σ.1 3 w.toNatClampNeg).toNatClampNeg + (σ.1 3 u.toNatClampNeg).toNatClampNeg) = 0 := a4
        obtain ⟨b1, b2, b3, b4⟩ := hG.1.1.w
        have q1 : (σ.1 3 w.toNatClampNeg).toInt < rmW σ := wr1.2
        have q2 : (σ.1 3 u.toNatClampNeg).toInt < rmR σ := rr1.2
        exact hG.1.2.2 _ _ wr1.1 (by omega) rr1.1 (by omega) a4
    have rr31 := rr3.1
    have rr32 := rr3.2
    have n6 := nN_ rr2.1
    have n11 := nN_ h11.1
    have a11 := il_addE (x := x11) (y := 1) (by omega) (by omega)
    have b1 := mlE (k := 8) (y := x6) 8 li_8 (by omega) (by omega)
    have b2 := il_addE (x := 8 * x6) (y := x11) (by omega) (by omega)
    have ef : (8 * x6 + x11).toNatClampNeg = 8 * x6.toNatClampNeg + x11.toNatClampNeg := nC (by omega)
    refine OK.grd ⟨by omega, by omega⟩ ?_
    refine OK.ile (fun _ => k171) (fun h => ?_)
    refine OK.grd hB0.2.1.1.rng ?_
    obtain ⟨⟨y, s⟩, ey, es, hy⟩ := hG.1.1.ff wr1 (f := 8 * x6 + x11) (by omega)
    have es : s = σ := es
    subst es
    rw [ey]
    show OK (if y = x8 then _ else _) _
    unfold f_X11_readsRecord_165
    refine OK.ite (fun hyx => ?_) (fun _ => ih x10 (x11 + 1) s LV g e57 (by omega))
    refine OK.grd g8 ?_
    refine OK.grd ⟨by omega, by omega⟩ ?_
    have hm : MS s (s.1 15 x8.toNatClampNeg) (s.1 15 (8 * x6 + x11).toNatClampNeg) := by
      rw [← hyx]
      exact rr5 x11.toNatClampNeg (8 * x6 + x11) y (by rw [← rr7]; omega) (by omega) ey (by rw [hyx]; omega)
    have hf : VS s (rmR s) 4 (s.1 15 (8 * x6 + x11).toNatClampNeg) := by rw [ef]; exact rr4 _ (by omega)
    have e65 : (s.1 0 65).toInt = (σ0.1 0 65).toInt := by rw [g.1.2.1 65 (by decide)]
    have gp : GR LV s LV (stI s 0 64 x9) := GR.small hG (C := []) (I := [64]) (CH.rf.o (by decide)) (by decide) (by decide) ⟨by
      obtain ⟨⟨q1, q2, q3, q4⟩, q5, q6⟩ := hG.2.1
      show 0 ≤ (s.1 0 63).toInt ∧ 0 ≤ x9.toInt ∧ x9.toInt ≤ (s.1 0 65).toInt ∧ (s.1 0 63).toInt + (s.1 0 65).toInt ≤ 1600
      omega, hG.2.1.2.1, hG.2.1.2.2⟩
    have r1 := hf.rng
    refine OK.bnd (hrd (s.1 15 x8.toNatClampNeg) (s.1 15 (8 * x6 + x11).toNatClampNeg) (dp + 1) v x11 (stI s 0 64 x9) LV 4 gp.2.1 hby (by omega) (.inr ⟨r1.1, 4, by omega, hf, hm⟩) (by omega) (fun _ => .inr ⟨rr6.1, by have := rr6.2.1; omega, rr6.2.2⟩) ⟨by show 0 ≤ (s.1 0 57).toInt; omega, by show (s.1 0 57).toInt + _ ≤ _; omega⟩ (by omega)) (fun q hq => ?_)
    obtain ⟨L2, gq, hv⟩ := hq
    have e57' : ((stI s 0 64 x9).1 0 57).toInt = (s.1 0 57).toInt := rfl
    refine OK.ieq (fun h0 => ?_) (fun h0 => ?_)
    · rcases hv with hv | hv
      · exact RK.no ((g.trans gp).trans gq) (by omega) (by omega)
      · omega
    · exact ih _ (x11 + 1) _ L2 ((g.trans gp).trans gq) (by omega) (by omega)
theorem b_rec_43 {N : Nat} {rd : Int32 → Int32 → Int32 → Int32 → Int32 → ST → Option (Int32 × ST)} {ri rr : Int32 → Int32 → Int32 → Int32 → ST → Option (Int32 × ST)} (hrd : cReads N rd) (w u dp v x5 x6 : Int32) (d : Nat) (hN : 6 * (32 - dp.toInt) + d ≤ (N : Int) + 2) : ∀ (n : Nat) (x7 : Int32) (σ : ST) (LV : Nat → Nat), RB LV σ w u dp v x5 x6 d → (0 ≤ x7.toInt ∧ x7.toInt ≤ 8 ∧ (8 : Int) - x7.toInt < n) → OK (f_X11_readsRecord_43 rd ri rr n w u dp v x5 x6 x7 σ) (RK LV σ False) := by
  intro n
  induction n with
  | zero => intro x7 σ LV h1 h2; omega
  | succ n ih =>
    intro x7 σ LV hB h7
    rw [f_X11_readsRecord_43]
    have lt_0 := li_0
    have lt_1 := li_1
    have lt_8 := li_8
    have lu := FUi
    have hG := hB.1
    obtain ⟨w1, w2, w3, w4⟩ := hB.wr
    have w31 := w3.1
    have w32 := w3.2
    have a7 := il_addE (x := x7) (y := 1) (by omega) (by omega)
    have b1 := mlE (k := 8) (y := x5) 8 li_8 (by omega) (by omega)
    have b2 := il_addE (x := 8 * x5) (y := x7) (by omega) (by omega)
    have s1 := hB.2.2.2.2.1
    have s2 := hB.2.2.2.2.2
    have hdp := hB.2.2.2.1
    refine OK.grd ⟨by omega, by omega⟩ ?_
    refine OK.ile (fun _ => b_rec_217 w u dp v x5 x6 d FU 0 σ LV hB (by omega)) (fun h => ?_)
    refine OK.bnd (hG.enters ⟨s1, by omega⟩ _) (fun t ht => ?_)
    obtain ⟨g, e57⟩ := ht
    obtain ⟨⟨q1, q2, q3, q4⟩, q5, q6⟩ := hG.2.1
    refine b_rec_83 hrd w u dp v x5 x6 x7 _ _ d σ LV hB (by omega) (by omega) ⟨q2, q3⟩ hN (fun t' L1 gt et => ?_) FU 0 0 t LV g e57 (by omega)
    exact RK.up gt et (fun h => h.elim) (ih (x7 + 1) t' L1 (hB.gr gt et) (by omega))
theorem b_rec_top {N : Nat} {rd : Int32 → Int32 → Int32 → Int32 → Int32 → ST → Option (Int32 × ST)} {ri rr : Int32 → Int32 → Int32 → Int32 → ST → Option (Int32 × ST)} (hrd : cReads N rd) : cRecd (N + 1) (f_X11_readsRecord rd ri rr) := by
  intro w u dp v σ LV d hG hw hd4 hs7 hu hdp hs hN
  unfold f_X11_readsRecord f_X11_readsRecord_38
  have lt_0 := li_0
  have lt_6 := li_6
  have lu := FUi
  obtain ⟨b1, b2, b3, b4⟩ := hG.1.1.w
  have b11 := b1.1
  have b12 := b1.2
  have b21 := b2.1
  have b22 := b2.2
  have wr := hw.rcd hs7
  have a1 := mlE (k := 6) (y := σ.1 0 53) 6 li_6 (by omega) (by omega)
  have a2 := il_addE (x := 6 * σ.1 0 53) (y := σ.1 3 w.toNatClampNeg) (by omega) (by omega)
  refine OK.grd hw.rng ?_
  rcases hu with hu | ⟨h0, ⟨e, e1, e2, e3, e4⟩, hv⟩
  · refine OK.ile (fun h => by omega) (fun _ => ?_)
    exact b_rec_43 hrd w u dp v _ _ d (by omega) FU 0 σ LV ⟨hG, ⟨hw, hd4, hs7, by omega⟩, .inl hu, hdp, hs⟩ (by omega)
  · refine OK.ile (fun _ => ?_) (fun h => by omega)
    refine OK.grd e2.rng ?_
    have rr := e2.rcd e3
    have a3 := mlE (k := 6) (y := σ.1 0 54) 6 li_6 (by omega) (by omega)
    have a4 := il_addE (x := 6 * σ.1 0 54) (y := σ.1 3 u.toNatClampNeg) (by omega) (by omega)
    exact b_rec_43 hrd w u dp v _ _ d (by omega) FU 0 σ LV ⟨hG, ⟨hw, hd4, hs7, by omega⟩, .inr ⟨h0, ⟨e, e1, e2, e3, e4⟩, hv, by omega⟩, hdp, hs⟩ (by omega)
theorem b_RR : ∀ N : Nat, cReads N (R_X11_reads N).1 ∧ cItems N (R_X11_reads N).2.1 ∧ cRecd N (R_X11_reads N).2.2 := by
  intro N
  induction N with
  | zero =>
    refine ⟨?_, ?_, ?_⟩
    · intro w r dp p x σ LV d hG hw hd4 hr hdp hpo hs hN
      omega
    · intro w u dp v σ LV d hG hw hd4 hs6 hu hdp hs hN
      omega
    · intro w u dp v σ LV d hG hw hd4 hs6 hu hdp hs hN
      omega
  | succ N ih => exact ⟨b_reads_top ih.1 ih.2.1 ih.2.2, b_items_top ih.1, b_rec_top ih.1⟩
/-! the reference: a tree written, told, ordered -/
theorem sm_le_lt {f g : Nat → Nat} : ∀ n, (∀ c, c < n → f c ≤ g c) → sm f n ≤ sm g n := by
  intro n
  induction n with
  | zero => intro _; exact Nat.le_refl _
  | succ n ih =>
    intro h
    rw [sm, sm]
    have := h n (by omega)
    have := ih (fun c hc => h c (by omega))
    omega
/-- a level's rows have below them no more than lie from there on -/
theorem Wt_lv {S : Nat} {P : Nat → Int} {LV : Nat → Nat} (h : ∀ c : Nat, c < S → 0 ≤ P c → LV c = LV (P c).toNat + 1) : ∀ (d l : Nat), sm (fun r => if LV r = l then Wt S P d r else 0) S ≤ sm (fun r => if l ≤ LV r then 1 else 0) S := by
  intro d
  induction d with
  | zero =>
    intro l
    exact sm_le (fun c => by rw [Wt]; split <;> omega) S
  | succ d ih =>
    intro l
    have e1 : (fun r => if LV r = l then Wt S P (d + 1) r else 0) = fun r : Nat => (if LV r = l then 1 else 0) + sm (fun c => if LV r = l ∧ P c = (r : Int) then Wt S P d c else 0) S := by
      funext r
      by_cases e : LV r = l
      · rw [if_pos e, if_pos e, Wt]
        congr 1
        congr 1
        funext c
        by_cases e2 : P c = (r : Int)
        · rw [if_pos e2, if_pos ⟨e, e2⟩]
        · rw [if_neg e2, if_neg (fun h9 => e2 h9.2)]
      · rw [if_neg e, if_neg e]
        have e3 : (fun c => if LV r = l ∧ P c = (r : Int) then Wt S P d c else 0) = fun _ => 0 := by
          funext c
          rw [if_neg (fun h9 => e h9.1)]
        rw [e3, sm_zero]
    rw [e1, sm_add (f := fun r => if LV r = l then 1 else 0) (g := fun r : Nat => sm (fun c => if LV r = l ∧ P c = (r : Int) then Wt S P d c else 0) S), sm_swap (F := fun (r c : Nat) => if LV r = l ∧ P c = (r : Int) then Wt S P d c else 0)]
    have h2 : sm (fun c => sm (fun r : Nat => if LV r = l ∧ P c = (r : Int) then Wt S P d c else 0) S) S ≤ sm (fun c => if LV c = l + 1 then Wt S P d c else 0) S := by
      refine sm_le_lt S (fun c hc => ?_)
      by_cases hp : 0 ≤ P c
      · have e4 : (fun r : Nat => if LV r = l ∧ P c = (r : Int) then Wt S P d c else 0) = fun r : Nat => if P c = (r : Int) then (if LV (P c).toNat = l then Wt S P d c else 0) else 0 := by
          funext r
          by_cases e5 : P c = (r : Int)
          · have e6 : (P c).toNat = r := by omega
            rw [if_pos e5, e6]
            by_cases e7 : LV r = l
            · rw [if_pos e7, if_pos ⟨e7, e5⟩]
            · rw [if_neg e7, if_neg (fun h9 => e7 h9.1)]
          · rw [if_neg e5, if_neg (fun h9 => e5 h9.2)]
        rw [e4]
        have h3 := sm_one (P := P c) (v := if LV (P c).toNat = l then Wt S P d c else 0) S
        have h4 := h c hc hp
        by_cases e8 : LV (P c).toNat = l
        · rw [if_pos e8] at h3 ⊢
          rw [if_pos (show LV c = l + 1 by omega)]
          refine Nat.le_trans h3 ?_
          split <;> omega
        · rw [if_neg e8] at h3 ⊢
          refine Nat.le_trans h3 ?_
          split <;> exact Nat.zero_le _
      · have e4 : (fun r : Nat => if LV r = l ∧ P c = (r : Int) then Wt S P d c else 0) = fun _ => 0 := by
          funext r
          rw [if_neg (fun h9 => by have := h9.2; omega)]
        rw [e4, sm_zero]
        omega
    have h3 := ih (l + 1)
    have h4 : sm (fun r => (if LV r = l then 1 else 0) + (if l + 1 ≤ LV r then 1 else 0)) S ≤ sm (fun r => if l ≤ LV r then 1 else 0) S := sm_le (fun c => by
      by_cases e : LV c = l
      · rw [if_pos e, if_neg (by omega), if_pos (by omega)]
        omega
      · rw [if_neg e]
        by_cases e2 : l + 1 ≤ LV c
        · rw [if_pos e2, if_pos (by omega)]
          omega
        · rw [if_neg e2]
          omega) S
    rw [sm_add (f := fun r => if LV r = l then 1 else 0) (g := fun r => if l + 1 ≤ LV r then 1 else 0)] at h4
    omega
theorem Wt_all {S : Nat} {P : Nat → Int} {LV : Nat → Nat} (h : ∀ c : Nat, c < S → 0 ≤ P c → LV c = LV (P c).toNat + 1) (h0 : LV 0 = 0) (hS : 0 < S) (d : Nat) : Wt S P d 0 ≤ S := by
  have h1 := sm_at (f := fun r => if LV r = 0 then Wt S P d r else 0) S 0 hS
  have e1 : (if LV 0 = 0 then Wt S P d 0 else 0) = Wt S P d 0 := if_pos h0
  have h2 := Wt_lv h d 0
  have h3 : sm (fun r => if 0 ≤ LV r then 1 else 0) S ≤ sm (fun _ => 1) S := sm_le (fun c => by split <;> omega) S
  rw [sm_c1] at h3
  have h1 : (if LV 0 = 0 then Wt S P d 0 else 0) ≤ _ := h1
  rw [e1] at h1
  omega
abbrev wS (ρ : ST) : Nat := (ρ.1 0 46).toInt.toNat
def lft (ρ : ST) (d r : Nat) (x : Int32) : Nat := if x.toInt = -1 then 0 else Rm (wS ρ) (tP ρ) (tC ρ) d (r : Int) x.toNatClampNeg
theorem TO.nextW {ρ : ST} (h : TO ρ) {d r : Nat} {x : Int32} (hx : isC ρ r x) (h0 : ¬ x.toInt = -1) : lft ρ d r (ρ.1 30 x.toNatClampNeg) + Wt (wS ρ) (tP ρ) d x.toNatClampNeg ≤ lft ρ d r x := by
  rcases hx with hx | ⟨⟨x1, x2⟩, x3⟩
  · exact absurd hx h0
  have n1 := nN_ x1
  have n2 : ((wS ρ : Nat) : Int) = (ρ.1 0 46).toInt := Int.toNat_of_nonneg (by omega)
  have e0 : lft ρ d r x = Rm (wS ρ) (tP ρ) (tC ρ) d (r : Int) x.toNatClampNeg := if_neg h0
  rcases (h.2.1 x.toNatClampNeg (by omega)).2.2 with a | ⟨a1, a2, a3, a4⟩
  · have e1 : lft ρ d r (ρ.1 30 x.toNatClampNeg) = 0 := if_pos a
    rw [e0, e1, Nat.zero_add]
    exact Rm_last (by omega) x3
  · have a1 : 0 ≤ (ρ.1 30 x.toNatClampNeg).toInt := a1
    have n3 := nN_ a1
    have a4 : tC ρ x.toNatClampNeg < tC ρ (ρ.1 30 x.toNatClampNeg).toNatClampNeg ∨ tC ρ x.toNatClampNeg = tC ρ (ρ.1 30 x.toNatClampNeg).toNatClampNeg ∧ (ρ.1 30 x.toNatClampNeg).toInt < x.toNatClampNeg := a4
    have e1 : lft ρ d r (ρ.1 30 x.toNatClampNeg) = Rm (wS ρ) (tP ρ) (tC ρ) d (r : Int) (ρ.1 30 x.toNatClampNeg).toNatClampNeg := if_neg (by omega)
    rw [e0, e1]
    exact Rm_step (by omega) x3 (by omega)
theorem TO.firstW {ρ : ST} {d r : Nat} : 1 + lft ρ d r (ρ.1 28 r) ≤ Wt (wS ρ) (tP ρ) (d + 1) r := by
  unfold lft
  split
  · rw [Wt]; omega
  · exact Rm_all
/-- a child lies one level deeper -/
theorem NL.child {LV : Nat → Nat} {ρ : ST} (h : NL LV ρ) {r : Nat} {x : Int32} (hx : isC ρ r x) (h0 : ¬ x.toInt = -1) : (0 ≤ x.toInt ∧ x.toInt < (ρ.1 0 46).toInt) ∧ LV x.toNatClampNeg = LV r + 1 ∧ LV x.toNatClampNeg ≤ 31 := by
  rcases hx with hx | ⟨⟨x1, x2⟩, x3⟩
  · exact absurd hx h0
  have n1 := nN_ x1
  obtain ⟨a1, a2⟩ := h.2.1 x.toNatClampNeg (by omega)
  refine ⟨⟨x1, x2⟩, ?_, a1⟩
  rcases a2 with a2 | a2
  · omega
  · have e : (tP ρ x.toNatClampNeg).toNat = r := by omega
    rw [e] at a2
    exact a2.2
theorem b_writesByte (p0 : Int64) (σ : ST) (h : bI (σ.1 0 48) 0 400) : OK (f_X11_writesByte p0 σ) (RZ [31] [48, 49] σ fun t => bI (t.1 0 48) 0 400) := by
  unfold f_X11_writesByte
  have h' := h
  obtain ⟨h1, h2⟩ := h
  have lt_1 := li_1
  have lt_400 := li_400
  have e1 := il_addE (x := σ.1 0 48) (y := 1) (by omega) (by omega)
  refine OK.ieq (fun _ => OK.zret (CH.rf.o (by decide)) h') (fun hn => ?_)
  refine OK.grd ⟨by omega, by omega⟩ ?_
  exact OK.zret ((CH.rf.i (by decide) (by decide)).o (by decide)) (show bI (σ.1 0 48 + 1) 0 400 from ⟨by omega, by omega⟩)
theorem and128 {x : Int64} (h : x.toUInt64.toNat < 128) : lg_cmp (x &&& (-128)) 0 = 0 := by
  rw [lg_cmp_eq]
  refine Int64.toBitVec_inj.mp (BitVec.eq_of_toNat_eq ?_)
  show ((x.toUInt64 &&& (-128 : Int64).toUInt64)).toNat = (0 : Int64).toUInt64.toNat
  rw [UInt64.toNat_and]
  have e1 : (-128 : Int64).toUInt64.toNat = 18446744073709551488 := by decide
  have e2 : (0 : Int64).toUInt64.toNat = 0 := by decide
  rw [e1, e2]
  refine Nat.eq_of_testBit_eq (fun i => ?_)
  rw [Nat.testBit_and, Nat.zero_testBit]
  by_cases hi : i < 7
  · have : ∀ i, i < 7 → Nat.testBit 18446744073709551488 i = false := by decide
    rw [this i hi, Bool.and_false]
  · have : x.toUInt64.toNat.testBit i = false := Nat.testBit_lt_two_pow (Nat.lt_of_lt_of_le h (by
      have : 2 ^ 7 ≤ 2 ^ i := Nat.pow_le_pow_right (by decide) (by omega)
      omega))
    rw [this, Bool.false_and]
theorem shr7 {x : Int64} : ((x.toUInt64 >>> ((7 : Int32).toInt64.toUInt64 &&& Int64.toUInt64 63)).toInt64).toUInt64.toNat = x.toUInt64.toNat / 128 := by
  have e : ((7 : Int32).toInt64.toUInt64 &&& Int64.toUInt64 63) = 7 := by decide
  rw [e]
  show (x.toUInt64 >>> (7 : UInt64)).toNat = _
  rw [UInt64.toNat_shiftRight]
  have e2 : (7 : UInt64).toNat % 64 = 7 := by decide
  rw [e2, Nat.shiftRight_eq_div_pow]
theorem b_writesNumber_9 : ∀ (k n : Nat) (x3 : Int64) (σ : ST), k ≤ n → x3.toUInt64.toNat < 128 ^ (k + 1) → bI (σ.1 0 48) 0 400 → OK (f_X11_writesNumber_9 (n + 1) x3 σ) (RZ [31] [48, 49] σ fun t => bI (t.1 0 48) 0 400) := by
  intro k
  induction k with
  | zero =>
    intro n x3 σ hk hx h
    rw [f_X11_writesNumber_9, if_pos (and128 (by omega))]
    exact OK.bndZ (b_writesByte _ σ h) (fun t c ht => OK.zret c ht)
  | succ k ih =>
    intro n x3 σ hk hx h
    rw [f_X11_writesNumber_9]
    refine OK.ite (fun _ => OK.bndZ (b_writesByte _ σ h) (fun t c ht => OK.zret c ht)) (fun _ => ?_)
    refine OK.bndZ (b_writesByte _ σ h) (fun t c ht => ?_)
    refine OK.lt (fun z hz => ?_)
    obtain ⟨m, rfl⟩ : ∃ m, n = m + 1 := ⟨n - 1, by omega⟩
    have e : z.toUInt64.toNat < 128 ^ (k + 1) := by
      rw [hz, shr7]
      rw [Nat.pow_succ] at hx
      exact Nat.div_lt_of_lt_mul (by rw [Nat.mul_comm]; exact hx)
    exact OK.trZ (ih m z t (by omega) e ht) c (fun _ h => h) (fun _ h => h) (fun _ _ h => h)
theorem b_writesNumber (p0 : Int64) (σ : ST) (h : bI (σ.1 0 48) 0 400) : OK (f_X11_writesNumber p0 σ) (RZ [31] [48, 49] σ fun t => bI (t.1 0 48) 0 400) := by
  unfold f_X11_writesNumber
  refine OK.lt (fun z hz => ?_)
  have e : z.toUInt64.toNat < 128 ^ (9 + 1) := Nat.lt_of_lt_of_le (UInt64.toNat_lt _) (by decide)
  exact b_writesNumber_9 9 99999 z σ (by decide) e h
theorem p27 : ∀ k : Nat, k ≤ 12 → 27 ^ k ≤ 150094635296999121 := fun k hk => Nat.le_trans (Nat.pow_le_pow_right (by decide) hk) (by decide)
theorem b_writesText_42 : ∀ (n j : Nat) (x1 : Int32) (x2 : Int64) (x4 : Int32) (σ : ST), bI (σ.1 0 48) 0 400 → (0 ≤ x1.toInt ∧ x1.toInt < 4096) → (0 ≤ (σ.1 23 x1.toNatClampNeg).toInt ∧ (σ.1 23 x1.toNatClampNeg).toInt ≤ 12) → (0 ≤ x4.toInt ∧ x4.toInt ≤ 12 ∧ (12 : Int) - x4.toInt < n) → j ≤ 12 → x2.toInt = 27 ^ j → OK (f_X11_writesText_42 n x1 x2 x4 σ) (RZ [31] [48, 49] σ fun t => bI (t.1 0 48) 0 400) := by
  intro n
  induction n with
  | zero => intro j x1 x2 x4 σ h1 h2 h3 h4; omega
  | succ n ih =>
    intro j x1 x2 x4 σ h1 h2 h3 h4 hj hx
    rw [f_X11_writesText_42]
    unfold f_X11_writesText_87
    have lt_1 := li_1
    have lt_0 := li_0
    have a4 := il_addE (x := x4) (y := 1) (by omega) (by omega)
    have hpos : (0 : Int) < 27 ^ j := Int.pow_pos (by decide)
    have l0 := l64_0
    have l1 := l64_1
    refine OK.grd h2 ?_
    refine OK.ile (fun _ => OK.zret CH.rf h1) (fun h => ?_)
    refine OK.grd (fun h0 => by rw [h0, l0] at hx; omega) ?_
    refine OK.bndZ (b_writesByte _ σ h1) (fun t c ht => ?_)
    have e23 : t.1 23 = σ.1 23 := c.1 23 (by decide) (by decide)
    have nx : ∀ (jj : Nat) (y : Int64), jj ≤ 12 → y.toInt = 27 ^ jj → OK (f_X11_writesText_42 n x1 y (x4 + 1) t) (RZ [31] [48, 49] σ fun t => bI (t.1 0 48) 0 400) := fun jj y h5 h6 => OK.trZ (ih jj x1 y (x4 + 1) t ht h2 (by rw [e23]; exact h3) (by omega) h5 h6) c (fun _ h => h) (fun _ h => h) (fun _ _ h => h)
    have l27 : (27 : Int64).toInt = 27 := by decide
    refine OK.ite (fun hle => ?_) (fun hgt => ?_)
    · have hle := Int64.le_iff_toInt_le.mp ((lg_cmp_le _ _).mp hle)
      refine OK.grd (by decide) ?_
      refine nx 0 _ (by decide) ?_
      rw [Int64.toInt_div_of_ne_right _ _ (by decide), l1, Int.tdiv_one]
      rw [l1] at hle
      have : x2.toInt = 1 := by omega
      rw [this]
      rfl
    · rw [lg_cmp_le, Int64.le_iff_toInt_le, l1, hx] at hgt
      refine OK.grd (by decide) ?_
      cases j with
      | zero => exact absurd (by decide : (27 : Int) ^ 0 ≤ 1) hgt
      | succ j =>
        refine nx j _ (by omega) ?_
        rw [Int64.toInt_div_of_ne_right _ _ (by decide), l27, hx, Int.pow_succ]
        exact Int.mul_tdiv_cancel _ (by decide)
theorem b_writesText_16 : ∀ (n j : Nat) (x1 : Int32) (x2 : Int64) (x4 : Int32) (σ : ST), bI (σ.1 0 48) 0 400 → (0 ≤ x1.toInt ∧ x1.toInt < 4096) → (0 ≤ (σ.1 23 x1.toNatClampNeg).toInt ∧ (σ.1 23 x1.toNatClampNeg).toInt ≤ 12) → (1 ≤ x4.toInt ∧ x4.toInt ≤ 12 ∧ (12 : Int) - x4.toInt < n) → (j : Int) + 1 = x4.toInt → x2.toInt = 27 ^ j → OK (f_X11_writesText_16 n x1 x2 x4 σ) (RZ [31] [48, 49] σ fun t => bI (t.1 0 48) 0 400) := by
  intro n
  induction n with
  | zero => intro j x1 x2 x4 σ h1 h2 h3 h4; omega
  | succ n ih =>
    intro j x1 x2 x4 σ h1 h2 h3 h4 hj hx
    rw [f_X11_writesText_16]
    have lt_1 := li_1
    have lt_0 := li_0
    have lu := FUi
    have a4 := il_addE (x := x4) (y := 1) (by omega) (by omega)
    refine OK.grd h2 ?_
    refine OK.ile (fun _ => b_writesText_42 FU j x1 x2 0 σ h1 h2 h3 (by omega) (by omega) hx) (fun h => ?_)
    refine ih (j + 1) x1 (x2 * 27) (x4 + 1) σ h1 h2 h3 (by omega) (by omega) ?_
    have l27 : (27 : Int64).toInt = 27 := by decide
    have hb : (27 : Int) ^ (j + 1) ≤ 150094635296999121 := by
      have h9 := p27 (j + 1) (by omega)
      have e9 : (27 : Int) ^ (j + 1) = ((27 ^ (j + 1) : Nat) : Int) := by rw [Int.natCast_pow]; rfl
      rw [e9]
      generalize 27 ^ (j + 1) = z at h9 ⊢
      omega
    have hpos : (0 : Int) < 27 ^ (j + 1) := Int.pow_pos (by decide)
    rw [Int64.toInt_mul, l27, hx, ← Int.pow_succ]
    exact Int.bmod_eq_of_le (by omega) (by omega)
theorem b_writesText (p0 : Int32) (σ : ST) (h : bI (σ.1 0 48) 0 400) (h2 : 0 ≤ p0.toInt ∧ p0.toInt < 4096) (h3 : 0 ≤ (σ.1 23 p0.toNatClampNeg).toInt ∧ (σ.1 23 p0.toNatClampNeg).toInt ≤ 12) : OK (f_X11_writesText p0 σ) (RZ [31] [48, 49] σ fun t => bI (t.1 0 48) 0 400) := by
  unfold f_X11_writesText
  have lt_1 := li_1
  have lu := FUi
  refine OK.grd h2 ?_
  refine OK.bndZ (b_writesNumber _ σ h) (fun t c ht => ?_)
  have e23 : t.1 23 = σ.1 23 := c.1 23 (by decide) (by decide)
  exact OK.trZ (b_writesText_16 FU 0 p0 1 1 t ht h2 (by rw [e23]; exact h3) (by omega) (by omega) (by decide)) c (fun _ h => h) (fun _ h => h) (fun _ _ h => h)
def cWrites (ρ : ST) (LV : Nat → Nat) (N : Nat) (rw_ : Int32 → ST → Option ST) : Prop := ∀ (v : Int32) (σ : ST), CH [31] [48, 49] ρ σ → bI (σ.1 0 48) 0 400 → (0 ≤ v.toInt ∧ v.toInt < (ρ.1 0 46).toInt) → 32 ≤ N + LV v.toNatClampNeg → OK (rw_ v σ) (RZ [31] [48, 49] ρ fun t => bI (t.1 0 48) 0 400)
theorem b_writes_89 {rw_ : Int32 → ST → Option ST} : ∀ (n : Nat) (x1 x2 : Int32) (σ : ST), bI (σ.1 0 48) 0 400 → (0 ≤ x1.toInt ∧ x1.toInt < 4096) → (-8 ≤ x2.toInt ∧ x2.toInt ≤ 56 ∧ x2.toInt + 8 < 8 * n) → OK (f_X11_writes_89 rw_ n x1 x2 σ) (RZ [31] [48, 49] σ fun t => bI (t.1 0 48) 0 400) := by
  intro n
  induction n with
  | zero => intro x1 x2 σ h1 h2 h3; omega
  | succ n ih =>
    intro x1 x2 σ h1 h2 h3
    rw [f_X11_writes_89]
    have lt_0 := li_0
    have lm : (-8 : Int32).toInt = -8 := by decide
    have a2 := il_addE (x := x2) (y := -8) (by omega) (by omega)
    refine OK.ilt (fun _ => OK.zret CH.rf h1) (fun h => ?_)
    refine OK.grd h2 ?_
    refine OK.bndZ (b_writesByte _ σ h1) (fun t c ht => ?_)
    exact OK.trZ (ih x1 (x2 + (-8)) t ht h2 (by omega)) c (fun _ h => h) (fun _ h => h) (fun _ _ h => h)
theorem b_writes_155 {ρ : ST} {LV : Nat → Nat} {N : Nat} {rw_ : Int32 → ST → Option ST} (hN : NL LV ρ) (hw : cWrites ρ LV N rw_) {r : Nat} (hr : 31 ≤ N + LV r) : ∀ (n : Nat) (x2 : Int32) (σ : ST), CH [31] [48, 49] ρ σ → bI (σ.1 0 48) 0 400 → isC ρ r x2 → msx ρ x2 < n → OK (f_X11_writes_155 rw_ n x2 σ) (RZ [31] [48, 49] ρ fun t => bI (t.1 0 48) 0 400) := by
  intro n
  induction n with
  | zero => intro x2 σ h1 h2 h3 h4; omega
  | succ n ih =>
    intro x2 σ c h48 hx hn
    rw [f_X11_writes_155]
    have lt_0 := li_0
    refine OK.ilt (fun _ => OK.zret c h48) (fun h => ?_)
    refine OK.ieq (fun _ => ?_) (fun _ => OK.zret c h48)
    obtain ⟨x1, x3, x4⟩ := hN.child hx (by omega)
    obtain ⟨a1, a2⟩ := hN.1.next hx (by omega)
    have h46 := hN.1.1.2
    refine OK.bndZ (hw x2 σ c h48 x1 (by omega)) (fun t ct ht => ?_)
    refine OK.grd ⟨by omega, by omega⟩ ?_
    rw [ct.1 30 (by decide) (by decide)]
    exact ih _ t ct ht a1 (by omega)
theorem b_writes_top {ρ : ST} {LV : Nat → Nat} {N : Nat} {rw_ : Int32 → ST → Option ST} (hN : NL LV ρ) (hw : cWrites ρ LV N rw_) : cWrites ρ LV (N + 1) (f_X11_writes rw_) := by
  intro v σ c h48 hv hl
  have h46 := hN.1.1.2
  have gv : 0 ≤ v.toInt ∧ v.toInt < 4096 := by omega
  have nv := nN_ hv.1
  have lt_0 := li_0
  have lt_5 := li_5
  have lu := FUi
  obtain ⟨⟨a1, a2⟩, a3⟩ := hN.2.2 v.toNatClampNeg (by omega)
  have m1 : ∀ x, x ∈ [31] → x ∈ [31] := fun _ h => h
  have k148 : ∀ s : ST, CH [31] [48, 49] ρ s → bI (s.1 0 48) 0 400 → OK (f_X11_writes_148 rw_ v s) (RZ [31] [48, 49] ρ fun t => bI (t.1 0 48) 0 400) := fun s cs hs => by
    unfold f_X11_writes_148
    refine OK.grd gv ?_
    rw [cs.1 28 (by decide) (by decide)]
    have := msx_le hN.1 (x := ρ.1 28 v.toNatClampNeg)
    exact b_writes_155 hN hw (r := v.toNatClampNeg) (by omega) FU _ s cs hs (hN.1.first (by omega)) (by omega)
  have k20 : ∀ s : ST, CH [31] [48, 49] ρ s → bI (s.1 0 48) 0 400 → OK (f_X11_writes_20 rw_ v s) (RZ [31] [48, 49] ρ fun t => bI (t.1 0 48) 0 400) := fun s cs hs => by
    unfold f_X11_writes_20
    have e20 : s.1 20 = ρ.1 20 := cs.1 20 (by decide) (by decide)
    have e23 : s.1 23 = ρ.1 23 := cs.1 23 (by decide) (by decide)
    have fin : ∀ o : Option ST, OK o (RZ [31] [48, 49] s fun t => bI (t.1 0 48) 0 400) → OK (o.bind fun q => some q) (RZ [31] [48, 49] ρ fun t => bI (t.1 0 48) 0 400) := fun o ho => OK.bndZ ho (fun t ct ht => OK.zret (cs.trans ct) ht)
    refine OK.grd gv ?_
    refine OK.ieq (fun _ => fin _ (b_writesByte _ s hs)) (fun _ => ?_)
    refine OK.ieq (fun _ => fin _ (b_writesNumber _ s hs)) (fun _ => ?_)
    refine OK.ieq (fun _ => fin _ (b_writesNumber _ s hs)) (fun _ => ?_)
    refine OK.ieq (fun _ => ?_) (fun _ => ?_)
    · have l56 : (56 : Int32).toInt = 56 := by decide
      exact OK.trZ (b_writes_89 FU v 56 s hs gv (by omega)) cs m1 (fun _ h => h) (fun _ _ h => h)
    refine OK.ieq (fun h5 => ?_) (fun _ => ?_)
    · rw [e20] at h5
      exact fin _ (b_writesText v s hs gv (by rw [e23]; exact ⟨a1, a3 (by omega)⟩))
    refine OK.ieq (fun _ => ?_) (fun _ => k148 s cs hs)
    refine OK.bndZ (b_writesNumber _ s hs) (fun t ct ht => ?_)
    exact k148 t (cs.trans ct) ht
  unfold f_X11_writes
  refine OK.grd gv ?_
  refine OK.ilt (fun _ => k20 σ c h48) (fun _ => ?_)
  refine OK.bndZ (b_writesNumber _ σ h48) (fun t ct ht => ?_)
  exact k20 t (c.trans ct) ht
theorem b_RW {ρ : ST} {LV : Nat → Nat} (hN : NL LV ρ) : ∀ N : Nat, cWrites ρ LV N (R_X11_writes N) := by
  intro N
  induction N with
  | zero =>
    intro v σ c h48 hv hl
    have nv := nN_ hv.1
    have := (hN.2.1 v.toNatClampNeg (by omega)).1
    omega
  | succ N ih => exact b_writes_top hN ih
theorem b_writesTree (σ : ST) {LV : Nat → Nat} (hN : NL LV σ) (h0 : 0 < (σ.1 0 46).toInt) : OK (f_X11_writesTree 0 σ) (RZ [31] [48, 49] σ fun t => bI (t.1 0 48) 0 400) := by
  unfold f_X11_writesTree
  have lt_0 := li_0
  have lr := FRi
  have c : CH [31] [48, 49] σ (stI (stI σ 0 48 0) 0 49 0) := (CH.rf.o (by decide)).o (by decide)
  refine OK.bndZ (b_RW hN FRB 0 _ c (bz (by decide) (by decide)) ⟨by omega, by omega⟩ (by omega)) (fun t ct ht => ?_)
  exact OK.zret ct ht
/-- what was told of how many a node has -/
def TH (σ : ST) : Prop := ∀ i, bI (σ.1 45 i) 0 500
abbrev TC : List Nat := [42, 43, 44, 45, 46]
def cTells (ρ : ST) (LV : Nat → Nat) (N : Nat) (rt : Int32 → Int32 → ST → Option ST) : Prop := ∀ (v p : Int32) (σ : ST) (d : Nat), CH TC [73] ρ σ → TH σ → (0 ≤ v.toInt ∧ v.toInt < (ρ.1 0 46).toInt) → d + LV v.toNatClampNeg = 32 → 0 ≤ (σ.1 0 73).toInt → (σ.1 0 73).toInt + (Wt (wS ρ) (tP ρ) d v.toNatClampNeg : Nat) ≤ 400 → d ≤ N → OK (rt v p σ) (RZ TC [73] ρ fun t => TH t ∧ 0 ≤ (t.1 0 73).toInt ∧ (t.1 0 73).toInt ≤ (σ.1 0 73).toInt + (Wt (wS ρ) (tP ρ) d v.toNatClampNeg : Nat) ∧ (σ.1 0 73).toInt + 1 ≤ (t.1 0 73).toInt)
theorem b_tells_110 {ρ : ST} {LV : Nat → Nat} {N : Nat} {rt : Int32 → Int32 → ST → Option ST} (hN : NL LV ρ) (ht : cTells ρ LV N rt) {r d : Nat} (hd : d + LV r = 31) (hdN : d ≤ N) : ∀ (n : Nat) (x3 x4 : Int32) (σ : ST), CH TC [73] ρ σ → TH σ → isC ρ r x4 → 0 ≤ (σ.1 0 73).toInt → (σ.1 0 73).toInt + (lft ρ d r x4 : Nat) ≤ 400 → msx ρ x4 < n → OK (f_X11_tells_110 rt n x3 x4 σ) (RZ TC [73] ρ fun t => TH t ∧ (σ.1 0 73).toInt ≤ (t.1 0 73).toInt ∧ (t.1 0 73).toInt ≤ (σ.1 0 73).toInt + (lft ρ d r x4 : Nat)) := by
  intro n
  induction n with
  | zero => intro x3 x4 σ h1 h2 h3 h4 h5 h6; omega
  | succ n ih =>
    intro x3 x4 σ c hT hx h0 hb hn
    rw [f_X11_tells_110]
    have lt_0 := li_0
    refine OK.ilt (fun _ => OK.zret c ⟨hT, by omega, by omega⟩) (fun h => ?_)
    obtain ⟨x1, x3', x5⟩ := hN.child hx (by omega)
    obtain ⟨a1, a2⟩ := hN.1.next hx (by omega)
    have a3 := hN.1.nextW (d := d) hx (by omega)
    have h46 := hN.1.1.2
    refine OK.bndZ (ht x4 x3 σ d c hT x1 (by omega) h0 (by omega) hdN) (fun t ct htt => ?_)
    refine OK.grd ⟨by omega, by omega⟩ ?_
    rw [ct.1 30 (by decide) (by decide)]
    refine OK.mono (ih x3 _ t ct htt.1 a1 (by omega) (by omega) (by omega)) (fun q hq => ?_)
    exact ⟨hq.1, hq.2.1, by have := hq.2.2; omega, by have := hq.2.2; omega⟩
theorem b_tells_top {ρ : ST} {LV : Nat → Nat} {N : Nat} {rt : Int32 → Int32 → ST → Option ST} (hN : NL LV ρ) (h400 : (ρ.1 0 46).toInt ≤ 400) (ht : cTells ρ LV N rt) : cTells ρ LV (N + 1) (f_X11_tells rt) := by
  intro v p σ d c hT hv hd h0 hb hdN
  unfold f_X11_tells
  have lt_0 := li_0
  have lt_1 := li_1
  have lu := FUi
  have h460 := hN.1.1.1
  have gv : 0 ≤ v.toInt ∧ v.toInt < 4096 := by omega
  have nv := nN_ hv.1
  obtain ⟨⟨a1, a2⟩, a3⟩ := hN.2.2 v.toNatClampNeg (by omega)
  have hl := (hN.2.1 v.toNatClampNeg (by omega)).1
  obtain ⟨d', rfl⟩ : ∃ d', d = d' + 1 := ⟨d - 1, by omega⟩
  have f1 := TO.firstW (ρ := ρ) (d := d') (r := v.toNatClampNeg)
  have e1 := il_addE (x := σ.1 0 73) (y := 1) (by omega) (by omega)
  have g73 : 0 ≤ (σ.1 0 73).toInt ∧ (σ.1 0 73).toInt < 400 := by omega
  refine OK.grd gv ?_
  refine OK.grd g73 ?_
  refine OK.lt (fun z3 hz => ?_)
  have cz : CH TC [73] ρ (stI z3 43 (σ.1 0 73).toNatClampNeg p) := by rw [hz]; exact ((c.o (by decide)).i (by decide) (by decide)).i (by decide) (by decide)
  have e73 : (stI z3 43 (σ.1 0 73).toNatClampNeg p).1 0 73 = σ.1 0 73 + 1 := by rw [hz]; rfl
  have e45 : (stI z3 43 (σ.1 0 73).toNatClampNeg p).1 45 = σ.1 45 := by rw [hz]; rfl
  generalize stI z3 43 (σ.1 0 73).toNatClampNeg p = s at cz e73 e45 ⊢
  have k53 : ∀ y0 : Int32, OK (f_X11_tells_53 rt v (σ.1 0 73) y0 (σ.1 0 73) s) (RZ TC [73] ρ fun t => TH t ∧ 0 ≤ (t.1 0 73).toInt ∧ (t.1 0 73).toInt ≤ (σ.1 0 73).toInt + (Wt (wS ρ) (tP ρ) (d' + 1) v.toNatClampNeg : Nat) ∧ (σ.1 0 73).toInt + 1 ≤ (t.1 0 73).toInt) := fun y0 => by
    unfold f_X11_tells_53
    refine OK.grd g73 ?_
    refine OK.grd gv ?_
    refine OK.grd g73 ?_
    refine OK.lt (fun z4 hz4 => ?_)
    refine OK.lt (fun z5 hz5 => ?_)
    refine OK.lt (fun x6 hx6 => ?_)
    have c9 : CH TC [73] ρ (stL z5 48 (σ.1 0 73).toNatClampNeg (z5.2.1 22 v.toNatClampNeg)) := by
      rw [hz5, hz4]
      exact ((((cz.i (by decide) (by decide)).i (by decide) (by decide)).i (by decide) (by decide)).l (by decide) (by decide) (by decide) (by decide) (by decide)).l (by decide) (by decide) (by decide) (by decide) (by decide)
    have e9 : (stL z5 48 (σ.1 0 73).toNatClampNeg (z5.2.1 22 v.toNatClampNeg)).1 0 73 = σ.1 0 73 + 1 := by
      rw [hz5, hz4]
      exact e73
    have e28 : x6 = ρ.1 28 v.toNatClampNeg := by
      rw [hx6]
      show (stL z5 48 (σ.1 0 73).toNatClampNeg (z5.2.1 22 v.toNatClampNeg)).1 28 v.toNatClampNeg = _
      rw [c9.1 28 (by decide) (by decide)]
    have T9 : TH (stL z5 48 (σ.1 0 73).toNatClampNeg (z5.2.1 22 v.toNatClampNeg)) := by
      rw [hz5, hz4]
      show ∀ i, bI (upd (s.1 45) (σ.1 0 73).toNatClampNeg (s.1 23 v.toNatClampNeg) i) 0 500
      rw [e45, cz.1 23 (by decide) (by decide)]
      exact upd_all (P := fun x => bI x 0 500) hT ⟨a1, by omega⟩
    generalize stL z5 48 (σ.1 0 73).toNatClampNeg (z5.2.1 22 v.toNatClampNeg) = t at c9 e9 T9 ⊢
    have m := msx_le hN.1 (x := ρ.1 28 v.toNatClampNeg)
    have e9' : (t.1 0 73).toInt = (σ.1 0 73).toInt + 1 := by rw [e9]; omega
    rw [e28]
    refine OK.mono (b_tells_110 hN ht (r := v.toNatClampNeg) (d := d') (by omega) (by omega) FU (σ.1 0 73) _ t c9 T9 (hN.1.first (by omega)) (by omega) (by omega) (by omega)) (fun q hq => ?_)
    exact ⟨hq.1, hq.2.1, by have := hq.2.2; omega, by have := hq.2.2; omega, by have := hq.2.2; omega⟩
  exact OK.ile (fun _ => k53 _) (fun _ => k53 _)
theorem b_RT {ρ : ST} {LV : Nat → Nat} (hN : NL LV ρ) (h400 : (ρ.1 0 46).toInt ≤ 400) : ∀ N : Nat, cTells ρ LV N (R_X11_tells N) := by
  intro N
  induction N with
  | zero =>
    intro v p σ d c hT hv hd h0 hb hdN
    have nv := nN_ hv.1
    have := (hN.2.1 v.toNatClampNeg (by omega)).1
    omega
  | succ N ih => exact b_tells_top hN h400 ih
theorem NL.wt {LV : Nat → Nat} {ρ : ST} (hN : NL LV ρ) (h0 : 0 < (ρ.1 0 46).toInt) : LV 0 = 0 ∧ (Wt (wS ρ) (tP ρ) 32 0 : Int) ≤ (ρ.1 0 46).toInt := by
  have n2 : ((wS ρ : Nat) : Int) = (ρ.1 0 46).toInt := Int.toNat_of_nonneg (by omega)
  have e0 : LV 0 = 0 := by
    rcases (hN.2.1 0 (by omega)).2 with h | h
    · exact h.2
    · omega
  have h := Wt_all (S := wS ρ) (P := tP ρ) (LV := LV) (fun c hc hp => by
    rcases (hN.2.1 c (by omega)).2 with h | h
    · omega
    · exact h.2) e0 (by omega) 32
  exact ⟨e0, by omega⟩
theorem b_tells (σ : ST) {LV : Nat → Nat} (hN : NL LV σ) (h0 : 0 < (σ.1 0 46).toInt) (h400 : (σ.1 0 46).toInt ≤ 400) (hT : TH σ) (h73 : σ.1 0 73 = 0) : OK (f_T_X11_tells 0 (-1) σ) (RZ TC [73] σ fun t => TH t ∧ bI (t.1 0 73) 0 400) := by
  have lt_0 := li_0
  have lr := FRi
  have h73' : (σ.1 0 73).toInt = 0 := by rw [h73]; exact li_0
  have n0 : (0 : Int32).toNatClampNeg = 0 := by decide
  obtain ⟨w1, w2⟩ := hN.wt h0
  refine OK.mono (b_RT hN h400 FRB 0 (-1) σ 32 CH.rf hT ⟨by omega, by omega⟩ (by rw [n0]; omega) (by omega) (by rw [n0]; omega) (by omega)) (fun q hq => ?_)
  obtain ⟨q1, q2, q3, q4, q5⟩ := hq
  rw [n0] at q4
  exact ⟨q1, q2, ⟨q3, by omega⟩⟩
/-! the reference: what a whole reading does -/
theorem d2 {x : Int32} (h0 : 0 ≤ x.toInt) : (x / 2).toInt = x.toInt / 2 := by
  have l2 : (2 : Int32).toInt = 2 := by decide
  rw [Int32.toInt_div_of_ne_right _ _ (by decide), l2, Int.tdiv_eq_ediv_of_nonneg h0]
abbrev OC : List Nat := [50, 51]
def cOrders (ρ : ST) (LV : Nat → Nat) (N : Nat) (ro : Int32 → ST → Option ST) : Prop := ∀ (v : Int32) (σ : ST) (d : Nat), CH OC [88] ρ σ → (0 ≤ v.toInt ∧ v.toInt < (ρ.1 0 46).toInt) → d + LV v.toNatClampNeg = 32 → 0 ≤ (σ.1 0 88).toInt → (σ.1 0 88).toInt + (Wt (wS ρ) (tP ρ) d v.toNatClampNeg : Nat) ≤ 400 → d ≤ N → OK (ro v σ) (RZ OC [88] ρ fun t => (σ.1 0 88).toInt ≤ (t.1 0 88).toInt ∧ (t.1 0 88).toInt ≤ (σ.1 0 88).toInt + (Wt (wS ρ) (tP ρ) d v.toNatClampNeg : Nat))
theorem b_orders_136 {ρ : ST} {LV : Nat → Nat} {N : Nat} {ro : Int32 → ST → Option ST} (hN : NL LV ρ) (ht : cOrders ρ LV N ro) {r d : Nat} (hd : d + LV r = 31) (hdN : d ≤ N) : ∀ (n : Nat) (x3 : Int32) (σ : ST), CH OC [88] ρ σ → isC ρ r x3 → 0 ≤ (σ.1 0 88).toInt → (σ.1 0 88).toInt + (lft ρ d r x3 : Nat) ≤ 400 → msx ρ x3 < n → OK (f_X11_orders_136 ro n x3 σ) (RZ OC [88] ρ fun t => (σ.1 0 88).toInt ≤ (t.1 0 88).toInt ∧ (t.1 0 88).toInt ≤ (σ.1 0 88).toInt + (lft ρ d r x3 : Nat)) := by
  intro n
  induction n with
  | zero => intro x3 σ h1 h2 h3 h4 h5; omega
  | succ n ih =>
    intro x3 σ c hx h0 hb hn
    rw [f_X11_orders_136]
    have lt_0 := li_0
    refine OK.ilt (fun _ => OK.zret c ⟨by omega, by omega⟩) (fun h => ?_)
    obtain ⟨x1, x3', x5⟩ := hN.child hx (by omega)
    obtain ⟨a1, a2⟩ := hN.1.next hx (by omega)
    have a3 := hN.1.nextW (d := d) hx (by omega)
    have h46 := hN.1.1.2
    refine OK.bndZ (ht x3 σ d c x1 (by omega) h0 (by omega) hdN) (fun t ct htt => ?_)
    refine OK.grd ⟨by omega, by omega⟩ ?_
    rw [ct.1 30 (by decide) (by decide)]
    refine OK.mono (ih _ t ct a1 (by omega) (by omega) (by omega)) (fun q hq => ?_)
    exact ⟨hq.1, by have := hq.2.1; omega, by have := hq.2.2; omega⟩
theorem b_orders_top {ρ : ST} {LV : Nat → Nat} {N : Nat} {ro : Int32 → ST → Option ST} (hN : NL LV ρ) (h400 : (ρ.1 0 46).toInt ≤ 400) (ht : cOrders ρ LV N ro) : cOrders ρ LV (N + 1) (f_X11_orders ro) := by
  intro v σ d c hv hd h0 hb hdN
  unfold f_X11_orders
  have lt_0 := li_0
  have lt_1 := li_1
  have lt_2 := li_2
  have lt_3 := li_3
  have lt_4 := li_4
  have lu := FUi
  have gv4 : 0 ≤ v.toInt ∧ v.toInt < 400 := by omega
  have gv : 0 ≤ v.toInt ∧ v.toInt < 4096 := by omega
  have nv := nN_ hv.1
  have hl := hN.2.1 v.toNatClampNeg (by omega)
  obtain ⟨d', rfl⟩ : ∃ d', d = d' + 1 := ⟨d - 1, by omega⟩
  have f1 := TO.firstW (ρ := ρ) (d := d') (r := v.toNatClampNeg)
  have o1 := il_addE (x := σ.1 0 88) (y := 1) (by omega) (by omega)
  have o2 := mlE (k := 4) (y := σ.1 0 88) 4 li_4 (by omega) (by omega)
  have o3 := il_addE (x := 4 * σ.1 0 88) (y := 1) (by omega) (by omega)
  have o4 := il_addE (x := 4 * σ.1 0 88) (y := 2) (by omega) (by omega)
  have o5 := il_addE (x := 4 * σ.1 0 88) (y := 3) (by omega) (by omega)
  have o6 := d2 (x := 4 * σ.1 0 88) (by omega)
  have o7 := il_addE (x := 4 * σ.1 0 88 / 2) (y := 1) (by omega) (by omega)
  have e88 : (stI σ 50 v.toNatClampNeg (σ.1 0 88)).1 0 88 = σ.1 0 88 := rfl
  rw [e88]
  refine OK.grd gv4 ?_
  refine OK.lt (fun z2 hz2 => ?_)
  refine OK.grd gv ?_
  refine OK.grd ⟨by omega, by omega⟩ ?_
  refine OK.lt (fun z5 hz5 => ?_)
  have c5 : CH OC [88] ρ z5 := by rw [hz5, hz2]; exact ((c.i (by decide) (by decide)).o (by decide)).i (by decide) (by decide)
  have e5 : (z5.1 0 88).toInt = (σ.1 0 88).toInt + 1 := by rw [hz5, hz2]; show (σ.1 0 88 + 1).toInt = _; omega
  have k70 : ∀ (y0 : Int32), OK (f_X11_orders_70 ro v (4 * σ.1 0 88) y0 (4 * σ.1 0 88 + 1) z5) (RZ OC [88] ρ fun t => (σ.1 0 88).toInt ≤ (t.1 0 88).toInt ∧ (t.1 0 88).toInt ≤ (σ.1 0 88).toInt + (Wt (wS ρ) (tP ρ) (d' + 1) v.toNatClampNeg : Nat)) := fun y0 => by
    unfold f_X11_orders_70
    refine OK.grd ⟨by omega, by omega⟩ ?_
    refine OK.grd gv ?_
    refine OK.grd ⟨by omega, by omega⟩ ?_
    refine OK.lt (fun z4 hz4 => ?_)
    refine OK.grd ⟨by omega, by omega⟩ ?_
    refine OK.grd ⟨by omega, by omega⟩ ?_
    refine OK.lt (fun z7 hz7 => ?_)
    refine OK.grd ⟨by omega, by omega⟩ ?_
    refine OK.lt (fun x9 hx9 => ?_)
    have c9 : CH OC [88] ρ (stL z7 52 (4 * σ.1 0 88 / 2 + 1).toNatClampNeg (z7.2.1 22 v.toNatClampNeg)) := by
      rw [hz7, hz4]
      exact ((((c5.i (by decide) (by decide)).i (by decide) (by decide)).i (by decide) (by decide)).l (by decide) (by decide) (by decide) (by decide) (by decide)).l (by decide) (by decide) (by decide) (by decide) (by decide)
    have e9 : ((stL z7 52 (4 * σ.1 0 88 / 2 + 1).toNatClampNeg (z7.2.1 22 v.toNatClampNeg)).1 0 88).toInt = (σ.1 0 88).toInt + 1 := by
      rw [hz7, hz4]
      exact e5
    have e28 : x9 = ρ.1 28 v.toNatClampNeg := by
      rw [hx9]
      show (stL z7 52 (4 * σ.1 0 88 / 2 + 1).toNatClampNeg (z7.2.1 22 v.toNatClampNeg)).1 28 v.toNatClampNeg = _
      rw [c9.1 28 (by decide) (by decide)]
    generalize stL z7 52 (4 * σ.1 0 88 / 2 + 1).toNatClampNeg (z7.2.1 22 v.toNatClampNeg) = t at c9 e9 ⊢
    have m := msx_le hN.1 (x := ρ.1 28 v.toNatClampNeg)
    rw [e28]
    refine OK.mono (b_orders_136 hN ht (r := v.toNatClampNeg) (d := d') (by omega) (by omega) FU _ t c9 (hN.1.first (by omega)) (by omega) (by omega) (by omega)) (fun q hq => ?_)
    exact ⟨hq.1, by have := hq.2.1; omega, by have := hq.2.2; omega⟩
  refine OK.ile (fun hp => ?_) (fun _ => k70 _)
  refine OK.grd ?_ (k70 _)
  rw [c5.1 24 (by decide) (by decide)] at hp ⊢
  have hp : 0 ≤ tP ρ v.toNatClampNeg := by show 0 ≤ (ρ.1 24 v.toNatClampNeg).toInt; omega
  rcases hl.2 with h9 | h9
  · omega
  · have h10 : (ρ.1 24 v.toNatClampNeg).toInt < v.toNatClampNeg := h9.1.2
    exact ⟨h9.1.1, by omega⟩
theorem b_RO {ρ : ST} {LV : Nat → Nat} (hN : NL LV ρ) (h400 : (ρ.1 0 46).toInt ≤ 400) : ∀ N : Nat, cOrders ρ LV N (R_X11_orders N) := by
  intro N
  induction N with
  | zero =>
    intro v σ d c hv hd h0 hb hdN
    have nv := nN_ hv.1
    have := (hN.2.1 v.toNatClampNeg (by omega)).1
    omega
  | succ N ih => exact b_orders_top hN h400 ih
theorem b_orders (σ : ST) {LV : Nat → Nat} (hN : NL LV σ) (h0 : 0 < (σ.1 0 46).toInt) (h400 : (σ.1 0 46).toInt ≤ 400) : OK (f_T_X11_orders 0 (stI σ 0 88 0)) (RZ OC [88] σ fun t => bI (t.1 0 88) 0 400) := by
  have lt_0 := li_0
  have lr := FRi
  have n0 : (0 : Int32).toNatClampNeg = 0 := by decide
  have e88 : ((stI σ 0 88 0).1 0 88).toInt = 0 := li_0
  obtain ⟨w1, w2⟩ := hN.wt h0
  refine OK.mono (b_RO hN h400 FRB 0 (stI σ 0 88 0) 32 (CH.rf.o (by decide)) ⟨by omega, by omega⟩ (by rw [n0]; omega) (by omega) (by rw [n0]; omega) (by omega)) (fun q hq => ?_)
  obtain ⟨q1, q2, q3⟩ := hq
  rw [n0] at q3
  exact ⟨q1, ⟨by omega, by omega⟩⟩
theorem b_becomes_19 : ∀ (n : Nat) (x1 x3 : Int32) (σ : ST), bI (σ.1 0 48) 0 400 → (0 ≤ x1.toInt ∧ x1.toInt < 4) → (0 ≤ x3.toInt ∧ x3.toInt ≤ 400 ∧ (400 : Int) - x3.toInt < n) → OK (f_X11_becomes_19 n x1 x3 σ) (RZ [34] [] σ fun _ => True) := by
  intro n
  induction n with
  | zero => intro x1 x3 σ h1 h2 h3; omega
  | succ n ih =>
    intro x1 x3 σ h1 h2 h3
    rw [f_X11_becomes_19]
    have h1' := h1
    obtain ⟨a1, a2⟩ := h1
    have lt_1 := li_1
    have lt_400 := li_400
    have e1 := il_addE (x := x3) (y := 1) (by omega) (by omega)
    have e2 := mlE (k := 400) (y := x1) 400 li_400 (by omega) (by omega)
    have e3 := il_addE (x := 400 * x1) (y := x3) (by omega) (by omega)
    refine OK.ile (fun _ => OK.zret CH.rf trivial) (fun h => ?_)
    refine OK.grd ⟨by omega, by omega⟩ ?_
    refine OK.grd ⟨by omega, by omega⟩ ?_
    exact OK.trZ (ih x1 (x3 + 1) _ h1' h2 (by omega)) (CH.rf.i (by decide) (by decide)) (fun _ h => h) (fun _ h => h) (fun _ _ h => h)
theorem b_becomes (p0 p1 : Int32) (σ : ST) (h1 : bI (σ.1 0 48) 0 400) (h2 : 0 ≤ p0.toInt ∧ p0.toInt < 4) : OK (f_X11_becomes p0 p1 σ) (RZ [32, 33, 34] [] σ fun t => t.1 32 = upd (σ.1 32) p0.toNatClampNeg p1 ∧ t.1 33 = upd (σ.1 33) p0.toNatClampNeg (σ.1 0 48)) := by
  unfold f_X11_becomes
  have lt_0 := li_0
  have lu := FUi
  refine OK.grd h2 ?_
  refine OK.lt (fun z hz => ?_)
  have c : CH [32, 33, 34] [] σ z := by rw [hz]; exact (CH.rf.i (by decide) (by decide)).i (by decide) (by decide)
  have e48 : z.1 0 48 = σ.1 0 48 := by rw [hz]; rfl
  have e32 : z.1 32 = upd (σ.1 32) p0.toNatClampNeg p1 := by rw [hz]; rfl
  have e33 : z.1 33 = upd (σ.1 33) p0.toNatClampNeg (σ.1 0 48) := by rw [hz]; rfl
  refine OK.trZ (b_becomes_19 FU p0 0 z (by rw [e48]; exact h1) h2 (by omega)) c (by decide) (fun _ h => h) (fun t ct _ => ⟨?_, ?_⟩)
  · rw [ct.1 32 (by decide) (by decide)]; exact e32
  · rw [ct.1 33 (by decide) (by decide)]; exact e33
theorem b_uses_105 : ∀ (n : Nat) (x1 x3 : Int32) (σ : ST), (-1 ≤ x3.toInt ∧ x3.toInt < 4 ∧ x3.toInt + 1 < n) → OK (f_X11_uses_105 n x1 x3 σ) (RZ [55] [] σ fun _ => True) := by
  intro n
  induction n with
  | zero => intro x1 x3 σ h; omega
  | succ n ih =>
    intro x1 x3 σ h
    rw [f_X11_uses_105]
    have lt_0 := li_0
    have lt_1 := li_1
    have lm := li_m1
    refine OK.ile (fun _ => OK.zret (CH.rf.i (by decide) (by decide)) trivial) (fun h0 => ?_)
    have e1 := il_subE (x := x3) (y := 1) (by omega) (by omega)
    have e2 := il_addE (x := x3) (y := -1) (by omega) (by omega)
    refine OK.grd ⟨by omega, by omega⟩ ?_
    refine OK.grd ⟨by omega, by omega⟩ ?_
    exact OK.trZ (ih x1 (x3 + (-1)) _ (by omega)) (CH.rf.i (by decide) (by decide)) (fun _ h => h) (fun _ h => h) (fun _ _ h => h)
abbrev UIs : List Nat := [92, 93, 94]
theorem b_uses_4 : ∀ (n : Nat) (x1 x2 x3 : Int32) (σ : ST), bI (σ.1 0 92) 0 4 → (-1 ≤ x2.toInt ∧ x2.toInt < 4) → (0 ≤ x3.toInt ∧ x3.toInt ≤ 4 ∧ (4 : Int) - x3.toInt < n) → OK (f_X11_uses_4 n x1 x2 x3 σ) (RZ [55] UIs σ fun t => bI (t.1 0 92) 0 4) := by
  intro n
  induction n with
  | zero => intro x1 x2 x3 σ h1 h2 h3; omega
  | succ n ih =>
    intro x1 x2 x3 σ h1 h2 h3
    rw [f_X11_uses_4]
    have h1' := h1
    obtain ⟨a1, a2⟩ := h1
    have lt_0 := li_0
    have lt_1 := li_1
    have lt_4 := li_4
    have lu := FUi
    have e1 := il_addE (x := x3) (y := 1) (by omega) (by omega)
    have k103 : ∀ (y : Int32) (s : ST), CH [55] UIs σ s → bI (s.1 0 92) 0 4 → (-1 ≤ y.toInt ∧ y.toInt < 4) → OK (f_X11_uses_103 x1 y s) (RZ [55] UIs σ fun t => bI (t.1 0 92) 0 4) := fun y s cs hs hy => by
      unfold f_X11_uses_103
      refine OK.trZ (b_uses_105 FU x1 y s (by omega)) cs (fun _ h => h) (fun _ h => by cases h) (fun t ct _ => ?_)
      rw [ct.2.1 92 (by decide)]; exact hs
    have k93 : ∀ (y : Int32) (s : ST), CH [55] UIs σ s → (0 ≤ y.toInt ∧ y.toInt ≤ 4) → OK (f_X11_uses_93 x1 y s) (RZ [55] UIs σ fun t => bI (t.1 0 92) 0 4) := fun y s cs hy => by
      unfold f_X11_uses_93
      have e2 := il_subE (x := y) (y := 1) (by omega) (by omega)
      exact k103 (y - 1) (stI s 0 92 y) (cs.o (by decide)) hy (by omega)
    have k66 : ∀ (y0 y1 : Int32) (s : ST), CH [55] UIs σ s → bI (s.1 0 92) 0 4 → OK (f_X11_uses_66 x1 x2 y0 y1 s) (RZ [55] UIs σ fun t => bI (t.1 0 92) 0 4) := fun y0 y1 s cs hs => by
      unfold f_X11_uses_66
      have hs' := hs
      obtain ⟨s1, s2⟩ := hs
      have e3 := il_addE (x := s.1 0 92) (y := 1) (by omega) (by omega)
      refine OK.ile (fun _ => k103 _ _ (cs.o (by decide)) hs' h2) (fun _ => ?_)
      refine OK.ile (fun _ => k93 _ _ (cs.o (by decide)) (by omega)) (fun h9 => ?_)
      have h9 : (s.1 0 92).toInt < (4 : Int32).toInt := h9
      exact k93 (s.1 0 92 + 1) _ (cs.o (by decide)) (by omega)
    have k48 : ∀ (y0 y1 : Int32), OK (f_X11_uses_48 x1 x2 y0 y1 σ) (RZ [55] UIs σ fun t => bI (t.1 0 92) 0 4) := fun y0 y1 => by
      unfold f_X11_uses_48
      exact OK.ile (fun _ => k66 _ _ _ (CH.rf.o (by decide)) h1') (fun _ => k66 _ _ _ (CH.rf.o (by decide)) h1')
    refine OK.ile (fun _ => OK.ilt (fun _ => k48 _ _) (fun _ => k48 _ _)) (fun h => ?_)
    refine OK.grd ⟨by omega, by omega⟩ ?_
    unfold f_X11_uses_27
    exact OK.ieq (fun _ => ih _ _ _ _ h1' (by omega) (by omega)) (fun _ => ih _ _ _ _ h1' h2 (by omega))
theorem b_uses (p0 : Int32) (σ : ST) (h : bI (σ.1 0 92) 0 4) : OK (f_X11_uses p0 σ) (RZ [55] UIs σ fun t => bI (t.1 0 92) 0 4) := by
  have lt_0 := li_0
  have lm := li_m1
  have lu := FUi
  exact b_uses_4 FU p0 (-1) 0 σ h (by omega) (by omega)
/-- the root's type is laid: nothing else is another one -/
theorem PLs.root {σ : ST} (h : PLs σ) : PLs (stI (stI σ 2 799 7) 3 799 0) := by
  obtain ⟨h1, h2, h3⟩ := h
  refine ⟨h1, fun p hp => ?_, h3⟩
  obtain ⟨a1, a2⟩ := h2 p hp
  refine ⟨a1, fun k hk => ⟨(a2 k hk).1, fun j hj => ?_⟩⟩
  exact VT.put (i := 799) (by decide) ((a2 k hk).2 j hj)
theorem PP.root {σ : ST} (h : PP σ) : PP (stI (stI σ 2 799 7) 3 799 0) := by
  have hM : ME (stI (stI σ 2 799 7) 3 799 0) := ⟨h.1.1.root, h.1.2.1, h.1.2.2⟩
  refine ⟨hM, h.2.1, ?_⟩
  intro w r a1 a2 a3 a4 a5 k f v k1 k2 k3 k4
  have k3' := ff_tr (σ := stI (stI σ 2 799 7) 3 799 0) (τ := σ) rfl rfl rfl rfl w f v k3
  have m := h.2.2 w r a1 a2 a3 a4 a5 k f v k1 k2 k3' k4
  have n1 := nN_ a1
  have n2 := nN_ a3
  have pc := h.2.1 (6 * w.toNatClampNeg + r.toNatClampNeg) (by omega) a5
  have hw : wrec σ w := wrec_i a1 (by omega)
  have hr : rrec σ r := rrec_i a3 (by omega)
  obtain ⟨b1, b2, b3, b4⟩ := h.1.w
  have r2 : r.toInt < rmR σ := hr.2
  have b21 := b2.1
  have b22 := b2.2
  obtain ⟨f1, f2⟩ := h.1.rf4 hr
  have f12 := f1.2
  have k1' : (k : Int) < (σ.1 11 (6 * (σ.1 0 54).toNatClampNeg + r.toNatClampNeg)).toInt := k1
  have k2' : f.toInt = 8 * (6 * (σ.1 0 54).toInt + r.toInt) + k := k2
  have n3 := nN_ b21
  have ef : f.toNatClampNeg = 8 * (6 * (σ.1 0 54).toNatClampNeg + r.toNatClampNeg) + k := nC (by omega)
  have hf := f2 k k1'
  rw [← ef] at hf
  obtain ⟨⟨v', s⟩, e1, e2, e3⟩ := h.1.ff4 hw (f := f) (by omega)
  rw [k3'] at e1
  have ev : v = v' := (Prod.mk.inj (Option.some.inj e1)).1
  rw [← ev] at e3
  have e3 : v.toInt = -1 ∨ (0 ≤ v.toInt ∧ v.toInt < 576) ∧ VC σ (rmW σ) 4 (σ.1 15 v.toNatClampNeg) := e3
  rcases e3 with e3 | e3
  · omega
  · obtain ⟨n, hn⟩ := m
    exact ⟨n, MT.put (i := 799) (by decide) e3.2 hf hn⟩
theorem NL.nil {LV : Nat → Nat} {σ : ST} (h : σ.1 0 46 = 0) : NL LV σ := by
  have e : (σ.1 0 46).toInt = 0 := by rw [h]; exact li_0
  refine ⟨⟨⟨by omega, by omega⟩, fun r hr => by omega, fun r hr => by omega⟩, fun r hr => by omega, fun r hr => by omega⟩
abbrev AC : List Nat := [2, 3, 20, 23, 24, 25, 26, 27, 28, 29, 30, 35, 36, 41]
abbrev AI : List Nat := [46, 53, 54, 57, 63, 64, 65, 66, 67, 68, 72]
/-- what a reading ends with: a tree, if it was read -/
def RA (q : Int32 × ST) : Prop := PLs q.2 ∧ PB q.2 ∧ bI (q.2.1 0 68) 0 256 ∧ (q.1.toInt = -2 ∨ q.1.toInt = -3 ∨ q.1.toInt = 0 ∧ ∃ LV, NL LV q.2 ∧ (0 < (q.2.1 0 46).toInt ∧ (q.2.1 0 46).toInt ≤ 400))
theorem b_readsAll (m p : Int32) (σ : ST) (hP : PLs σ) (hB : PB σ) (h68 : bI (σ.1 0 68) 0 256) (h33 : ∀ i, bI (σ.1 33 i) 0 400) (hm : 0 ≤ m.toInt ∧ m.toInt < 4) (h0 : 0 ≤ (σ.1 32 m.toNatClampNeg).toInt ∧ (σ.1 32 m.toNatClampNeg).toInt < (σ.1 0 32).toInt) (h1 : 0 ≤ p.toInt ∧ p.toInt < (σ.1 0 32).toInt) : OK (f_X11_readsAll m p σ) (fun q => CH AC AI σ q.2 ∧ RA q) := by
  unfold f_X11_readsAll
  have lt_0 := li_0
  have lt_4 := li_4
  have lt_400 := li_400
  have lm := li_m1
  have lm2 := li_m2
  have lm3 := li_m3
  have lt_799 := li_799
  have lr := FRi
  have a1 := mlE (k := 400) (y := m) 400 li_400 (by omega) (by omega)
  refine OK.grd hm ?_
  refine OK.bndZ (b_laysPairs _ p σ hP hB h0 h1) (fun t c ht => ?_)
  obtain ⟨hPP, _, _⟩ := ht
  have c66 : CH AC AI σ (stI t 0 66 0) := (c.mono (by decide) (by decide)).o (by decide)
  have e68 : t.1 0 68 = σ.1 0 68 := c.2.1 68 (by decide)
  refine OK.ite (fun _ => ?_) (fun hne => ?_)
  · exact OK.ret ⟨c66, ⟨hPP.1.1.of rfl rfl rfl rfl rfl rfl rfl rfl rfl, hPP.1.2.2, by show bI (t.1 0 68) 0 256; rw [e68]; exact h68, .inl (by omega)⟩⟩
  refine OK.lt (fun z4 hz4 => ?_)
  unfold f_X11_rootType
  have n799 : (799 : Int32).toNatClampNeg = 799 := by decide
  have n0 : (0 : Int32).toNatClampNeg = 0 := by decide
  rw [n799]
  rw [n0] at hne
  refine OK.lt (fun q5 hq5 => ?_)
  subst hq5
  dsimp only
  have hPP1 : PP (stI (stI z4 0 57 0) 0 46 0) := by
    rw [hz4]
    exact hPP.ch (C := []) (I := [66, 63, 64, 65, 57, 46]) ((((((CH.rf.o (by decide)).o (by decide)).o (by decide)).o (by decide)).o (by decide)).o (by decide)) (by decide) (by decide)
  have c4 : CH AC AI σ (stI (stI (stI (stI z4 0 57 0) 0 46 0) 2 799 7) 3 799 0) := by
    rw [hz4]
    exact (((((((c66.o (by decide)).o (by decide)).o (by decide)).o (by decide)).o (by decide)).i (by decide) (by decide)).i (by decide) (by decide))
  have hRD : RD (stI (stI (stI (stI z4 0 57 0) 0 46 0) 2 799 7) 3 799 0) := by
    rw [hz4]
    have e33 : t.1 33 = σ.1 33 := c.1 33 (by decide) (by decide)
    have h9 := h33 m.toNatClampNeg
    refine ⟨?_, bz (by decide) (by decide), ?_⟩
    · show 0 ≤ (400 * m).toInt ∧ 0 ≤ (0 : Int32).toInt ∧ (0 : Int32).toInt ≤ (t.1 33 m.toNatClampNeg).toInt ∧ (400 * m).toInt + (t.1 33 m.toNatClampNeg).toInt ≤ 1600
      rw [e33]
      obtain ⟨h91, h92⟩ := h9
      omega
    · show bI (t.1 0 68) 0 256
      rw [e68]; exact h68
  have e46 : (stI (stI (stI (stI z4 0 57 0) 0 46 0) 2 799 7) 3 799 0).1 0 46 = 0 := rfl
  have e57 : (stI (stI (stI (stI z4 0 57 0) 0 46 0) 2 799 7) 3 799 0).1 0 57 = 0 := rfl
  have hPP2 := hPP1.root
  have hS : ((stI (stI (stI (stI z4 0 57 0) 0 46 0) 2 799 7) 3 799 0).1 2 799) = 7 := upd_at (f := (stI (stI z4 0 57 0) 0 46 0).1 2) (i := 799) (v := 7)
  have hA : ((stI (stI (stI (stI z4 0 57 0) 0 46 0) 2 799 7) 3 799 0).1 3 799) = 0 := upd_at (f := (stI (stI (stI z4 0 57 0) 0 46 0) 2 799 7).1 3) (i := 799) (v := 0)
  have hne2 : ¬ (stI (stI (stI (stI z4 0 57 0) 0 46 0) 2 799 7) 3 799 0).1 35 0 = 0 := by rw [hz4]; exact hne
  generalize stI (stI (stI (stI z4 0 57 0) 0 46 0) 2 799 7) 3 799 0 = s at c4 hRD e46 e57 hPP2 hS hA hne2 ⊢
  have e46' : (s.1 0 46).toInt = 0 := by rw [e46]; exact li_0
  have e57' : (s.1 0 57).toInt = 0 := by rw [e57]; exact li_0
  obtain ⟨b1, b2, b3, b4⟩ := hPP2.1.w
  have hG : GX (fun _ => 0) s := ⟨hPP2, hRD, NL.nil e46, by omega⟩
  have l7 : (7 : Int32).toInt = 7 := by decide
  have root : ∀ a : Int, 1 ≤ a → VS s a 1 799 := fun a ha => by
    refine ⟨⟨by omega, by omega⟩, ?_, ?_, ?_, ?_⟩
    · rw [n799, hS]; omega
    · rw [n799, hS]; intro h; omega
    · rw [n799, hA]; intro _; omega
    · rw [n799, hS]; intro h; omega
  have hMS : MS s 799 799 := by
    refine (MT.iffP (by rw [n799, hS]; exact l7) (by rw [n799, hS]; exact l7)).mpr ?_
    rw [n799, hA, n0]
    exact hne2
  refine OK.bnd ((b_RR FRB).1 799 799 0 (-1) 0 s (fun _ => 0) 1 hG (root _ b3.1) (by omega) (.inr ⟨by omega, 1, by omega, root _ b4.1, hMS⟩) ⟨by omega, by omega⟩ (fun _ => .inl ⟨by omega, by omega⟩) ⟨by omega, by omega⟩ (by omega)) (fun q hq => ?_)
  obtain ⟨LV, g, hv⟩ := hq
  have cq : CH AC AI σ q.2 := c4.trans (g.1.mono (by decide) (by decide))
  unfold f_X11_readsAll_106
  have fin : ∀ (x : Int32) (u : ST), (x.toInt = 0 ∨ x.toInt = 1 ∧ (s.1 0 46).toInt + 1 ≤ (u.1 0 46).toInt) → CH AC AI σ u → GX LV u → OK (if x = 0 then some ((-3 : Int32), u) else some (0, u)) (fun q => CH AC AI σ q.2 ∧ RA q) := fun x u hx cu hu => by
    refine OK.ieq (fun h => OK.ret ⟨cu, hu.1.1.1, hu.1.1.2.2, hu.2.1.2.2, .inr (.inl (by omega))⟩) (fun h => ?_)
    exact OK.ret ⟨cu, hu.1.1.1, hu.1.1.2.2, hu.2.1.2.2, .inr (.inr ⟨lt_0, LV, hu.2.2.1, (show 0 < (u.1 0 46).toInt by omega), hu.2.2.2⟩)⟩
  have hx0 : q.1.toInt = 0 ∨ q.1.toInt = 1 ∧ (s.1 0 46).toInt + 1 ≤ (q.2.1 0 46).toInt := by
    rcases hv with hv | hv
    · exact .inl hv.1
    · exact .inr ⟨hv.1, hv.2.2 (by omega)⟩
  refine OK.ieq (fun _ => fin _ _ hx0 cq g.2.1) (fun h => ?_)
  refine OK.ile (fun _ => fin _ _ hx0 cq g.2.1) (fun _ => ?_)
  refine OK.bndC (RD.fails g.2.1.2.1 CH.rf (C := [41]) (I := [66, 67, 68]) (by decide) (by decide) (by decide) (by decide)) (fun v t' ct' hq' => ?_)
  have g2 := g.trans (GR.small g.2.1 ct' (by decide) (by decide) hq'.2.1)
  exact fin _ _ (.inl hq'.1) (cq.trans (ct'.mono (by decide) (by decide))) g2.2.1
abbrev FC : List Nat := [2, 3, 20, 23, 24, 25, 26, 27, 28, 29, 30, 35, 36, 41, 42, 43, 44, 45, 46, 49, 55]
abbrev FI : List Nat := [46, 53, 54, 57, 63, 64, 65, 66, 67, 68, 72, 73, 81, 82, 83, 92, 93, 94]
def RF (q : Int32 × ST) : Prop := PLs q.2 ∧ PB q.2 ∧ bI (q.2.1 0 68) 0 256 ∧ bI (q.2.1 0 73) 0 400 ∧ bI (q.2.1 0 83) 0 256 ∧ bI (q.2.1 0 92) 0 4 ∧ TH q.2 ∧ (q.1.toInt < 0 ∨ q.1.toInt = 0 ∧ ∃ LV, NL LV q.2 ∧ (0 < (q.2.1 0 46).toInt ∧ (q.2.1 0 46).toInt ≤ 400))
theorem b_readsFor_54 (σ0 : ST) : ∀ (n : Nat) (x3 x4 : Int32) (σ : ST), CH FC FI σ0 σ → PLs σ → PB σ → bI (σ.1 0 68) 0 256 → σ.1 0 73 = 0 → bI (σ.1 0 83) 0 256 → bI (σ.1 0 92) 0 4 → TH σ → (x3.toInt < 0 ∨ x3.toInt = 0 ∧ ∃ LV, NL LV σ ∧ (0 < (σ.1 0 46).toInt ∧ (σ.1 0 46).toInt ≤ 400)) → (0 ≤ x4.toInt ∧ x4.toInt ≤ 256 ∧ (256 : Int) - x4.toInt < n) → OK (f_X11_readsFor_54 n x3 x4 σ) (fun q => CH FC FI σ0 q.2 ∧ RF q) := by
  intro n
  induction n with
  | zero => intro x3 x4 σ h1 h2 h3 h4 h5 h6 h7 h8 h9 h10; omega
  | succ n ih =>
    intro x3 x4 σ c hP hB h68 h73 h83 h92 hT hx h4
    rw [f_X11_readsFor_54]
    have lt_0 := li_0
    have lt_1 := li_1
    have e1 := il_addE (x := x4) (y := 1) (by omega) (by omega)
    have h682 := h68.2
    refine OK.ile (fun _ => ?_) (fun h => ?_)
    · refine OK.ieq (fun h3 => ?_) (fun h3 => ?_)
      · rcases hx with hx | ⟨hx, LV, hN, hs⟩
        · omega
        refine OK.bndZ (b_tells σ hN hs.1 hs.2 hT h73) (fun t ct ht => ?_)
        have c2 : CH FC FI σ0 t := c.trans (ct.mono (by decide) (by decide))
        refine OK.ret ⟨c2, hP.ch ct (by decide) (by decide), ?_, ?_, ht.2, ?_, ?_, ht.1, .inr ⟨hx, LV, hN.ch ct (by decide) (by decide), ?_⟩⟩
        · show PB t
          unfold PB
          rw [ct.1 35 (by decide) (by decide)]; exact hB
        · show bI (t.1 0 68) 0 256
          rw [ct.2.1 68 (by decide)]; exact h68
        · show bI (t.1 0 83) 0 256
          rw [ct.2.1 83 (by decide)]; exact h83
        · show bI (t.1 0 92) 0 4
          rw [ct.2.1 92 (by decide)]; exact h92
        · show 0 < (t.1 0 46).toInt ∧ (t.1 0 46).toInt ≤ 400
          rw [ct.2.1 46 (by decide)]; exact hs
      · refine OK.ret ⟨c, hP, hB, h68, ?_, h83, h92, hT, ?_⟩
        · show bI (σ.1 0 73) 0 400
          rw [h73]; exact bz (by decide) (by decide)
        · rcases hx with hx | hx
          · exact .inl hx
          · omega
    · refine OK.grd ⟨by omega, by omega⟩ ?_
      have c1 : CH [49] [] σ (stI σ 49 x4.toNatClampNeg (σ.1 41 x4.toNatClampNeg)) := CH.rf.i (by decide) (by decide)
      refine ih x3 (x4 + 1) _ (c.i (by decide) (by decide)) (hP.ch c1 (by decide) (by decide)) hB h68 h73 h83 h92 hT ?_ (by omega)
      rcases hx with hx | ⟨hx, LV, hN, hs⟩
      · exact .inl hx
      · exact .inr ⟨hx, LV, hN.ch c1 (by decide) (by decide), hs⟩
theorem b_readsFor (m p : Int32) (σ : ST) (hP : PLs σ) (hB : PB σ) (h68 : bI (σ.1 0 68) 0 256) (h33 : ∀ i, bI (σ.1 33 i) 0 400) (h92 : bI (σ.1 0 92) 0 4) (hT : TH σ) (hm : 0 ≤ m.toInt ∧ m.toInt < 4) (h0 : 0 ≤ (σ.1 32 m.toNatClampNeg).toInt ∧ (σ.1 32 m.toNatClampNeg).toInt < (σ.1 0 32).toInt) (h1 : 0 ≤ p.toInt ∧ p.toInt < (σ.1 0 32).toInt) : OK (f_X11_readsFor m p σ) (fun q => CH FC FI σ q.2 ∧ RF q) := by
  unfold f_X11_readsFor
  have lt_0 := li_0
  have lu := FUi
  refine OK.grd hm ?_
  refine OK.bndZ (b_uses _ σ h92) (fun t c ht => ?_)
  refine OK.bnd (b_readsAll m p t (hP.ch c (by decide) (by decide)) ?_ ?_ ?_ hm ?_ ?_) (fun q hq => ?_)
  · unfold PB
    rw [c.1 35 (by decide) (by decide)]; exact hB
  · rw [c.2.1 68 (by decide)]; exact h68
  · rw [c.1 33 (by decide) (by decide)]; exact h33
  · rw [c.1 32 (by decide) (by decide), c.2.1 32 (by decide)]; exact h0
  · rw [c.2.1 32 (by decide)]; exact h1
  obtain ⟨cq, hP2, hB2, h682, hv⟩ := hq
  refine OK.lt (fun z hz => ?_)
  have cz : CH [] [73, 81, 82, 83] q.2 (stI z 0 83 (z.1 0 68)) := by
    rw [hz]
    exact (((CH.rf.o (by decide)).o (by decide)).o (by decide)).o (by decide)
  have ez : z.1 0 68 = q.2.1 0 68 := by rw [hz]; rfl
  have e73 : (stI z 0 83 (z.1 0 68)).1 0 73 = 0 := by rw [hz]; rfl
  have e83 : (stI z 0 83 (z.1 0 68)).1 0 83 = q.2.1 0 68 := by
    show z.1 0 68 = _
    exact ez
  generalize stI z 0 83 (z.1 0 68) = s at cz e73 e83 ⊢
  have c1 : CH FC FI σ s := ((c.mono (by decide) (by decide)).trans (cq.mono (by decide) (by decide))).trans (cz.mono (by decide) (by decide))
  refine b_readsFor_54 σ FU q.1 0 s c1 (hP2.ch cz (by decide) (by decide)) ?_ ?_ e73 ?_ ?_ ?_ ?_ (by omega)
  · unfold PB
    rw [cz.1 35 (by decide) (by decide)]; exact hB2
  · rw [cz.2.1 68 (by decide)]; exact h682
  · rw [e83]; exact h682
  · rw [cz.2.1 92 (by decide), cq.2.1 92 (by decide)]; exact ht
  · unfold TH
    rw [cz.1 45 (by decide) (by decide), cq.1 45 (by decide) (by decide), c.1 45 (by decide) (by decide)]; exact hT
  · rcases hv with hv | hv | ⟨hv, LV, hN, hs⟩
    · exact .inl (by omega)
    · exact .inl (by omega)
    · exact .inr ⟨hv, LV, hN.ch cz (by decide) (by decide), by rw [cz.2.1 46 (by decide)]; exact hs⟩
