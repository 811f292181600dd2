/-! the reference: its tree -/
def tP (σ : ST) : Nat → Int := fun r => (σ.1 24 r).toInt
def tC (σ : ST) : Nat → Int := fun r => (σ.1 25 r).toInt
def tF (σ : ST) : Nat → Int := fun r => (σ.1 28 r).toInt
def tL (σ : ST) : Nat → Int := fun r => (σ.1 29 r).toInt
def tN (σ : ST) : Nat → Int := fun r => (σ.1 30 r).toInt
/-- how many stand at a child's place or behind it -/
def ms (S : Nat) (C : Nat → Int) (k : Nat) : Nat := cntZ (fun c => C k < C c ∨ C c = C k ∧ c ≤ k) S
theorem ms_le {S : Nat} {C : Nat → Int} {k : Nat} : ms S C k ≤ S := cntZ_le _
theorem ms_step {S : Nat} {C : Nat → Int} {k m : Nat} (hk : k < S) (h : C k < C m ∨ C k = C m ∧ m < k) : ms S C m + 1 ≤ ms S C k := cntZ_lt (p := fun c => C m < C c ∨ C c = C m ∧ c ≤ m) (q := fun c => C k < C c ∨ C c = C k ∧ c ≤ k) (fun r hr => by omega) (c := k) (by omega) (by omega) S hk
/-- a child of that row, or none -/
def isC (σ : ST) (p : Nat) (x : Int32) : Prop := x.toInt = -1 ∨ (0 ≤ x.toInt ∧ x.toInt < (σ.1 0 46).toInt) ∧ tP σ x.toNatClampNeg = p
def msx (σ : ST) (x : Int32) : Nat := if x.toInt = -1 then 0 else ms (σ.1 0 46).toInt.toNat (tC σ) x.toNatClampNeg
/-- the tree's order -/
def TO (σ : ST) : Prop := bI (σ.1 0 46) 0 4096 ∧ TRf (σ.1 0 46).toInt (tP σ) (tC σ) (tF σ) (tL σ) (tN σ) ∧ ∀ r : Nat, (r : Int) < (σ.1 0 46).toInt → tF σ r = -1 → tL σ r = -1
theorem TO.first {σ : ST} (h : TO σ) {p : Nat} (hp : (p : Int) < (σ.1 0 46).toInt) : isC σ p (σ.1 28 p) := by
  rcases (h.2.1 p hp).1 with a | ⟨a1, a2, a3⟩
  · exact .inl a
  · exact .inr ⟨⟨a1, a2⟩, a3⟩
theorem TO.next {σ : ST} (h : TO σ) {p : Nat} {x : Int32} (hx : isC σ p x) (h0 : ¬ x.toInt = -1) : isC σ p (σ.1 30 x.toNatClampNeg) ∧ msx σ (σ.1 30 x.toNatClampNeg) + 1 ≤ msx σ x := by
  rcases hx with hx | ⟨⟨x1, x2⟩, x3⟩
  · exact absurd hx h0
  have n1 := nN_ x1
  have n2 : ((((σ.1 0 46).toInt.toNat : Nat)) : Int) = (σ.1 0 46).toInt := Int.toNat_of_nonneg (by omega)
  have e0 : msx σ x = ms (σ.1 0 46).toInt.toNat (tC σ) x.toNatClampNeg := if_neg h0
  rcases (h.2.1 x.toNatClampNeg (by omega)).2.2 with a | ⟨a1, a2, a3, a4⟩
  · have a : (σ.1 30 x.toNatClampNeg).toInt = -1 := a
    have e1 : msx σ (σ.1 30 x.toNatClampNeg) = 0 := if_pos a
    refine ⟨.inl a, ?_⟩
    have h9 := cntZ_lt (p := fun _ => False) (q := fun c => tC σ x.toNatClampNeg < tC σ c ∨ tC σ c = tC σ x.toNatClampNeg ∧ c ≤ x.toNatClampNeg) (fun _ h => h.elim) (c := x.toNatClampNeg) (fun h => h) (by omega) (σ.1 0 46).toInt.toNat (by omega)
    rw [e1, e0]
    unfold ms
    omega
  · have a1 : 0 ≤ (σ.1 30 x.toNatClampNeg).toInt := a1
    have a2 : (σ.1 30 x.toNatClampNeg).toInt < (σ.1 0 46).toInt := a2
    have a3 : tP σ (σ.1 30 x.toNatClampNeg).toInt.toNat = tP σ x.toNatClampNeg := a3
    have a4 : tC σ x.toNatClampNeg < tC σ (σ.1 30 x.toNatClampNeg).toInt.toNat ∨ tC σ x.toNatClampNeg = tC σ (σ.1 30 x.toNatClampNeg).toInt.toNat ∧ (σ.1 30 x.toNatClampNeg).toInt < x.toNatClampNeg := a4
    have e1 : msx σ (σ.1 30 x.toNatClampNeg) = ms (σ.1 0 46).toInt.toNat (tC σ) (σ.1 30 x.toNatClampNeg).toNatClampNeg := if_neg (by omega)
    have n3 := nN_ a1
    refine ⟨.inr ⟨⟨a1, a2⟩, a3.trans x3⟩, ?_⟩
    rw [e0, e1]
    have a4' : tC σ x.toNatClampNeg < tC σ (σ.1 30 x.toNatClampNeg).toNatClampNeg ∨ tC σ x.toNatClampNeg = tC σ (σ.1 30 x.toNatClampNeg).toNatClampNeg ∧ (σ.1 30 x.toNatClampNeg).toInt < x.toNatClampNeg := a4
    exact ms_step (by omega) (by omega)
theorem msx_le {σ : ST} (h : TO σ) {x : Int32} : msx σ x ≤ 4096 := by
  unfold msx
  split
  · omega
  · have := ms_le (S := (σ.1 0 46).toInt.toNat) (C := tC σ) (k := x.toNatClampNeg)
    have := h.1.2
    omega
theorem b_hasChild_10 : ∀ (n : Nat) (p : Nat) (x2 x3 x4 : Int32) (σ : ST), TO σ → isC σ p x4 → (x3.toInt = 0 ∨ x3.toInt = 1) → msx σ x4 < n → OK (f_X11_hasChild_10 n x2 x3 x4 σ) (RO σ fun v => v.toInt = 0 ∨ v.toInt = 1) := by
  intro n
  induction n with
  | zero => intro p x2 x3 x4 σ h1 h2 h3 h4; omega
  | succ n ih =>
    intro p x2 x3 x4 σ hT hx h3 hn
    rw [f_X11_hasChild_10]
    unfold f_X11_hasChild_30 f_X11_hasChild_35
    have lt_0 := li_0
    have lt_1 := li_1
    refine OK.ilt (fun _ => OK.grd (b01 h3) (OK.roret h3)) (fun h => ?_)
    obtain ⟨a1, a2⟩ := hT.next hx (by omega)
    have hr : 0 ≤ x4.toInt ∧ x4.toInt < 4096 := by
      have := hT.1.2
      rcases hx with hx | hx
      · omega
      · omega
    refine OK.ieq (fun _ => ?_) (fun _ => OK.grd hr (ih p _ _ _ _ hT a1 (by omega) (by omega)))
    refine OK.grd hr ?_
    exact OK.ieq (fun _ => OK.grd hr (ih p _ _ _ _ hT a1 (by omega) (by omega))) (fun _ => OK.grd hr (ih p _ _ _ _ hT a1 (by omega) (by omega)))
theorem b_hasChild (p0 p1 : Int32) (σ : ST) (hT : TO σ) (h : 0 ≤ p0.toInt ∧ p0.toInt < (σ.1 0 46).toInt) : OK (f_X11_hasChild p0 p1 σ) (RO σ fun v => v.toInt = 0 ∨ v.toInt = 1) := by
  unfold f_X11_hasChild
  have lt_0 := li_0
  have lu := FUi
  have h46 := hT.1.2
  have n1 := nN_ h.1
  have := msx_le hT (x := σ.1 28 p0.toNatClampNeg)
  refine OK.grd ⟨by omega, by omega⟩ ?_
  exact b_hasChild_10 FU p0.toNatClampNeg _ _ _ _ hT (hT.first (by omega)) (by omega) (by omega)
/-- the newest row is to be linked -/
def JP (σ : ST) (p v : Int32) : Prop := TO σ ∧ v.toInt = (σ.1 0 46).toInt - 1 ∧ (0 ≤ p.toInt ∧ p.toInt < v.toInt) ∧ tP σ v.toNatClampNeg = p.toInt ∧ ∀ r : Nat, (r : Int) < (σ.1 0 46).toInt → tF σ r < v.toInt ∧ tL σ r < v.toInt ∧ tN σ r < v.toInt
theorem b_joins_147 (p v : Int32) (σ s : ST) (hJ : JP σ p v) (c : CH [28, 29, 30] [] σ s) (e29 : s.1 29 = σ.1 29) (hT : TRf (σ.1 0 46).toInt (tP σ) (tC σ) (tF s) (if (s.1 30 v.toNatClampNeg).toInt = -1 then updZ (tL σ) p.toNatClampNeg ((v.toNatClampNeg : Nat) : Int) else tL σ) (tN s)) (hF : ∀ r : Nat, (r : Int) < (σ.1 0 46).toInt → tF s r = -1 → (if (s.1 30 v.toNatClampNeg).toInt = -1 then updZ (tL σ) p.toNatClampNeg ((v.toNatClampNeg : Nat) : Int) else tL σ) r = -1) (hn : (s.1 30 v.toNatClampNeg).toInt = -1 ∨ 0 ≤ (s.1 30 v.toNatClampNeg).toInt) : OK (f_X11_joins_147 p v s) (RZ [28, 29, 30] [] σ TO) := by
  obtain ⟨⟨h46, _, _⟩, j1, j2, j3, j4⟩ := hJ
  have lt_0 := li_0
  have h461 := h46.1
  have h462 := h46.2
  have n2 := nN_ (x := v) (by omega)
  have e46 : s.1 0 46 = σ.1 0 46 := c.2.1 46 (by decide)
  have e24 : s.1 24 = σ.1 24 := c.1 24 (by decide) (by decide)
  have e25 : s.1 25 = σ.1 25 := c.1 25 (by decide) (by decide)
  have pP : tP s = tP σ := by unfold tP; rw [e24]
  have pC : tC s = tC σ := by unfold tC; rw [e25]
  have pL : tL s = tL σ := by unfold tL; rw [e29]
  unfold f_X11_joins_147
  refine OK.grd ⟨by omega, by omega⟩ ?_
  refine OK.ile (fun h => ?_) (fun h => ?_)
  · have hne : ¬ (s.1 30 v.toNatClampNeg).toInt = -1 := by omega
    rw [if_neg hne] at hT
    refine OK.zret c ⟨by rw [e46]; exact h46, ?_, fun r hr h9 => ?_⟩
    · rw [pP, pC, pL, e46]; exact hT
    · rw [e46] at hr
      have := hF r hr h9
      rw [if_neg hne] at this
      rw [pL]; exact this
  · have he : (s.1 30 v.toNatClampNeg).toInt = -1 := by omega
    rw [if_pos he] at hT
    refine OK.grd ⟨by omega, by omega⟩ ?_
    have cu : CH [28, 29, 30] [] σ (stI s 29 p.toNatClampNeg v) := c.i (by decide) (by decide)
    have u46 : (stI s 29 p.toNatClampNeg v).1 0 46 = s.1 0 46 := rfl
    have uP : tP (stI s 29 p.toNatClampNeg v) = tP s := rfl
    have uC : tC (stI s 29 p.toNatClampNeg v) = tC s := rfl
    have uF : tF (stI s 29 p.toNatClampNeg v) = tF s := rfl
    have uN : tN (stI s 29 p.toNatClampNeg v) = tN s := rfl
    have uL : tL (stI s 29 p.toNatClampNeg v) = updZ (tL s) p.toNatClampNeg v.toInt := vw_upd
    generalize stI s 29 p.toNatClampNeg v = u at cu u46 uP uC uF uN uL ⊢
    have ev : v.toInt = ((v.toNatClampNeg : Nat) : Int) := n2.symm
    refine OK.zret cu ⟨by rw [u46, e46]; exact h46, ?_, fun r hr h9 => ?_⟩
    · rw [uP, uC, uF, uN, uL, pP, pC, pL, u46, e46, ev]; exact hT
    · rw [u46, e46] at hr
      rw [uF] at h9
      have := hF r hr h9
      rw [if_pos he] at this
      rw [uL, pL, ev]; exact this
theorem b_joins_101 (p v x3 : Int32) (σ : ST) (hJ : JP σ p v) (hx : (x3.toInt = -1 ∧ (tF σ p.toNatClampNeg = -1 ∨ tC σ v.toNatClampNeg ≤ tC σ (tF σ p.toNatClampNeg).toNat)) ∨ ((0 ≤ x3.toInt ∧ x3.toInt < v.toInt) ∧ tP σ x3.toNatClampNeg = p.toInt ∧ tC σ x3.toNatClampNeg < tC σ v.toNatClampNeg ∧ (tN σ x3.toNatClampNeg = -1 ∨ tC σ v.toNatClampNeg ≤ tC σ (tN σ x3.toNatClampNeg).toNat) ∧ ¬ tF σ p.toNatClampNeg = -1)) : OK (f_X11_joins_101 p v x3 σ) (RZ [28, 29, 30] [] σ TO) := by
  have hJ' := hJ
  obtain ⟨⟨h46, hT, hFL⟩, j1, j2, j3, j4⟩ := hJ
  have lt_0 := li_0
  have lm := li_m1
  have h461 := h46.1
  have h462 := h46.2
  have n1 := nN_ j2.1
  have n2 := nN_ (x := v) (by omega)
  have gp : 0 ≤ p.toInt ∧ p.toInt < 4096 := by omega
  have gv : 0 ≤ v.toInt ∧ v.toInt < 4096 := by omega
  have hvr : ((v.toNatClampNeg : Nat) : Int) = (σ.1 0 46).toInt - 1 := by omega
  have j3' : tP σ v.toNatClampNeg = ((p.toNatClampNeg : Nat) : Int) := by omega
  have fresh : ∀ r : Nat, (r : Int) < (σ.1 0 46).toInt → tF σ r < ((v.toNatClampNeg : Nat) : Int) ∧ tL σ r < ((v.toNatClampNeg : Nat) : Int) ∧ tN σ r < ((v.toNatClampNeg : Nat) : Int) := fun r hr => by
    have := j4 r hr
    omega
  have ev : v.toInt = ((v.toNatClampNeg : Nat) : Int) := n2.symm
  unfold f_X11_joins_101 f_X11_joins_125
  rcases hx with ⟨x1, x2⟩ | ⟨x1, x2, x3', x4, x5⟩
  · refine OK.ile (fun h => by omega) (fun _ => ?_)
    refine OK.grd gp ?_
    refine OK.grd gv ?_
    refine OK.ile (fun h => by omega) (fun _ => ?_)
    refine OK.grd gp ?_
    have hF := TRf.first hT (row := v.toNatClampNeg) (p := p.toNatClampNeg) hvr (by omega) j3' fresh x2
    have hFr := (hT p.toNatClampNeg (by omega)).1
    have cs : CH [28, 29, 30] [] σ (stI (stI σ 30 v.toNatClampNeg (σ.1 28 p.toNatClampNeg)) 28 p.toNatClampNeg v) := (CH.rf.i (by decide) (by decide)).i (by decide) (by decide)
    have e28 : (stI (stI σ 30 v.toNatClampNeg (σ.1 28 p.toNatClampNeg)) 28 p.toNatClampNeg v).1 28 = upd (σ.1 28) p.toNatClampNeg v := rfl
    have e30 : (stI (stI σ 30 v.toNatClampNeg (σ.1 28 p.toNatClampNeg)) 28 p.toNatClampNeg v).1 30 = upd (σ.1 30) v.toNatClampNeg (σ.1 28 p.toNatClampNeg) := rfl
    have e29 : (stI (stI σ 30 v.toNatClampNeg (σ.1 28 p.toNatClampNeg)) 28 p.toNatClampNeg v).1 29 = σ.1 29 := rfl
    generalize stI (stI σ 30 v.toNatClampNeg (σ.1 28 p.toNatClampNeg)) 28 p.toNatClampNeg v = s at cs e28 e30 e29 ⊢
    have sF : tF s = updZ (tF σ) p.toNatClampNeg ((v.toNatClampNeg : Nat) : Int) := by
      unfold tF
      rw [e28, ← ev]
      exact vw_upd
    have sN : tN s = updZ (tN σ) v.toNatClampNeg (tF σ p.toNatClampNeg) := by
      unfold tN
      rw [e30]
      exact vw_upd
    have rd : (s.1 30 v.toNatClampNeg).toInt = tF σ p.toNatClampNeg := by rw [e30, upd_at]; rfl
    refine b_joins_147 p v σ s hJ' cs e29 ?_ ?_ ?_
    · rw [rd, sF, sN]; exact hF
    · intro r hr h9
      rw [sF] at h9
      rw [rd]
      unfold updZ at h9
      split at h9
      · omega
      · rename_i e
        split
        · unfold updZ
          rw [if_neg e]
          exact hFL r hr h9
        · exact hFL r hr h9
    · rw [rd]
      rcases hFr with h9 | h9
      · exact .inl h9
      · exact .inr h9.1
  · have n3 := nN_ x1.1
    refine OK.ile (fun _ => ?_) (fun h => by omega)
    refine OK.grd ⟨by omega, by omega⟩ ?_
    refine OK.grd gv ?_
    refine OK.ile (fun _ => ?_) (fun h => by omega)
    refine OK.grd ⟨by omega, by omega⟩ ?_
    have hqv : ¬ v.toNatClampNeg = x3.toNatClampNeg := by omega
    have hA := TRf.after hT (row := v.toNatClampNeg) (p := p.toNatClampNeg) (q := x3.toNatClampNeg) hvr j3' fresh (by omega) (by omega) x3' x4
    have hNr := (hT x3.toNatClampNeg (by omega)).2.2
    have cs : CH [28, 29, 30] [] σ (stI (stI σ 30 v.toNatClampNeg (σ.1 30 x3.toNatClampNeg)) 30 x3.toNatClampNeg v) := (CH.rf.i (by decide) (by decide)).i (by decide) (by decide)
    have e28 : (stI (stI σ 30 v.toNatClampNeg (σ.1 30 x3.toNatClampNeg)) 30 x3.toNatClampNeg v).1 28 = σ.1 28 := rfl
    have e29 : (stI (stI σ 30 v.toNatClampNeg (σ.1 30 x3.toNatClampNeg)) 30 x3.toNatClampNeg v).1 29 = σ.1 29 := rfl
    have e30 : (stI (stI σ 30 v.toNatClampNeg (σ.1 30 x3.toNatClampNeg)) 30 x3.toNatClampNeg v).1 30 = upd (upd (σ.1 30) v.toNatClampNeg (σ.1 30 x3.toNatClampNeg)) x3.toNatClampNeg v := rfl
    generalize stI (stI σ 30 v.toNatClampNeg (σ.1 30 x3.toNatClampNeg)) 30 x3.toNatClampNeg v = s at cs e28 e29 e30 ⊢
    have sF : tF s = tF σ := by unfold tF; rw [e28]
    have sN : tN s = updZ (updZ (tN σ) v.toNatClampNeg (tN σ x3.toNatClampNeg)) x3.toNatClampNeg ((v.toNatClampNeg : Nat) : Int) := by
      have b : (fun r => (upd (σ.1 30) v.toNatClampNeg (σ.1 30 x3.toNatClampNeg) r).toInt) = updZ (tN σ) v.toNatClampNeg (tN σ x3.toNatClampNeg) := vw_upd
      have a : tN s = updZ (fun r => (upd (σ.1 30) v.toNatClampNeg (σ.1 30 x3.toNatClampNeg) r).toInt) x3.toNatClampNeg v.toInt := by
        unfold tN
        rw [e30]
        exact vw_upd
      rw [a, b, ev]
    have rd : (s.1 30 v.toNatClampNeg).toInt = tN σ x3.toNatClampNeg := by rw [e30, upd_no hqv, upd_at]; rfl
    refine b_joins_147 p v σ s hJ' cs e29 ?_ ?_ ?_
    · rw [rd, sF, sN]; exact hA
    · intro r hr h9
      rw [sF] at h9
      rw [rd]
      split
      · unfold updZ
        split
        · rename_i e
          rw [e] at h9
          exact absurd h9 x5
        · exact hFL r hr h9
      · exact hFL r hr h9
    · rw [rd]
      rcases hNr with h9 | h9
      · exact .inl h9
      · exact .inr h9.1
theorem b_joins_65 : ∀ (n : Nat) (p v x3 x4 : Int32) (σ : ST), JP σ p v → isC σ p.toNatClampNeg x4 → (x4.toInt = -1 ∨ x4.toInt < v.toInt) → ((x3.toInt = -1 ∧ x4 = σ.1 28 p.toNatClampNeg) ∨ ((0 ≤ x3.toInt ∧ x3.toInt < v.toInt) ∧ tP σ x3.toNatClampNeg = p.toInt ∧ tC σ x3.toNatClampNeg < tC σ v.toNatClampNeg ∧ ¬ tF σ p.toNatClampNeg = -1 ∧ (x4 = σ.1 30 x3.toNatClampNeg))) → msx σ x4 < n → OK (f_X11_joins_65 n p v x3 x4 σ) (RZ [28, 29, 30] [] σ TO) := by
  intro n
  induction n with
  | zero => intro p v x3 x4 σ h1 h2 h3 h4 h5; omega
  | succ n ih =>
    intro p v x3 x4 σ hJ hc hv hx hn
    rw [f_X11_joins_65]
    have lt_0 := li_0
    have hJ' := hJ
    obtain ⟨⟨h46, hT, hFL⟩, j1, j2, j3, j4⟩ := hJ
    have h461 := h46.1
    have h462 := h46.2
    have fin : (x4.toInt = -1 ∨ 0 ≤ x4.toInt ∧ tC σ v.toNatClampNeg ≤ tC σ x4.toNatClampNeg) → OK (f_X11_joins_101 p v x3 σ) (RZ [28, 29, 30] [] σ TO) := fun h => by
      refine b_joins_101 p v x3 σ hJ' ?_
      rcases hx with ⟨a1, a2⟩ | ⟨a1, a2, a3, a4, a5⟩
      · refine .inl ⟨a1, ?_⟩
        show (σ.1 28 p.toNatClampNeg).toInt = -1 ∨ tC σ v.toNatClampNeg ≤ tC σ (σ.1 28 p.toNatClampNeg).toInt.toNat
        rw [← a2]
        rcases h with h | h
        · exact .inl h
        · exact .inr h.2
      · refine .inr ⟨a1, a2, a3, ?_, a4⟩
        show (σ.1 30 x3.toNatClampNeg).toInt = -1 ∨ tC σ v.toNatClampNeg ≤ tC σ (σ.1 30 x3.toNatClampNeg).toInt.toNat
        rw [← a5]
        rcases h with h | h
        · exact .inl h
        · exact .inr h.2
    refine OK.ilt (fun h => fin ?_) (fun h => ?_)
    · rcases hc with hc | hc
      · exact .inl hc
      · omega
    have hc' : (0 ≤ x4.toInt ∧ x4.toInt < (σ.1 0 46).toInt) ∧ tP σ x4.toNatClampNeg = p.toNatClampNeg := by
      rcases hc with hc | hc
      · omega
      · exact hc
    have n1 := nN_ j2.1
    have n4 := nN_ hc'.1.1
    refine OK.grd ⟨by omega, by omega⟩ ?_
    refine OK.grd ⟨by omega, by omega⟩ ?_
    refine OK.ile (fun h2 => fin (.inr ⟨by omega, h2⟩)) (fun h2 => ?_)
    have h2 : tC σ x4.toNatClampNeg < tC σ v.toNatClampNeg := h2
    obtain ⟨a1, a2⟩ := TO.next ⟨h46, hT, hFL⟩ hc (by omega)
    have j4' := (j4 x4.toNatClampNeg (by omega)).2.2
    have j4' : (σ.1 30 x4.toNatClampNeg).toInt < v.toInt := j4'
    refine ih p v x4 _ σ hJ' a1 (.inr j4') (.inr ⟨by omega, by omega, h2, ?_, rfl⟩) (by omega)
    rcases hx with ⟨b1, b2⟩ | ⟨_, _, _, b4, _⟩
    · intro h9
      have h9 : (σ.1 28 p.toNatClampNeg).toInt = -1 := h9
      rw [← b2] at h9
      omega
    · exact b4
theorem JP.st {σ : ST} {p v : Int32} {i : Nat} {y : Int32} (h : JP σ p v) : JP (stI σ 23 i y) p v := h
theorem b_joins (p v : Int32) (σ : ST) (hJ : JP σ p v) : OK (f_X11_joins p v σ) (RZ [23, 28, 29, 30] [] σ fun t => TO t ∧ t.1 23 = upd (σ.1 23) p.toNatClampNeg (σ.1 23 p.toNatClampNeg + 1)) := by
  unfold f_X11_joins
  have lt_0 := li_0
  have lm := li_m1
  have lu := FUi
  have hJ1 := hJ.st (i := p.toNatClampNeg) (y := σ.1 23 p.toNatClampNeg + 1)
  obtain ⟨⟨h46, hT, hFL⟩, j1, j2, j3, j4⟩ := hJ
  have h461 := h46.1
  have h462 := h46.2
  have n1 := nN_ j2.1
  have n2 := nN_ (x := v) (by omega)
  have gp : 0 ≤ p.toInt ∧ p.toInt < 4096 := by omega
  have gv : 0 ≤ v.toInt ∧ v.toInt < 4096 := by omega
  have c : CH [23, 28, 29, 30] [] σ (stI σ 23 p.toNatClampNeg (σ.1 23 p.toNatClampNeg + 1)) := CH.rf.i (by decide) (by decide)
  have e23 : (stI σ 23 p.toNatClampNeg (σ.1 23 p.toNatClampNeg + 1)).1 23 = upd (σ.1 23) p.toNatClampNeg (σ.1 23 p.toNatClampNeg + 1) := rfl
  have eC : tC (stI σ 23 p.toNatClampNeg (σ.1 23 p.toNatClampNeg + 1)) = tC σ := rfl
  have eF : tF (stI σ 23 p.toNatClampNeg (σ.1 23 p.toNatClampNeg + 1)) = tF σ := rfl
  have eL : tL (stI σ 23 p.toNatClampNeg (σ.1 23 p.toNatClampNeg + 1)) = tL σ := rfl
  have eP : tP (stI σ 23 p.toNatClampNeg (σ.1 23 p.toNatClampNeg + 1)) = tP σ := rfl
  have e46 : (stI σ 23 p.toNatClampNeg (σ.1 23 p.toNatClampNeg + 1)).1 0 46 = σ.1 0 46 := rfl
  generalize stI σ 23 p.toNatClampNeg (σ.1 23 p.toNatClampNeg + 1) = s at hJ1 c e23 eC eF eL eP e46 ⊢
  have hT1 := hJ1.1
  have tr : ∀ o : Option ST, OK o (RZ [28, 29, 30] [] s TO) → OK o (RZ [23, 28, 29, 30] [] σ fun t => TO t ∧ t.1 23 = upd (σ.1 23) p.toNatClampNeg (σ.1 23 p.toNatClampNeg + 1)) := fun o ho => OK.trZ ho c (by decide) (fun _ h => h) (fun t ct ht => ⟨ht, by rw [ct.1 23 (by decide) (by decide)]; exact e23⟩)
  have hF1 : isC s p.toNatClampNeg (s.1 28 p.toNatClampNeg) := hT1.first (by rw [e46]; omega)
  have jp := hJ1.2.2.2.2 p.toNatClampNeg (by rw [e46]; omega)
  have jp1 : (s.1 28 p.toNatClampNeg).toInt < v.toInt := jp.1
  have jp2 : (s.1 29 p.toNatClampNeg).toInt < v.toInt := jp.2.1
  have hL1 := (hT1.2.1 p.toNatClampNeg (by rw [e46]; omega)).2.1
  have m1 := msx_le hT1 (x := s.1 28 p.toNatClampNeg)
  have mm : msx s (-1) = 0 := if_pos (by decide)
  have k45 : ((s.1 29 p.toNatClampNeg).toInt < 0 ∨ tC s v.toNatClampNeg ≤ tC s (s.1 29 p.toNatClampNeg).toNatClampNeg) → OK (f_X11_joins_45 p v (-1) s) (RZ [28, 29, 30] [] s TO) := fun hh => by
    unfold f_X11_joins_45 f_X11_joins_51
    refine OK.grd gp ?_
    refine OK.ile (fun h => ?_) (fun h => ?_)
    · exact b_joins_65 FU p v _ _ s hJ1 hF1 (.inr jp1) (.inl ⟨by omega, rfl⟩) (by omega)
    · refine OK.grd gp ?_
      have h1 : (s.1 28 p.toNatClampNeg).toInt = -1 := by
        rcases hF1 with h9 | h9
        · exact h9
        · omega
      have h2 : (s.1 29 p.toNatClampNeg).toInt = -1 := hT1.2.2 p.toNatClampNeg (by rw [e46]; omega) h1
      exact b_joins_65 FU p v _ _ s hJ1 hF1 (.inr jp1) (.inl ⟨h2, rfl⟩) (by omega)
  refine OK.grd gp ?_
  refine OK.ilt (fun h => tr _ (k45 (.inl (by omega)))) (fun h => ?_)
  have hl : 0 ≤ (s.1 29 p.toNatClampNeg).toInt ∧ (s.1 29 p.toNatClampNeg).toInt < (s.1 0 46).toInt ∧ tP s (s.1 29 p.toNatClampNeg).toNatClampNeg = p.toNatClampNeg ∧ tN s (s.1 29 p.toNatClampNeg).toNatClampNeg = -1 := by
    rcases hL1 with h9 | h9
    · have h9 : (s.1 29 p.toNatClampNeg).toInt = -1 := h9
      omega
    · exact h9
  have e46' : (s.1 0 46).toInt = (σ.1 0 46).toInt := by rw [e46]
  refine OK.grd ⟨by omega, by omega⟩ ?_
  refine OK.grd gv ?_
  refine OK.ile (fun h2 => tr _ (k45 (.inr h2))) (fun h2 => tr _ ?_)
  have h2 : tC s (s.1 29 p.toNatClampNeg).toNatClampNeg < tC s v.toNatClampNeg := h2
  unfold f_X11_joins_51
  refine OK.ile (fun h9 => by omega) (fun _ => ?_)
  refine OK.grd gp ?_
  have hfn : ¬ tF s p.toNatClampNeg = -1 := fun h9 => by
    have := hT1.2.2 p.toNatClampNeg (by rw [e46]; omega) h9
    have : (s.1 29 p.toNatClampNeg).toInt = -1 := this
    omega
  refine b_joins_65 FU p v _ _ s hJ1 (.inl (by omega)) (.inl (by omega)) (.inr ⟨⟨hl.1, jp2⟩, by omega, h2, hfn, ?_⟩) (by omega)
  refine Int32.toInt_inj.mp ?_
  have h9 : (s.1 30 (s.1 29 p.toNatClampNeg).toNatClampNeg).toInt = -1 := hl.2.2.2
  omega
