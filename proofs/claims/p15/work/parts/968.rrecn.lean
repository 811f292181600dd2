/-! a record that the reader wants, both sides -/
def PLF (z : Nat → Int32) (mR j : Nat) (k : Nat) : Prop := k < mR ∧ (0 ≤ (z k).toInt ∨ k < j)
theorem SRJ.sgn {T : ST} {p q w r mW j : Nat} {wi z : Int32} (h : SRJ T p q w r mW wi j z) (hb : 8 * (6 * (q : Int) + r) + j < 2000000000) : z.toInt = -1 ∨ ∃ i : Nat, i < mW ∧ z.toInt = i := by
  obtain ⟨y, _, h | ⟨i, h1, h2, _⟩⟩ := h (Int32.ofInt (8 * (6 * (q : Int) + r) + j)) (Int32.toInt_ofInt_of_le (by omega) (by omega))
  · exact .inl h.1
  · exact .inr ⟨i, h1, h2⟩
theorem r_fills {b t m p q : Nat} {S T : ST} {rT rF rL rO rR : FTK} {rb : FRD} {rI rS : Int32 → Int32 → Int32 → Int32 → ST → Option (Int32 × ST)} (hS : RST p q S T) (hSS : RSS b t S) {L : Nat} (hL : L ≤ 30) (xR yR u uB lev x6 row : Int32) {w r mW mR x : Nat} (hP : RPR p q T xR yR u uB w r mW mR) (hlev : lev.toInt = L) (hx6 : x6.toInt = 6 * (q : Int) + r) (hrow : row.toInt = x) (hu : 0 ≤ u.toInt ∧ u.toInt < 800) (huB : 0 ≤ uB.toInt ∧ uB.toInt < 800) (z : Nat → Int32) (hz : ∀ j, j < mR → SRJ T p q w r mW (T.1 3 u.toNatClampNeg) j (z j)) (n0 : Int32) (a t1 : ST) : ∀ (n M j : Nat) (x8 : Int32) (σ τ : ST) (e : Nat) (l : List EN), RCX b t m S T σ τ e → (∀ j, j < mR → σ.1 (b + 2) (8 * L + j) = z j) → RLR t q S T L (6 * q + r) x n0 a t1 (PLF z mR j) σ τ e l → x8.toInt = j → j ≤ mR → QT (f_X4_takeRecord_112 rT rF rL rO rR b t n lev yR row x8 σ) (fun s => QT (f_X11_readsRecord_217 rb rI rS M u uB row x6 x8 τ) (ROUT b (RND b t m q S T L (6 * q + r) x mR n0 a t1 σ) s)) := by
  have l0 := li_0
  have l1 := li_1
  have lm := li_m1
  have l8 := li_8
  have l400 := li_400
  have hP' := hP
  obtain ⟨⟨hx, hy⟩, ⟨hw, hr⟩, ⟨hu3, huB3⟩, ⟨hmW, hmR⟩, hPR⟩ := hP'
  have acP := hS.1.2.2.1.1.acc hw
  have acQ := hS.1.2.2.1.2.acc hr
  have cP := hS.1.2.2.1.1.cnt
  have cQ := hS.1.2.2.1.2.cnt
  have hp6 := hS.1.1
  have mR8 : mR ≤ 8 := by
    have := acQ.2.2.1.2
    rw [hmR] at this
    omega
  have n6 : x6.toNatClampNeg = 6 * q + r := nC (by omega)
  intro n
  induction n with
  | zero =>
    intro M j x8 σ τ e l _ _ _ _ _
    rw [f_X4_takeRecord_112]
    exact QT.none
  | succ n ih =>
    intro M j x8 σ τ e l hC hzσ hR h8 hj
    cases M with
    | zero =>
      refine fun s _ => ?_
      rw [f_X11_readsRecord_217]
      exact QT.none
    | succ M =>
      have k7 := (hC.1.1.kta 7 (by omega) (by omega)).1
      have e11 := hC.1.2.fl.2.1
      have e3 : τ.1 3 = T.1 3 := hC.1.2.ty.2.1
      have hm : (σ.1 7 (6 * q + r)).toInt = mR := by rw [k7, acQ.2.1]; exact hmR
      rw [f_X4_takeRecord_112, f_X11_readsRecord_217, a4_fieldsOf yR σ (r := 6 * q + r) (by omega) (by omega), sbnd]
      dsimp only
      rw [if_neg (fun h => by have := il_lt h; omega : ¬ uB < 0), if_pos (⟨by omega, by omega⟩ : 0 ≤ x6.toInt ∧ x6.toInt < 72), n6, e11]
      refine QT.ile (fun hle => QT.ret ?_) (fun hlt => ?_)
      · refine QT.ile (fun _ => QT.ret (.inr ⟨rfl, e, l, hC, hR.iff (fun k => ?_), SRK.rf⟩)) (fun h => by omega)
        unfold PLF
        omega
      have hjm : j < mR := by omega
      have hlt' : ¬ T.1 11 (6 * q + r) ≤ x8 := fun h => by have := il_le h; omega
      rw [if_neg hlt', if_pos hu]
      refine QT.ite (fun _ => ?_) (fun h => absurd hC.2.1.1.1 h)
      rw [a_sourceAt b t lev x8 σ hL hlev h8 (by omega), sbnd]
      dsimp only
      rw [hzσ j hjm]
      have em := mlE (k := 8) (y := x6) 8 l8 (by omega) (by omega)
      have ea := il_addE (x := 8 * x6) (y := x8) (by omega) (by omega)
      have na : (8 * x6 + x8).toNatClampNeg = 8 * (6 * q + r) + j := nC (by omega)
      have hf : (8 * x6 + x8).toInt = 8 * (6 * (q : Int) + r) + j := by omega
      obtain ⟨y, y1, y2⟩ := hz j hjm (8 * x6 + x8) hf
      rw [e3, hC.1.2.ff' y1, sbnd]
      dsimp only
      have e9 := il_addE (x := x8) (y := 1) (by omega) (by omega)
      unfold f_X4_takeRecord_155 f_X11_readsRecord_286
      rcases y2 with ⟨g1, g2⟩ | ⟨i, g0, g1, g2⟩
      · -- it is filled in
        have hnP : ¬ PLF z mR j j := fun h => by
          unfold PLF at h
          omega
        obtain ⟨l1, l2, ell, k1, k2, hPar⟩ := hR.split hnP (by omega) hrow h8
        have hel : ¬ T.1 16 (8 * (6 * q + r) + j) = 0 := by
          have e53 := hS.1.2.1.1
          have e54 := hS.1.2.1.2
          have n54 : (T.1 0 54).toNatClampNeg = q := nC e54
          have wn : (T.1 3 u.toNatClampNeg).toNatClampNeg = w := nC hu3
          have rn : (T.1 3 uB.toNatClampNeg).toNatClampNeg = r := nC huB3
          obtain ⟨_, _, hx9⟩ := hS.2.2.2.2.1 (T.1 3 u.toNatClampNeg) (T.1 3 uB.toNatClampNeg) (by omega) (by omega) (by omega) (by omega) (by rw [wn, rn]; exact hPR)
          have hk := (hx9 j (8 * x6 + x8) y (by rw [n54, rn, hmR]; omega) (by omega) y1).2 (by omega)
          rw [na] at hk
          exact hk
        subst ell
        refine QT.ieq (fun _ => ?_) (fun h => by omega)
        refine QT.bnd (r_fill (p := p) hS hSS hL yR x8 row (8 * x6 + x8) hC hr (by rw [hmR]; omega) hy h8 hf hel hPar) (fun s hs => ?_)
        refine QT.sw ?_
        refine QT.ile (fun h => by omega) (fun _ => ?_)
        rcases hs with ⟨f1, f2⟩ | ⟨f1, f2⟩
        · have e46 := hC.2.2.2.1
          have e400 := hC.2.2.2.2
          refine QT.ieq (fun _ => ?_) (fun h => by omega)
          refine QT.bnd (q_fails _ _ _) (fun v hv => QT.grd (fun _ => QT.ret ?_))
          have stop : QT (f_X4_takeRecord_112 rT rF rL rO rR b t n lev yR row (x8 + 1) s) (fun s => ¬ s.1 b 7 = 0) := by
            cases n with
            | zero =>
              rw [f_X4_takeRecord_112]
              exact QT.none
            | succ n =>
              rw [f_X4_takeRecord_112]
              refine QT.bnd (Q := fun z => ¬ z.2.1 b 7 = 0) (fun z e => ?_) (fun z hz => ?_)
              · have k : KRA b t s z.2 := wr_X5_fieldsOf (B0 := b) (T0 := t) (s := s) (KRA.rf hC.1.1.1) z e
                exact k.nz f1
              · exact QT.ite (fun _ => QT.ret hz) (fun _ => QT.ite (fun e => absurd e hz) (fun _ => QT.ret hz))
          exact stop.mono (fun z' hz' => .inl ⟨hz', hv⟩)
        · have e46 := hC.2.2.2.1
          refine QT.ieq (fun h => by omega) (fun _ => ?_)
          refine QT.bnd f2 (fun w' hw' => ?_)
          refine QT.sw ?_
          have hlen := hR.len (m := 8) (fun j h => by have := h.1; omega)
          obtain ⟨e', hC2, hR2, hS2⟩ := hR.add k1 k2 hrow h8 hL (by omega) hw'
          have hR3 : RLR t q S T L (6 * q + r) x n0 a t1 (PLF z mR (j + 1)) s w' e' _ := hR2.iff (fun k => by
            unfold PLF
            constructor
            · rintro (h | h)
              · omega
              · omega
            · intro h
              by_cases e9 : k = j
              · exact .inr e9
              · exact .inl (by omega))
          refine QT.sw ?_
          refine QT.sw ?_
          exact (ih M (j + 1) (x8 + 1) s w' e' _ hC2 (fun j hj => (hS2 _ (by omega)).trans (hzσ j hj)) hR3 (by omega) (by omega)).mono2 (fun z' v hv => hv.imp (fun h => by
            obtain ⟨e3', l3, a1, a2, a3⟩ := h
            exact ⟨e3', l3, a1, a2, (hS2.wk (by omega)).trans a3⟩))
      · refine QT.ieq (fun h => by omega) (fun _ => ?_)
        refine QT.sw ?_
        refine QT.ile (fun _ => ?_) (fun h => by omega)
        refine QT.sw ?_
        have hR3 : RLR t q S T L (6 * q + r) x n0 a t1 (PLF z mR (j + 1)) σ τ e l := hR.iff (fun k => by
          unfold PLF
          constructor
          · intro h
            omega
          · intro h
            by_cases e9 : k = j
            · subst e9
              omega
            · omega)
        exact ih M (j + 1) (x8 + 1) σ τ e l hC hzσ hR3 (by omega) (by omega)
