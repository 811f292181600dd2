/-! the fields of a record that the reader wants, both sides -/
def cFLN (b t m p q : Nat) (S T : ST) (rF : FTK) (rb : FRD) : Prop := ∀ (xR yR u uB lev x5 x6 fi x8 row p0 : Int32) (L w r mW mR i x e : Nat) (z : Nat → Int32) (n0 : Int32) (a t1 σ τ : ST) (l : List EN), L ≤ 30 → RPR p q T xR yR u uB w r mW mR → lev.toInt = L → x5.toInt = 6 * (p : Int) + w → x6.toInt = 6 * (q : Int) + r → fi.toInt = i → i < mW → x8.toInt = 8 * (6 * (p : Int) + w) + i → row.toInt = x → (0 ≤ u.toInt ∧ u.toInt < 800) → (0 ≤ uB.toInt ∧ uB.toInt < 800) → (∀ j, j < mR → SRJ T p q w r mW (T.1 3 u.toNatClampNeg) j (z j)) → RCX b t m S T σ τ e → (∀ j, j < mR → σ.1 (b + 2) (8 * L + j) = z j) → RLR t q S T L (6 * q + r) x n0 a t1 (PLJ z mR i 0) σ τ e l → p0 = τ.1 0 64 → QT (rF b t (S.1 13 (8 * (6 * p + w) + i)) fi yR row lev σ) (fun s => ∀ (rI rS : Int32 → Int32 → Int32 → Int32 → ST → Option (Int32 × ST)) (k43 : Int32 → Int32 → Int32 → Int32 → Int32 → Int32 → Int32 → ST → Option (Int32 × ST)) (M : Nat), FLQ b (f_X11_readsRecord_83 rb rI rS k43 M u uB lev row x5 x6 fi x8 p0 0 0 τ) (fun w' => f_X11_readsRecord_198 rb rI rS k43 u uB lev row x5 x6 fi w') (RFE b t m q S T L (6 * q + r) x mR n0 a t1 z (PLJ z mR (i + 1) 0) σ) s)
theorem cfln_top {b t m p q : Nat} {S T : ST} {rT rF rL rO rR : FTK} {rb : FRD} (hS : RST p q S T) (hT : cTK b t m p q S T rT rb) : cFLN b t m p q S T (f_X4_takeField rT rF rL rO rR) rb := by
  intro xR yR u uB lev x5 x6 fi x8 row p0 L w r mW mR i x e z n0 a t1 σ τ l hL hP hlev hx5 hx6 hfi hi hx8 hrow hu huB hz hC hzσ hR hp0
  unfold f_X4_takeField
  have e5 : σ.1 b 5 = p0 := by rw [hp0]; exact hC.2.1.2.1.1
  rw [e5]
  intro s es rI rS k43 M
  have h65 : τ.1 0 65 = T.1 0 65 := hC.1.2.2.1 65 (by omega) (by omega) (by omega) (by omega) (by omega) (by omega) (by omega)
  have hpos := hC.2.1.2.2.1
  exact r_fld12 (rF := rF) (rL := rL) (rO := rO) (rR := rR) (rI := rI) (rS := rS) hS hT hL xR yR u uB lev x5 x6 fi x8 row hP hlev hx5 hx6 hfi hi hx8 hrow hu huB z hz n0 a t1 p0 k43 FU M 0 0 0 0 σ τ e l hC hzσ hR li_0 (by omega) (.inl ⟨rfl, rfl⟩) (by rw [hp0, ← h65]; exact ⟨hpos.2.1, hpos.2.2.1⟩) s es
/-- where both stand behind a record's fields -/
def RND (b t m q : Nat) (S T : ST) (L R x mR : Nat) (n0 : Int32) (a t1 : ST) (σ s w : ST) : Prop := ∃ (e : Nat) (l : List EN), RCX b t m S T s w e ∧ RLR t q S T L R x n0 a t1 (fun k => k < mR) s w e l ∧ SRK b L σ s
theorem r_fldsn {b t m p q : Nat} {S T : ST} {rT rF rL rO rR : FTK} {rb : FRD} {rI rS : Int32 → Int32 → Int32 → Int32 → ST → Option (Int32 × ST)} (hS : RST p q S T) (hF : cFLN b t m p q S T rF rb) {L : Nat} (hL : L ≤ 30) (xR yR u uB lev x5 x6 row : Int32) {w r mW mR x : Nat} (hP : RPR p q T xR yR u uB w r mW mR) (hlev : lev.toInt = L) (hx5 : x5.toInt = 6 * (p : Int) + w) (hx6 : x6.toInt = 6 * (q : Int) + r) (hrow : row.toInt = x) (hu : 0 ≤ u.toInt ∧ u.toInt < 800) (huB : 0 ≤ uB.toInt ∧ uB.toInt < 800) (z : Nat → Int32) (hz : ∀ j, j < mR → SRJ T p q w r mW (T.1 3 u.toNatClampNeg) j (z j)) (n0 : Int32) (a t1 : ST) (hE : ∀ (σ τ : ST) (e : Nat) (l : List EN), RCX b t m S T σ τ e → (∀ j, j < mR → σ.1 (b + 2) (8 * L + j) = z j) → RLR t q S T L (6 * q + r) x n0 a t1 (PLJ z mR mW 0) σ τ e l → QT (f_X4_takeRecord_109 rT rF rL rO rR b t lev yR row σ) (fun s => QT (f_X11_readsRecord_217 rb rI rS FU u uB row x6 0 τ) (ROUT b (RND b t m q S T L (6 * q + r) x mR n0 a t1 σ) s))) : ∀ (n M i : Nat) (x8 : Int32) (σ τ : ST) (e : Nat) (l : List EN), RCX b t m S T σ τ e → (∀ j, j < mR → σ.1 (b + 2) (8 * L + j) = z j) → RLR t q S T L (6 * q + r) x n0 a t1 (PLJ z mR i 0) σ τ e l → x8.toInt = i → i ≤ mW → QT (f_X4_takeRecord_51 rT rF rL rO rR b t n xR lev yR row x8 σ) (fun s => QT (f_X11_readsRecord_43 rb rI rS M u uB lev row x5 x6 x8 τ) (ROUT b (RND b t m q S T L (6 * q + r) x mR n0 a t1 σ) s)) := by
  have l0 := li_0
  have l1 := li_1
  have l8 := li_8
  have hP' := hP
  obtain ⟨⟨hx, hy⟩, ⟨hw, hr⟩, ⟨hu3, huB3⟩, ⟨hmW, hmR⟩, _⟩ := hP'
  have acP := hS.1.2.2.1.1.acc hw
  have cP := hS.1.2.2.1.1.cnt
  have hp6 := hS.1.1
  have mW8 : mW ≤ 8 := by
    have := acP.2.2.1.2
    rw [hmW] at this
    omega
  have n5 : x5.toNatClampNeg = 6 * p + w := nC (by omega)
  intro n
  induction n with
  | zero =>
    intro M i x8 σ τ e l _ _ _ _ _
    rw [f_X4_takeRecord_51]
    exact QT.none
  | succ n ih =>
    intro M i x8 σ τ e l hC hzσ hR h8 hi
    cases M with
    | zero =>
      refine fun s _ => ?_
      rw [f_X11_readsRecord_43]
      exact QT.none
    | succ M =>
      have k7 := (hC.1.1.kta 7 (by omega) (by omega)).1
      have e11 := hC.1.2.fl.2.1
      have hm : (σ.1 7 (6 * p + w)).toInt = mW := by rw [k7, acP.2.1]; exact hmW
      rw [f_X4_takeRecord_51, f_X11_readsRecord_43, a4_fieldsOf xR σ (r := 6 * p + w) (by omega) (by omega), sbnd]
      dsimp only
      rw [n5, e11]
      refine QT.sw ?_
      refine QT.grd (fun _ => ?_)
      refine QT.sw ?_
      refine QT.ile (fun hle => ?_) (fun hlt => ?_)
      · have ei : i = mW := by omega
        subst ei
        refine QT.sw ?_
        refine QT.ile (fun _ => ?_) (fun h => by omega)
        refine QT.sw ?_
        exact hE σ τ e l hC hzσ hR
      refine QT.ite (fun _ => ?_) (fun h => absurd hC.2.1.1.1 h)
      refine QT.sw ?_
      refine QT.ile (fun h => by omega) (fun _ => ?_)
      refine QT.bnd (q_enters _ τ) (fun τ1 hτ1 => ?_)
      refine QT.sw ?_
      refine QT.bnd (a_step b t _ σ) (fun σ1 hσ1 => ?_)
      have hC1 := hC.st hσ1 hτ1
      have hR1 := hR.tre (ST.tre hC.1.1.1 hσ1 hτ1)
      have hzσ1 : ∀ j, j < mR → σ1.1 (b + 2) (8 * L + j) = z j := fun j hj => by rw [hσ1.1 (b + 2) (by omega) (by omega)]; exact hzσ j hj
      rw [a4_typeOf xR x8 σ1 (r := 6 * p + w) (j := i) (by omega) h8 (by omega) (by omega), sbnd]
      dsimp only
      have k13 := (hC1.1.1.kta 13 (by omega) (by omega)).1
      rw [k13]
      have em := mlE (k := 8) (y := x5) 8 l8 (by omega) (by omega)
      have ea := il_addE (x := 8 * x5) (y := x8) (by omega) (by omega)
      have e64 : τ.1 0 64 = τ1.1 0 64 := (hτ1.2.1 64 (by omega)).symm
      refine QT.bnd (hF xR yR u uB lev x5 x6 x8 (8 * x5 + x8) row (τ.1 0 64) L w r mW mR i x e z n0 a t1 σ1 τ1 l hL hP hlev hx5 hx6 h8 (by omega) (by omega) hrow hu huB hz hC1 hzσ1 hR1 e64) (fun s hs => ?_)
      have hs := hs rI rS (f_X11_readsRecord_43 rb rI rS M) FU
      rcases hs with ⟨f1, f2⟩ | ⟨f1, f2⟩
      · refine QT.bnd (a_stepBack b t s) (fun s2 hs2 => ?_)
        refine (ad_51 xR lev yR row hC.1.1.1 (by rw [hs2.2.1 7 (by omega)]; exact f1) n _).mono (fun z' hz' => ?_)
        exact f2.mono (fun w' hw' => .inl ⟨hz', hw'⟩)
      · refine QT.bnd (a_stepBack b t s) (fun s2 hs2 => ?_)
        intro z' ez'
        refine f2 _ (fun w' hw' => ?_)
        obtain ⟨e', l', hC2, hz2, hR2, hS2⟩ := hw'
        unfold f_X11_readsRecord_198
        have hB2 : STB w' (stI w' 0 57 (w'.1 0 57 - 1)) := STB.i
        have e9 := il_addE (x := x8) (y := 1) (by omega) (by omega)
        refine ((ih M (i + 1) (x8 + 1) s2 _ e' l' (hC2.st hs2 hB2) (fun j hj => by rw [hs2.1 (b + 2) (by omega) (by omega)]; exact hz2 j hj) (hR2.tre (ST.tre hC.1.1.1 hs2 hB2)) (by omega) (by omega)) z' ez').mono (fun v hv => hv.imp (fun h => ?_))
        obtain ⟨e3', l3, a1, a2, a3⟩ := h
        exact ⟨e3', l3, a1, a2, ((hσ1.srk.trans hS2).trans hs2.srk).trans a3⟩
