/-! a value read, either-ors and all, both sides -/
def cOWS (b t m p q : Nat) (S T : ST) (rO : FTK) (rb : FRD) : Prop := ∀ (x u lev pa pl pb pl' : Int32) (L d xr : Nat) (σ τ : ST), L ≤ 30 → lev.toInt = L → TG p (T.1 8 p).toInt S T d x u → d ≤ 4 → ¬ (T.1 2 u.toNatClampNeg).toInt = 8 → RCX b t m S T σ τ xr → QT (rO b t x (-1) pa pl lev σ) (fun s => QT (rb u (-1) lev pb pl' τ) (ROUT b (RSK b t m L S T xr σ τ) s))
def cOWN (b t m p q : Nat) (S T : ST) (rO : FTK) (rb : FRD) : Prop := ∀ (x u y v lev pa pl : Int32) (L d e0 xr : Nat) (l k : List EN) (σ τ : ST), L ≤ 30 → lev.toInt = L → TY p (T.1 8 p).toInt S T d x u → d ≤ 4 → ¬ (T.1 2 u.toNatClampNeg).toInt = 8 → TY q (T.1 8 q).toInt S T e0 y v → e0 ≤ 4 → MS T u v → RCX b t m S T σ τ xr → PARG t σ τ xr xr pa pa pl l k → QT (rO b t x y pa pl lev σ) (fun s => QT (rb u v lev pa pl τ) (ROUT b (RVP b t m q L S T y v xr pa pl l k σ τ) s))
theorem cows_top {b t m p q : Nat} {S T : ST} {rT rF rL rO rR : FTK} {rb : FRD} {rI rS : FRI} (hS : RST p q S T) (hSS : RSS b t S) (hLS : cLSS b t m p q S T rL rI) (hRS : cRCS b t m p q S T rR rS) : cOWS b t m p q S T (f_X4_takeOwn rT rF rL rO rR) (f_X11_reads rb rI rS) := by
  intro x u lev pa pl pb pl' L d xr σ τ hL hlev hG hd h8 hC
  have l8 := li_8
  have l0 := li_0
  have lm := li_m1
  have l31 : (31 : Int32).toInt = 31 := by decide
  have e2 : τ.1 2 = T.1 2 := hC.1.2.ty.1
  have hu := hG.1.2
  unfold f_X4_takeOwn f_X11_reads
  rw [a4_sortOf_m1 σ, sbnd]
  dsimp only
  refine QT.ieq (fun h => by omega) (fun _ => ?_)
  refine QT.sw ?_
  refine QT.ilt (fun _ => ?_) (fun h => by omega)
  refine QT.grd (fun _ => ?_)
  rw [e2]
  refine QT.ieq (fun h => by omega) (fun _ => ?_)
  refine QT.ilt (fun _ => ?_) (fun h => by omega)
  unfold f_X11_reads_157 f_X11_reads_158 f_X11_reads_180
  refine QT.ile (fun h => by omega) (fun _ => ?_)
  refine QT.ilt (fun _ => ?_) (fun h => by omega)
  refine QT.sw ?_
  exact r_own_s hS hSS hLS hRS hL x u lev pa pl hlev hG hd h8 σ τ hC
theorem cown_top {b t m p q : Nat} {S T : ST} {rT rF rL rO rR : FTK} {rb : FRD} {rI rS : FRI} (hS : RST p q S T) (hSS : RSS b t S) (hLN : cLSN b t m p q S T rL rI) (hRN : cRCN b t m p q S T rR rS) (hfL : cFUL b t rL) (hfR : cFUL b t rR) : cOWN b t m p q S T (f_X4_takeOwn rT rF rL rO rR) (f_X11_reads rb rI rS) := by
  intro x u y v lev pa pl L d e0 xr l k σ τ hL hlev hX hd h8 hY he hM hC hP
  have l8 := li_8
  have l0 := li_0
  have lm := li_m1
  have l31 : (31 : Int32).toInt = 31 := by decide
  have e2 : τ.1 2 = T.1 2 := hC.1.2.ty.1
  have e5 : τ.1 5 = T.1 5 := hC.1.2.ty.2.2.2.1
  have ru := hX.rng
  have rv := hY.rng
  have hn := hSS.2.2
  cases d with
  | zero => exact hX.elim
  | succ d =>
  cases e0 with
  | zero => exact hY.elim
  | succ e0 =>
  have hG := TG.of hX
  have hH := TG.of hY
  obtain ⟨hsY, _⟩ := hH.rA hn hC.1.1.kta
  unfold f_X4_takeOwn f_X11_reads
  rw [hsY, sbnd]
  dsimp only
  refine QT.sw ?_
  refine QT.ilt (fun _ => ?_) (fun h => by omega)
  refine QT.grd (fun _ => ?_)
  rw [e2]
  refine QT.ieq (fun h => by omega) (fun _ => ?_)
  refine QT.ilt (fun h => by omega) (fun _ => ?_)
  refine QT.grd (fun _ => ?_)
  refine QT.ieq (fun hv8 => ?_) (fun hv8 => ?_)
  · -- an either-or of the reader's
    have hv8' : (T.1 2 v.toNatClampNeg).toInt = 8 := by omega
    refine QT.sw ?_
    refine QT.ite (fun _ => ?_) (fun h => absurd (Int32.toInt_inj.mp hv8) h)
    refine QT.bndR (rx_chosen hS hC.1.1 hC.1.2 x y u v (d + 1) (e0 + 1) hX hY h8 hv8' hd he hM) (fun zc hzc => ?_)
    dsimp only
    refine QT.sw ?_
    refine QT.bndR hzc (fun kc hkc => ?_)
    obtain ⟨i, i1, i2, i3, i4⟩ := hkc
    dsimp only
    obtain ⟨mm, hm, hMm, hT, _, _⟩ := hH.2.2.2.2.2 hv8'
    obtain ⟨hTi, hn8⟩ := hT i (by omega)
    unfold f_X11_reads_158
    refine QT.ile (fun _ => ?_) (fun h => by omega)
    have em := mlE (k := 4) (y := v) 4 li_4 (by omega) (by omega)
    have ea := il_addE (x := 4 * v) (y := kc) (by omega) (by omega)
    have na : (4 * v + kc).toNatClampNeg = 4 * v.toNatClampNeg + i := nC (by have := nN_ rv.2.1; omega)
    refine QT.grd (fun _ => ?_)
    rw [na, e5, i2]
    refine QT.sw ?_
    cases e0 with
    | zero => exact hTi.elim
    | succ e0 =>
      exact r_own_n hS hSS hLN hRN hfL hfR hL x u lev pa pl y v _ _ kc hlev hG (by omega) h8 (TG.of hTi) (by omega) hn8 i4 (.inr ⟨hv8', i, i3, by omega, rfl, rfl⟩) σ τ hC hP
  · have hv8' : ¬ (T.1 2 v.toNatClampNeg).toInt = 8 := by omega
    unfold f_X11_reads_157 f_X11_reads_158
    refine QT.ile (fun h => by omega) (fun _ => ?_)
    refine QT.sw ?_
    refine QT.ite (fun h => absurd (by rw [h]) hv8) (fun _ => ?_)
    exact r_own_n hS hSS hLN hRN hfL hfR hL x u lev pa pl y v y v (-1) hlev hG (by omega) h8 hH (by omega) hv8' hM (.inl ⟨lm, rfl, rfl, hv8'⟩) σ τ hC hP
/-- a record of no bytes, or a value of none, that the reader doesn't want: the reference goes through it -/
def cEMP (b t m p q : Nat) (S T : ST) (rb : FRD) : Prop := ∀ (x u lev : Int32) (L d xr : Nat) (σ τ : ST), L ≤ 30 → lev.toInt = L → TY p (T.1 8 p).toInt S T d x u → d ≤ 4 → RCX b t m S T σ τ xr → QT (f_X4_isEmptyThere b t x lev σ) (fun q1 => q1.2 = σ ∧ (¬ q1.1 = 0 → ∀ pb pl' : Int32, QT (rb u (-1) lev pb pl' τ) (fun w => w.1 = 1 ∧ RSK b t m L S T xr σ τ σ w.2)))
/-- behind a branch's value both take their step back -/
theorem ROUT.back {b : Nat} {K J : ST → ST → Prop} {s s2 : ST} {w : Int32 × ST} (h : ROUT b K s w) (hs : STP b s s2) (hJ : ∀ z, STB w.2 z → K s w.2 → J s2 z) : ROUT b J s2 (w.1, stI w.2 0 57 (w.2.1 0 57 - 1)) := by
  rcases h with ⟨h1, h2⟩ | ⟨h1, h2⟩
  · exact .inl ⟨by rw [hs.2.1 7 (by omega)]; exact h1, h2⟩
  · exact .inr ⟨h1, hJ _ STB.i h2⟩
