/-! a value of one type (no either-or of the writer's), both sides -/
abbrev FRI : Type := Int32 → Int32 → Int32 → Int32 → ST → Option (Int32 × ST)
def cLSS (b t m p q : Nat) (S T : ST) (rL : FTK) (rI : FRI) : Prop := ∀ (x1 u lev pa pl xB : Int32) (L d x : Nat) (σ τ : ST), L ≤ 30 → lev.toInt = L → TY p (T.1 8 p).toInt S T d x1 (T.1 3 u.toNatClampNeg) → d ≤ 4 → (0 ≤ u.toInt ∧ u.toInt < 800) → RCX b t m S T σ τ x → QT (rL b t x1 (-1) pa pl lev σ) (fun s => QT (rI u (-1) lev xB τ) (ROUT b (RSK b t m L S T x σ τ) s))
def cRCS (b t m p q : Nat) (S T : ST) (rR : FTK) (rS : FRI) : Prop := ∀ (xR u lev pa pl xB : Int32) (L w mW x : Nat) (σ τ : ST), L ≤ 30 → lev.toInt = L → xR.toInt = 6 * (p : Int) + w → (0 ≤ u.toInt ∧ u.toInt < 800) → (T.1 3 u.toNatClampNeg).toInt = w → (w : Int) < (T.1 8 p).toInt → (T.1 11 (6 * p + w)).toInt = mW → RCX b t m S T σ τ x → QT (rR b t xR (-1) pa pl lev σ) (fun s => QT (rS u (-1) lev xB τ) (ROUT b (RSK b t m L S T x σ τ) s))
/-- what a list, a record that is wanted starts from -/
def NDH (b t m q : Nat) (S T : ST) (L : Nat) (tA tB uA uB so br : Int32) (x : Nat) (pa pl : Int32) (l k : List EN) (σ τ τ1 : ST) (xB : Int32) : Prop := (PARG t σ τ x x pa pa pl l k ∧ RCX b t m S T σ τ x ∧ x < 400) ∧ (GRB x so pa pl br (rB l) (rB k) τ τ1 ∧ xB.toInt = x) ∧ ((0 ≤ uB.toInt ∧ uB.toInt < 800) ∧ T.1 2 uB.toNatClampNeg = so ∧ ¬ uA = -1) ∧ (∀ z, KRA b t S z → f_X5_sortOf 4 uA z = some (so, z)) ∧ (∀ z, KRA b t S z → f_X5_innerOf 4 uA z = some (S.1 16 uA.toNatClampNeg, z)) ∧ OWN S T tA tB br uA uB
def cLSN (b t m p q : Nat) (S T : ST) (rL : FTK) (rI : FRI) : Prop := ∀ (x1 u lev xB tA tB uA uB so br pa pl : Int32) (L d e0 x : Nat) (l k : List EN) (σ τ τ1 : ST), L ≤ 30 → lev.toInt = L → NDH b t m q S T L tA tB uA uB so br x pa pl l k σ τ τ1 xB → so.toInt = 6 → TY p (T.1 8 p).toInt S T d x1 (T.1 3 u.toNatClampNeg) → d ≤ 4 → TY q (T.1 8 q).toInt S T e0 (S.1 16 uA.toNatClampNeg) (T.1 3 uB.toNatClampNeg) → e0 ≤ 4 → MS T (T.1 3 u.toNatClampNeg) (T.1 3 uB.toNatClampNeg) → (0 ≤ u.toInt ∧ u.toInt < 800) → QT (rL b t x1 uA pa pl lev σ) (fun s => QT (rI u uB lev xB τ1) (ROUT b (RVP b t m q L S T tA tB x pa pl l k σ τ) s))
def cRCN (b t m p q : Nat) (S T : ST) (rR : FTK) (rS : FRI) : Prop := ∀ (xR u lev xB tA tB uA uB so br pa pl : Int32) (L w r mW mR x : Nat) (l k : List EN) (σ τ τ1 : ST), L ≤ 30 → lev.toInt = L → NDH b t m q S T L tA tB uA uB so br x pa pl l k σ τ τ1 xB → so.toInt = 7 → RPR p q T xR (S.1 16 uA.toNatClampNeg) u uB w r mW mR → (0 ≤ u.toInt ∧ u.toInt < 800) → QT (rR b t xR uA pa pl lev σ) (fun s => QT (rS u uB lev xB τ1) (ROUT b (RVP b t m q L S T tA tB x pa pl l k σ τ) s))
/-- nothing comes into a full tree -/
def cFUL (b t : Nat) (r : FTK) : Prop := ∀ (x1 uA pa pl lev : Int32) (σ : ST), ¬ uA = -1 → 400 ≤ (σ.1 t 1).toInt → QT (r b t x1 uA pa pl lev σ) (fun z => ¬ z.1 b 7 = 0)
/-- what a type of the writer says -/
theorem TG.rec7 {p d : Nat} {S T : ST} {x u : Int32} (h : TG p (T.1 8 p).toInt S T d x u) (h7 : (T.1 2 u.toNatClampNeg).toInt = 7) : ∃ w : Nat, (T.1 3 u.toNatClampNeg).toInt = w ∧ (w : Int) < (T.1 8 p).toInt ∧ (S.1 16 x.toNatClampNeg).toInt = 6 * (p : Int) + w := by
  obtain ⟨⟨h1, h2⟩, h3⟩ := h.2.2.2.2.1 h7
  exact ⟨(T.1 3 u.toNatClampNeg).toInt.toNat, by omega, by omega, by omega⟩
theorem r_own_s {b t m p q : Nat} {S T : ST} {rT rF rL rO rR : FTK} {rb : FRD} {rI rS : FRI} (hS : RST p q S T) (hSS : RSS b t S) (hLS : cLSS b t m p q S T rL rI) (hRS : cRCS b t m p q S T rR rS) {L : Nat} (hL : L ≤ 30) (x u lev pa pl : Int32) {d xr : Nat} (hlev : lev.toInt = L) (hG : TG p (T.1 8 p).toInt S T d x u) (hd : d ≤ 4) (h8 : ¬ (T.1 2 u.toNatClampNeg).toInt = 8) (σ τ : ST) (hC : RCX b t m S T σ τ xr) : QT (f_X4_takeOwn_26 rT rF rL rO rR b t x pa pl lev (-1) σ) (fun s => QT (f_X11_reads_227 rb rI rS u lev (-1) (-1) τ) (ROUT b (RSK b t m L S T xr σ τ) s)) := by
  have l6 := li_6
  have l7 := li_7
  have lm := li_m1
  obtain ⟨hsA, hiA⟩ := hG.rA hSS.2.2 hC.1.1.kta
  have e2 : τ.1 2 = T.1 2 := hC.1.2.ty.1
  have hr := hG.2.2.1
  unfold f_X4_takeOwn_26 f_X11_reads_227
  rw [hsA, sbnd]
  dsimp only
  rw [e2]
  refine QT.sw ?_
  refine QT.grd (fun hu => ?_)
  refine QT.sw ?_
  refine QT.ieq (fun h7 => ?_) (fun h7 => ?_)
  · obtain ⟨w, w1, w2, w3⟩ := hG.rec7 (by omega)
    have ac := (hS.1.2.2.1.1.acc w2).2.2.1.1
    rw [hiA, sbnd]
    dsimp only
    refine QT.bnd (hRS (S.1 16 x.toNatClampNeg) u lev pa pl (-1) L w (T.1 11 (6 * p + w)).toInt.toNat xr σ τ hL hlev w3 hu w1 w2 (by omega) hC) (fun s hs => QT.ret ?_)
    refine QT.ieq (fun h => by omega) (fun _ => QT.ieq (fun _ => ?_) (fun h => by omega))
    exact QT.bnd hs (fun v hv => QT.grd (fun _ => QT.ret hv))
  refine QT.ieq (fun h6 => ?_) (fun h6 => ?_)
  · rw [hiA, sbnd]
    dsimp only
    refine QT.bnd (hLS (S.1 16 x.toNatClampNeg) u lev pa pl (-1) L d xr σ τ hL hlev (hG.2.2.2.1 (by omega)) hd hu hC) (fun s hs => QT.ret ?_)
    refine QT.ieq (fun _ => ?_) (fun h => by omega)
    exact QT.bnd hs (fun v hv => QT.grd (fun _ => QT.ret hv))
  · refine QT.bnd (r_leafs hC (T.1 2 u.toNatClampNeg) pa pl u (-1) hu (by rw [e2]) ⟨by omega, by omega⟩ (-1) (by omega) (L := L)) (fun s hs => QT.ret ?_)
    refine QT.ieq (fun h => by omega) (fun _ => QT.ieq (fun h => by omega) (fun _ => ?_))
    exact QT.bnd hs (fun v hv => QT.grd (fun _ => QT.ret hv))
/-- a value that is wanted, of types that match -/
theorem r_own_n {b t m p q : Nat} {S T : ST} {rT rF rL rO rR : FTK} {rb : FRD} {rI rS : FRI} (hS : RST p q S T) (hSS : RSS b t S) (hLN : cLSN b t m p q S T rL rI) (hRN : cRCN b t m p q S T rR rS) (hfL : cFUL b t rL) (hfR : cFUL b t rR) {L : Nat} (hL : L ≤ 30) (x u lev pa pl tA tB uA uB br : Int32) {d e0 xr : Nat} (hlev : lev.toInt = L) (hG : TG p (T.1 8 p).toInt S T d x u) (hd : d ≤ 4) (h8 : ¬ (T.1 2 u.toNatClampNeg).toInt = 8) (hH : TG q (T.1 8 q).toInt S T e0 uA uB) (he : e0 ≤ 4) (hB8 : ¬ (T.1 2 uB.toNatClampNeg).toInt = 8) (hM : MS T u uB) (hO : OWN S T tA tB br uA uB) {l k : List EN} (σ τ : ST) (hC : RCX b t m S T σ τ xr) (hP : PARG t σ τ xr xr pa pa pl l k) : QT (f_X4_takeOwn_26 rT rF rL rO rR b t x pa pl lev uA σ) (fun s => QT (f_X11_reads_180 rb rI rS u lev pa pl br uB τ) (ROUT b (RVP b t m q L S T tA tB xr pa pl l k σ τ) s)) := by
  have hb := hC.1.1.1
  have l0 := li_0
  have l6 := li_6
  have l7 := li_7
  have l400 := li_400
  have lm := li_m1
  obtain ⟨hsA, hiA⟩ := hG.rA hSS.2.2 hC.1.1.kta
  have e2 : τ.1 2 = T.1 2 := hC.1.2.ty.1
  have hr := hG.2.2.1
  have hrB := hH.2.2.1
  have hne : ¬ uA = -1 := fun h => by
    have := hH.1.1.1
    rw [h] at this
    omega
  have h46 := hC.2.2.2.1
  have h1 := hC.2.2.1
  have hx4 := hC.2.2.2.2
  have hu := hG.1.2
  have huB := hH.1.2
  have hm := MT.iff.mp hM
  unfold mB at hm
  have hm : ((T.1 2 u.toNatClampNeg).toInt = 6 ∧ (T.1 2 uB.toNatClampNeg).toInt = 6 ∧ MS T (T.1 3 u.toNatClampNeg) (T.1 3 uB.toNatClampNeg)) ∨ ((T.1 2 u.toNatClampNeg).toInt = 7 ∧ (T.1 2 uB.toNatClampNeg).toInt = 7 ∧ ¬ T.1 35 (6 * (T.1 3 u.toNatClampNeg).toNatClampNeg + (T.1 3 uB.toNatClampNeg).toNatClampNeg) = 0) ∨ ((T.1 2 u.toNatClampNeg).toInt ≤ 5 ∧ (T.1 2 uB.toNatClampNeg).toInt ≤ 5 ∧ PLS (T.1 2 u.toNatClampNeg).toInt (T.1 2 uB.toNatClampNeg).toInt) := by
    rcases hm with ⟨h9, _⟩ | ⟨_, h9, _⟩ | ⟨_, _, h9 | h9 | ⟨g1, g2, g3⟩⟩
    · exact absurd h9 h8
    · exact absurd h9 hB8
    · exact .inl h9
    · exact .inr (.inl h9)
    · refine .inr (.inr ?_)
      unfold PLS
      omega
  unfold f_X11_reads_180
  refine QT.sw ?_
  refine QT.ilt (fun h => by omega) (fun _ => ?_)
  refine QT.ieq (fun h4 => ?_) (fun h4 => ?_)
  · refine QT.bnd (q_fails 15 (-1) τ) (fun v hv => QT.grd (fun _ => QT.ret ?_))
    have hfull : 400 ≤ (σ.1 t 1).toInt := by omega
    refine QT.mono (P := fun s => ¬ s.1 b 7 = 0) ?_ (fun s hs => .inl ⟨hs, hv⟩)
    unfold f_X4_takeOwn_26
    rw [hsA, sbnd]
    dsimp only
    refine QT.ite (fun _ => ?_) (fun _ => QT.ite (fun _ => ?_) (fun _ => ?_))
    · rw [hiA, sbnd]
      exact QT.bnd (hfR _ uA pa pl lev σ hne hfull) (fun s hs => QT.ret hs)
    · rw [hiA, sbnd]
      exact QT.bnd (hfL _ uA pa pl lev σ hne hfull) (fun s hs => QT.ret hs)
    · exact QT.bnd (f_plain hb _ uA pa pl hne hfull) (fun s hs => QT.ret hs)
  refine QT.grd (fun _ => ?_)
  rw [e2]
  refine QT.bnd (b_lays (T.1 2 uB.toNatClampNeg) pa pl br τ h46 hP.gB) (fun qz hq => ?_)
  obtain ⟨xB, τ1⟩ := qz
  obtain ⟨⟨q1, q2⟩, gB⟩ := hq
  have q1 : xB.toInt = xr := q1
  have gB : GRB xr (T.1 2 uB.toNatClampNeg) pa pl br (rB l) (rB k) τ τ1 := gB
  dsimp only
  refine QT.sw ?_
  have e2' : τ1.1 2 = T.1 2 := (gB.1.1 2 (by omega) (by omega) (by omega)).trans e2
  have hN : NDH b t m q S T L tA tB uA uB (T.1 2 uB.toNatClampNeg) br xr pa pl l k σ τ τ1 xB := ⟨⟨hP, hC, by omega⟩, ⟨gB, q1⟩, ⟨huB, rfl, hne⟩, fun z hz => (hH.rA hSS.2.2 hz.kta).1, fun z hz => (hH.rA hSS.2.2 hz.kta).2, hO⟩
  unfold f_X4_takeOwn_26 f_X11_reads_227
  rw [hsA, sbnd]
  dsimp only
  rw [e2']
  refine QT.sw ?_
  refine QT.grd (fun _ => ?_)
  refine QT.sw ?_
  refine QT.ieq (fun h7 => ?_) (fun h7 => ?_)
  · obtain ⟨g1, g2, g3⟩ : (T.1 2 u.toNatClampNeg).toInt = 7 ∧ (T.1 2 uB.toNatClampNeg).toInt = 7 ∧ ¬ T.1 35 (6 * (T.1 3 u.toNatClampNeg).toNatClampNeg + (T.1 3 uB.toNatClampNeg).toNatClampNeg) = 0 := by
      rcases hm with ⟨g, _⟩ | h | ⟨g, _⟩
      · omega
      · exact h
      · omega
    obtain ⟨w, w1, w2, w3⟩ := hG.rec7 g1
    obtain ⟨r, r1, r2, r3⟩ := hH.rec7 g2
    have acw := (hS.1.2.2.1.1.acc w2).2.2.1.1
    have acr := (hS.1.2.2.1.2.acc r2).2.2.1.1
    rw [nC w1, nC r1] at g3
    rw [hiA, sbnd]
    dsimp only
    refine QT.bnd (hRN (S.1 16 x.toNatClampNeg) u lev xB tA tB uA uB _ br pa pl L w r (T.1 11 (6 * p + w)).toInt.toNat (T.1 11 (6 * q + r)).toInt.toNat xr l k σ τ τ1 hL hlev hN g2 ⟨⟨w3, r3⟩, ⟨w2, r2⟩, ⟨w1, r1⟩, ⟨by omega, by omega⟩, g3⟩ hu) (fun s hs => QT.ret ?_)
    refine QT.ieq (fun h => by omega) (fun _ => QT.ieq (fun _ => ?_) (fun h => by omega))
    exact QT.bnd hs (fun v hv => QT.grd (fun _ => QT.ret hv))
  refine QT.ieq (fun h6 => ?_) (fun h6 => ?_)
  · obtain ⟨g1, g2, g3⟩ : (T.1 2 u.toNatClampNeg).toInt = 6 ∧ (T.1 2 uB.toNatClampNeg).toInt = 6 ∧ MS T (T.1 3 u.toNatClampNeg) (T.1 3 uB.toNatClampNeg) := by
      rcases hm with h | ⟨g, _⟩ | ⟨g, _⟩
      · exact h
      · omega
      · omega
    rw [hiA, sbnd]
    dsimp only
    refine QT.bnd (hLN (S.1 16 x.toNatClampNeg) u lev xB tA tB uA uB _ br pa pl L d e0 xr l k σ τ τ1 hL hlev hN g2 (hG.2.2.2.1 g1) hd (hH.2.2.2.1 g2) he g3 hu) (fun s hs => QT.ret ?_)
    refine QT.ieq (fun _ => ?_) (fun h => by omega)
    exact QT.bnd hs (fun v hv => QT.grd (fun _ => QT.ret hv))
  · obtain ⟨g1, g2, g3⟩ : (T.1 2 u.toNatClampNeg).toInt ≤ 5 ∧ (T.1 2 uB.toNatClampNeg).toInt ≤ 5 ∧ PLS (T.1 2 u.toNatClampNeg).toInt (T.1 2 uB.toNatClampNeg).toInt := by
      rcases hm with ⟨g, _⟩ | ⟨g, _⟩ | h
      · omega
      · omega
      · exact h
    refine QT.bnd (r_leafn (q := q) hP hC (by omega) hSS (by omega) (T.1 2 u.toNatClampNeg) u xB gB q1 hu rfl ⟨hr.1, g1⟩ huB rfl ⟨hrB.1, g2⟩ hne (fun z hz => (hH.rA hSS.2.2 hz.kta).1) g3 hO (L := L)) (fun s hs => QT.ret ?_)
    refine QT.ieq (fun h => by omega) (fun _ => QT.ieq (fun h => by omega) (fun _ => ?_))
    exact QT.bnd hs (fun v hv => QT.grd (fun _ => QT.ret hv))
