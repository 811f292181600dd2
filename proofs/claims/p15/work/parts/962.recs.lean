/-! records that the reader doesn't want, both sides -/
theorem a_fieldsOf_m1 (σ : ST) : f_X5_fieldsOf 4 (-1) σ = some (0, σ) := by
  unfold f_X5_fieldsOf f_X5_isRecord
  rw [if_pos (by decide), sbnd]
  exact if_pos rfl
/-- a field whose value the reader doesn't want -/
def cFLS (b t m p q : Nat) (S T : ST) (rF : FTK) (rb : FRD) : Prop := ∀ (x u lev fi row : Int32) (L d xr : Nat) (σ τ : ST), TY p (T.1 8 p).toInt S T d x u → d ≤ 4 → lev.toInt = L → L ≤ 30 → RCX b t m S T σ τ xr → ∀ (pb pl' : Int32), QT (rF b t x fi (-1) row lev σ) (fun s => QT (rb u (-1) (lev + 1) pb pl' τ) (ROUT b (RSK b t m (L + 1) S T xr σ τ) s))
theorem cfls_top {b t m p q : Nat} {S T : ST} {rT rF rL rO rR : FTK} {rb : FRD} (hT : cTK b t m p q S T rT rb) : cFLS b t m p q S T (f_X4_takeField rT rF rL rO rR) rb := by
  intro x u lev fi row L d xr σ τ hX hd hlev hL hC pb pl'
  have l0 := li_0
  have l1 := li_1
  have el := il_addE (x := lev) (y := 1) (by omega) (by omega)
  unfold f_X4_takeField
  show QT (f_X4_takeField_12 rT rF rL rO rR b t (99999 + 1) x fi (-1) row lev (σ.1 b 5) 0 0 σ) _
  rw [f_X4_takeField_12, a_fieldsOf_m1, sbnd]
  dsimp only
  refine QT.ile (fun _ => ?_) (fun h => by omega)
  unfold f_X4_takeField_82
  refine QT.ite (fun _ => ?_) (fun h => absurd rfl h)
  refine QT.bnd ((hT x u (lev + 1) (L + 1) d xr σ τ hX hd (by omega) (by omega) hC).1 (-1) 0 pb pl') (fun s hs => QT.ret hs)
theorem ad_51 {rT rF rL rO rR : FTK} {b t : Nat} (x1 x5 x6 x7 : Int32) {σ : ST} (hb : BT b t) (h : ¬ σ.1 b 7 = 0) (n : Nat) (x8 : Int32) : QT (f_X4_takeRecord_51 rT rF rL rO rR b t n x1 x5 x6 x7 x8 σ) (fun s => ¬ s.1 b 7 = 0) := by
  have fo : ∀ (y : Int32) (s : ST), ¬ s.1 b 7 = 0 → QT (f_X5_fieldsOf 4 y s) (fun z => ¬ z.2.1 b 7 = 0) := fun y s hs z e => by
    have k : KRA b t s z.2 := wr_X5_fieldsOf (B0 := b) (T0 := t) (s := s) (KRA.rf hb) z e
    exact k.nz hs
  have k109 : ∀ s : ST, ¬ s.1 b 7 = 0 → QT (f_X4_takeRecord_109 rT rF rL rO rR b t x5 x6 x7 s) (fun s => ¬ s.1 b 7 = 0) := fun s hs => by
    unfold f_X4_takeRecord_109
    show QT (f_X4_takeRecord_112 rT rF rL rO rR b t (99999 + 1) x5 x6 x7 0 s) _
    rw [f_X4_takeRecord_112]
    refine QT.bnd (fo _ _ hs) (fun z hz => ?_)
    exact QT.ite (fun _ => QT.ret hz) (fun _ => QT.ite (fun e => absurd e hz) (fun _ => QT.ret hz))
  cases n with
  | zero =>
    rw [f_X4_takeRecord_51]
    exact QT.none
  | succ n =>
    rw [f_X4_takeRecord_51]
    refine QT.bnd (fo _ _ h) (fun z hz => ?_)
    exact QT.ite (fun _ => k109 _ hz) (fun _ => QT.ite (fun e => absurd e hz) (fun _ => k109 _ hz))
/-- the fields of a record that the reader doesn't want -/
theorem r_flds {b t m p q : Nat} {S T : ST} {rT rF rL rO rR : FTK} {rb : FRD} {rI rS : Int32 → Int32 → Int32 → Int32 → ST → Option (Int32 × ST)} (hS : RST p q S T) (hF : cFLS b t m p q S T rF rb) {L : Nat} (hL : L ≤ 30) (xR u lev xB x5 : Int32) {w mW x : Nat} (hlev : lev.toInt = L) (hx : xR.toInt = 6 * (p : Int) + w) (hx5 : x5.toInt = 6 * (p : Int) + w) (hw : (w : Int) < (T.1 8 p).toInt) (hmW : (T.1 11 (6 * p + w)).toInt = mW) : ∀ (n M i : Nat) (x8 : Int32) (σ τ : ST), RCX b t m S T σ τ x → x8.toInt = i → i ≤ mW → QT (f_X4_takeRecord_51 rT rF rL rO rR b t n xR lev (-1) (-1) x8 σ) (fun s => QT (f_X11_readsRecord_43 rb rI rS M u (-1) lev xB x5 0 x8 τ) (ROUT b (RSK b t m L S T x σ τ) s)) := by
  have l0 := li_0
  have l1 := li_1
  have lm := li_m1
  have l8 := li_8
  intro n
  induction n with
  | zero =>
    intro M i x8 σ τ _ _ _
    rw [f_X4_takeRecord_51]
    exact QT.none
  | succ n ih =>
    intro M i x8 σ τ hC h8 hi
    cases M with
    | zero =>
      refine fun s _ => ?_
      rw [f_X11_readsRecord_43]
      exact QT.none
    | succ M =>
      obtain ⟨hPQ, _⟩ := hS.at hC.1.1 hC.1.2
      have hp6 := hPQ.1
      have e8 := hC.1.2.fl.1
      have e11 := hC.1.2.fl.2.1
      have hw' : (w : Int) < (τ.1 8 p).toInt := by rw [e8]; exact hw
      obtain ⟨_, a2, a3, _, a5⟩ := hPQ.2.2.1.1.acc hw'
      have cP := hPQ.2.2.1.1.cnt
      have m8 : mW ≤ 8 := by
        have := a3.2
        rw [e11, hmW] at this
        omega
      have hm : (σ.1 7 (6 * p + w)).toInt = mW := by rw [a2, e11]; exact hmW
      have n5 : x5.toNatClampNeg = 6 * p + w := nC (by omega)
      rw [f_X4_takeRecord_51, f_X11_readsRecord_43, a4_fieldsOf xR σ (r := 6 * p + w) (by omega) (by omega), sbnd]
      dsimp only
      rw [n5, e11]
      refine QT.sw ?_
      refine QT.grd (fun _ => ?_)
      refine QT.sw ?_
      refine QT.ile (fun hle => ?_) (fun hlt => ?_)
      · unfold f_X4_takeRecord_109
        show QT (f_X4_takeRecord_112 rT rF rL rO rR b t (99999 + 1) lev (-1) (-1) 0 σ) _
        rw [f_X4_takeRecord_112, a_fieldsOf_m1, sbnd]
        dsimp only
        refine QT.ile (fun _ => QT.ret ?_) (fun h => by omega)
        refine QT.ile (fun _ => ?_) (fun h => by omega)
        show QT (f_X11_readsRecord_217 rb rI rS (99999 + 1) u (-1) xB 0 0 τ) _
        rw [f_X11_readsRecord_217]
        exact QT.ilt (fun _ => QT.ret (.inr ⟨rfl, hC, TRE.rf, SRK.rf⟩)) (fun h => by omega)
      refine QT.ite (fun _ => ?_) (fun h => absurd hC.2.1.1.1 h)
      refine QT.sw ?_
      refine QT.ile (fun h => by omega) (fun _ => ?_)
      refine QT.bnd (q_enters _ τ) (fun τ1 hτ1 => ?_)
      show QT (f_X11_readsRecord_83 rb rI rS (f_X11_readsRecord_43 rb rI rS M) (99999 + 1) u (-1) lev xB x5 0 x8 ((8 * x5) + x8) (τ.1 0 64) 0 0 τ1) _
      rw [f_X11_readsRecord_83]
      refine QT.ilt (fun _ => ?_) (fun h => by omega)
      unfold f_X11_readsRecord_171
      refine QT.ite (fun _ => ?_) (fun h => absurd rfl h)
      have em := mlE (k := 8) (y := x5) 8 l8 (by omega) (by omega)
      have ea := il_addE (x := 8 * x5) (y := x8) (by omega) (by omega)
      have na : (8 * x5 + x8).toNatClampNeg = 8 * (6 * p + w) + i := nC (by omega)
      have e15 : τ1.1 15 = T.1 15 := (hτ1.1 15 (by omega) (by omega)).trans hC.1.2.fl.2.2.1
      rw [na, e15]
      refine QT.grd (fun _ => ?_)
      refine QT.sw ?_
      refine QT.bnd (a_step b t _ σ) (fun σ1 hσ1 => ?_)
      have hC1 := hC.st hσ1 hτ1
      rw [a4_typeOf xR x8 σ1 (r := 6 * p + w) (j := i) (by omega) h8 (by omega) (by omega), sbnd]
      dsimp only
      have k13 := (hC1.1.1.kta 13 (by omega) (by omega)).1
      rw [k13]
      obtain ⟨⟨_, _⟩, _, h3, _⟩ := (hS.1.2.2.1.1.acc hw).2.2.2.2 i (by omega)
      have hTY : TY p (T.1 8 p).toInt S T 4 (S.1 13 (8 * (6 * p + w) + i)) (T.1 15 (8 * (6 * p + w) + i)) := h3
      refine QT.bnd2 (hF _ _ lev x8 (-1) L 4 x σ1 τ1 hTY (by omega) hlev hL hC1 (-1) 0) (fun s wv hsw => ?_)
      rcases hsw with ⟨f1, f2⟩ | ⟨w1, hK⟩
      · refine QT.bnd (a_stepBack b t s) (fun s2 hs2 => ?_)
        refine (ad_51 xR lev (-1) (-1) hC.1.1.1 (by rw [hs2.2.1 7 (by omega)]; exact f1) n _).mono (fun z hz => ?_)
        exact QT.ite (fun _ => QT.ret (.inl ⟨hz, rfl⟩)) (fun h => absurd f2 h)
      · refine QT.bnd (a_stepBack b t s) (fun s2 hs2 => ?_)
        refine QT.sw ?_
        refine QT.ite (fun h => by rw [w1] at h; exact absurd h one_ne) (fun _ => ?_)
        refine QT.sw ?_
        unfold f_X11_readsRecord_198
        have hK1 : RSK b t m L S T x σ τ s wv.2 := (RSK.st hC hσ1 hτ1).trans (hK.wk (by omega))
        have hB2 : STB wv.2 (stI wv.2 0 57 (wv.2.1 0 57 - 1)) := STB.i
        have e9 := il_addE (x := x8) (y := 1) (by omega) (by omega)
        refine (ih M (i + 1) (x8 + 1) s2 _ (hK1.1.st hs2 hB2) (by omega) (by omega)).mono2 (fun z v hz => hz.imp (fun h => (hK1.trans (RSK.st hK1.1 hs2 hB2)).trans h))
theorem r_rec {b t m p q : Nat} {S T : ST} {rT rF rL rO rR : FTK} {rb : FRD} {rI rS : Int32 → Int32 → Int32 → Int32 → ST → Option (Int32 × ST)} (hS : RST p q S T) (hF : cFLS b t m p q S T rF rb) {L : Nat} (hL : L ≤ 30) (xR u lev pa pl xB : Int32) {w mW x : Nat} (hlev : lev.toInt = L) (hx : xR.toInt = 6 * (p : Int) + w) (hu : 0 ≤ u.toInt ∧ u.toInt < 800) (hu3 : (T.1 3 u.toNatClampNeg).toInt = w) (hw : (w : Int) < (T.1 8 p).toInt) (hmW : (T.1 11 (6 * p + w)).toInt = mW) (σ τ : ST) (hC : RCX b t m S T σ τ x) : QT (f_X4_takeRecord rT rF rL rO rR b t xR (-1) pa pl lev σ) (fun s => QT (f_X11_readsRecord rb rI rS u (-1) lev xB τ) (ROUT b (RSK b t m L S T x σ τ) s)) := by
  have l0 := li_0
  have lm := li_m1
  have l6 := li_6
  obtain ⟨hPQ, _⟩ := hS.at hC.1.1 hC.1.2
  have hp6 := hPQ.1
  have e53 := hPQ.2.1.1
  have e8 := hC.1.2.fl.1
  have hw' : (w : Int) < (τ.1 8 p).toInt := by rw [e8]; exact hw
  have cP := hPQ.2.2.1.1.cnt
  have e3 : τ.1 3 = T.1 3 := hC.1.2.ty.2.1
  unfold f_X4_takeRecord f_X4_takeRecord_17 f_X11_readsRecord f_X11_readsRecord_38
  refine QT.ite (fun _ => ?_) (fun h => absurd rfl h)
  rw [a_fieldsOf_m1, sbnd]
  dsimp only
  have ha : f_X4_addNode b t (-1) pa pl 0 0 σ = some (-1, σ) := by
    unfold f_X4_addNode
    exact if_pos rfl
  rw [ha, sbnd]
  dsimp only
  have hf : f_X4_findSources b t xR (-1) lev σ = some σ := by
    unfold f_X4_findSources
    show f_X4_findSources_3 b t (99999 + 1) xR (-1) lev 0 σ = _
    rw [f_X4_findSources_3, a_fieldsOf_m1, sbnd]
    dsimp only
    exact if_pos (by decide)
  rw [hf, sbnd]
  refine QT.sw ?_
  refine QT.grd (fun _ => ?_)
  refine QT.ile (fun h => by omega) (fun _ => ?_)
  refine QT.sw ?_
  rw [e3]
  have em := mlE (k := 6) (y := τ.1 0 53) 6 l6 (by omega) (by omega)
  have ea := il_addE (x := 6 * τ.1 0 53) (y := T.1 3 u.toNatClampNeg) (by omega) (by omega)
  exact r_flds hS hF hL xR u lev xB _ hlev hx (by omega) hw hmW FU FU 0 0 σ τ hC l0 (by omega)
