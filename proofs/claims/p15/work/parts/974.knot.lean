/-! reading, both sides: level by level -/
theorem ctk_top {b t m p q : Nat} {S T : ST} {rT rF rL rO rR : FTK} {rb : FRD} {rI rS : FRI} (hS : RST p q S T) (hSS : RSS b t S) (hO1s : cOWS b t m p q S T rO rb) (hO1n : cOWN b t m p q S T rO rb) (hO2s : cOWS b t m p q S T rO (f_X11_reads rb rI rS)) (hO2n : cOWN b t m p q S T rO (f_X11_reads rb rI rS)) (hE : cEMP b t m p q S T (f_X11_reads rb rI rS)) : cTK b t m p q S T (f_X4_take rT rF rL rO rR) (f_X11_reads rb rI rS) := by
  intro x u lev L d xr σ τ hX hd hlev hL31 hC
  have hb := hC.1.1.1
  have l8 := li_8
  have lm := li_m1
  have l31 : (31 : Int32).toInt = 31 := by decide
  have e2 : τ.1 2 = T.1 2 := hC.1.2.ty.1
  have e4 : τ.1 4 = T.1 4 := hC.1.2.ty.2.2.1
  have ru := hX.rng
  have hn := hSS.2.2
  obtain ⟨d1, hd1⟩ : ∃ d1, d = d1 + 1 := by
    cases d with
    | zero => exact hX.elim
    | succ d1 => exact ⟨d1, rfl⟩
  subst hd1
  have hG := TG.of hX
  obtain ⟨hsA, _⟩ := hG.rA hn hC.1.1.kta
  have deep : ∀ (y pa pl v pb pl' : Int32) (K : ST → ST → Prop), ¬ lev.toInt < 31 → QT ((f_X4_fail b t 16 (σ.1 b 5) σ).bind fun q3 => some q3) (fun s => QT (f_X11_reads rb rI rS u v lev pb pl' τ) (ROUT b K s)) := fun y pa pl v pb pl' K h31 => by
    refine QT.bnd (a_failed hb 16 _ σ (by decide)) (fun s hs => QT.ret ?_)
    unfold f_X11_reads
    refine QT.ilt (fun h => by omega) (fun _ => ?_)
    exact QT.bnd (q_fails 16 _ τ) (fun w hw => QT.grd (fun _ => QT.ret (.inl ⟨hs, hw⟩)))
  refine ⟨fun pa pl pb pl' => ?_, fun y v pa pl e l k hy hY he hM hP => ?_⟩
  · unfold f_X4_take
    refine QT.ilt (fun h31 => ?_) (fun h31 => deep (-1) pa pl (-1) pb pl' _ (by omega))
    have hL : L ≤ 30 := by omega
    refine QT.ite (fun _ => ?_) (fun h => absurd rfl h)
    refine QT.bnd (hE x u lev L (d1 + 1) xr σ τ hL hlev hX hd hC) (fun q1 hq1 => ?_)
    obtain ⟨h1, h2⟩ := hq1
    rw [h1]
    refine QT.ite (fun _ => ?_) (fun h0 => QT.ret ((h2 h0 pb pl').mono (fun w hw => .inr hw)))
    by_cases h8 : (T.1 2 u.toNatClampNeg).toInt = 8
    · unfold f_X11_reads
      refine QT.sw ?_
      refine QT.ilt (fun _ => ?_) (fun h => by omega)
      refine QT.grd (fun _ => ?_)
      rw [e2, e4]
      refine QT.ieq (fun _ => ?_) (fun h => by omega)
      refine QT.sw ?_
      refine r_union hS hSS hL x u (-1) (-1) lev pa pl pb pl' hlev hX hd h8 hC (.inl ⟨rfl, rfl⟩) (fun xk uk d' σ1 τ1 hTk hd' h8k _ hC1 hT1 hS1 => ?_)
      cases d' with
      | zero => exact hTk.elim
      | succ d' =>
        refine (hO1s xk uk lev pa pl pb pl' L d' xr σ1 τ1 hL hlev (TG.of hTk) (by omega) h8k hC1).mono2 (fun s w hw => hw.imp (fun h s2 w2 hA hB => ?_))
        exact ⟨h.1.st hA hB, hT1.trans (h.2.1.trans (ST.tre hb hA hB)), hS1.trans (h.2.2.trans hA.srk)⟩
    · unfold f_X4_take_34
      rw [hsA, sbnd]
      dsimp only
      refine QT.ieq (fun h => by omega) (fun _ => ?_)
      exact QT.bnd (hO2s x u lev pa pl pb pl' L d1 xr σ τ hL hlev hG (by omega) h8 hC) (fun s hs => QT.ret hs)
  · have rv := hY.rng
    unfold f_X4_take
    refine QT.ilt (fun h31 => ?_) (fun h31 => deep y pa pl v pa pl _ (by omega))
    have hL : L ≤ 30 := by omega
    refine QT.ite (fun h => absurd h hy) (fun _ => ?_)
    by_cases h8 : (T.1 2 u.toNatClampNeg).toInt = 8
    · unfold f_X11_reads
      refine QT.sw ?_
      refine QT.ilt (fun _ => ?_) (fun h => by omega)
      refine QT.grd (fun _ => ?_)
      rw [e2, e4]
      refine QT.ieq (fun _ => ?_) (fun h => by omega)
      refine QT.sw ?_
      refine r_union hS hSS hL x u y v lev pa pl pa pl hlev hX hd h8 hC (.inr ⟨hy, e, he, hY⟩) (fun xk uk d' σ1 τ1 hTk hd' h8k hMS hC1 hT1 hS1 => ?_)
      refine (hO1n xk uk y v lev pa pl L d' e xr l k σ1 τ1 hL hlev hTk hd' h8k hY he (hMS hy) hC1 (hP.mv hT1)).mono2 (fun s w hw => hw.imp (fun h s2 w2 hA hB => ?_))
      exact (h.pre hT1 hS1).post hA hB
    · unfold f_X4_take_34
      rw [hsA, sbnd]
      dsimp only
      refine QT.ieq (fun h => by omega) (fun _ => ?_)
      exact QT.bnd (hO2n x u y v lev pa pl L (d1 + 1) e xr l k σ τ hL hlev hX hd h8 hY he hM hC hP) (fun s hs => QT.ret hs)
/-- all of a level -/
def CKN (b t m p q : Nat) (S T : ST) (N : Nat) : Prop := (∀ M, cTK b t m p q S T (R_X4_take N).1 (R_X11_reads M).1) ∧ (∀ M, cFLS b t m p q S T (R_X4_take N).2.1 (R_X11_reads M).1 ∧ cFLN b t m p q S T (R_X4_take N).2.1 (R_X11_reads M).1) ∧ (∀ M, cLSS b t m p q S T (R_X4_take N).2.2.1 (R_X11_reads M).2.1 ∧ cLSN b t m p q S T (R_X4_take N).2.2.1 (R_X11_reads M).2.1) ∧ (∀ M, cOWS b t m p q S T (R_X4_take N).2.2.2.1 (R_X11_reads M).1 ∧ cOWN b t m p q S T (R_X4_take N).2.2.2.1 (R_X11_reads M).1) ∧ (∀ M, cRCS b t m p q S T (R_X4_take N).2.2.2.2 (R_X11_reads M).2.2 ∧ cRCN b t m p q S T (R_X4_take N).2.2.2.2 (R_X11_reads M).2.2) ∧ cFUL b t (R_X4_take N).2.2.1 ∧ cFUL b t (R_X4_take N).2.2.2.2
theorem ck_all {b t m p q : Nat} {S T : ST} (hb : BT b t) (hS : RST p q S T) (hSS : RSS b t S) (hE : ∀ M, cEMP b t m p q S T (R_X11_reads M).1) : ∀ N, CKN b t m p q S T N := by
  intro N
  induction N with
  | zero =>
    refine ⟨fun M => ?_, fun M => ⟨?_, ?_⟩, fun M => ⟨?_, ?_⟩, fun M => ⟨?_, ?_⟩, fun M => ⟨?_, ?_⟩, ?_, ?_⟩
    · intro x u lev L d xr σ τ _ _ _ _ _
      exact ⟨fun _ _ _ _ => QT.none, fun _ _ _ _ _ _ _ _ _ _ _ _ => QT.none⟩
    · intro x u lev fi row L d xr σ τ _ _ _ _ _ pb pl'
      exact QT.none
    · intro xR yR u uB lev x5 x6 fi x8 row p0 L w r mW mR i x e z n0 a t1 σ τ l _ _ _ _ _ _ _ _ _ _ _ _ _ _ _ _
      exact QT.none
    · intro x1 u lev pa pl xB L d x σ τ _ _ _ _ _ _
      exact QT.none
    · intro x1 u lev xB tA tB uA uB so br pa pl L d e0 x l k σ τ τ1 _ _ _ _ _ _ _ _ _ _
      exact QT.none
    · intro x u lev pa pl pb pl' L d xr σ τ _ _ _ _ _ _
      exact QT.none
    · intro x u y v lev pa pl L d e0 xr l k σ τ _ _ _ _ _ _ _ _ _ _
      exact QT.none
    · intro xR u lev pa pl xB L w mW x σ τ _ _ _ _ _ _ _ _
      exact QT.none
    · intro xR u lev xB tA tB uA uB so br pa pl L w r mW mR x l k σ τ τ1 _ _ _ _ _ _
      exact QT.none
    · intro x1 uA pa pl lev σ _ _
      exact QT.none
    · intro x1 uA pa pl lev σ _ _
      exact QT.none
  | succ N ih =>
    obtain ⟨i1, i2, i3, i4, i5, i6, i7⟩ := ih
    refine ⟨fun M => ?_, fun M => ⟨cfls_top (i1 M), cfln_top hS (i1 M)⟩, fun M => ⟨?_, ?_⟩, fun M => ⟨?_, ?_⟩, fun M => ⟨?_, ?_⟩, fun x1 uA pa pl lev σ h1 h2 => f_list hb x1 uA pa pl lev h1 h2, fun x1 uA pa pl lev σ h1 h2 => f_rec hb x1 uA pa pl lev h1 h2⟩
    · cases M with
      | zero =>
        intro x u lev L d xr σ τ _ _ _ _ _
        exact ⟨fun _ _ _ _ s _ => QT.none, fun _ _ _ _ _ _ _ _ _ _ _ _ s _ => QT.none⟩
      | succ M => exact ctk_top hS hSS (i4 M).1 (i4 M).2 (i4 (M + 1)).1 (i4 (M + 1)).2 (hE (M + 1))
    · cases M with
      | zero =>
        intro x1 u lev pa pl xB L d x σ τ _ _ _ _ _ _ s _
        exact QT.none
      | succ M =>
        intro x1 u lev pa pl xB L d x σ τ hL hlev hX hd hu hC
        exact r_list (i1 M) hL x1 u lev pa pl xB hlev hX hd hu σ τ hC
    · cases M with
      | zero =>
        intro x1 u lev xB tA tB uA uB so br pa pl L d e0 x l k σ τ τ1 _ _ _ _ _ _ _ _ _ _ s _
        exact QT.none
      | succ M =>
        intro x1 u lev xB tA tB uA uB so br pa pl L d e0 x l k σ τ τ1 hL hlev hN h6 hX hd hY he hM hu
        obtain ⟨⟨a1, a2, a3⟩, ⟨a4, a5⟩, ⟨a6, a7, a8⟩, a9, a10, a11⟩ := hN
        exact r_listn (i1 M) hL a1 a2 a3 hSS x1 u lev xB a4 a5 hlev hX hd hY he hM hu a6 a7 h6 a8 a9 a10 a11
    · cases M with
      | zero =>
        intro x u lev pa pl pb pl' L d xr σ τ _ _ _ _ _ _ s _
        exact QT.none
      | succ M => exact cows_top hS hSS (i3 M).1 (i5 M).1
    · cases M with
      | zero =>
        intro x u y v lev pa pl L d e0 xr l k σ τ _ _ _ _ _ _ _ _ _ _ s _
        exact QT.none
      | succ M => exact cown_top hS hSS (i3 M).2 (i5 M).2 i6 i7
    · cases M with
      | zero =>
        intro xR u lev pa pl xB L w mW x σ τ _ _ _ _ _ _ _ _ s _
        exact QT.none
      | succ M =>
        intro xR u lev pa pl xB L w mW x σ τ hL hlev hx hu hu3 hw hmW hC
        exact r_rec hS (i2 M).1 hL xR u lev pa pl xB hlev hx hu hu3 hw hmW σ τ hC
    · cases M with
      | zero =>
        intro xR u lev xB tA tB uA uB so br pa pl L w r mW mR x l k σ τ τ1 _ _ _ _ _ _ s _
        exact QT.none
      | succ M =>
        intro xR u lev xB tA tB uA uB so br pa pl L w r mW mR x l k σ τ τ1 hL hlev hN h7 hRP hu
        obtain ⟨⟨a1, a2, a3⟩, ⟨a4, a5⟩, ⟨a6, a7, a8⟩, a9, a10, a11⟩ := hN
        exact r_recn hS hSS (i2 M).2 hL a1 a2 a3 xR u lev xB a4 a5 hlev hRP hu a6 a7 h7 a8 a9 a10 a11
