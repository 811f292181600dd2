/-! reading, both sides: level by level -/
theorem ctk_top {b t m p q : Nat} {S T : ST} {rT rF rL rO rR : FTK} {rb : FRD} {rI rS : FRI} (hS : RST p q S T) (hSS : RSS b t S) (hO1s : cOWS b t m p q S T rO rb) (hO1n : cOWN b t m p q S T rO rb) (hO2s : cOWS b t m p q S T rO (f_X11_reads rb rI rS)) (hO2n : cOWN b t m p q S T rO (f_X11_reads rb rI rS)) (hE : cEMP b t m p q S T (f_X11_reads rb rI rS)) : cTK b t m p q S T (f_X4_take rT rF rL rO rR) (f_X11_reads rb rI rS) := by
  intro x u lev L d xr σ τ hX hd hlev hL31 hC
  have hb := hC.1.1.1
  have l8 := li_8
  have lm := li_m1
  have l31 : (31 : Int32).toInt = 31 := by decide
  have e2 : τ.1 2 = T.1 2 := hC.1.2.ty.1
  have e4 : τ.1 4 = T.1 4 := hC.1.2.ty.2.2.1
  have ru := hX.rng
  have hn := hSS.2.2
  obtain ⟨d1, hd1⟩ : ∃ d1, d = d1 + 1 := by
    cases d with
    | zero => exact hX.elim
    | succ d1 => exact ⟨d1, rfl⟩
  subst hd1
  have hG := TG.of hX
  obtain ⟨hsA, _⟩ := hG.rA hn hC.1.1.kta
  have deep : ∀ (y pa pl v pb pl' : Int32) (K : ST → ST → Prop), ¬ lev.toInt < 31 → QT ((f_X4_fail b t 16 (σ.1 b 5) σ).bind fun q3 => some q3) (fun s => QT (f_X11_reads rb rI rS u v lev pb pl' τ) (ROUT b K s)) := fun y pa pl v pb pl' K h31 => by
    refine QT.bnd (a_failed hb 16 _ σ (by decide)) (fun s hs => QT.ret ?_)
    unfold f_X11_reads
    refine QT.ilt (fun h => by omega) (fun _ => ?_)
    exact QT.bnd (q_fails 16 _ τ) (fun w hw => QT.grd (fun _ => QT.ret (.inl ⟨hs, hw⟩)))
  refine ⟨fun pa pl pb pl' => ?_, fun y v pa pl e l k hy hY he hM hP => ?_⟩
  · unfold f_X4_take
    refine QT.ilt (fun h31 => ?_) (fun h31 => deep (-1) pa pl (-1) pb pl' _ (by omega))
    have hL : L ≤ 30 := by omega
    refine QT.ite (fun _ => ?_) (fun h => absurd rfl h)
    refine QT.bnd (hE x u lev L (d1 + 1) xr σ τ hL hlev hX hd hC) (fun q1 hq1 => ?_)
    obtain ⟨h1, h2⟩ := hq1
    rw [h1]
    refine QT.ite (fun _ => ?_) (fun h0 => QT.ret ((h2 h0 pb pl').mono (fun w hw => .inr hw)))
    by_cases h8 : (T.1 2 u.toNatClampNeg).toInt = 8
    · unfold f_X11_reads
      refine QT.sw ?_
      refine QT.ilt (fun _ => ?_) (fun h => by omega)
      refine QT.grd (fun _ => ?_)
      rw [e2, e4]
      refine QT.ieq (fun _ => ?_) (fun h => by omega)
      refine QT.sw ?_
      refine r_union hS hSS hL x u (-1) (-1) lev pa pl pb pl' hlev hX hd h8 hC (.inl ⟨rfl, rfl⟩) (fun xk uk d' σ1 τ1 hTk hd' h8k _ hC1 hT1 hS1 => ?_)
      cases d' with
      | zero => exact hTk.elim
      | succ d' =>
        refine (hO1s xk uk lev pa pl pb pl' L d' xr σ1 τ1 hL hlev (TG.of hTk) (by omega) h8k hC1).mono2 (fun s w hw => hw.imp (fun h s2 w2 hA hB => ?_))
        exact ⟨h.1.st hA hB, hT1.trans (h.2.1.trans (ST.tre hb hA hB)), hS1.trans (h.2.2.trans hA.srk)⟩
    · unfold f_X4_take_34
      rw [hsA, sbnd]
      dsimp only
      refine QT.ieq (fun h => by omega) (fun _ => ?_)
      exact QT.bnd (hO2s x u lev pa pl pb pl' L d1 xr σ τ hL hlev hG (by omega) h8 hC) (fun s hs => QT.ret hs)
  · have rv := hY.rng
    unfold f_X4_take
    refine QT.ilt (fun h31 => ?_) (fun h31 => deep y pa pl v pa pl _ (by omega))
    have hL : L ≤ 30 := by omega
    refine QT.ite (fun h => absurd h hy) (fun _ => ?_)
    by_cases h8 : (T.1 2 u.toNatClampNeg).toInt = 8
    · unfold f_X11_reads
      refine QT.sw ?_
      refine QT.ilt (fun _ => ?_) (fun h => by omega)
      refine QT.grd (fun _ => ?_)
      rw [e2, e4]
      refine QT.ieq (fun _ => ?_) (fun h => by omega)
      refine QT.sw ?_
      refine r_union hS hSS hL x u y v lev pa pl pa pl hlev hX hd h8 hC (.inr ⟨hy, e, he, hY⟩) (fun xk uk d' σ1 τ1 hTk hd' h8k hMS hC1 hT1 hS1 => ?_)
      refine (hO1n xk uk y v lev pa pl L d' e xr l k σ1 τ1 hL hlev hTk hd' h8k hY he (hMS hy) hC1 (hP.mv hT1)).mono2 (fun s w hw => hw.imp (fun h s2 w2 hA hB => ?_))
      exact (h.pre hT1 hS1).post hA hB
    · unfold f_X4_take_34
      rw [hsA, sbnd]
      dsimp only
      refine QT.ieq (fun h => by omega) (fun _ => ?_)
      exact QT.bnd (hO2n x u y v lev pa pl L (d1 + 1) e xr l k σ τ hL hlev hX hd h8 hY he hM hC hP) (fun s hs => QT.ret hs)
/-- all of a level -/
def CKN (b t m p q : Nat) (S T : ST) (N : Nat) : Prop := (∀ M, cTK b t m p q S T (R_X4_take N).1 (R_X11_reads M).1) ∧ (∀ M, cFLS b t m p q S T (R_X4_take N).2.1 (R_X11_reads M).1 ∧ cFLN b t m p q S T (R_X4_take N).2.1 (R_X11_reads M).1) ∧ (∀ M, cLSS b t m p q S T (R_X4_take N).2.2.1 (R_X11_reads M).2.1 ∧ cLSN b t m p q S T (R_X4_take N).2.2.1 (R_X11_reads M).2.1) ∧ (∀ M, cOWS b t m p q S T (R_X4_take N).2.2.2.1 (R_X11_reads M).1 ∧ cOWN b t m p q S T (R_X4_take N).2.2.2.1 (R_X11_reads M).1) ∧ (∀ M, cRCS b t m p q S T (R_X4_take N).2.2.2.2 (R_X11_reads M).2.2 ∧ cRCN b t m p q S T (R_X4_take N).2.2.2.2 (R_X11_reads M).2.2) ∧ cFUL b t (R_X4_take N).2.2.1 ∧ cFUL b t (R_X4_take N).2.2.2.2
theorem ck_all {b t m p q : Nat} {S T : ST} (hb : BT b t) (hS : RST p q S T) (hSS : RSS b t S) (hE : ∀ M, cEMP b t m p q S T (R_X11_reads M).1) : ∀ N, CKN b t m p q S T N := by
  intro N
  induction N with
  | zero =>
    refine ⟨fun M => ?_, fun M => ⟨?_, ?_⟩, fun M => ⟨?_, ?_⟩, fun M => ⟨?_, ?_⟩, fun M => ⟨?_, ?_⟩, ?_, ?_⟩
    · intro x u lev L d xr σ τ _ _ _ _ _
      exact ⟨fun _ _ _ _ => QT.none, fun _ _ _ _ _ _ _ _ _ _ _ _ => QT.none⟩
    · intro x u lev fi row L d xr σ τ _ _ _ _ _ pb pl'
      exact QT.none
    · intro xR yR u uB lev x5 x6 fi x8 row p0 L w r mW mR i x e z n0 a t1 σ τ l _ _ _ _ _ _ _ _ _ _ _ _ _ _ _ _
      exact QT.none
    · intro x1 u lev pa pl xB L d x σ τ _ _ _ _ _ _
      exact QT.none
    · intro x1 u lev xB tA tB uA uB so br pa pl L d e0 x l k σ τ τ1 _ _ _ _ _ _ _ _ _ _
      exact QT.none
    · intro x u lev pa pl pb pl' L d xr σ τ _ _ _ _ _ _
      exact QT.none
    · intro x u y v lev pa pl L d e0 xr l k σ τ _ _ _ _ _ _ _ _ _ _
      exact QT.none
    · intro xR u lev pa pl xB L w mW x σ τ _ _ _ _ _ _ _ _
      exact QT.none
    · intro xR u lev xB tA tB uA uB so br pa pl L w r mW mR x l k σ τ τ1 _ _ _ _ _ _
      exact QT.none
    · intro x1 uA pa pl lev σ _ _
      exact QT.none
    · intro x1 uA pa pl lev σ _ _
      exact QT.none
  | succ N ih =>
    obtain ⟨i1, i2, i3, i4, i5, i6, i7⟩ := ih
    refine ⟨fun M => ?_, fun M => ⟨cfls_top (i1 M), cfln_top hS (i1 M)⟩, fun M => ⟨?_, ?_⟩, fun M => ⟨?_, ?_⟩, fun M => ⟨?_, ?_⟩, fun x1 uA pa pl lev σ h1 h2 => f_list hb x1 uA pa pl lev h1 h2, fun x1 uA pa pl lev σ h1 h2 => f_rec hb x1 uA pa pl lev h1 h2⟩
    · cases M with
      | zero =>
        intro x u lev L d xr σ τ _ _ _ _ _
        exact ⟨fun _ _ _ _ s _ => QT.none, fun _ _ _ _ _ _ _ _ _ _ _ _ s _ => QT.none⟩
      | succ M => exact ctk_top hS hSS (i4 M).1 (i4 M).2 (i4 (M + 1)).1 (i4 (M + 1)).2 (hE (M + 1))
    · cases M with
      | zero =>
        intro x1 u lev pa pl xB L d x σ τ _ _ _ _ _ _ s _
        exact QT.none
      | succ M =>
        intro x1 u lev pa pl xB L d x σ τ hL hlev hX hd hu hC
        exact r_list (i1 M) hL x1 u lev pa pl xB hlev hX hd hu σ τ hC
    · cases M with
      | zero =>
        intro x1 u lev xB tA tB uA uB so br pa pl L d e0 x l k σ τ τ1 _ _ _ _ _ _ _ _ _ _ s _
        exact QT.none
      | succ M =>
        intro x1 u lev xB tA tB uA uB so br pa pl L d e0 x l k σ τ τ1 hL hlev hN h6 hX hd hY he hM hu
        obtain ⟨⟨a1, a2, a3⟩, ⟨a4, a5⟩, ⟨a6, a7, a8⟩, a9, a10, a11⟩ := hN
        exact r_listn (i1 M) hL a1 a2 a3 hSS x1 u lev xB a4 a5 hlev hX hd hY he hM hu a6 a7 h6 a8 a9 a10 a11
    · cases M with
      | zero =>
        intro x u lev pa pl pb pl' L d xr σ τ _ _ _ _ _ _ s _
        exact QT.none
      | succ M => exact cows_top hS hSS (i3 M).1 (i5 M).1
    · cases M with
      | zero =>
        intro x u y v lev pa pl L d e0 xr l k σ τ _ _ _ _ _ _ _ _ _ _ s _
        exact QT.none
      | succ M => exact cown_top hS hSS (i3 M).2 (i5 M).2 i6 i7
    · cases M with
      | zero =>
        intro xR u lev pa pl xB L w mW x σ τ _ _ _ _ _ _ _ _ s _
        exact QT.none
      | succ M =>
        intro xR u lev pa pl xB L w mW x σ τ hL hlev hx hu hu3 hw hmW hC
        exact r_rec hS (i2 M).1 hL xR u lev pa pl xB hlev hx hu hu3 hw hmW σ τ hC
    · cases M with
      | zero =>
        intro xR u lev xB tA tB uA uB so br pa pl L w r mW mR x l k σ τ τ1 _ _ _ _ _ _ s _
        exact QT.none
      | succ M =>
        intro xR u lev xB tA tB uA uB so br pa pl L w r mW mR x l k σ τ τ1 hL hlev hN h7 hRP hu
        obtain ⟨⟨a1, a2, a3⟩, ⟨a4, a5⟩, ⟨a6, a7, a8⟩, a9, a10, a11⟩ := hN
        exact r_recn hS hSS (i2 M).2 hL a1 a2 a3 xR u lev xB a4 a5 hlev hRP hu a6 a7 h7 a8 a9 a10 a11
/-! records of no bytes: how high the class tells them -/
/-- a type of no bytes, so high at the most -/
def EHT (S : ST) (x : Int32) (h : Int) : Prop := ((S.1 15 x.toNatClampNeg).toInt = 0 ∧ 0 ≤ h) ∨ ((S.1 15 x.toNatClampNeg).toInt = 7 ∧ ∃ r : Nat, r < 36 ∧ (S.1 16 x.toNatClampNeg).toInt = r ∧ 1 ≤ (S.1 10 r).toInt ∧ (S.1 10 r).toInt ≤ h)
/-- the heights told, up to n -/
def EHB (S : ST) (n : Int) : Prop := ∀ r : Nat, r < 36 → S.1 10 r = -1 ∨ ((1 ≤ (S.1 10 r).toInt ∧ (S.1 10 r).toInt ≤ n) ∧ ∀ j : Nat, (j : Int) < (S.1 7 r).toInt → EHT S (S.1 13 (8 * r + j)) ((S.1 10 r).toInt - 1))
def EHX (S : ST) : Prop := EHB S 1296
theorem EHT.up {S : ST} {x : Int32} {h k : Int} (H : EHT S x h) (hk : h ≤ k) : EHT S x k := by
  rcases H with ⟨a, b⟩ | ⟨a, r, b, c, d, e⟩
  · exact .inl ⟨a, by omega⟩
  · exact .inr ⟨a, r, b, c, d, by omega⟩
theorem EHB.up {S : ST} {m n : Int} (H : EHB S m) (hk : m ≤ n) : EHB S n := fun r hr => (H r hr).imp id (fun h => ⟨⟨h.1.1, by have := h.1.2; omega⟩, h.2⟩)
theorem EHT.at {S σ : ST} {x : Int32} {h : Int} (H : EHT S x h) (k : KTA S σ) : EHT σ x h := by
  unfold EHT at H ⊢
  rw [(k 15 (by omega) (by omega)).1, (k 16 (by omega) (by omega)).1, (k 10 (by omega) (by omega)).1]
  exact H
theorem EHT.ba {S σ : ST} {x : Int32} {h : Int} (H : EHT σ x h) (k : KTA S σ) : EHT S x h := by
  unfold EHT at H ⊢
  rw [(k 15 (by omega) (by omega)).1, (k 16 (by omega) (by omega)).1, (k 10 (by omega) (by omega)).1] at H
  exact H
theorem EHB.at {S σ : ST} {n : Int} (H : EHB S n) (k : KTA S σ) : EHB σ n := by
  intro r hr
  have := H r hr
  rw [(k 10 (by omega) (by omega)).1, (k 7 (by omega) (by omega)).1, (k 13 (by omega) (by omega)).1]
  exact this.imp id (fun h => ⟨h.1, fun j hj => (h.2 j hj).at k⟩)
theorem qa_isType (x : Int32) (σ : ST) : QT (f_X5_isType 4 x σ) (fun q => q.2 = σ) := by
  unfold f_X5_isType
  exact QT.ite (fun _ => QT.ret rfl) (fun _ => QT.ite (fun _ => QT.ret rfl) (fun _ => QT.ite (fun _ => QT.ret rfl) (fun _ => QT.ret rfl)))
theorem qa_sortOf (x : Int32) (σ : ST) : QT (f_X5_sortOf 4 x σ) (fun q => q.2 = σ ∧ (q.1 = -1 ∨ q.1 = σ.1 15 x.toNatClampNeg)) := by
  unfold f_X5_sortOf
  refine QT.bnd (qa_isType x σ) (fun q hq => ?_)
  obtain ⟨v, s⟩ := q
  have e : s = σ := hq
  rw [e]
  exact QT.ite (fun _ => QT.ret ⟨rfl, .inl rfl⟩) (fun _ => QT.grd (fun _ => QT.ret ⟨rfl, .inr rfl⟩))
theorem qa_innerOf (x : Int32) (σ : ST) : QT (f_X5_innerOf 4 x σ) (fun q => q.2 = σ ∧ (q.1 = -1 ∨ q.1 = σ.1 16 x.toNatClampNeg)) := by
  unfold f_X5_innerOf
  refine QT.bnd (qa_isType x σ) (fun q hq => ?_)
  obtain ⟨v, s⟩ := q
  have e : s = σ := hq
  rw [e]
  exact QT.ite (fun _ => QT.ret ⟨rfl, .inl rfl⟩) (fun _ => QT.grd (fun _ => QT.ret ⟨rfl, .inr rfl⟩))
theorem qa_isRecord (x : Int32) (σ : ST) : QT (f_X5_isRecord x σ) (fun q => q.2 = σ) := by
  unfold f_X5_isRecord
  exact QT.ite (fun _ => QT.ret rfl) (fun _ => QT.ite (fun _ => QT.ret rfl) (fun _ => QT.ret rfl))
theorem a_eh {n : Int} (x : Int32) (σ : ST) (hE : EHB σ n) : QT (f_X5_emptyHeight 4 x σ) (fun q => q.2 = σ ∧ (q.1 = -1 ∨ (EHT σ x q.1.toInt ∧ 0 ≤ q.1.toInt ∧ (q.1.toInt ≤ n ∨ q.1.toInt = 0)))) := by
  have l0 := li_0
  have l7 := li_7
  have lm := li_m1
  unfold f_X5_emptyHeight
  refine QT.bnd (qa_sortOf x σ) (fun q1 h1 => ?_)
  obtain ⟨v1, s1⟩ := q1
  obtain ⟨e, h1⟩ := h1
  have e : s1 = σ := e
  have h1 : v1 = -1 ∨ v1 = σ.1 15 x.toNatClampNeg := h1
  rw [e]
  dsimp only
  refine QT.ite (fun h0 => QT.ret ?_) (fun h0 => ?_)
  · have e15 : (σ.1 15 x.toNatClampNeg).toInt = 0 := by
      rcases h1 with h1 | h1
      · rw [h1] at h0
        exact absurd h0 (by decide)
      · rw [← h1, h0]
        exact l0
    exact ⟨rfl, .inr ⟨.inl ⟨e15, by rw [l0]; omega⟩, by rw [l0]; omega, .inr l0⟩⟩
  refine QT.bnd (qa_innerOf x σ) (fun q2 h2 => ?_)
  obtain ⟨v2, s2⟩ := q2
  obtain ⟨e, h2⟩ := h2
  have e : s2 = σ := e
  have h2 : v2 = -1 ∨ v2 = σ.1 16 x.toNatClampNeg := h2
  rw [e]
  dsimp only
  refine QT.bnd (qa_sortOf x σ) (fun q3 h3 => ?_)
  obtain ⟨v3, s3⟩ := q3
  obtain ⟨e, h3⟩ := h3
  have e : s3 = σ := e
  have h3 : v3 = -1 ∨ v3 = σ.1 15 x.toNatClampNeg := h3
  rw [e]
  dsimp only
  refine QT.ite (fun h7 => ?_) (fun _ => QT.ret ⟨rfl, .inl rfl⟩)
  have e15 : (σ.1 15 x.toNatClampNeg).toInt = 7 := by
    rcases h3 with h3 | h3
    · rw [h3] at h7
      exact absurd h7 (by decide)
    · rw [← h3, h7]
      exact l7
  refine QT.bnd (qa_isRecord v2 σ) (fun q4 h4 => ?_)
  obtain ⟨v4, s4⟩ := q4
  have e : s4 = σ := h4
  rw [e]
  dsimp only
  refine QT.ite (fun _ => QT.ret ⟨rfl, .inl rfl⟩) (fun _ => QT.grd (fun hr => QT.ret ⟨rfl, ?_⟩))
  show σ.1 10 v2.toNatClampNeg = -1 ∨ _
  have nr := nN_ hr.1
  have e16 : v2 = σ.1 16 x.toNatClampNeg := by
    rcases h2 with h2 | h2
    · rw [h2] at hr
      omega
    · exact h2
  rcases hE v2.toNatClampNeg (by omega) with h | ⟨⟨a, b⟩, _⟩
  · exact .inl h
  · refine .inr ⟨.inr ⟨e15, v2.toNatClampNeg, by omega, ?_, a, Int.le_refl _⟩, ?_, .inl b⟩
    · rw [← e16]
      omega
    · show 0 ≤ (σ.1 10 v2.toNatClampNeg).toInt
      omega
/-- the height of a record by those of its fields -/
theorem a_hof {n : Int} {σ : ST} (hE : EHB σ n) (hn : 0 ≤ n ∧ n ≤ 1296) (x1 : Int32) {r : Nat} (h1 : x1.toInt = r) (hr : r < 36) (h8 : (σ.1 7 r).toInt ≤ 8) : ∀ (N i : Nat) (x2 x3 : Int32), x3.toInt = i → (0 ≤ x2.toInt ∧ x2.toInt ≤ n) → (∀ j : Nat, j < i → EHT σ (σ.1 13 (8 * r + j)) x2.toInt) → QT (f_X5_heightOfFields_4 4 N x1 x2 x3 σ) (fun q => q.2 = σ ∧ (q.1 = -1 ∨ ((1 ≤ q.1.toInt ∧ q.1.toInt ≤ n + 1) ∧ ∀ j : Nat, (j : Int) < (σ.1 7 r).toInt → EHT σ (σ.1 13 (8 * r + j)) (q.1.toInt - 1)))) := by
  have l0 := li_0
  have l1 := li_1
  have lm := li_m1
  intro N
  induction N with
  | zero =>
    intro i x2 x3 _ _ _
    rw [f_X5_heightOfFields_4]
    exact QT.none
  | succ N ih =>
    intro i x2 x3 h3 h2 hj
    rw [f_X5_heightOfFields_4, a4_fieldsOf x1 σ h1 hr, sbnd]
    dsimp only
    refine QT.ile (fun hle => QT.ret ⟨rfl, .inr ?_⟩) (fun hlt => ?_)
    · have e := il_addE (x := x2) (y := 1) (by omega) (by omega)
      show (1 ≤ (x2 + 1).toInt ∧ (x2 + 1).toInt ≤ n + 1) ∧ ∀ j : Nat, (j : Int) < (σ.1 7 r).toInt → EHT σ (σ.1 13 (8 * r + j)) ((x2 + 1).toInt - 1)
      exact ⟨by omega, fun j hj' => (hj j (by omega)).up (by omega)⟩
    · rw [a4_typeOf x1 x3 σ h1 h3 hr (by omega), sbnd]
      dsimp only
      refine QT.bnd (a_eh (σ.1 13 (8 * r + i)) σ hE) (fun q hq => ?_)
      obtain ⟨v, s⟩ := q
      obtain ⟨e, hv⟩ := hq
      have e : s = σ := e
      have hv : v = -1 ∨ (EHT σ (σ.1 13 (8 * r + i)) v.toInt ∧ 0 ≤ v.toInt ∧ (v.toInt ≤ n ∨ v.toInt = 0)) := hv
      rw [e]
      dsimp only
      refine QT.ite (fun _ => QT.ret ⟨rfl, .inl rfl⟩) (fun hne => ?_)
      have hv := hv.resolve_left hne
      have e3 := il_addE (x := x3) (y := 1) (by omega) (by omega)
      by_cases hc : x2 < v
      · have hc' := il_lt hc
        rw [if_pos hc]
        refine ih (i + 1) v (x3 + 1) (by omega) (by omega) (fun j hj' => ?_)
        by_cases hji : j = i
        · rw [hji]
          exact hv.1
        · exact (hj j (by omega)).up (by omega)
      · have hc' := il_nlt hc
        rw [if_neg hc]
        refine ih (i + 1) x2 (x3 + 1) (by omega) h2 (fun j hj' => ?_)
        by_cases hji : j = i
        · rw [hji]
          exact hv.1.up (by omega)
        · exact hj j (by omega)
/-- all but the heights -/
def E10 (σ w : ST) : Prop := (∀ c, c ≠ 10 → w.1 c = σ.1 c) ∧ w.2 = σ.2
theorem E10.rf {σ : ST} : E10 σ σ := ⟨fun _ _ => rfl, rfl⟩
theorem E10.i {σ w : ST} {r : Nat} {v : Int32} (h : E10 σ w) : E10 σ (stI w 10 r v) := ⟨fun c hc => (stI_ne hc).trans (h.1 c hc), h.2⟩
/-- one more height told -/
theorem EHB.set {w : ST} {n : Int} {r : Nat} {v : Int32} (hE : EHB w n) (hr : r < 36) (hw : w.1 10 r = -1) (hv : v = -1 ∨ ((1 ≤ v.toInt ∧ v.toInt ≤ n + 1) ∧ ∀ j : Nat, (j : Int) < (w.1 7 r).toInt → EHT w (w.1 13 (8 * r + j)) (v.toInt - 1))) : EHB (stI w 10 r v) (n + 1) := by
  have lm := li_m1
  have e7 : (stI w 10 r v).1 7 = w.1 7 := stI_ne (by decide)
  have e13 : (stI w 10 r v).1 13 = w.1 13 := stI_ne (by decide)
  have e15 : (stI w 10 r v).1 15 = w.1 15 := stI_ne (by decide)
  have e16 : (stI w 10 r v).1 16 = w.1 16 := stI_ne (by decide)
  have ne : ∀ i, i ≠ r → (stI w 10 r v).1 10 i = w.1 10 i := fun i hi => by rw [stI_at, upN hi]
  have eq : (stI w 10 r v).1 10 r = v := by rw [stI_at, upA rfl]
  have kT : ∀ (x : Int32) (h : Int), EHT w x h → EHT (stI w 10 r v) x h := fun x h H => by
    unfold EHT at H ⊢
    rw [e15, e16]
    rcases H with H | ⟨a, i, b, c, d, e⟩
    · exact .inl H
    · have hi : i ≠ r := fun hi => by
        rw [hi, hw] at d
        omega
      exact .inr ⟨a, i, b, c, by rw [ne i hi]; exact ⟨d, e⟩⟩
  intro i hi
  rw [e7, e13]
  by_cases hir : i = r
  · rw [hir, eq]
    exact hv.imp id (fun h => ⟨h.1, fun j hj => kT _ _ (h.2 j hj)⟩)
  · rw [ne i hir]
    exact (hE i hi).imp id (fun h => ⟨⟨h.1.1, by have := h.1.2; omega⟩, fun j hj => kT _ _ (h.2 j hj)⟩)
theorem a_fer28 {k10 : Int32 → ST → Option ST} {k18 : Int32 → Int32 → ST → Option ST} {σ : ST} (hrec : ∀ i, bI (σ.1 5 i) 0 36) (hfld : ∀ i, bI (σ.1 7 i) 0 8) (x1 x2 : Int32) {a p : Nat} (h1 : x1.toInt = a) (h2 : x2.toInt = p) (ha : a < 6) (hp : p < 6) {P : ST → Prop} (hk : ∀ w, E10 σ w → EHB w (216 * a + 36 * (p + 1)) → QT (k18 x1 (x2 + 1) w) P) : ∀ (N k : Nat) (x3 : Int32) (w : ST), x3.toInt = k → k ≤ 36 → E10 σ w → EHB w (216 * a + 36 * p + k) → QT (f_X5_findEmptyRecords_28 k10 k18 4 N x1 x2 x3 w) P := by
  have l0 := li_0
  have l1 := li_1
  have l6 := li_6
  intro N
  induction N with
  | zero =>
    intro k x3 w _ _ _ _
    rw [f_X5_findEmptyRecords_28]
    exact QT.none
  | succ N ih =>
    intro k x3 w h3 hk36 hw hE
    have e5 : w.1 5 = σ.1 5 := hw.1 5 (by decide)
    have e7 : w.1 7 = σ.1 7 := hw.1 7 (by decide)
    have n2 : x2.toNatClampNeg = p := nC (by omega)
    rw [f_X5_findEmptyRecords_28]
    have hro : f_X5_recordsOf 4 x2 w = some (w.1 5 p, w) := by
      unfold f_X5_recordsOf
      rw [if_neg (by rw [Int32.lt_iff_toInt_lt]; omega), if_neg (by rw [Int32.le_iff_toInt_le]; omega), if_pos (by omega), n2]
    rw [hro, sbnd]
    dsimp only
    have hb := hrec p
    unfold bI at hb
    rw [e5]
    refine QT.ile (fun _ => hk w hw (hE.up (by omega))) (fun hlt => ?_)
    have em : (x2 * 6).toInt = 6 * x2.toInt := by rw [Int32.mul_comm]; exact mlE (k := 6) (y := x2) 6 l6 (by omega) (by omega)
    have ea := il_addE (x := x2 * 6) (y := x3) (by omega) (by omega)
    have e3 := il_addE (x := x3) (y := 1) (by omega) (by omega)
    have nr : (x2 * 6 + x3).toNatClampNeg = 6 * p + k := nC (by omega)
    refine QT.bnd (qa_isRecord (x2 * 6 + x3) w) (fun q hq => ?_)
    obtain ⟨v, s⟩ := q
    have e : s = w := hq
    rw [e]
    dsimp only
    unfold f_X5_findEmptyRecords_77
    refine QT.ite (fun _ => ih (k + 1) (x3 + 1) w (by omega) (by omega) hw (hE.up (by omega))) (fun _ => ?_)
    refine QT.grd (fun hr => ?_)
    refine QT.ite (fun hm1 => ?_) (fun _ => ih (k + 1) (x3 + 1) w (by omega) (by omega) hw (hE.up (by omega)))
    have hm1 : w.1 10 (x2 * 6 + x3).toNatClampNeg = -1 := hm1
    have h8 := hfld (6 * p + k)
    unfold bI at h8
    unfold f_X5_heightOfFields
    refine QT.bnd (a_hof hE (by omega) (x2 * 6 + x3) (r := 6 * p + k) (by omega) (by omega) (by rw [e7]; exact h8.2) FU 0 0 0 l0 (by omega) (fun j hj => by omega)) (fun q2 h2 => ?_)
    obtain ⟨v2, s2⟩ := q2
    obtain ⟨e, hv⟩ := h2
    have e : s2 = w := e
    rw [e]
    dsimp only
    rw [nr] at hm1 ⊢
    refine ih (k + 1) (x3 + 1) (stI w 10 (6 * p + k) v2) (by omega) (by omega) hw.i ?_
    have := EHB.set hE (r := 6 * p + k) (v := v2) (by omega) hm1 hv
    exact this.up (by omega)
theorem a_fer18 {k10 : Int32 → ST → Option ST} {σ : ST} (hpl : bI (σ.1 4 0) 0 6) (hrec : ∀ i, bI (σ.1 5 i) 0 36) (hfld : ∀ i, bI (σ.1 7 i) 0 8) (x1 : Int32) {a : Nat} (h1 : x1.toInt = a) (ha : a < 6) {P : ST → Prop} (hk : ∀ w, E10 σ w → EHB w (216 * (a + 1)) → QT (k10 (x1 + 1) w) P) : ∀ (N p : Nat) (x2 : Int32) (w : ST), x2.toInt = p → p ≤ 6 → E10 σ w → EHB w (216 * a + 36 * p) → QT (f_X5_findEmptyRecords_18 k10 4 N x1 x2 w) P := by
  have l0 := li_0
  have l1 := li_1
  intro N
  induction N with
  | zero =>
    intro p x2 w _ _ _ _
    rw [f_X5_findEmptyRecords_18]
    exact QT.none
  | succ N ih =>
    intro p x2 w h2 hp6 hw hE
    have e4 : w.1 4 = σ.1 4 := hw.1 4 (by decide)
    rw [f_X5_findEmptyRecords_18, e4]
    unfold bI at hpl
    refine QT.ile (fun _ => hk w hw (hE.up (by omega))) (fun hlt => ?_)
    have e2 := il_addE (x := x2) (y := 1) (by omega) (by omega)
    exact a_fer28 hrec hfld x1 x2 h1 h2 ha (by omega) (fun w' hw' hE' => ih (p + 1) (x2 + 1) w' (by omega) (by omega) hw' (hE'.up (by omega))) FU 0 0 w l0 (by omega) hw (hE.up (by omega))
theorem a_fer10 {σ : ST} (hpl : bI (σ.1 4 0) 0 6) (hrec : ∀ i, bI (σ.1 5 i) 0 36) (hfld : ∀ i, bI (σ.1 7 i) 0 8) : ∀ (N a : Nat) (x1 : Int32) (w : ST), x1.toInt = a → a ≤ 6 → E10 σ w → EHB w (216 * a) → QT (f_X5_findEmptyRecords_10 4 N x1 w) (fun z => E10 σ z ∧ EHX z) := by
  have l0 := li_0
  have l1 := li_1
  have l6 := li_6
  intro N
  induction N with
  | zero =>
    intro a x1 w _ _ _ _
    rw [f_X5_findEmptyRecords_10]
    exact QT.none
  | succ N ih =>
    intro a x1 w h1 ha hw hE
    rw [f_X5_findEmptyRecords_10]
    refine QT.ile (fun _ => QT.ret ⟨hw, hE.up (by omega)⟩) (fun hlt => ?_)
    have e1 := il_addE (x := x1) (y := 1) (by omega) (by omega)
    exact a_fer18 hpl hrec hfld x1 h1 (by omega) (fun w' hw' hE' => ih (a + 1) (x1 + 1) w' (by omega) (by omega) hw' (hE'.up (by omega))) FU 0 0 w l0 (by omega) hw (hE.up (by omega))
/-- the heights are told, whatever was there -/
theorem a_fer {σ : ST} (hpl : bI (σ.1 4 0) 0 6) (hrec : ∀ i, bI (σ.1 5 i) 0 36) (hfld : ∀ i, bI (σ.1 7 i) 0 8) : QT (f_X5_findEmptyRecords 4 σ) (fun z => E10 σ z ∧ EHX z) := by
  have l0 := li_0
  unfold f_X5_findEmptyRecords f_J7_fill_53178
  have hf : PT (f_J7_fill_53178_5 10 FU (-1) 0 (nI (lnA 10 : Nat)) σ) (fun t => (∀ i, i < 36 → t.1 10 i = -1) ∧ (∀ c, c ≠ 10 → t.1 c = σ.1 c) ∧ t.2 = σ.2) := pt_fill 10 (-1) 36 (by omega) FU 0 0 _ σ l0 (by decide) (fun i hi => by omega)
  refine QT.bnd (fun q e => hf q e) (fun w hw => ?_)
  exact a_fer10 hpl hrec hfld FU 0 0 w l0 (by omega) ⟨hw.2.1, hw.2.2⟩ (fun r hr => .inl (hw.1 r hr))
theorem w_J7_fill_53178_5 {s : ST} {u : Nat}  (h_u : 20 ≤ u) : ∀ (n : Nat) (x1 : Int32) (x2 : Int32) (x3 : Int32) (σ : ST), KTA s σ → PF st0 (KTA s) (f_J7_fill_53178_5 u n x1 x2 x3 σ) := by
  intro n
  induction n with
  | zero => intro x1 x2 x3 σ h; rw [f_J7_fill_53178_5]; exact PF.none
  | succ n ih =>
    intro x1 x2 x3 σ h
    rw [f_J7_fill_53178_5]
    exact (PF.ite (fun _ => (PF.ret0 h)) (fun _ => (PF.ite (fun _ => (ih _ _ _ _ (KTA.i (by omega) h))) (fun _ => PF.none))))
theorem w_J7_fill_53178 {s : ST} {u : Nat} {p1 : Int32} {σ : ST}  (h_u : 20 ≤ u) (h : KTA s σ) : PF st0 (KTA s) (f_J7_fill_53178 u p1 σ) := by
  unfold f_J7_fill_53178
  exact (w_J7_fill_53178_5 (by omega) _ _ _ _ _ h)
theorem w_X1_clear {s : ST}  {σ : ST}   (h : KTA s σ) : PF st0 (KTA s) (f_X1_clear σ) := by
  unfold f_X1_clear
  exact (PF.bnd (w_J7_fill_53178 (by omega) h) (fun q1 hq1 => (PF.ret0 hq1)))
theorem w_X0_clear {s : ST}  {σ : ST}   (h : KTA s σ) : PF st0 (KTA s) (f_X0_clear σ) := by
  unfold f_X0_clear
  exact (PF.bnd (w_J7_fill_53178 (by omega) (KTA.l (by omega) h)) (fun q1 hq1 => (PF.ret0 (KTA.i (by omega) (KTA.i (by omega) hq1)))))
theorem w_X9_clear {s : ST}  {σ : ST}   (h : KTA s σ) : PF st0 (KTA s) (f_X9_clear σ) := by
  unfold f_X9_clear
  exact (PF.ret0 (KTA.i (by omega) (KTA.i (by omega) (KTA.i (by omega) h))))
/-- no plan, or heights that hold -/
def EHY (σ : ST) : Prop := (σ.1 4 0).toInt = 0 ∨ EHX σ
theorem EHY.at {S σ : ST} (h : EHY S) (k : KTA S σ) : EHY σ := by
  unfold EHY
  rw [(k 4 (by omega) (by omega)).1]
  exact h.imp id (fun h => EHB.at h k)
/-- behind plans the heights hold -/
theorem eh_plans (p0 : Int32) (σ : ST) (q : Int32 × ST) (h : f_X10_plans p0 σ = some q) (hE : EHY σ) (hI : IA q.2) : EHY q.2 := by
  unfold f_X10_plans at h
  by_cases h1 : p0 < 0
  · rw [if_pos h1] at h
    cases h
    exact hE
  rw [if_neg h1] at h
  by_cases h2 : p0 ≤ σ.1 0 1
  · rw [if_pos h2] at h
    obtain ⟨s1, e1, h⟩ := bnd_some h
    obtain ⟨⟨r, s2⟩, e2, h⟩ := bnd_some h
    dsimp only at h
    by_cases h3 : r = 0
    · rw [if_pos h3] at h
      obtain ⟨x, ex, h⟩ := bnd_some h
      cases h
      have k1 : KTA σ s1 := w_X6_begin (KTA.i (by omega) KTA.rf) s1 e1
      have k2 : KTA σ s2 := w_X3_parse k1 (r, s2) e2
      exact hE.at (w_X6_faultAnswer k2 x ex)
    · rw [if_neg h3] at h
      obtain ⟨c, ec, h⟩ := bnd_some h
      obtain ⟨d, ed, h⟩ := bnd_some h
      obtain ⟨x1, e3, h⟩ := bnd_some h
      obtain ⟨x2, e4, h⟩ := bnd_some h
      obtain ⟨x3, e5, h⟩ := bnd_some h
      obtain ⟨x4, e6, h⟩ := bnd_some h
      cases h
      have hI : IA x4 := hI
      have k1 : K5A c d := v_X5_findEmptyRecords (by omega) K5A.rf d ed
      have k2 : KTA d x1 := w_X1_clear KTA.rf x1 e3
      have k3 : KTA d x2 := w_X0_clear k2 x2 e4
      have k4 : KTA d x3 := w_X9_clear k3 x3 e5
      have k5 : KTA d x4 := w_X7_clear (by omega) k4 x4 e6
      have c4 : x4.1 4 = c.1 4 := (k5 4 (by omega) (by omega)).1.trans (k1 4 (by omega) (by omega) (by omega)).1
      have c5 : x4.1 5 = c.1 5 := (k5 5 (by omega) (by omega)).1.trans (k1 5 (by omega) (by omega) (by omega)).1
      have c7 : x4.1 7 = c.1 7 := (k5 7 (by omega) (by omega)).1.trans (k1 7 (by omega) (by omega) (by omega)).1
      have b4 := hI.plans
      have b5 := hI.recs
      have b7 := hI.flds
      rw [c4] at b4
      rw [c5] at b5
      rw [c7] at b7
      exact .inr (EHB.at (a_fer b4 b5 b7 d ed).2 k5)
  · rw [if_neg h2] at h
    cases h
    exact hE
/-! records of no bytes: the reference goes through them -/
/-- nothing is read -/
def NRD (τ w : ST) : Prop := (∀ c, c ≠ 0 → c ≠ 36 → w.1 c = τ.1 c) ∧ (∀ i, i ≠ 57 → w.1 0 i = τ.1 0 i) ∧ ∀ c, c ≠ 0 → w.2.1 c = τ.2.1 c
theorem NRD.rf {τ : ST} : NRD τ τ := ⟨fun _ _ _ => rfl, fun _ _ => rfl, fun _ _ => rfl⟩
theorem NRD.trans {τ w z : ST} (h : NRD τ w) (k : NRD w z) : NRD τ z := ⟨fun c a b => (k.1 c a b).trans (h.1 c a b), fun i a => (k.2.1 i a).trans (h.2.1 i a), fun c a => (k.2.2 c a).trans (h.2.2 c a)⟩
theorem STB.nrd {τ w : ST} (h : STB τ w) : NRD τ w := ⟨h.1, h.2.1, fun c _ => by rw [h.2.2]⟩
theorem NRD.krb {τ w : ST} (h : NRD τ w) : KRB τ w := ⟨fun c h0 _ _ h36 _ => h.1 c h0 h36, fun i _ h57 _ _ _ _ _ => h.2.1 i h57, fun c h0 _ _ => h.2.2 c h0⟩
theorem RSK.nrd {b t m L : Nat} {S T : ST} {x : Nat} {σ τ w : ST} (h : RCX b t m S T σ τ x) (hB : NRD τ w) : RSK b t m L S T x σ τ σ w := by
  obtain ⟨⟨h1, h2⟩, hR, h3, h4, h5⟩ := h
  refine ⟨⟨⟨h1, h2.trans hB.krb⟩, ?_, h3, ?_, h5⟩, ⟨fun _ _ _ => rfl, rfl, fun c _ _ => hB.1 c (by omega) (by omega), hB.2.2 21 (by omega), hB.2.2 22 (by omega)⟩, SRK.rf⟩
  · unfold RPS at hR ⊢
    rw [hB.2.1 63 (by omega), hB.2.1 64 (by omega), hB.2.1 65 (by omega), hB.1 34 (by omega) (by omega)]
    exact hR
  · rw [hB.2.1 46 (by omega)]
    exact h4
/-- a value of no bytes: the reference's -/
def cE0 (p : Nat) (S T : ST) (rb : FRD) : Prop := ∀ (x u lev pb pl' : Int32) (h : Int) (L d : Nat) (τ : ST), KRB T τ → lev.toInt = L → TY p (T.1 8 p).toInt S T d x u → EHT S x h → (L : Int) + h < 31 → QT (rb u (-1) lev pb pl' τ) (fun w => w.1 = 1 ∧ NRD τ w.2)
/-- a record of no bytes -/
def cE1 (p : Nat) (S T : ST) (rS : FRI) : Prop := ∀ (u lev xB : Int32) (L w : Nat) (τ : ST), KRB T τ → lev.toInt = L → (0 ≤ u.toInt ∧ u.toInt < 800) → (T.1 3 u.toNatClampNeg).toInt = w → (w : Int) < (T.1 8 p).toInt → 1 ≤ (S.1 10 (6 * p + w)).toInt → (L : Int) + (S.1 10 (6 * p + w)).toInt < 31 → QT (rS u (-1) lev xB τ) (fun z => z.1 = 1 ∧ NRD τ z.2)
theorem e1_top {p q : Nat} {S T : ST} {rb : FRD} {rI rS : FRI} (hS : RST p q S T) (hX : EHX S) (h0 : cE0 p S T rb) : cE1 p S T (f_X11_readsRecord rb rI rS) := by
  intro u lev xB L w τ hB hlev hu hw hw8 hh hL
  have l0 := li_0
  have l1 := li_1
  have l6 := li_6
  have l8 := li_8
  have lm := li_m1
  have hPQ := hS.1
  have hp6 := hPQ.1
  have e53 : (τ.1 0 53).toInt = p := by
    rw [hB.2.1 53 (by omega) (by omega) (by omega) (by omega) (by omega) (by omega) (by omega)]
    exact hPQ.2.1.1
  have e3 : τ.1 3 = T.1 3 := hB.ty.2.1
  have ac := hPQ.2.2.1.1.acc hw8
  have cP := hPQ.2.2.1.1.cnt
  obtain ⟨_, a2, a3, _, a5⟩ := ac
  unfold bI at a3
  have hE := (hX (6 * p + w) (by omega)).resolve_left (fun h => by rw [h] at hh; omega)
  obtain ⟨_, hE⟩ := hE
  unfold f_X11_readsRecord f_X11_readsRecord_38
  refine QT.grd (fun _ => ?_)
  refine QT.ile (fun h => by omega) (fun _ => ?_)
  rw [e3]
  have em := mlE (k := 6) (y := τ.1 0 53) 6 l6 (by omega) (by omega)
  have ea := il_addE (x := 6 * τ.1 0 53) (y := T.1 3 u.toNatClampNeg) (by omega) (by omega)
  generalize hx5 : 6 * τ.1 0 53 + T.1 3 u.toNatClampNeg = x5 at ea
  have n5 : x5.toNatClampNeg = 6 * p + w := nC (by omega)
  have key : ∀ (M i : Nat) (x8 : Int32) (τ1 : ST), NRD τ τ1 → x8.toInt = i → (i : Int) ≤ (T.1 11 (6 * p + w)).toInt → QT (f_X11_readsRecord_43 rb rI rS M u (-1) lev xB x5 0 x8 τ1) (fun z => z.1 = 1 ∧ NRD τ z.2) := by
    intro M
    induction M with
    | zero =>
      intro i x8 τ1 _ _ _
      rw [f_X11_readsRecord_43]
      exact QT.none
    | succ M ih =>
      intro i x8 τ1 h1 h8 hi
      have e11 : τ1.1 11 = T.1 11 := (hB.trans h1.krb).fl.2.1
      have e15 : τ1.1 15 = T.1 15 := (hB.trans h1.krb).fl.2.2.1
      rw [f_X11_readsRecord_43, n5, e11]
      refine QT.grd (fun _ => ?_)
      refine QT.ile (fun hle => ?_) (fun hlt => ?_)
      · show QT (f_X11_readsRecord_217 rb rI rS (99999 + 1) u (-1) xB 0 0 τ1) _
        rw [f_X11_readsRecord_217]
        exact QT.ilt (fun _ => QT.ret ⟨rfl, h1⟩) (fun h => by omega)
      refine QT.bnd (q_enters _ τ1) (fun τ2 hτ2 => ?_)
      show QT (f_X11_readsRecord_83 rb rI rS (f_X11_readsRecord_43 rb rI rS M) (99999 + 1) u (-1) lev xB x5 0 x8 ((8 * x5) + x8) (τ1.1 0 64) 0 0 τ2) _
      rw [f_X11_readsRecord_83]
      refine QT.ilt (fun _ => ?_) (fun h => by omega)
      unfold f_X11_readsRecord_171
      refine QT.ite (fun _ => ?_) (fun h => absurd rfl h)
      have em8 := mlE (k := 8) (y := x5) 8 l8 (by omega) (by omega)
      have ea8 := il_addE (x := 8 * x5) (y := x8) (by omega) (by omega)
      have na : (8 * x5 + x8).toNatClampNeg = 8 * (6 * p + w) + i := nC (by omega)
      have e15' : τ2.1 15 = T.1 15 := (hτ2.1 15 (by omega) (by omega)).trans e15
      rw [na, e15']
      refine QT.grd (fun _ => ?_)
      obtain ⟨⟨_, _⟩, _, h3, _⟩ := a5 i (by omega)
      have hTY : TY p (T.1 8 p).toInt S T 4 (S.1 13 (8 * (6 * p + w) + i)) (T.1 15 (8 * (6 * p + w) + i)) := h3
      have hEf := hE i (by rw [a2]; omega)
      have el := il_addE (x := lev) (y := 1) (by omega) (by omega)
      have h2 : NRD τ τ2 := h1.trans hτ2.nrd
      refine QT.bnd (h0 (S.1 13 (8 * (6 * p + w) + i)) _ (lev + 1) (-1) 0 _ (L + 1) 4 τ2 (hB.trans h2.krb) (by omega) hTY hEf (by omega)) (fun z hz => ?_)
      obtain ⟨z1, z2⟩ := hz
      rw [z1]
      refine QT.ite (fun h => absurd h one_ne) (fun _ => ?_)
      unfold f_X11_readsRecord_198
      have e9 := il_addE (x := x8) (y := 1) (by omega) (by omega)
      have hz3 : NRD z.2 (stI z.2 0 57 (z.2.1 0 57 - 1)) := STB.i.nrd
      exact ih (i + 1) (x8 + 1) _ ((h2.trans z2).trans hz3) (by omega) (by omega)
  exact key FU 0 0 τ NRD.rf l0 (by omega)
theorem e0_top {p q : Nat} {S T : ST} {rb : FRD} {rI rS : FRI} (hS : RST p q S T) (h1 : cE1 p S T rS) : cE0 p S T (f_X11_reads rb rI rS) := by
  intro x u lev pb pl' h L d τ hB hlev hX hE hL
  have l0 := li_0
  have l1 := li_1
  have l2 := li_2
  have l3 := li_3
  have l4 := li_4
  have l5 := li_5
  have l6 := li_6
  have l7 := li_7
  have l8 := li_8
  have lm := li_m1
  have l31 : (31 : Int32).toInt = 31 := by decide
  obtain ⟨d1, hd1⟩ : ∃ d1, d = d1 + 1 := by
    cases d with
    | zero => exact hX.elim
    | succ d1 => exact ⟨d1, rfl⟩
  subst hd1
  have hG := TG.of hX
  have hs := hG.2.1
  have ru := hX.rng
  have e2 : τ.1 2 = T.1 2 := hB.ty.1
  have hh : 0 ≤ h := by
    rcases hE with ⟨_, b⟩ | ⟨_, _, _, _, _, _⟩ <;> omega
  have hsr : (T.1 2 u.toNatClampNeg).toInt = 0 ∨ (T.1 2 u.toNatClampNeg).toInt = 7 := by
    rw [← hs]
    rcases hE with ⟨a, _⟩ | ⟨a, _⟩
    · exact .inl a
    · exact .inr a
  unfold f_X11_reads
  refine QT.ilt (fun _ => ?_) (fun h => by omega)
  refine QT.grd (fun _ => ?_)
  rw [e2]
  refine QT.ieq (fun h => by omega) (fun _ => ?_)
  refine QT.ilt (fun _ => ?_) (fun h => by omega)
  unfold f_X11_reads_157 f_X11_reads_158 f_X11_reads_180
  refine QT.ile (fun h => by omega) (fun _ => ?_)
  refine QT.ilt (fun _ => ?_) (fun h => by omega)
  unfold f_X11_reads_227
  rw [e2]
  refine QT.grd (fun hu => ?_)
  refine QT.ieq (fun h => by omega) (fun _ => ?_)
  refine QT.ieq (fun h7 => ?_) (fun h7 => ?_)
  · obtain ⟨w, w1, w2, w3⟩ := hG.rec7 (by omega)
    have hE' : 1 ≤ (S.1 10 (6 * p + w)).toInt ∧ (S.1 10 (6 * p + w)).toInt ≤ h := by
      rcases hE with ⟨a, _⟩ | ⟨_, r, _, b, c, d⟩
      · rw [hs] at a
        omega
      · have er : r = 6 * p + w := by omega
        rw [er] at c d
        exact ⟨c, d⟩
    refine QT.bnd (h1 u lev (-1) L w τ hB hlev hu w1 w2 hE'.1 (by omega)) (fun z hz => QT.grd (fun _ => QT.ret hz))
  · have hs0 : (T.1 2 u.toNatClampNeg).toInt = 0 := by omega
    have hl : QT (f_X11_readsLeaf u (-1) (-1) τ) (fun w => w.1 = 1 ∧ NRD τ w.2) := by
      unfold f_X11_readsLeaf f_X11_readsLeaf_108
      rw [e2]
      refine QT.grd (fun _ => ?_)
      refine QT.ieq (fun h => by omega) (fun _ => ?_)
      refine QT.ieq (fun h => by omega) (fun _ => ?_)
      refine QT.ieq (fun h => by omega) (fun _ => ?_)
      refine QT.ieq (fun h => by omega) (fun _ => ?_)
      refine QT.ieq (fun h => by omega) (fun _ => ?_)
      refine QT.ite (fun h => absurd h one_ne) (fun _ => ?_)
      refine QT.ilt (fun _ => ?_) (fun h => by omega)
      refine QT.grd (fun _ => QT.ret ⟨rfl, fun _ _ _ => rfl, fun _ _ => rfl, fun c hc => ?_⟩)
      exact stL_ne hc
    exact QT.bnd hl (fun z hz => QT.grd (fun _ => QT.ret hz))
theorem e_all {p q : Nat} {S T : ST} (hS : RST p q S T) (hX : EHX S) : ∀ M, cE0 p S T (R_X11_reads M).1 ∧ cE1 p S T (R_X11_reads M).2.2 := by
  intro M
  induction M with
  | zero =>
    refine ⟨?_, ?_⟩
    · intro x u lev pb pl' h L d τ _ _ _ _ _
      exact QT.none
    · intro u lev xB L w τ _ _ _ _ _ _ _
      exact QT.none
  | succ M ih => exact ⟨e0_top hS ih.2, e1_top hS hX ih.1⟩
theorem c_emp {b t m p q : Nat} {S T : ST} (hS : RST p q S T) (hSS : RSS b t S) (hX : EHX S) (M : Nat) : cEMP b t m p q S T (R_X11_reads M).1 := by
  intro x u lev L d xr σ τ hL hlev hY hd hC
  have lm := li_m1
  have l31 : (31 : Int32).toInt = 31 := by decide
  unfold f_X4_isEmptyThere
  have k := hC.1.1.kta
  refine QT.bnd (a_eh x σ (EHB.at hX k)) (fun q hq => ?_)
  obtain ⟨v, s⟩ := q
  obtain ⟨e, hv⟩ := hq
  have e : s = σ := e
  have hv : v = -1 ∨ (EHT σ x v.toInt ∧ 0 ≤ v.toInt ∧ (v.toInt ≤ 1296 ∨ v.toInt = 0)) := hv
  rw [e]
  dsimp only
  refine QT.ite (fun _ => QT.ret ⟨rfl, fun h => absurd rfl h⟩) (fun hne => ?_)
  obtain ⟨h1, h2, h3⟩ := hv.resolve_left hne
  have ea := il_addE (x := lev) (y := v) (by omega) (by omega)
  refine QT.ile (fun _ => QT.ret ⟨rfl, fun h => absurd rfl h⟩) (fun hlt => QT.ret ⟨rfl, fun _ pb pl' => ?_⟩)
  exact ((e_all hS hX M).1 x u lev pb pl' v.toInt L d τ hC.1.2 hlev hY (h1.ba k) (by omega)).mono (fun w hw => ⟨hw.1, RSK.nrd hC hw.2⟩)
/-- reading at every level, both sides -/
theorem ck {b t m p q : Nat} {S T : ST} (hb : BT b t) (hS : RST p q S T) (hSS : RSS b t S) (hX : EHX S) : ∀ N, CKN b t m p q S T N := ck_all hb hS hSS (fun M => c_emp hS hSS hX M)
/-! a whole message read: its root, both sides -/
theorem r_rootT {b t : Nat} {S T : ST} {rT rF rL rO rR : FTK} {rb : FRD} {x y : Int32} {J : ST → Int32 × ST → Prop} {s0 : Int32} (hs : f_X5_sortOf 4 x S = some (s0, S)) (h8 : ¬ s0.toInt = 8) (hy : ¬ y = -1) (hO : QT (rO b t x y (-1) 0 0 S) (fun s => QT (rb 799 799 0 (-1) 0 T) (J s))) : QT (f_X4_take rT rF rL rO rR b t x y (-1) 0 0 S) (fun s => QT (rb 799 799 0 (-1) 0 T) (J s)) := by
  have l0 := li_0
  have l8 := li_8
  have l31 : (31 : Int32).toInt = 31 := by decide
  unfold f_X4_take
  refine QT.ilt (fun _ => ?_) (fun h31 => by omega)
  refine QT.ite (fun h => absurd h hy) (fun _ => ?_)
  unfold f_X4_take_34
  rw [hs, sbnd]
  dsimp only
  refine QT.ieq (fun h => by omega) (fun _ => ?_)
  exact QT.bnd hO (fun s hs => QT.ret hs)
theorem r_rootO {b t m p q : Nat} {S T : ST} {rT rF rL rO rR : FTK} {rb : FRD} {rI rS : FRI} (hS : RST p q S T) (hSS : RSS b t S) (hLN : cLSN b t m p q S T rL rI) (hRN : cRCN b t m p q S T rR rS) (hfL : cFUL b t rL) (hfR : cFUL b t rR) {x y : Int32} (hG : TG p (T.1 8 p).toInt S T 0 x 799) (hH : TG q (T.1 8 q).toInt S T 0 y 799) (h7 : (T.1 2 799).toInt = 7) (hM : MS T 799 799) (hC : RCX b t m S T S T 0) : QT (f_X4_takeOwn rT rF rL rO rR b t x y (-1) 0 0 S) (fun s => QT (f_X11_reads rb rI rS 799 799 0 (-1) 0 T) (ROUT b (RVP b t m q 0 S T y 799 0 (-1) 0 [] [] S T) s)) := by
  have l8 := li_8
  have l0 := li_0
  have lm := li_m1
  have l31 : (31 : Int32).toInt = 31 := by decide
  have l799 : (799 : Int32).toInt = 799 := by decide
  have n799 : (799 : Int32).toNatClampNeg = 799 := by decide
  have hn := hSS.2.2
  have hb := hC.1.1.1
  obtain ⟨hsY, _⟩ := hH.rA hn (KRA.rf hb).kta
  unfold f_X4_takeOwn f_X11_reads
  rw [hsY, sbnd]
  dsimp only
  refine QT.sw ?_
  refine QT.ilt (fun _ => ?_) (fun h => by omega)
  refine QT.grd (fun _ => ?_)
  rw [n799]
  refine QT.ieq (fun h => by omega) (fun _ => ?_)
  refine QT.ilt (fun h => by omega) (fun _ => ?_)
  refine QT.grd (fun _ => ?_)
  refine QT.ieq (fun hv8 => by omega) (fun hv8 => ?_)
  have hv8' : ¬ (T.1 2 (799 : Int32).toNatClampNeg).toInt = 8 := by rw [n799]; omega
  unfold f_X11_reads_157 f_X11_reads_158
  refine QT.ile (fun h => by omega) (fun _ => ?_)
  refine QT.sw ?_
  refine QT.ite (fun h => absurd (by rw [h]) hv8) (fun _ => ?_)
  exact r_own_n hS hSS hLN hRN hfL hfR (L := 0) (by omega) x 799 0 (-1) 0 y 799 y 799 (-1) l0 hG (by omega) hv8' hH (by omega) hv8' hM (.inl ⟨lm, rfl, rfl, hv8'⟩) S T hC (.inl ⟨⟨lm, lm⟩, rfl, rfl, l0⟩)
theorem r_root {b t m p q : Nat} {S T : ST} (hb : BT b t) (hS : RST p q S T) (hSS : RSS b t S) (hX : EHX S) (h7 : (T.1 2 799).toInt = 7) (h3 : (T.1 3 799).toInt = 0) (hpair : ¬ T.1 35 0 = 0) (hC : RCX b t m S T S T 0) (N M : Nat) : QT ((R_X4_take (N + 2)).1 b t (S.1 6 p) (S.1 6 q) (-1) 0 0 S) (fun s => QT ((R_X11_reads (M + 1)).1 799 799 0 (-1) 0 T) (ROUT b (RVP b t m q 0 S T (S.1 6 q) 799 0 (-1) 0 [] [] S T) s)) := by
  have l0 := li_0
  have l8 := li_8
  have lm := li_m1
  have n799 : (799 : Int32).toNatClampNeg = 799 := by decide
  have hG := hS.1.2.2.1.1.tg hS.1.1.1 h7 h3
  have hH := hS.1.2.2.1.2.tg hS.1.1.2 h7 h3
  obtain ⟨hsX, _⟩ := hG.rA hSS.2.2 (KRA.rf hb).kta
  have hy : ¬ S.1 6 q = -1 := fun h => by
    have := hH.1.1.1
    rw [h] at this
    omega
  have hM : MS T 799 799 := by
    refine MT.iff.mpr (.inr (.inr ⟨?_, ?_, .inr (.inl ⟨?_, ?_, ?_⟩)⟩))
    · rw [n799]; omega
    · rw [n799]; omega
    · rw [n799]; exact h7
    · rw [n799]; exact h7
    · rw [n799]
      have e0 : (T.1 3 799).toNatClampNeg = 0 := nC h3
      rw [e0]
      exact hpair
  have k := ck (m := m) hb hS hSS hX N
  rw [n799] at hsX
  exact r_rootT hsX (by omega) hy (r_rootO hS hSS (k.2.2.1 M).2 (k.2.2.2.2.1 M).2 k.2.2.2.2.2.1 k.2.2.2.2.2.2 hG hH h7 hM hC)
/-! a message read as another plan's, both sides -/
/-- the order of a tree: nothing but it is told -/
def KPO (t : Nat) (s σ : ST) : Prop := (∀ c, c ≠ t + 10 → c ≠ t + 11 → σ.1 c = s.1 c) ∧ σ.2 = s.2
theorem KPO.rf {t : Nat} {s : ST} : KPO t s s := ⟨fun _ _ _ => rfl, rfl⟩
theorem KPO.i {t : Nat} {s σ : ST} {c i : Nat} {v : Int32} (hc : c = t + 10 ∨ c = t + 11) (h : KPO t s σ) : KPO t s (stI σ c i v) := ⟨fun d a b => (stI_ne (by omega)).trans (h.1 d a b), h.2⟩
theorem wo_X7_isRow {T0 : Nat} {s : ST} {b : Nat} {p0 : Int32} {σ : ST}   (h : KPO T0 s σ) : PF st1 (KPO T0 s) (f_X7_isRow b p0 σ) := by
  unfold f_X7_isRow
  exact (PF.ite (fun _ => (PF.ret1 h)) (fun _ => (PF.ite (fun _ => (PF.ret1 h)) (fun _ => (PF.ite (fun _ => (PF.ret1 h)) (fun _ => (PF.ret1 h)))))))
theorem wo_X7_firstOf {T0 : Nat} {s : ST} {b : Nat} {p0 : Int32} {σ : ST}   (h : KPO T0 s σ) : PF st1 (KPO T0 s) (f_X7_firstOf b p0 σ) := by
  unfold f_X7_firstOf
  exact (PF.bnd (wo_X7_isRow  h) (fun q1 hq1 => (PF.ite (fun _ => (PF.ret1 hq1)) (fun _ => (PF.ite (fun _ => (PF.ret1 hq1)) (fun _ => PF.none))))))
theorem wo_X7_nextOf {T0 : Nat} {s : ST} {b : Nat} {p0 : Int32} {σ : ST}   (h : KPO T0 s σ) : PF st1 (KPO T0 s) (f_X7_nextOf b p0 σ) := by
  unfold f_X7_nextOf
  exact (PF.bnd (wo_X7_isRow  h) (fun q1 hq1 => (PF.ite (fun _ => (PF.ret1 hq1)) (fun _ => (PF.ite (fun _ => (PF.ret1 hq1)) (fun _ => PF.none))))))
theorem wo_X7_rowBehind_51 {T0 : Nat} {s : ST} {b : Nat} {x2 : Int32} {σ : ST}   (h : KPO T0 s σ) : PF st1 (KPO T0 s) (f_X7_rowBehind_51 b x2 σ) := by
  unfold f_X7_rowBehind_51
  exact (PF.bnd (wo_X7_nextOf  h) (fun q1 hq1 => (PF.ret1 hq1)))
theorem wo_X7_parentOf {T0 : Nat} {s : ST} {b : Nat} {p0 : Int32} {σ : ST}   (h : KPO T0 s σ) : PF st1 (KPO T0 s) (f_X7_parentOf b p0 σ) := by
  unfold f_X7_parentOf
  exact (PF.bnd (wo_X7_isRow  h) (fun q1 hq1 => (PF.ite (fun _ => (PF.ret1 hq1)) (fun _ => (PF.ite (fun _ => (PF.ret1 hq1)) (fun _ => PF.none))))))
theorem wo_X7_rowBehind_19 {T0 : Nat} {s : ST} {b : Nat}   : ∀ (n : Nat) (x1 : Int32) (x2 : Int32) (σ : ST), KPO T0 s σ → PF st1 (KPO T0 s) (f_X7_rowBehind_19 b n x1 x2 σ) := by
  intro n
  induction n with
  | zero => intro x1 x2 σ h; rw [f_X7_rowBehind_19]; exact PF.none
  | succ n ih =>
    intro x1 x2 σ h
    rw [f_X7_rowBehind_19]
    exact (PF.ite (fun _ => (wo_X7_rowBehind_51  h)) (fun _ => (PF.ite (fun _ => (wo_X7_rowBehind_51  h)) (fun _ => (PF.bnd (wo_X7_nextOf  h) (fun q1 hq1 => (PF.ite (fun _ => (PF.bnd (wo_X7_parentOf  hq1) (fun q3 hq3 => (ih _ _ _ hq3)))) (fun _ => (wo_X7_rowBehind_51  hq1)))))))))
theorem wo_X7_rowBehind {T0 : Nat} {s : ST} {b : Nat} {p0 : Int32} {σ : ST}   (h : KPO T0 s σ) : PF st1 (KPO T0 s) (f_X7_rowBehind b p0 σ) := by
  unfold f_X7_rowBehind
  exact (PF.bnd (wo_X7_firstOf  h) (fun q1 hq1 => (PF.ite (fun _ => (wo_X7_rowBehind_19  _ _ _ _ hq1)) (fun _ => (PF.bnd (wo_X7_firstOf  hq1) (fun q3 hq3 => (PF.ret1 hq3)))))))
theorem wo_X7_putInOrder_4 {T0 : Nat} {s : ST} {b : Nat}  (h_b : T0 = b) : ∀ (n : Nat) (x1 : Int32) (x2 : Int32) (σ : ST), KPO T0 s σ → PF st0 (KPO T0 s) (f_X7_putInOrder_4 b n x1 x2 σ) := by
  intro n
  induction n with
  | zero => intro x1 x2 σ h; rw [f_X7_putInOrder_4]; exact PF.none
  | succ n ih =>
    intro x1 x2 σ h
    rw [f_X7_putInOrder_4]
    exact (PF.ite (fun _ => (PF.ret0 h)) (fun _ => (PF.bnd (wo_X7_isRow  h) (fun q1 hq1 => (PF.ite (fun _ => (PF.ret0 hq1)) (fun _ => (PF.ite (fun _ => (PF.ite (fun _ => (PF.bnd (wo_X7_rowBehind  (KPO.i (by omega) (KPO.i (by omega) hq1))) (fun q5 hq5 => (ih _ _ _ hq5)))) (fun _ => PF.none))) (fun _ => PF.none))))))))
theorem wo_X7_putInOrder {T0 : Nat} {s : ST} {b : Nat} {σ : ST}  (h_b : T0 = b) (h : KPO T0 s σ) : PF st0 (KPO T0 s) (f_X7_putInOrder b σ) := by
  unfold f_X7_putInOrder
  exact (wo_X7_putInOrder_4 (by omega) _ _ _ _ h)
/-- the root's type is laid: nothing else is another one -/
theorem PSX.put {σ : ST} {PR : Nat → Int32} (hM : ME σ) (hP : PSX σ PR) (x y : Int32) : PSX (stI (stI σ 2 799 x) 3 799 y) PR := by
  intro w r a1 a2 a3 a4 a5
  obtain ⟨x1, x2, x3⟩ := hP w r a1 a2 a3 a4 a5
  refine ⟨x1, x2, fun k f v k1 k2 k3 => ?_⟩
  have k3' := ff_tr (σ := stI (stI σ 2 799 x) 3 799 y) (τ := σ) rfl rfl rfl rfl w f v k3
  have k1' : (k : Int) < (σ.1 11 (6 * (σ.1 0 54).toNatClampNeg + r.toNatClampNeg)).toInt := k1
  have k2' : f.toInt = 8 * (6 * (σ.1 0 54).toInt + r.toInt) + k := k2
  obtain ⟨c1, c2⟩ := x3 k f v k1' k2' k3'
  refine ⟨fun h0 => ?_, c2⟩
  have m := c1 h0
  have n1 := nN_ a1
  have n2 := nN_ a3
  have hw : wrec σ w := wrec_i a1 (by omega)
  have hr : rrec σ r := rrec_i a3 (by omega)
  obtain ⟨b1, b2, b3, b4⟩ := hM.w
  have r2 : r.toInt < rmR σ := hr.2
  have b21 := b2.1
  have b22 := b2.2
  obtain ⟨f1, f2⟩ := hM.rf4 hr
  have f12 := f1.2
  have n3 := nN_ b21
  have ef : f.toNatClampNeg = 8 * (6 * (σ.1 0 54).toNatClampNeg + r.toNatClampNeg) + k := nC (by omega)
  have hf := f2 k k1'
  rw [← ef] at hf
  obtain ⟨⟨v', s⟩, e1, e2, e3⟩ := hM.ff4 hw (f := f) (by omega)
  rw [k3'] at e1
  have ev : v = v' := (Prod.mk.inj (Option.some.inj e1)).1
  rw [← ev] at e3
  have e3 : v.toInt = -1 ∨ (0 ≤ v.toInt ∧ v.toInt < 576) ∧ VC σ (rmW σ) 4 (σ.1 15 v.toNatClampNeg) := e3
  rcases e3 with e3 | e3
  · omega
  · obtain ⟨n, hn⟩ := m
    exact ⟨n, MT.put (i := 799) (by decide) e3.2 hf hn⟩
theorem put_back (σ : ST) (x y : Int32) : stI (stI (stI (stI σ 2 799 x) 3 799 y) 2 799 (σ.1 2 799)) 3 799 (σ.1 3 799) = σ := by
  have e : ∀ c i, (stI (stI (stI (stI σ 2 799 x) 3 799 y) 2 799 (σ.1 2 799)) 3 799 (σ.1 3 799)).1 c i = σ.1 c i := fun c i => by
    by_cases h3 : c = 3
    · subst h3
      rw [stI_at]
      by_cases hi : i = 799
      · rw [upA hi, hi]
      · rw [upN hi, stI_ne (by omega), stI_at, upN hi, stI_ne (by omega)]
    · rw [stI_ne h3]
      by_cases h2 : c = 2
      · subst h2
        rw [stI_at]
        by_cases hi : i = 799
        · rw [upA hi, hi]
        · rw [upN hi, stI_ne (by omega), stI_at, upN hi]
      · rw [stI_ne h2, stI_ne h3, stI_ne h2]
  exact Prod.ext (funext fun c => funext fun i => e c i) rfl
theorem PPX.root {σ : ST} (h : PPX σ) : PPX (stI (stI σ 2 799 7) 3 799 0) := by
  have hM : ME (stI (stI σ 2 799 7) 3 799 0) := ⟨h.1.1.root, h.1.2.1, h.1.2.2⟩
  refine ⟨hM, h.2.1, PSX.put h.1 h.2.2.1 7 0, fun PR' hQ k hk hne => ?_⟩
  have := PSX.put hM hQ (σ.1 2 799) (σ.1 3 799)
  rw [put_back σ 7 0] at this
  exact h.2.2.2 PR' this k hk hne
theorem PPX.ch {I : List Nat} {σ t : ST} (h : PPX σ) (c : CH [] I σ t) (hI : ∀ i, i ∈ [32, 53, 54] → i ∉ I) : PPX t := by
  obtain ⟨h1, h2, h3⟩ := h
  obtain ⟨e1, e2⟩ := rm_ch c (by decide) (hI 53 (by decide)) (hI 54 (by decide))
  have e35 : t.1 35 = σ.1 35 := c.1 35 (by decide) (by decide)
  refine ⟨h1.ch c (fun _ _ h => by cases h) hI, ?_, ?_⟩
  · unfold PC
    rw [e1, e2, e35]
    exact h2
  · rw [e35]
    exact h3.tr c (fun _ _ h => by cases h) (hI 53 (by decide)) (hI 54 (by decide))
/-- what a run of the class leaves as it was -/
def KRN (b t : Nat) (σ s : ST) : Prop := (∀ c, (c < b ∨ b + 2 < c) → (c < t ∨ t + 11 < c) → s.1 c = σ.1 c) ∧ (∀ i, i ≠ 1 → s.1 t i = σ.1 t i) ∧ (∀ c, c ≠ 41 → c ≠ 42 → c ≠ t + 6 → s.2.1 c = σ.2.1 c) ∧ s.2.2.1 = σ.2.2.1 ∧ ∀ c, c ≠ b → s.2.2.2 c = σ.2.2.2 c
theorem KRN.kra {b t : Nat} {σ s u : ST} (h : KRN b t σ s) (k : KRA b t s u) : KRN b t σ u := by
  obtain ⟨_, k1, ⟨_, k2⟩, k3, k4, _⟩ := k
  refine ⟨fun c a d => (k1 c a d).trans (h.1 c a d), fun i hi => (k2 i hi).trans (h.2.1 i hi), fun c a d e => (k3 c e).trans (h.2.2.1 c a d e), by rw [k4]; exact h.2.2.2.1, fun c hc => by rw [k4]; exact h.2.2.2.2 c hc⟩
theorem KRN.clr {b t : Nat} {σ s : ST} (h : KRN b t σ s) (v : Int32) : KRN b t σ (stI s t 1 v) := by
  refine ⟨fun c a d => (stI_ne (by omega)).trans (h.1 c a d), fun i hi => ?_, h.2.2⟩
  rw [stI_at, upN hi]
  exact h.2.1 i hi
/-- and one of the reference -/
def KRM (τ w : ST) : Prop := (∀ c, c ≠ 0 → c ≠ 2 → c ≠ 3 → c ≠ 20 → (c < 23 ∨ 30 < c) → c ≠ 35 → c ≠ 36 → c ≠ 41 → w.1 c = τ.1 c) ∧ ∀ i, i ∉ [46, 53, 54, 57, 63, 64, 65, 66, 67, 68, 72] → w.1 0 i = τ.1 0 i
theorem KRM.krb {τ w z : ST} (h : KRM τ w) (k : KRB w z) : KRM τ z := by
  refine ⟨fun c h0 h2 h3 h20 h23 h35 h36 h41 => (k.1 c h0 h20 h23 h36 h41).trans (h.1 c h0 h2 h3 h20 h23 h35 h36 h41), fun i hi => ?_⟩
  simp only [List.mem_cons, List.not_mem_nil, or_false, not_or] at hi
  exact (k.2.1 i (by omega) (by omega) (by omega) (by omega) (by omega) (by omega) (by omega)).trans (h.2 i (by simp only [List.mem_cons, List.not_mem_nil, or_false, not_or]; omega))
/-- what both answer of a message read: refused alike, or one tree -/
def RDT (b t q : Nat) (qa qb : Int32 × ST) : Prop := qb.1 = 0 ∧ ∃ (S T s : ST) (e : Nat), (PHB 4 q S T ∧ q < 6 ∧ TG q (T.1 8 q).toInt S T 0 (S.1 6 q) 799) ∧ (KTA S s ∧ KRA b t S s ∧ KRB T qb.2) ∧ (f_X7_putInOrder t s = some qa.2 ∧ KPO t s qa.2) ∧ VAL True t q S T s qb.2 32 (S.1 6 q) 799 (0, e) (0, e) ∧ ((0 < e ∧ e ≤ 400) ∧ (s.1 t 1).toInt = e ∧ (qb.2.1 0 46).toInt = e ∧ qa.1.toInt = e) ∧ (s.1 (t + 2) 0).toInt = -1 ∧ (s.1 (t + 3) 0).toInt = 0 ∧ (qb.2.1 24 0).toInt = -1 ∧ (qb.2.1 25 0).toInt = 0 ∧ s.1 (t + 5) 0 = qb.2.1 27 0
def RDN (b t q : Nat) (σ τ : ST) (qa qb : Int32 × ST) : Prop := (KRN b t σ qa.2 ∧ KRM τ qb.2) ∧ ((qa.1 = qb.1 ∧ (qa.1.toInt = -2 ∨ qa.1.toInt = -3) ∧ (qa.2.1 t 1).toInt = 0) ∨ RDT b t q qa qb)
theorem q_sizeOfM (p0 : Int32) (σ : ST) (h : 0 ≤ p0.toInt ∧ p0.toInt < 4) : QT (f_X1_sizeOf p0 σ) (fun q => q = (σ.1 39 p0.toNatClampNeg, σ)) := by
  unfold f_X1_sizeOf f_X1_isNumber
  have l0 := li_0
  have l4 := li_4
  rw [if_neg (by rw [Int32.lt_iff_toInt_lt]; omega), if_neg (by rw [Int32.le_iff_toInt_le]; omega), sbnd]
  dsimp only
  rw [if_neg n1_0]
  exact QT.grd (fun _ => QT.ret rfl)
/-- behind the end of a run -/
theorem a_run129F {b t : Nat} {s : ST} (h : ¬ s.1 b 7 = 0) : QT (f_X4_run_129 b t s) (fun qa => qa.1.toInt = -3 ∧ qa.2 = stI s t 1 0) := by
  unfold f_X4_run_129 f_X7_clear
  refine QT.ite (fun h0 => absurd h0 h) (fun _ => QT.grd (fun _ => ?_))
  rw [sbnd]
  exact QT.ret ⟨show (-3 : Int32).toInt = -3 by decide, rfl⟩
theorem a_run129S {b t : Nat} {s : ST} (h : s.1 b 7 = 0) : QT (f_X4_run_129 b t s) (fun qa => f_X7_putInOrder t s = some qa.2 ∧ KPO t s qa.2 ∧ qa.1 = s.1 t 1) := by
  unfold f_X4_run_129
  refine QT.ite (fun _ => QT.grd (fun _ => ?_)) (fun h0 => absurd h h0)
  refine QT.bnd (Q := fun z => f_X7_putInOrder t s = some z ∧ KPO t s z) (fun z e => ⟨e, wo_X7_putInOrder rfl KPO.rf z e⟩) (fun z hz => QT.grd (fun _ => QT.ret ⟨hz.1, hz.2, ?_⟩))
  show z.1 t 1 = s.1 t 1
  rw [hz.2.1 t (by omega) (by omega)]
/-! a run, both sides -/
theorem ab_run {b t : Nat} {σ τ : ST} (hb : BT b t) (hZ : MZ τ σ) (hX : EHX σ) (hM : MSG σ τ) (hcap : 400 ≤ (σ.1 t 0).toInt) (p0 p1 : Int32) {m q : Nat} (h0 : p0.toInt = m) (hm : m < 4) (hw : ¬ (σ.1 40 m).toInt = -1) (h1 : p1.toInt = q) (hq : (q : Int) < (τ.1 0 32).toInt) : QT (f_X4_run b t p0 p1 σ) (fun qa => QT (f_X11_readsAll p0 p1 τ) (fun qb => RDN b t q σ τ qa qb)) := by
  have l0 := li_0
  have lm := li_m1
  have l6 := li_6
  have l400 := li_400
  have hb' := hb
  unfold BT at hb'
  obtain ⟨hm1, hm2⟩ := hM m hm
  have hMP := hZ.2.2 m hm
  obtain ⟨p, ep⟩ : ∃ p : Nat, (σ.1 40 m).toInt = p := ⟨_, (Int.toNat_of_nonneg (by omega)).symm⟩
  have nm : p0.toNatClampNeg = m := nC h0
  have hIB := hZ.2.1.2.2
  have hT5 := hZ.2.1.1
  have b32 := hIB.1.1
  unfold bI at b32
  have hp : (p : Int) < (τ.1 0 32).toInt := by omega
  obtain ⟨s39, ⟨z0, z4⟩, sby⟩ := hm2 (by rw [← hm1]; exact hw)
  unfold f_X4_run
  refine QT.bnd (fun q e => pt_planOf p0 σ (by omega) q e) (fun q1 hq1 => ?_)
  rw [nm] at hq1
  rw [hq1]
  dsimp only
  refine QT.grd (fun _ => ?_)
  unfold f_X7_clear
  rw [sbnd]
  refine QT.bnd (q_sizeOfM p0 _ (by omega)) (fun q6 hq6 => ?_)
  rw [nm] at hq6
  rw [hq6]
  dsimp only
  have rR : (stR σ b t).2.2.2 b = t := by
    show (bif Nat.beq b b then t else σ.2.2.2 b) = t
    rw [Nat.beq_refl]
    rfl
  have rR2 : ∀ c, c ≠ b → (stR σ b t).2.2.2 c = σ.2.2.2 c := fun c hc => by
    show (bif Nat.beq c b then t else σ.2.2.2 c) = _
    have e : Nat.beq c b = false := by
      cases h : Nat.beq c b with
      | false => rfl
      | true => exact absurd (Nat.eq_of_beq_eq_true h) hc
    rw [e]
    rfl
  have e39 : (stI (stI (stI (stR σ b t) t 1 0) b 4 p0) b 5 0).1 39 m = σ.1 39 m := by
    rw [stI_ne (by omega), stI_ne (by omega), stI_ne (by omega)]
    rfl
  rw [e39]
  have y0 : ∀ c, c ≠ b → c ≠ t → (stI (stI (stI (stI (stI (stI (stR σ b t) t 1 0) b 4 p0) b 5 0) b 6 (σ.1 39 m)) b 7 0) b 10 0).1 c = σ.1 c := fun c h1 h2 => by
    rw [stI_ne h1, stI_ne h1, stI_ne h1, stI_ne h1, stI_ne h1, stI_ne h2]
    rfl
  have yb : (stI (stI (stI (stI (stI (stI (stR σ b t) t 1 0) b 4 p0) b 5 0) b 6 (σ.1 39 m)) b 7 0) b 10 0).1 b = upd (upd (upd (upd (upd (σ.1 b) 4 p0) 5 0) 6 (σ.1 39 m)) 7 0) 10 0 := by
    rw [stI_at, stI_at, stI_at, stI_at, stI_at, stI_ne (by omega)]
    rfl
  have yt : (stI (stI (stI (stI (stI (stI (stR σ b t) t 1 0) b 4 p0) b 5 0) b 6 (σ.1 39 m)) b 7 0) b 10 0).1 t = upd (σ.1 t) 1 0 := by
    rw [stI_ne (by omega), stI_ne (by omega), stI_ne (by omega), stI_ne (by omega), stI_ne (by omega), stI_at]
    rfl
  have yL : (stI (stI (stI (stI (stI (stI (stR σ b t) t 1 0) b 4 p0) b 5 0) b 6 (σ.1 39 m)) b 7 0) b 10 0).2.1 = σ.2.1 := rfl
  have yD : (stI (stI (stI (stI (stI (stI (stR σ b t) t 1 0) b 4 p0) b 5 0) b 6 (σ.1 39 m)) b 7 0) b 10 0).2.2.1 = σ.2.2.1 := rfl
  have yR : (stI (stI (stI (stI (stI (stI (stR σ b t) t 1 0) b 4 p0) b 5 0) b 6 (σ.1 39 m)) b 7 0) b 10 0).2.2.2 = (stR σ b t).2.2.2 := rfl
  generalize stI (stI (stI (stI (stI (stI (stR σ b t) t 1 0) b 4 p0) b 5 0) b 6 (σ.1 39 m)) b 7 0) b 10 0 = y at y0 yb yt yL yD yR ⊢
  have kN0 : KRN b t σ y := ⟨fun c a d => y0 c (by omega) (by omega), fun i hi => by rw [yt, upN hi], fun c _ _ _ => by rw [yL], yD, fun c hc => by rw [yR]; exact rR2 c hc⟩
  have kTA : KTA σ y := fun c c1 c2 => ⟨y0 c (by omega) (by omega), by rw [yL]⟩
  have hZy : MZ τ y := hZ.to kTA (fun c hc => y0 c (by
    simp only [List.mem_cons, List.not_mem_nil, or_false] at hc
    omega) (by
    simp only [List.mem_cons, List.not_mem_nil, or_false] at hc
    omega)) ⟨by rw [yL], by rw [yL]⟩
  refine QT.bnd (fun s e => at_turnTo hZy ep h1 hp hq s e) (fun S hs => ?_)
  obtain ⟨kn, hZs, hG⟩ := hs
  have kNS : KRN b t σ S := by
    obtain ⟨k1, k2, k3⟩ := kn
    refine ⟨fun c a d => by rw [k1]; exact kN0.1 c a d, fun i hi => by rw [k1]; exact kN0.2.1 i hi, fun c a d e => (k3 c a d).trans (kN0.2.2.1 c a d e), by rw [k2]; exact kN0.2.2.2.1, fun c hc => by rw [k2]; exact kN0.2.2.2.2 c hc⟩
  have S1 : S.1 = y.1 := kn.1
  have SR : S.2.2.2 b = t := by rw [kn.2.1, yR]; exact rR
  have kTS : KTA σ S := kTA.trans kn.kta
  unfold f_X11_readsAll
  refine QT.sw ?_
  refine QT.grd (fun _ => ?_)
  rw [nm, ← hm1]
  refine QT.bnd (QT.ok (bx_laysPairs _ p1 τ hIB.1 hIB.2.1 ⟨by omega, by omega⟩ ⟨by omega, by omega⟩)) (fun u hu => ?_)
  obtain ⟨uc, uPP, u53, u54⟩ := hu
  have hG2 : GFX u (RBX (S.2.1 41 4)) := (hG τ hZ.y0).tr (stt_ch uc u53 u54) (by decide) (by decide) (by decide)
  have hRE : ∀ k, k < 36 → (u.1 35 k = 0 ↔ lbt (S.2.1 41 4) k = false) := fun k hk => (uPP.2.2.uniq hG2 k hk).trans RBX_iff
  have kM0 : KRM τ u := ⟨fun c c0 _ _ _ _ c35 _ _ => uc.1 c c0 (by simp only [List.mem_cons, List.not_mem_nil, or_false]; exact c35), fun i hi => uc.2.1 i (fun h => hi (by
    simp only [List.mem_cons, List.not_mem_nil, or_false] at h ⊢
    omega))⟩
  have e35 : (stI u 0 66 0).1 35 (0 : Int32).toNatClampNeg = u.1 35 0 := rfl
  rw [e35]
  unfold f_X0_rootsFit
  rw [a_bitOf 0 0 S (a := 0) (b := 0) l0 l0 (by omega) (by omega)]
  have e00 : 6 * (0 % 6) + 0 % 6 = 0 := rfl
  rw [e00]
  by_cases hb0 : lbt (S.2.1 41 4) 0 = false
  · -- the roots do not match
    refine QT.ite (fun _ => QT.ret ?_) (fun h => absurd ((hRE 0 (by omega)).mpr hb0) h)
    rw [sbnd]
    dsimp only
    rw [if_pos ((a_has (by omega)).mpr hb0), sbnd]
    dsimp only
    refine QT.ite (fun _ => QT.ret ?_) (fun h => absurd rfl h)
    refine ⟨⟨kNS, ⟨fun c c0 c2 c3 c20 c23 c35 c36 c41 => (stI_ne c0).trans (kM0.1 c c0 c2 c3 c20 c23 c35 c36 c41), fun i hi => ?_⟩⟩, .inl ⟨rfl, .inl (show (-2 : Int32).toInt = -2 by decide), by rw [S1, yt, upA rfl]; exact l0⟩⟩
    have i66 : i ≠ 66 := fun h => hi (by rw [h]; decide)
    show (stI u 0 66 0).1 0 i = τ.1 0 i
    rw [stI_at, upN i66]
    exact kM0.2 i hi
  · refine QT.ite (fun h => absurd ((hRE 0 (by omega)).mp h) hb0) (fun h35 => ?_)
    refine QT.lt (fun z4 hz4 => ?_)
    have n799 : (799 : Int32).toNatClampNeg = 799 := by decide
    unfold f_X11_rootType
    rw [sbnd, n799]
    dsimp only
    have c4 : CH [] [46, 57, 63, 64, 65, 66] u (stI (stI z4 0 57 0) 0 46 0) := by
      rw [hz4]
      exact (((((CH.rf.o (by decide)).o (by decide)).o (by decide)).o (by decide)).o (by decide)).o (by decide)
    have g33 : (stI (stI (stI u 0 66 0) 0 63 (400 * p0)) 0 64 0).1 33 m = τ.1 33 m := uc.1 33 (by decide) (by decide) ▸ rfl
    have zz : (stI (stI z4 0 57 0) 0 46 0).1 0 = upd (upd (upd (upd (upd (upd (u.1 0) 66 0) 63 (400 * p0)) 64 0) 65 (τ.1 33 m)) 57 0) 46 0 := by
      rw [stI_at, stI_at, hz4, g33, stI_at, stI_at, stI_at, stI_at]
    have zL : (stI (stI z4 0 57 0) 0 46 0).2 = u.2 := by rw [hz4]; rfl
    have zc : ∀ c, c ≠ 0 → (stI (stI z4 0 57 0) 0 46 0).1 c = u.1 c := fun c hc => by rw [stI_ne hc, stI_ne hc, hz4, stI_ne hc, stI_ne hc, stI_ne hc, stI_ne hc]
    clear hz4
    generalize stI (stI z4 0 57 0) 0 46 0 = z at c4 zz zL zc ⊢
    have zPP := (uPP.ch c4 (by decide)).root
    have T2 : (stI (stI z 2 799 7) 3 799 0).1 2 799 = 7 := by rw [stI_ne (by omega), stI_at, upA rfl]
    have T3 : (stI (stI z 2 799 7) 3 799 0).1 3 799 = 0 := by rw [stI_at, upA rfl]
    have Tc : ∀ c, c ≠ 2 → c ≠ 3 → (stI (stI z 2 799 7) 3 799 0).1 c = z.1 c := fun c c2 c3 => by rw [stI_ne c3, stI_ne c2]
    have TL : (stI (stI z 2 799 7) 3 799 0).2 = z.2 := rfl
    have kTB : KTB τ (stI (stI z 2 799 7) 3 799 0) := by
      have k1 : KTB τ u := by
        refine ⟨fun c hc => uc.1 c (fun e => by rw [e] at hc; revert hc; decide) (fun h => ?_), fun i _ => ⟨by rw [uc.1 2 (by decide) (by decide)], by rw [uc.1 3 (by decide) (by decide)]⟩, fun c hc => ?_⟩
        · simp only [List.mem_cons, List.not_mem_nil, or_false] at h
          rw [h] at hc
          revert hc
          decide
        · simp only [List.mem_cons, List.not_mem_nil, or_false] at hc
          obtain ⟨_, _, c9, c12, c14, c17, c18⟩ := uc
          rcases hc with h | h | h | h | h
          · rw [h, c9]
          · rw [h, c12]
          · rw [h, c14]
          · rw [h, c17]
          · rw [h, c18]
      have k2 : KTB τ z := ⟨fun c hc => (zc c (fun e => by rw [e] at hc; revert hc; decide)).trans (k1.1 c hc), fun i hi => by rw [zc 2 (by omega), zc 3 (by omega)]; exact k1.2.1 i hi, fun c hc => by rw [zL]; exact k1.2.2 c hc⟩
      exact k2.t
    generalize hT : stI (stI z 2 799 7) 3 799 0 = T at zPP T2 T3 Tc TL kTB ⊢
    have T0 : T.1 0 = z.1 0 := Tc 0 (by omega) (by omega)
    have T35 : T.1 35 = u.1 35 := (Tc 35 (by omega) (by omega)).trans (zc 35 (by omega))
    have kMT : KRM τ T := by
      refine ⟨fun c c0 c2 c3 c20 c23 c35 c36 c41 => (Tc c c2 c3).trans ((zc c c0).trans (kM0.1 c c0 c2 c3 c20 c23 c35 c36 c41)), fun i hi => ?_⟩
      have hi2 := hi
      simp only [List.mem_cons, List.not_mem_nil, or_false, not_or] at hi2
      rw [T0, zz, upN (by omega), upN (by omega), upN (by omega), upN (by omega), upN (by omega), upN (by omega)]
      exact kM0.2 i hi
    refine QT.sw ?_
    rw [sbnd]
    dsimp only
    rw [if_neg (fun h9 => hb0 ((a_has (by omega)).mp h9)), sbnd]
    dsimp only
    refine QT.ite (fun h => absurd h one_ne) (fun _ => ?_)
    have root : ∀ (v : Int32) (k : Nat) (s : ST), v.toInt = k → k < 6 → f_X5_rootType 4 v s = some (s.1 6 k, s) := fun v k s hv hk => by
      unfold f_X5_rootType
      rw [if_neg (fun h => by have := Int32.lt_iff_toInt_lt.mp h; omega), if_neg (fun h => by have := Int32.le_iff_toInt_le.mp h; omega), if_pos (by omega), show v.toNatClampNeg = k from nC hv]
    rw [root _ p S ep (by omega), sbnd]
    dsimp only
    rw [root p1 q S h1 (by omega), sbnd]
    dsimp only
    have hPp : PHB 4 p S T := (hT5 p hp).keep (by omega) kTS kTB.kr
    have hPq : PHB 4 q S T := (hT5 q hq).keep (by omega) kTS kTB.kr
    have hRST : RST p q S T := by
      refine ⟨⟨⟨by omega, by omega⟩, ⟨?_, ?_⟩, ⟨hPp, hPq⟩, zPP.1⟩, fun k hk => by rw [T35]; exact hRE k hk, zPP⟩
      · rw [T0, zz, upN (by omega), upN (by omega), upN (by omega), upN (by omega), upN (by omega), upN (by omega), u53]
        exact ep
      · rw [T0, zz, upN (by omega), upN (by omega), upN (by omega), upN (by omega), upN (by omega), upN (by omega), u54]
        exact h1
    have hRSS : RSS b t S := ⟨SR, by rw [S1, yt, upN (by omega)]; exact hcap, hPp.cnt.2.2⟩
    have hXS : EHX S := EHB.at hX kTS
    have e400 := mlE (k := 400) (y := p0) 400 l400 (by omega) (by omega)
    have e38 : S.1 38 = σ.1 38 := by rw [S1]; exact y0 38 (by omega) (by omega)
    have e34 : T.1 34 = τ.1 34 := (Tc 34 (by omega) (by omega)).trans ((zc 34 (by omega)).trans (uc.1 34 (by decide) (by decide)))
    have hC : RCX b t m S T S T 0 := by
      refine ⟨⟨KRA.rf hb, KRB.rf⟩, ?_, ?_, ?_, by omega⟩
      · unfold RPS
        rw [S1, yb, T0, zz]
        have a5 : upd (upd (upd (upd (upd (σ.1 b) 4 p0) 5 0) 6 (σ.1 39 m)) 7 0) 10 0 5 = 0 := by rw [upN (by omega), upN (by omega), upN (by omega), upA rfl]
        have a6 : upd (upd (upd (upd (upd (σ.1 b) 4 p0) 5 0) 6 (σ.1 39 m)) 7 0) 10 0 6 = σ.1 39 m := by rw [upN (by omega), upN (by omega), upA rfl]
        have a7 : upd (upd (upd (upd (upd (σ.1 b) 4 p0) 5 0) 6 (σ.1 39 m)) 7 0) 10 0 7 = 0 := by rw [upN (by omega), upA rfl]
        have a4 : upd (upd (upd (upd (upd (σ.1 b) 4 p0) 5 0) 6 (σ.1 39 m)) 7 0) 10 0 4 = p0 := by rw [upN (by omega), upN (by omega), upN (by omega), upN (by omega), upA rfl]
        have b64 : upd (upd (upd (upd (upd (upd (u.1 0) 66 0) 63 (400 * p0)) 64 0) 65 (τ.1 33 m)) 57 0) 46 0 64 = 0 := by rw [upN (by omega), upN (by omega), upN (by omega), upA rfl]
        have b65 : upd (upd (upd (upd (upd (upd (u.1 0) 66 0) 63 (400 * p0)) 64 0) 65 (τ.1 33 m)) 57 0) 46 0 65 = τ.1 33 m := by rw [upN (by omega), upN (by omega), upA rfl]
        have b63 : upd (upd (upd (upd (upd (upd (u.1 0) 66 0) 63 (400 * p0)) 64 0) 65 (τ.1 33 m)) 57 0) 46 0 63 = 400 * p0 := by rw [upN (by omega), upN (by omega), upN (by omega), upN (by omega), upA rfl]
        rw [a5, a6, a7, a4, b64, b65, b63, ← S1, e38, e34]
        exact ⟨⟨rfl, h0, hm⟩, ⟨rfl, s39⟩, ⟨by omega, by omega, by omega, by omega⟩, sby⟩
      · rw [S1, yt, upA rfl]
        exact l0
      · rw [T0, zz, upA rfl]
        exact l0
    have hT35 : ¬ T.1 35 0 = 0 := by rw [T35]; exact h35
    have hR := r_root (m := m) hb hRST hRSS hXS (by rw [T2]; decide) (by rw [T3]; decide) hT35 hC 158 339
    have hboth : QT (f_T_X4_take b t (S.1 6 p) (S.1 6 q) (-1) 0 0 S) (fun s => QT (f_T_X11_reads 799 799 0 (-1) 0 T) (fun w => ROUT b (RVP b t m q 0 S T (S.1 6 q) 799 0 (-1) 0 [] [] S T) s w ∧ KRA b t S s ∧ KRB T w.2)) := fun s es w ew => ⟨hR s es w ew, wr_T_X4_take (s := S) rfl rfl (KRA.rf hb) s es, wr_T_X11_reads (s := T) KRB.rf w ew⟩
    refine QT.bnd2 hboth (fun s w hsw => ?_)
    obtain ⟨hO, kA, kB⟩ := hsw
    have kNs : KRN b t σ s := kNS.kra kA
    have kMw : KRM τ w.2 := kMT.krb kB
    obtain ⟨wv, ws⟩ := w
    dsimp only at hO kB kMw ⊢
    have kNc : ∀ z, KRA b t S z → KRN b t σ (stI z t 1 0) := fun z hz => (kNS.kra hz).clr 0
    rcases hO with ⟨f7, w0⟩ | ⟨w1, hV⟩
    · -- it failed
      have w0 : wv = 0 := w0
      refine QT.ite (fun h => absurd h f7) (fun _ => ?_)
      refine (a_run129F f7).mono (fun qa hqa => ?_)
      unfold f_X11_readsAll_106
      refine QT.ite (fun _ => QT.ite (fun _ => QT.ret ?_) (fun h => absurd w0 h)) (fun h => absurd w0 h)
      refine ⟨⟨by rw [hqa.2]; exact kNc s kA, kMw⟩, .inl ⟨Int32.toInt_inj.mp (hqa.1.trans (show -3 = (-3 : Int32).toInt by decide)), .inr hqa.1, by rw [hqa.2, stI_at, upA rfl]; exact l0⟩⟩
    · have w1 : wv = 1 := w1
      obtain ⟨e, hC9, he, hVal, ⟨⟨v1, v2⟩, ⟨v3, v4⟩, v5⟩, _, _⟩ := hV
      obtain ⟨_, hR9, c1, c46, ce⟩ := hC9
      have hR9 : RPS b m s ws := hR9
      have f7 : s.1 b 7 = 0 := hR9.1.1
      have e5 : s.1 b 5 = ws.1 0 64 := hR9.2.1.1
      have e6 : s.1 b 6 = ws.1 0 65 := hR9.2.1.2
      refine QT.ite (fun _ => ?_) (fun h => absurd f7 h)
      rw [e5, e6]
      refine QT.ile (fun hle => ?_) (fun hgt => ?_)
      · -- read
        refine (a_run129S f7).mono (fun qa hqa => ?_)
        refine QT.ite (fun h => by rw [w1] at h; exact absurd h one_ne) (fun _ => ?_)
        refine QT.ile (fun _ => ?_) (fun h => by omega)
        unfold f_X11_readsAll_106
        refine QT.ite (fun h => by rw [w1] at h; exact absurd h one_ne) (fun _ => QT.ret ?_)
        have kNq : KRN b t σ qa.2 := by
          refine ⟨fun c a d => (hqa.2.1.1 c (by omega) (by omega)).trans (kNs.1 c a d), fun i hi => ?_, fun c a d e => by rw [hqa.2.1.2]; exact kNs.2.2.1 c a d e, by rw [hqa.2.1.2]; exact kNs.2.2.2.1, fun c hc => by rw [hqa.2.1.2]; exact kNs.2.2.2.2 c hc⟩
          rw [hqa.2.1.1 t (by omega) (by omega)]
          exact kNs.2.1 i hi
        have hTG := hPq.tg (by omega) (by rw [T2]; decide) (by rw [T3]; decide)
        refine ⟨⟨kNq, kMw⟩, .inr ⟨rfl, S, T, s, e, ⟨hPq, by omega, hTG⟩, ⟨kA.kta, kA, kB⟩, ⟨hqa.1, hqa.2.1⟩, hVal, ⟨⟨he, ce⟩, c1, c46, by rw [hqa.2.2]; exact c1⟩, ?_, ?_, ?_, ?_, v5⟩⟩
        · rw [v1]; exact lm
        · rw [v2]; exact l0
        · show (ws.1 24 0).toInt = -1
          rw [v3]; exact lm
        · show (ws.1 25 0).toInt = 0
          rw [v4]; exact l0
      · -- bytes are left
        refine QT.bnd (Q := fun z => ¬ z.1 b 7 = 0 ∧ KRA b t S z) (fun z ez => ⟨a_failed hb 14 _ s (by decide) z ez, wr_X4_fail rfl kA z ez⟩) (fun z hz => ?_)
        refine (a_run129F hz.1).mono (fun qa hqa => ?_)
        refine QT.ite (fun h => by rw [w1] at h; exact absurd h one_ne) (fun _ => ?_)
        refine QT.ile (fun h => by omega) (fun _ => ?_)
        refine QT.bnd (Q := fun q9 => q9.1 = 0 ∧ KRB T q9.2) (fun q9 e9 => ⟨q_fails 14 _ ws q9 e9, wr_X11_fails kB q9 e9⟩) (fun q9 h9 => ?_)
        unfold f_X11_readsAll_106
        refine QT.ite (fun _ => QT.ret ?_) (fun h => absurd h9.1 h)
        refine ⟨⟨by rw [hqa.2]; exact kNc z hz.2, kMT.krb h9.2⟩, .inl ⟨Int32.toInt_inj.mp (hqa.1.trans (show -3 = (-3 : Int32).toInt by decide)), .inr hqa.1, by rw [hqa.2, stI_at, upA rfl]; exact l0⟩⟩
/-! the pairs of plans that are kept, both sides -/
/-- one put to the front, those ahead of it behind it -/
def SHF (f g : Nat → Int32) (v : Int32) (k : Nat) : Prop := ∀ i, g i = if i = 0 then v else if i ≤ k then f (i - 1) else f i
/-- a pair used -/
def USD (v : Int32) (f g : Nat → Int32) (c c' fo fo' nf nf' : Int32) : Prop := ((∀ i : Nat, (i : Int) < c.toInt → ¬ f i = v) ∧ fo' = fo ∧ nf' = nf + 1 ∧ (c.toInt = 4 ∧ c'.toInt = 4 ∨ c.toInt < 4 ∧ c'.toInt = c.toInt + 1) ∧ SHF f g v (c'.toInt.toNat - 1)) ∨ ∃ k : Nat, (k : Int) < c.toInt ∧ f k = v ∧ fo' = fo + 1 ∧ nf' = nf ∧ c' = c ∧ SHF f g v k
/-- the pairs kept, on both sides -/
def KPR (σ τ : ST) : Prop := (σ.1 48 1 = τ.1 0 92 ∧ 0 ≤ (τ.1 0 92).toInt ∧ (τ.1 0 92).toInt ≤ 4) ∧ (σ.1 48 2 = τ.1 0 93 ∧ σ.1 48 3 = τ.1 0 94) ∧ (∀ i : Nat, (i : Int) < (τ.1 0 92).toInt → σ.1 49 i = τ.1 55 i) ∧ ∀ i j : Nat, i < j → (j : Int) < (τ.1 0 92).toInt → ¬ τ.1 55 i = τ.1 55 j
theorem shf_step {f f1 g : Nat → Int32} {v : Int32} {k : Nat} (hk : 0 < k) (h1 : ∀ j, f1 j = if j = k then f (k - 1) else f j) (h : SHF f1 g v (k - 1)) : SHF f g v k := by
  intro i
  rw [h i]
  by_cases h0 : i = 0
  · rw [if_pos h0, if_pos h0]
  · rw [if_neg h0, if_neg h0]
    by_cases h2 : i ≤ k - 1
    · rw [if_pos h2, if_pos (by omega), h1, if_neg (by omega)]
    · rw [if_neg h2, h1]
      by_cases h3 : i = k
      · rw [if_pos h3, if_pos (by omega), h3]
      · rw [if_neg h3, if_neg (by omega)]
theorem a_use97 (v : Int32) : ∀ (n k : Nat) (x5 : Int32) (σ : ST), x5.toInt = k → QT (f_X9_use_97 n v x5 σ) (fun s => (∀ c, c ≠ 49 → s.1 c = σ.1 c) ∧ s.2 = σ.2 ∧ SHF (σ.1 49) (s.1 49) v k) := by
  have l0 := li_0
  have l1 := li_1
  have lm := li_m1
  intro n
  induction n with
  | zero =>
    intro k x5 σ _
    rw [f_X9_use_97]
    exact QT.none
  | succ n ih =>
    intro k x5 σ h5
    rw [f_X9_use_97]
    refine QT.ile (fun hle => QT.ret ⟨fun c hc => stI_ne hc, rfl, fun i => ?_⟩) (fun hlt => ?_)
    · have n0 : (0 : Int32).toNatClampNeg = 0 := by decide
      rw [n0, stI_at]
      by_cases hi : i = 0
      · rw [upA hi, if_pos hi]
      · rw [upN hi, if_neg hi, if_neg (by omega)]
    · refine QT.grd (fun hg1 => QT.grd (fun hg2 => ?_))
      have e1 := il_subE (x := x5) (y := 1) (by omega) (by omega)
      have e2 := il_addE (x := x5) (y := -1) (by omega) (by omega)
      have n1 : (x5 - 1).toNatClampNeg = k - 1 := nC (by omega)
      have n2 : x5.toNatClampNeg = k := nC h5
      rw [n1, n2]
      refine (ih (k - 1) (x5 + -1) (stI σ 49 k (σ.1 49 (k - 1))) (by omega)).mono (fun s hs => ?_)
      obtain ⟨s1, s2, s3⟩ := hs
      refine ⟨fun c hc => (s1 c hc).trans (stI_ne hc), s2, shf_step (f1 := (stI σ 49 k (σ.1 49 (k - 1))).1 49) (by omega) (fun j => ?_) s3⟩
      rw [stI_at]
      by_cases hj : j = k
      · rw [upA hj, if_pos hj]
      · rw [upN hj, if_neg hj]
theorem q_use105 (v : Int32) : ∀ (n k : Nat) (x5 : Int32) (σ : ST), x5.toInt = k → QT (f_X11_uses_105 n v x5 σ) (fun s => (∀ c, c ≠ 55 → s.1 c = σ.1 c) ∧ s.2 = σ.2 ∧ SHF (σ.1 55) (s.1 55) v k) := by
  have l0 := li_0
  have l1 := li_1
  have lm := li_m1
  intro n
  induction n with
  | zero =>
    intro k x5 σ _
    rw [f_X11_uses_105]
    exact QT.none
  | succ n ih =>
    intro k x5 σ h5
    rw [f_X11_uses_105]
    refine QT.ile (fun hle => QT.ret ⟨fun c hc => stI_ne hc, rfl, fun i => ?_⟩) (fun hlt => ?_)
    · have n0 : (0 : Int32).toNatClampNeg = 0 := by decide
      rw [n0, stI_at]
      by_cases hi : i = 0
      · rw [upA hi, if_pos hi]
      · rw [upN hi, if_neg hi, if_neg (by omega)]
    · refine QT.grd (fun hg1 => QT.grd (fun hg2 => ?_))
      have e1 := il_subE (x := x5) (y := 1) (by omega) (by omega)
      have e2 := il_addE (x := x5) (y := -1) (by omega) (by omega)
      have n1 : (x5 - 1).toNatClampNeg = k - 1 := nC (by omega)
      have n2 : x5.toNatClampNeg = k := nC h5
      rw [n1, n2]
      refine (ih (k - 1) (x5 + -1) (stI σ 55 k (σ.1 55 (k - 1))) (by omega)).mono (fun s hs => ?_)
      obtain ⟨s1, s2, s3⟩ := hs
      refine ⟨fun c hc => (s1 c hc).trans (stI_ne hc), s2, shf_step (f1 := (stI σ 55 k (σ.1 55 (k - 1))).1 55) (by omega) (fun j => ?_) s3⟩
      rw [stI_at]
      by_cases hj : j = k
      · rw [upA hj, if_pos hj]
      · rw [upN hj, if_neg hj]
/-- what a use leaves of the class, and of the reference -/
def USA (v : Int32) (σ s : ST) : Prop := (∀ c, c ≠ 48 → c ≠ 49 → s.1 c = σ.1 c) ∧ s.2 = σ.2 ∧ (∀ i, i ≠ 1 → i ≠ 2 → i ≠ 3 → s.1 48 i = σ.1 48 i) ∧ USD v (σ.1 49) (s.1 49) (σ.1 48 1) (s.1 48 1) (σ.1 48 2) (s.1 48 2) (σ.1 48 3) (s.1 48 3)
def USB (v : Int32) (τ w : ST) : Prop := (∀ c, c ≠ 0 → c ≠ 55 → w.1 c = τ.1 c) ∧ w.2 = τ.2 ∧ (∀ i, i ≠ 92 → i ≠ 93 → i ≠ 94 → w.1 0 i = τ.1 0 i) ∧ USD v (τ.1 55) (w.1 55) (τ.1 0 92) (w.1 0 92) (τ.1 0 93) (w.1 0 93) (τ.1 0 94) (w.1 0 94)
theorem a_use (p0 p1 : Int32) (σ : ST) (hc : 0 ≤ (σ.1 48 1).toInt ∧ (σ.1 48 1).toInt ≤ 4) : QT (f_X9_use p0 p1 σ) (fun s => USA (10 * p0 + p1) σ s) := by
  have l0 := li_0
  have l1 := li_1
  have l3 := li_3
  have l4 := li_4
  have lm := li_m1
  unfold f_X9_use
  generalize 10 * p0 + p1 = v
  have key : ∀ (n k : Nat) (x4 : Int32), x4.toInt = k → (k : Int) ≤ (σ.1 48 1).toInt → (∀ i, i < k → ¬ σ.1 49 i = v) → QT (f_X9_use_10 n v x4 σ) (fun s => USA v σ s) := by
    intro n
    induction n with
    | zero =>
      intro k x4 _ _ _
      rw [f_X9_use_10]
      exact QT.none
    | succ n ih =>
      intro k x4 h4 hk hno
      rw [f_X9_use_10]
      unfold f_X9_use_35 f_X9_use_89
      refine QT.ile (fun hle => ?_) (fun hlt => ?_)
      · -- none
        refine QT.ile (fun _ => ?_) (fun h => by omega)
        refine QT.lt (fun z hz => ?_)
        have z1 : (stI σ 48 3 (σ.1 48 3 + 1)).1 48 1 = σ.1 48 1 := by rw [stI_at, upN (by omega)]
        rw [z1] at hz
        have ea := il_addE (x := σ.1 48 1) (y := 1) (by omega) (by omega)
        have zc : ∀ c, c ≠ 48 → z.1 c = σ.1 c := fun c hc9 => by rw [hz, stI_ne hc9, stI_ne hc9]
        have zL : z.2 = σ.2 := by rw [hz]; rfl
        have z48 : z.1 48 = upd (upd (σ.1 48) 3 (σ.1 48 3 + 1)) 1 (if 4 < σ.1 48 1 + 1 then 4 else σ.1 48 1 + 1) := by rw [hz, stI_at, stI_at]
        clear hz
        have zi1 : (z.1 48 1).toInt = if (σ.1 48 1).toInt = 4 then 4 else (σ.1 48 1).toInt + 1 := by
          rw [z48, upA rfl]
          by_cases h9 : 4 < σ.1 48 1 + 1
          · have h9' := il_lt h9
            rw [if_pos h9, if_pos (by omega)]
            exact l4
          · have h9' := il_nlt h9
            rw [if_neg h9, if_neg (by omega)]
            exact ea
        have zr : (σ.1 48 1).toInt = 4 ∧ (z.1 48 1).toInt = 4 ∨ (σ.1 48 1).toInt < 4 ∧ (z.1 48 1).toInt = (σ.1 48 1).toInt + 1 := by
          by_cases h9 : (σ.1 48 1).toInt = 4
          · rw [if_pos h9] at zi1
            exact .inl ⟨h9, zi1⟩
          · rw [if_neg h9] at zi1
            exact .inr ⟨by omega, zi1⟩
        have es := il_subE (x := z.1 48 1) (y := 1) (by omega) (by omega)
        rw [if_neg (fun h9 => by have := il_lt h9; omega)]
        refine (a_use97 v FU ((z.1 48 1).toInt.toNat - 1) _ z (by omega)).mono (fun s hs => ?_)
        obtain ⟨s1, s2, s3⟩ := hs
        have s48 : s.1 48 = z.1 48 := s1 48 (by omega)
        rw [zc 49 (by omega)] at s3
        refine ⟨fun c c8 c9 => (s1 c c9).trans (zc c c8), s2.trans zL, fun i i1 i2 i3 => by rw [s48, z48, upN i1, upN i3], .inl ⟨fun i hi => hno i (by omega), ?_, ?_, ?_, ?_⟩⟩
        · rw [s48, z48, upN (by omega), upN (by omega)]
        · rw [s48, z48, upN (by omega), upA rfl]
        · rw [s48]
          exact zr
        · rw [s48]
          exact s3
      · unfold f_X9_pairAt
        rw [if_neg (fun h9 => by have := il_lt h9; omega), if_neg (fun h9 => by have := il_le h9; omega), if_neg (fun h9 => by have := il_le h9; omega), if_pos (by omega), sbnd]
        dsimp only
        have n4 : x4.toNatClampNeg = k := nC h4
        rw [n4]
        refine QT.ite (fun he => ?_) (fun he => ?_)
        · refine QT.ile (fun h => by omega) (fun _ => ?_)
          rw [if_neg (fun h9 => by have := il_lt h9; omega)]
          refine (a_use97 v FU k x4 _ h4).mono (fun s hs => ?_)
          obtain ⟨s1, s2, s3⟩ := hs
          have s48 : s.1 48 = upd (σ.1 48) 2 (σ.1 48 2 + 1) := by rw [s1 48 (by omega), stI_at]
          rw [stI_ne (by omega)] at s3
          refine ⟨fun c c8 c9 => (s1 c c9).trans (stI_ne c8), s2, fun i i1 i2 i3 => by rw [s48, upN i2], .inr ⟨k, by omega, he, ?_, ?_, ?_, s3⟩⟩
          · rw [s48, upA rfl]
          · rw [s48, upN (by omega)]
          · rw [s48, upN (by omega)]
        · have ea := il_addE (x := x4) (y := 1) (by omega) (by omega)
          refine ih (k + 1) (x4 + 1) (by omega) (by omega) (fun i hi => ?_)
          by_cases h9 : i = k
          · rw [h9]
            exact he
          · exact hno i (by omega)
  exact key FU 0 0 l0 (by omega) (fun i hi => by omega)
theorem q_uses103 (v x2 : Int32) {k : Nat} (τ : ST) (h2 : x2.toInt = k) : QT (f_X11_uses_103 v x2 τ) (fun s => (∀ c, c ≠ 55 → s.1 c = τ.1 c) ∧ s.2 = τ.2 ∧ SHF (τ.1 55) (s.1 55) v k) := q_use105 v FU k x2 τ h2
theorem q_uses (v : Int32) (τ : ST) (hc : 0 ≤ (τ.1 0 92).toInt ∧ (τ.1 0 92).toInt ≤ 4) : QT (f_X11_uses v τ) (fun w => USB v τ w) := by
  have l0 := li_0
  have l1 := li_1
  have l4 := li_4
  have lm := li_m1
  unfold f_X11_uses
  have key : ∀ (n k : Nat) (x2 x3 : Int32), x3.toInt = k → (k : Int) ≤ (τ.1 0 92).toInt → ((x2.toInt = -1 ∧ ∀ i, i < k → ¬ τ.1 55 i = v) ∨ ∃ j : Nat, x2.toInt = j ∧ j < k ∧ τ.1 55 j = v) → QT (f_X11_uses_4 n v x2 x3 τ) (fun w => USB v τ w) := by
    intro n
    induction n with
    | zero =>
      intro k x2 x3 _ _ _
      rw [f_X11_uses_4]
      exact QT.none
    | succ n ih =>
      intro k x2 x3 h3 hk hx
      rw [f_X11_uses_4]
      refine QT.ile (fun hle => ?_) (fun hlt => ?_)
      · unfold f_X11_uses_48 f_X11_uses_66
        refine QT.ilt (fun hn => ?_) (fun hn => ?_)
        · -- none
          have hno : ∀ i, i < k → ¬ τ.1 55 i = v := by
            rcases hx with h | ⟨j, h, _, _⟩
            · exact h.2
            · omega
          refine QT.ile (fun h => by omega) (fun _ => ?_)
          refine QT.ile (fun h => by omega) (fun _ => ?_)
          have y92 : (stI (stI τ 0 93 (τ.1 0 93 + 0)) 0 94 ((stI τ 0 93 (τ.1 0 93 + 0)).1 0 94 + 1)).1 0 92 = τ.1 0 92 := by rw [stI_at, upN (by omega), stI_at, upN (by omega)]
          have y0 : (stI (stI τ 0 93 (τ.1 0 93 + 0)) 0 94 ((stI τ 0 93 (τ.1 0 93 + 0)).1 0 94 + 1)).1 0 = upd (upd (τ.1 0) 93 (τ.1 0 93 + 0)) 94 (τ.1 0 94 + 1) := by
            rw [stI_at, stI_at, upN (by omega)]
          have yc : ∀ c, c ≠ 0 → (stI (stI τ 0 93 (τ.1 0 93 + 0)) 0 94 ((stI τ 0 93 (τ.1 0 93 + 0)).1 0 94 + 1)).1 c = τ.1 c := fun c h => by rw [stI_ne h, stI_ne h]
          have yL : (stI (stI τ 0 93 (τ.1 0 93 + 0)) 0 94 ((stI τ 0 93 (τ.1 0 93 + 0)).1 0 94 + 1)).2 = τ.2 := rfl
          rw [y92]
          generalize stI (stI τ 0 93 (τ.1 0 93 + 0)) 0 94 ((stI τ 0 93 (τ.1 0 93 + 0)).1 0 94 + 1) = y at y0 yc yL
          have e93 : τ.1 0 93 + 0 = τ.1 0 93 := Int32.add_zero _
          have fin : ∀ c' : Int32, ((τ.1 0 92).toInt = 4 ∧ c'.toInt = 4 ∨ (τ.1 0 92).toInt < 4 ∧ c'.toInt = (τ.1 0 92).toInt + 1) → QT (f_X11_uses_93 v c' y) (fun w => USB v τ w) := fun c' hc' => by
            unfold f_X11_uses_93
            have g : (stI y 0 92 c').1 0 92 = c' := by rw [stI_at, upA rfl]
            rw [g]
            have es := il_subE (x := c') (y := 1) (by omega) (by omega)
            refine (q_uses103 v (c' - 1) (k := c'.toInt.toNat - 1) (stI y 0 92 c') (by omega)).mono (fun w hw => ?_)
            obtain ⟨w1, w2, w3⟩ := hw
            rw [stI_ne (by omega), yc 55 (by omega)] at w3
            have w0 : w.1 0 = upd (y.1 0) 92 c' := by rw [w1 0 (by omega), stI_at]
            refine ⟨fun c c0 c55 => (w1 c c55).trans ((stI_ne c0).trans (yc c c0)), w2.trans yL, fun i i2 i3 i4 => by rw [w0, upN i2, y0, upN i4, upN i3], .inl ⟨fun i hi => hno i (by omega), ?_, ?_, ?_, ?_⟩⟩
            · rw [w0, upN (by omega), y0, upN (by omega), upA rfl, e93]
            · rw [w0, upN (by omega), y0, upA rfl]
            · rw [w0, upA rfl]
              exact hc'
            · rw [w0, upA rfl]
              exact w3
          refine QT.ile (fun h4 => fin 4 (.inl ⟨by omega, l4⟩)) (fun h4 => ?_)
          have ea := il_addE (x := τ.1 0 92) (y := 1) (by omega) (by omega)
          exact fin _ (.inr ⟨by omega, ea⟩)
        · have hx : ∃ j : Nat, x2.toInt = j ∧ j < k ∧ τ.1 55 j = v := by
            rcases hx with ⟨h, _⟩ | h
            · omega
            · exact h
          obtain ⟨j, j1, j2, j3⟩ := hx
          refine QT.ile (fun _ => ?_) (fun h => by omega)
          refine QT.ile (fun _ => ?_) (fun h => by omega)
          have y0 : (stI (stI τ 0 93 (τ.1 0 93 + 1)) 0 94 ((stI τ 0 93 (τ.1 0 93 + 1)).1 0 94 + 0)).1 0 = upd (upd (τ.1 0) 93 (τ.1 0 93 + 1)) 94 (τ.1 0 94 + 0) := by
            rw [stI_at, stI_at, upN (by omega)]
          have yc : ∀ c, c ≠ 0 → (stI (stI τ 0 93 (τ.1 0 93 + 1)) 0 94 ((stI τ 0 93 (τ.1 0 93 + 1)).1 0 94 + 0)).1 c = τ.1 c := fun c h => by rw [stI_ne h, stI_ne h]
          have yL : (stI (stI τ 0 93 (τ.1 0 93 + 1)) 0 94 ((stI τ 0 93 (τ.1 0 93 + 1)).1 0 94 + 0)).2 = τ.2 := rfl
          generalize stI (stI τ 0 93 (τ.1 0 93 + 1)) 0 94 ((stI τ 0 93 (τ.1 0 93 + 1)).1 0 94 + 0) = y at y0 yc yL
          have e94 : τ.1 0 94 + 0 = τ.1 0 94 := Int32.add_zero _
          refine (q_uses103 v x2 y j1).mono (fun w hw => ?_)
          obtain ⟨w1, w2, w3⟩ := hw
          rw [yc 55 (by omega)] at w3
          have w0 : w.1 0 = y.1 0 := w1 0 (by omega)
          refine ⟨fun c c0 c55 => (w1 c c55).trans (yc c c0), w2.trans yL, fun i i2 i3 i4 => by rw [w0, y0, upN i4, upN i3], .inr ⟨j, by omega, j3, ?_, ?_, ?_, w3⟩⟩
          · rw [w0, y0, upN (by omega), upA rfl]
          · rw [w0, y0, upA rfl, e94]
          · rw [w0, y0, upN (by omega), upN (by omega)]
      · refine QT.grd (fun _ => ?_)
        have n3 : x3.toNatClampNeg = k := nC h3
        have ea := il_addE (x := x3) (y := 1) (by omega) (by omega)
        unfold f_X11_uses_27
        rw [n3]
        refine QT.ite (fun he => ?_) (fun he => ?_)
        · exact ih (k + 1) x3 (x3 + 1) (by omega) (by omega) (.inr ⟨k, h3, by omega, he⟩)
        · refine ih (k + 1) x2 (x3 + 1) (by omega) (by omega) ?_
          rcases hx with ⟨h, h9⟩ | ⟨j, j1, j2, j3⟩
          · refine .inl ⟨h, fun i hi => ?_⟩
            by_cases e : i = k
            · rw [e]
              exact he
            · exact h9 i (by omega)
          · exact .inr ⟨j, j1, by omega, j3⟩
  exact key FU 0 (-1) 0 l0 (by omega) (.inl ⟨lm, fun i hi => by omega⟩)
/-- the pairs kept stay alike -/
theorem KPR.use {v : Int32} {σ τ s w : ST} (h : KPR σ τ) (hA : USA v σ s) (hB : USB v τ w) : KPR s w := by
  obtain ⟨⟨h1, h2, h3⟩, ⟨h4, h5⟩, h6, h7⟩ := h
  obtain ⟨_, _, _, uA⟩ := hA
  obtain ⟨_, _, _, uB⟩ := hB
  rw [h1] at uA
  rcases uA with ⟨a1, a2, a3, a4, a5⟩ | ⟨k, a1, a2, a3, a4, a5, a6⟩
  · rcases uB with ⟨b1, b2, b3, b4, b5⟩ | ⟨j, b1, b2, _⟩
    · have ec : (s.1 48 1).toInt = (w.1 0 92).toInt := by omega
      have ec' : s.1 48 1 = w.1 0 92 := Int32.toInt_inj.mp ec
      rw [ec] at a5
      refine ⟨⟨ec', by omega, by omega⟩, ⟨by rw [a2, b2, h4], by rw [a3, b3, h5]⟩, fun i hi => ?_, fun i j hij hj => ?_⟩
      · rw [a5 i, b5 i]
        by_cases i0 : i = 0
        · rw [if_pos i0, if_pos i0]
        · rw [if_neg i0, if_neg i0, if_pos (by omega), if_pos (by omega)]
          exact h6 (i - 1) (by omega)
      · rw [b5 i, b5 j, if_neg (show ¬ j = 0 by omega), if_pos (show j ≤ (w.1 0 92).toInt.toNat - 1 by omega)]
        by_cases i0 : i = 0
        · rw [if_pos i0]
          exact fun e => b1 (j - 1) (by omega) e.symm
        · rw [if_neg i0, if_pos (by omega)]
          exact h7 (i - 1) (j - 1) (by omega) (by omega)
    · exact absurd ((h6 j b1).trans b2) (a1 j b1)
  · rcases uB with ⟨b1, _⟩ | ⟨j, b1, b2, b3, b4, b5, b6⟩
    · exact absurd ((h6 k a1).symm.trans a2) (b1 k a1)
    · have ek : k = j := by
        have e9 : τ.1 55 k = τ.1 55 j := ((h6 k a1).symm.trans a2).trans b2.symm
        by_cases c1 : k < j
        · exact absurd e9 (h7 k j c1 b1)
        · by_cases c2 : j < k
          · exact absurd e9.symm (h7 j k c2 a1)
          · omega
      subst ek
      unfold KPR
      rw [b5]
      refine ⟨⟨by rw [a5], h2, h3⟩, ⟨by rw [a3, b3, h4], by rw [a4, b4, h5]⟩, fun i hi => ?_, fun i j hij hj => ?_⟩
      · rw [a6 i, b6 i]
        by_cases i0 : i = 0
        · rw [if_pos i0, if_pos i0]
        · rw [if_neg i0, if_neg i0]
          by_cases ik : i ≤ k
          · rw [if_pos ik, if_pos ik]
            exact h6 (i - 1) (by omega)
          · rw [if_neg ik, if_neg ik]
            exact h6 i (by omega)
      · rw [b6 i, b6 j, if_neg (show ¬ j = 0 by omega)]
        by_cases i0 : i = 0
        · rw [if_pos i0]
          by_cases jk : j ≤ k
          · rw [if_pos jk, ← b2]
            exact fun e => h7 (j - 1) k (by omega) (by omega) e.symm
          · rw [if_neg jk, ← b2]
            exact h7 k j (by omega) (by omega)
        · rw [if_neg i0]
          by_cases ik : i ≤ k
          · rw [if_pos ik]
            by_cases jk : j ≤ k
            · rw [if_pos jk]
              exact h7 (i - 1) (j - 1) (by omega) (by omega)
            · rw [if_neg jk]
              exact h7 (i - 1) j (by omega) (by omega)
          · rw [if_neg ik, if_neg (show ¬ j ≤ k by omega)]
            exact h7 i j hij (by omega)
/-! a message read for what is shown, both sides -/
/-- what telling the nodes leaves of the reference -/
def KTL (s σ : ST) : Prop := (∀ c, c ≠ 0 → (c < 42 ∨ 46 < c) → σ.1 c = s.1 c) ∧ (∀ i, i ≠ 73 → σ.1 0 i = s.1 0 i) ∧ (∀ c, c ≠ 47 → c ≠ 48 → σ.2.1 c = s.2.1 c) ∧ σ.2.2 = s.2.2
theorem KTL.rf {s : ST} : KTL s s := ⟨fun _ _ _ => rfl, fun _ _ => rfl, fun _ _ _ => rfl, rfl⟩
theorem KTL.i {s σ : ST} {c i : Nat} {v : Int32} (hc : c = 0 ∧ i = 73 ∨ 42 ≤ c ∧ c ≤ 46) (h : KTL s σ) : KTL s (stI σ c i v) := by
  refine ⟨fun d a e => (stI_ne (by omega)).trans (h.1 d a e), fun j hj => ?_, h.2.2⟩
  by_cases e : c = 0
  · subst e
    rw [stI_at, upN (by omega)]
    exact h.2.1 j hj
  · rw [stI_ne (fun h => e h.symm)]
    exact h.2.1 j hj
theorem KTL.l {s σ : ST} {c i : Nat} {v : Int64} (hc : c = 47 ∨ c = 48) (h : KTL s σ) : KTL s (stL σ c i v) := ⟨h.1, h.2.1, fun d a e => (stL_ne (by omega)).trans (h.2.2.1 d a e), h.2.2.2⟩
theorem wt_X11_tells_110 {s : ST} {r_X11_tells : Int32 → Int32 → ST → Option (ST)} (h_r_X11_tells : ∀ (x1 : Int32) (x2 : Int32) (σ : ST), KTL s σ → PF st0 (KTL s) (r_X11_tells x1 x2 σ))  : ∀ (n : Nat) (x1 : Int32) (x2 : Int32) (σ : ST), KTL s σ → PF st0 (KTL s) (f_X11_tells_110 r_X11_tells n x1 x2 σ) := by
  intro n
  induction n with
  | zero => intro x1 x2 σ h; rw [f_X11_tells_110]; exact PF.none
  | succ n ih =>
    intro x1 x2 σ h
    rw [f_X11_tells_110]
    exact (PF.ite (fun _ => (PF.ret0 h)) (fun _ => (PF.bnd (h_r_X11_tells _ _ _ h) (fun q1 hq1 => (PF.ite (fun _ => (ih _ _ _ hq1)) (fun _ => PF.none))))))
theorem wt_X11_tells_53 {s : ST} {r_X11_tells : Int32 → Int32 → ST → Option (ST)} {x1 : Int32} {x3 : Int32} {y0 : Int32} {y1 : Int32} {σ : ST} (h_r_X11_tells : ∀ (x1 : Int32) (x2 : Int32) (σ : ST), KTL s σ → PF st0 (KTL s) (r_X11_tells x1 x2 σ))  (h : KTL s σ) : PF st0 (KTL s) (f_X11_tells_53 r_X11_tells x1 x3 y0 y1 σ) := by
  unfold f_X11_tells_53
  exact (PF.ite (fun _ => (PF.ite (fun _ => (PF.ite (fun _ => (PF.bnd (PF.ret0 (KTL.i (by omega) (KTL.i (by omega) h))) (fun z4 hz4 => (PF.bnd (PF.ret0 (KTL.l (by omega) (KTL.i (by omega) hz4))) (fun z5 hz5 => (PF.val (wt_X11_tells_110 h_r_X11_tells _ _ _ _ (KTL.l (by omega) hz5)))))))) (fun _ => PF.none))) (fun _ => PF.none))) (fun _ => PF.none))
theorem wt_X11_tells {s : ST} {r_X11_tells : Int32 → Int32 → ST → Option (ST)} {p0 : Int32} {p1 : Int32} {σ : ST} (h_r_X11_tells : ∀ (x1 : Int32) (x2 : Int32) (σ : ST), KTL s σ → PF st0 (KTL s) (r_X11_tells x1 x2 σ))  (h : KTL s σ) : PF st0 (KTL s) (f_X11_tells r_X11_tells p0 p1 σ) := by
  unfold f_X11_tells
  exact (PF.ite (fun _ => (PF.ite (fun _ => (PF.bnd (PF.ret0 (KTL.i (by omega) (KTL.i (by omega) h))) (fun z3 hz3 => (PF.ite (fun _ => (wt_X11_tells_53 h_r_X11_tells (KTL.i (by omega) hz3))) (fun _ => (wt_X11_tells_53 h_r_X11_tells (KTL.i (by omega) hz3))))))) (fun _ => PF.none))) (fun _ => PF.none))
theorem wtR_X11_tells {s : ST} : ∀ n : Nat, (∀ (p0 : Int32) (p1 : Int32) (σ : ST), KTL s σ → PF st0 (KTL s) ((R_X11_tells n) p0 p1 σ)) := by
  intro n
  induction n with
  | zero => exact fun _ _ _ _ => PF.none
  | succ n ih => exact fun _ _ _ h => wt_X11_tells ih  h
theorem wt_T_X11_tells {s : ST} {p0 : Int32} {p1 : Int32} {σ : ST} (h : KTL s σ) : PF st0 (KTL s) (f_T_X11_tells p0 p1 σ) := (wtR_X11_tells FRB) _ _ _  h
/-- what is told of a failure -/
def KTF (s σ : ST) : Prop := (∀ c, c ≠ 0 → c ≠ 49 → σ.1 c = s.1 c) ∧ (∀ i, i ≠ 73 → (i < 81 ∨ 83 < i) → σ.1 0 i = s.1 0 i) ∧ σ.2 = s.2
/-- one tree read, and told -/
def RFT (t q : Nat) (qa qb : Int32 × ST) : Prop := qb.1 = 0 ∧ ∃ w1 w2 : ST, RDT 89 t q qa (0, w1) ∧ KTF w1 w2 ∧ (w2.1 0 73).toInt = 0 ∧ f_T_X11_tells 0 (-1) w2 = some qb.2 ∧ KTL w2 qb.2
/-- a message read to be shown: what stays, and what it is -/
def RFN (t q : Nat) (qa qb : Int32 × ST) : Prop := (qa.1 = qb.1 ∧ (qa.1.toInt = -2 ∨ qa.1.toInt = -3) ∧ (qa.2.1 t 1).toInt = 0 ∧ (qb.2.1 0 73).toInt = 0) ∨ RFT t q qa qb
theorem q_readsFor54 (x3 : Int32) (τ : ST) : ∀ (n : Nat) (x4 : Int32) (z : ST), KTF τ z ∧ z.1 0 73 = τ.1 0 73 → QT (f_X11_readsFor_54 n x3 x4 z) (fun qb => qb.1 = x3 ∧ ((x3 = 0 ∧ ∃ w2, (KTF τ w2 ∧ w2.1 0 73 = τ.1 0 73) ∧ f_T_X11_tells 0 (-1) w2 = some qb.2 ∧ KTL w2 qb.2) ∨ ¬ x3 = 0 ∧ KTF τ qb.2 ∧ qb.2.1 0 73 = τ.1 0 73)) := by
  intro n
  induction n with
  | zero =>
    intro x4 z _
    rw [f_X11_readsFor_54]
    exact QT.none
  | succ n ih =>
    intro x4 z hz
    rw [f_X11_readsFor_54]
    refine QT.ite (fun _ => ?_) (fun _ => ?_)
    · refine QT.ite (fun h3 => ?_) (fun h3 => QT.ret ⟨rfl, .inr ⟨h3, hz⟩⟩)
      exact QT.bnd (Q := fun w => f_T_X11_tells 0 (-1) z = some w ∧ KTL z w) (fun w e => ⟨e, wt_T_X11_tells KTL.rf w e⟩) (fun w hw => QT.ret ⟨rfl, .inl ⟨h3, z, hz, hw.1, hw.2⟩⟩)
    · refine QT.grd (fun _ => ih _ _ ⟨⟨fun c c0 c49 => (stI_ne c49).trans (hz.1.1 c c0 c49), fun i i1 i2 => ?_, hz.1.2.2⟩, ?_⟩)
      · rw [stI_ne (by omega)]
        exact hz.1.2.1 i i1 i2
      · rw [stI_ne (by omega)]
        exact hz.2
/-- read for what is shown: the class's latest reading -/
theorem ab_readsFor {σ τ : ST} (hZ : MZ τ σ) (hX : EHX σ) (hM : MSG σ τ) (hK : KPR σ τ) (hcap : (σ.1 50 0).toInt = 400) (p0 p1 : Int32) {m q : Nat} (h0 : p0.toInt = m) (hm : m < 4) (hw : ¬ (σ.1 40 m).toInt = -1) (h1 : p1.toInt = q) (hq : (q : Int) < (τ.1 0 32).toInt) : QT ((f_X9_use (σ.1 40 m) p1 σ).bind fun s => f_X4_run 89 50 p0 p1 s) (fun qa => QT (f_X11_readsFor p0 p1 τ) (fun qb => (MSG qa.2 qb.2 ∧ KPR qa.2 qb.2) ∧ KTA σ qa.2 ∧ (qa.2.1 50 0).toInt = 400 ∧ RFN 50 q qa qb)) := by
  have l0 := li_0
  have nm : p0.toNatClampNeg = m := nC h0
  obtain ⟨hm1, _⟩ := hM m hm
  have hIB := hZ.2.1.2.2
  unfold f_X11_readsFor
  refine QT.sw ?_
  refine QT.grd (fun _ => ?_)
  rw [nm, ← hm1]
  refine QT.bnd (q_uses _ τ hK.1.2) (fun u hu => ?_)
  refine QT.sw ?_
  refine QT.bnd (a_use _ p1 σ (by rw [hK.1.1]; exact hK.1.2)) (fun s hs => ?_)
  have hK2 := hK.use hs hu
  obtain ⟨s1, s2, s3, _⟩ := hs
  obtain ⟨u1, u2, u3, _⟩ := hu
  have kTA : KTA σ s := fun c c1 c2 => ⟨s1 c (by omega) (by omega), by rw [s2]⟩
  have kTB : KTB τ u := ⟨fun c hc => u1 c (fun e => by rw [e] at hc; revert hc; decide) (fun e => by rw [e] at hc; revert hc; decide), fun i _ => by rw [u1 2 (by omega) (by omega), u1 3 (by omega) (by omega)]; exact ⟨rfl, rfl⟩, fun c _ => by rw [u2]⟩
  have u32 : u.1 0 32 = τ.1 0 32 := u3 32 (by omega) (by omega) (by omega)
  have hMs : MSG s u := hM.eq (s1 38 (by omega) (by omega)) (s1 39 (by omega) (by omega)) (s1 40 (by omega) (by omega)) (u1 32 (by omega) (by omega)) (u1 33 (by omega) (by omega)) (u1 34 (by omega) (by omega))
  have hIBu : IB u := by
    have hk := hK2.1
    have c9 : CH [55] [92, 93, 94] τ u := ⟨fun c c0 c55 => u1 c c0 (fun e => c55 (by rw [e]; decide)), fun i hi => by
      simp only [List.mem_cons, List.not_mem_nil, or_false, not_or] at hi
      exact u3 i hi.1 hi.2.1 hi.2.2, by rw [u2], by rw [u2], by rw [u2], by rw [u2], by rw [u2]⟩
    obtain ⟨i1, i2, i3, i4, i5, i6, i7, i8, i9, i10⟩ := hIB
    have e0 : ∀ i, i ≠ 92 → i ≠ 93 → i ≠ 94 → u.1 0 i = τ.1 0 i := u3
    have ec : ∀ c, c ≠ 0 → c ≠ 55 → u.1 c = τ.1 c := u1
    refine ⟨?_, ?_, ?_, ?_, ?_, ?_, ?_, ?_, ?_, ?_⟩
    · unfold PLs at i1 ⊢
      rw [e0 32 (by omega) (by omega) (by omega), ec 2 (by omega) (by omega), ec 3 (by omega) (by omega), ec 4 (by omega) (by omega), ec 5 (by omega) (by omega), ec 8 (by omega) (by omega), ec 11 (by omega) (by omega), ec 15 (by omega) (by omega), ec 19 (by omega) (by omega)]
      exact i1
    · unfold PB at i2 ⊢
      rw [ec 35 (by omega) (by omega)]
      exact i2
    · rw [ec 32 (by omega) (by omega), e0 32 (by omega) (by omega) (by omega)]
      exact i3
    · rw [ec 33 (by omega) (by omega)]
      exact i4
    · rw [ec 38 (by omega) (by omega)]
      exact i5
    · rw [e0 68 (by omega) (by omega) (by omega)]
      exact i6
    · rw [e0 73 (by omega) (by omega) (by omega)]
      exact i7
    · rw [e0 83 (by omega) (by omega) (by omega)]
      exact i8
    · exact hk.2
    · unfold TH at i10 ⊢
      rw [ec 45 (by omega) (by omega)]
      exact i10
  have hZs : MZ τ s := hZ.to kTA (fun c hc => s1 c (fun e => by rw [e] at hc; revert hc; decide) (fun e => by rw [e] at hc; revert hc; decide)) ⟨by rw [s2], by rw [s2]⟩
  have hZu : MZ u s := hZs.yok ⟨kTB.kr, u32, hIBu⟩
  have e40 : s.1 40 = σ.1 40 := s1 40 (by omega) (by omega)
  have hrun := ab_run (b := 89) (t := 50) (.inl ⟨rfl, rfl⟩) hZu (EHB.at hX kTA) hMs (by rw [s1 50 (by omega) (by omega), hcap]; omega) p0 p1 h0 hm (by rw [e40]; exact hw) h1 (by rw [u32]; exact hq)
  refine QT.bndB hrun (fun qa q4 h4 => ?_)
  obtain ⟨⟨kN, kM⟩, hR⟩ := h4
  obtain ⟨v4, w1⟩ := q4
  dsimp only at kM ⊢
  refine QT.lt (fun z6 hz6 => ?_)
  have z0 : (stI z6 0 83 (z6.1 0 68)).1 0 = upd (upd (upd (upd (w1.1 0) 73 0) 81 ((stI w1 0 73 0).1 0 66)) 82 ((stI (stI w1 0 73 0) 0 81 ((stI w1 0 73 0).1 0 66)).1 0 67)) 83 (z6.1 0 68) := by
    rw [stI_at, hz6, stI_at, stI_at, stI_at]
  have kF : KTF w1 (stI z6 0 83 (z6.1 0 68)) := by
    refine ⟨fun c c0 _ => ?_, fun i i1 i2 => ?_, ?_⟩
    · rw [stI_ne c0, hz6, stI_ne c0, stI_ne c0, stI_ne c0]
    · rw [z0, upN (by omega), upN (by omega), upN (by omega), upN (by omega)]
    · rw [hz6]
      rfl
  have z73 : ((stI z6 0 83 (z6.1 0 68)).1 0 73).toInt = 0 := by
    rw [z0, upN (by omega), upN (by omega), upN (by omega), upA rfl]
    exact l0
  clear z0 hz6
  generalize stI z6 0 83 (z6.1 0 68) = z at kF z73
  have kMz : ∀ z2, KTF z z2 → KTF w1 z2 := fun z2 k => ⟨fun c a d => (k.1 c a d).trans (kF.1 c a d), fun i a d => (k.2.1 i a d).trans (kF.2.1 i a d), k.2.2.trans kF.2.2⟩
  have fr : ∀ w2, (∀ c, c ≠ 0 → (c < 42 ∨ 49 < c) → w2.1 c = w1.1 c) → (∀ i, i ≠ 73 → (i < 81 ∨ 83 < i) → w2.1 0 i = w1.1 0 i) → (MSG qa.2 w2 ∧ KPR qa.2 w2) := fun w2 f1 f2 => by
    obtain ⟨n1, n2, n3, _⟩ := kN
    obtain ⟨m1, m2⟩ := kM
    have cM : ∀ c, c ≠ 0 → 30 < c → (c < 42 ∨ 49 < c) → c ≠ 35 → c ≠ 36 → c ≠ 41 → w2.1 c = u.1 c := fun c c0 c30 c42 c35 c36 c41 => (f1 c c0 c42).trans (m1 c c0 (by omega) (by omega) (by omega) (by omega) c35 c36 c41)
    refine ⟨hMs.eq (n1 38 (by omega) (by omega)) (n1 39 (by omega) (by omega)) (n1 40 (by omega) (by omega)) (cM 32 (by omega) (by omega) (by omega) (by omega) (by omega) (by omega)) (cM 33 (by omega) (by omega) (by omega) (by omega) (by omega) (by omega)) (cM 34 (by omega) (by omega) (by omega) (by omega) (by omega) (by omega)), ?_⟩
    have e0 : ∀ i, 90 < i → w2.1 0 i = u.1 0 i := fun i hi => (f2 i (by omega) (by omega)).trans (m2 i (by
      simp only [List.mem_cons, List.not_mem_nil, or_false, not_or]
      omega))
    unfold KPR at hK2 ⊢
    rw [n1 48 (by omega) (by omega), n1 49 (by omega) (by omega), cM 55 (by omega) (by omega) (by omega) (by omega) (by omega) (by omega), e0 92 (by omega), e0 93 (by omega), e0 94 (by omega)]
    exact hK2
  have kTq : KTA σ qa.2 := fun c c1 c2 => ⟨(kN.1 c (by omega) (by omega)).trans (kTA c c1 c2).1, (kN.2.2.1 c (by omega) (by omega) (by omega)).trans (kTA c c1 c2).2⟩
  have hcq : (qa.2.1 50 0).toInt = 400 := by
    rw [kN.2.1 0 (by omega), s1 50 (by omega) (by omega)]
    exact hcap
  refine (q_readsFor54 v4 z FU 0 z ⟨⟨fun _ _ _ => rfl, fun _ _ _ => rfl, rfl⟩, rfl⟩).mono (fun qb hqb => ?_)
  obtain ⟨b1, hqb⟩ := hqb
  rcases hqb with ⟨v0, w2, ⟨k1, k2⟩, k3, k4⟩ | ⟨v0, k1, k2⟩
  · have hR : RDT 89 50 q qa (v4, w1) := by
      rcases hR with ⟨e1, e2, _⟩ | hR
      · have e1 : qa.1 = v4 := e1
        rw [e1, v0] at e2
        omega
      · exact hR
    have k9 := kMz w2 k1
    refine ⟨fr qb.2 (fun c c0 c1 => (k4.1 c c0 (by omega)).trans (k9.1 c c0 (by omega))) (fun i i1 i2 => (k4.2.1 i i1).trans (k9.2.1 i i1 i2)), kTq, hcq, .inr ⟨by rw [b1]; exact v0, w1, w2, ⟨rfl, hR.2⟩, k9, by rw [k2]; exact z73, k3, k4⟩⟩
  · have k9 := kMz qb.2 k1
    refine ⟨fr qb.2 (fun c c0 c1 => k9.1 c c0 (by omega)) (fun i i1 i2 => k9.2.1 i i1 i2), kTq, hcq, .inl ?_⟩
    rcases hR with ⟨e1, e2, e3⟩ | hR
    · exact ⟨by rw [b1]; exact e1, e2, e3, by rw [k2]; exact z73⟩
    · exact absurd hR.1 v0
