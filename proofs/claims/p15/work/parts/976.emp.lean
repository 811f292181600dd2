/-! records of no bytes: the reference goes through them -/
/-- nothing is read -/
def NRD (τ w : ST) : Prop := (∀ c, c ≠ 0 → c ≠ 36 → w.1 c = τ.1 c) ∧ (∀ i, i ≠ 57 → w.1 0 i = τ.1 0 i) ∧ ∀ c, c ≠ 0 → w.2.1 c = τ.2.1 c
theorem NRD.rf {τ : ST} : NRD τ τ := ⟨fun _ _ _ => rfl, fun _ _ => rfl, fun _ _ => rfl⟩
theorem NRD.trans {τ w z : ST} (h : NRD τ w) (k : NRD w z) : NRD τ z := ⟨fun c a b => (k.1 c a b).trans (h.1 c a b), fun i a => (k.2.1 i a).trans (h.2.1 i a), fun c a => (k.2.2 c a).trans (h.2.2 c a)⟩
theorem STB.nrd {τ w : ST} (h : STB τ w) : NRD τ w := ⟨h.1, h.2.1, fun c _ => by rw [h.2.2]⟩
theorem NRD.krb {τ w : ST} (h : NRD τ w) : KRB τ w := ⟨fun c h0 _ _ h36 _ => h.1 c h0 h36, fun i _ h57 _ _ _ _ _ => h.2.1 i h57, fun c h0 _ _ => h.2.2 c h0⟩
theorem RSK.nrd {b t m L : Nat} {S T : ST} {x : Nat} {σ τ w : ST} (h : RCX b t m S T σ τ x) (hB : NRD τ w) : RSK b t m L S T x σ τ σ w := by
  obtain ⟨⟨h1, h2⟩, hR, h3, h4, h5⟩ := h
  refine ⟨⟨⟨h1, h2.trans hB.krb⟩, ?_, h3, ?_, h5⟩, ⟨fun _ _ _ => rfl, rfl, fun c _ _ => hB.1 c (by omega) (by omega), hB.2.2 21 (by omega), hB.2.2 22 (by omega)⟩, SRK.rf⟩
  · unfold RPS at hR ⊢
    rw [hB.2.1 63 (by omega), hB.2.1 64 (by omega), hB.2.1 65 (by omega), hB.1 34 (by omega) (by omega)]
    exact hR
  · rw [hB.2.1 46 (by omega)]
    exact h4
/-- a value of no bytes: the reference's -/
def cE0 (p : Nat) (S T : ST) (rb : FRD) : Prop := ∀ (x u lev pb pl' : Int32) (h : Int) (L d : Nat) (τ : ST), KRB T τ → lev.toInt = L → TY p (T.1 8 p).toInt S T d x u → EHT S x h → (L : Int) + h < 31 → QT (rb u (-1) lev pb pl' τ) (fun w => w.1 = 1 ∧ NRD τ w.2)
/-- a record of no bytes -/
def cE1 (p : Nat) (S T : ST) (rS : FRI) : Prop := ∀ (u lev xB : Int32) (L w : Nat) (τ : ST), KRB T τ → lev.toInt = L → (0 ≤ u.toInt ∧ u.toInt < 800) → (T.1 3 u.toNatClampNeg).toInt = w → (w : Int) < (T.1 8 p).toInt → 1 ≤ (S.1 10 (6 * p + w)).toInt → (L : Int) + (S.1 10 (6 * p + w)).toInt < 31 → QT (rS u (-1) lev xB τ) (fun z => z.1 = 1 ∧ NRD τ z.2)
theorem e1_top {p q : Nat} {S T : ST} {rb : FRD} {rI rS : FRI} (hS : RST p q S T) (hX : EHX S) (h0 : cE0 p S T rb) : cE1 p S T (f_X11_readsRecord rb rI rS) := by
  intro u lev xB L w τ hB hlev hu hw hw8 hh hL
  have l0 := li_0
  have l1 := li_1
  have l6 := li_6
  have l8 := li_8
  have lm := li_m1
  have hPQ := hS.1
  have hp6 := hPQ.1
  have e53 : (τ.1 0 53).toInt = p := by
    rw [hB.2.1 53 (by omega) (by omega) (by omega) (by omega) (by omega) (by omega) (by omega)]
    exact hPQ.2.1.1
  have e3 : τ.1 3 = T.1 3 := hB.ty.2.1
  have ac := hPQ.2.2.1.1.acc hw8
  have cP := hPQ.2.2.1.1.cnt
  obtain ⟨_, a2, a3, _, a5⟩ := ac
  unfold bI at a3
  have hE := (hX (6 * p + w) (by omega)).resolve_left (fun h => by rw [h] at hh; omega)
  obtain ⟨_, hE⟩ := hE
  unfold f_X11_readsRecord f_X11_readsRecord_38
  refine QT.grd (fun _ => ?_)
  refine QT.ile (fun h => by omega) (fun _ => ?_)
  rw [e3]
  have em := mlE (k := 6) (y := τ.1 0 53) 6 l6 (by omega) (by omega)
  have ea := il_addE (x := 6 * τ.1 0 53) (y := T.1 3 u.toNatClampNeg) (by omega) (by omega)
  generalize hx5 : 6 * τ.1 0 53 + T.1 3 u.toNatClampNeg = x5 at ea
  have n5 : x5.toNatClampNeg = 6 * p + w := nC (by omega)
  have key : ∀ (M i : Nat) (x8 : Int32) (τ1 : ST), NRD τ τ1 → x8.toInt = i → (i : Int) ≤ (T.1 11 (6 * p + w)).toInt → QT (f_X11_readsRecord_43 rb rI rS M u (-1) lev xB x5 0 x8 τ1) (fun z => z.1 = 1 ∧ NRD τ z.2) := by
    intro M
    induction M with
    | zero =>
      intro i x8 τ1 _ _ _
      rw [f_X11_readsRecord_43]
      exact QT.none
    | succ M ih =>
      intro i x8 τ1 h1 h8 hi
      have e11 : τ1.1 11 = T.1 11 := (hB.trans h1.krb).fl.2.1
      have e15 : τ1.1 15 = T.1 15 := (hB.trans h1.krb).fl.2.2.1
      rw [f_X11_readsRecord_43, n5, e11]
      refine QT.grd (fun _ => ?_)
      refine QT.ile (fun hle => ?_) (fun hlt => ?_)
      · show QT (f_X11_readsRecord_217 rb rI rS (99999 + 1) u (-1) xB 0 0 τ1) _
        rw [f_X11_readsRecord_217]
        exact QT.ilt (fun _ => QT.ret ⟨rfl, h1⟩) (fun h => by omega)
      refine QT.bnd (q_enters _ τ1) (fun τ2 hτ2 => ?_)
      show QT (f_X11_readsRecord_83 rb rI rS (f_X11_readsRecord_43 rb rI rS M) (99999 + 1) u (-1) lev xB x5 0 x8 ((8 * x5) + x8) (τ1.1 0 64) 0 0 τ2) _
      rw [f_X11_readsRecord_83]
      refine QT.ilt (fun _ => ?_) (fun h => by omega)
      unfold f_X11_readsRecord_171
      refine QT.ite (fun _ => ?_) (fun h => absurd rfl h)
      have em8 := mlE (k := 8) (y := x5) 8 l8 (by omega) (by omega)
      have ea8 := il_addE (x := 8 * x5) (y := x8) (by omega) (by omega)
      have na : (8 * x5 + x8).toNatClampNeg = 8 * (6 * p + w) + i := nC (by omega)
      have e15' : τ2.1 15 = T.1 15 := (hτ2.1 15 (by omega) (by omega)).trans e15
      rw [na, e15']
      refine QT.grd (fun _ => ?_)
      obtain ⟨⟨_, _⟩, _, h3, _⟩ := a5 i (by omega)
      have hTY : TY p (T.1 8 p).toInt S T 4 (S.1 13 (8 * (6 * p + w) + i)) (T.1 15 (8 * (6 * p + w) + i)) := h3
      have hEf := hE i (by rw [a2]; omega)
      have el := il_addE (x := lev) (y := 1) (by omega) (by omega)
      have h2 : NRD τ τ2 := h1.trans hτ2.nrd
      refine QT.bnd (h0 (S.1 13 (8 * (6 * p + w) + i)) _ (lev + 1) (-1) 0 _ (L + 1) 4 τ2 (hB.trans h2.krb) (by omega) hTY hEf (by omega)) (fun z hz => ?_)
      obtain ⟨z1, z2⟩ := hz
      rw [z1]
      refine QT.ite (fun h => absurd h one_ne) (fun _ => ?_)
      unfold f_X11_readsRecord_198
      have e9 := il_addE (x := x8) (y := 1) (by omega) (by omega)
      have hz3 : NRD z.2 (stI z.2 0 57 (z.2.1 0 57 - 1)) := STB.i.nrd
      exact ih (i + 1) (x8 + 1) _ ((h2.trans z2).trans hz3) (by omega) (by omega)
  exact key FU 0 0 τ NRD.rf l0 (by omega)
theorem e0_top {p q : Nat} {S T : ST} {rb : FRD} {rI rS : FRI} (hS : RST p q S T) (h1 : cE1 p S T rS) : cE0 p S T (f_X11_reads rb rI rS) := by
  intro x u lev pb pl' h L d τ hB hlev hX hE hL
  have l0 := li_0
  have l1 := li_1
  have l2 := li_2
  have l3 := li_3
  have l4 := li_4
  have l5 := li_5
  have l6 := li_6
  have l7 := li_7
  have l8 := li_8
  have lm := li_m1
  have l31 : (31 : Int32).toInt = 31 := by decide
  obtain ⟨d1, hd1⟩ : ∃ d1, d = d1 + 1 := by
    cases d with
    | zero => exact hX.elim
    | succ d1 => exact ⟨d1, rfl⟩
  subst hd1
  have hG := TG.of hX
  have hs := hG.2.1
  have ru := hX.rng
  have e2 : τ.1 2 = T.1 2 := hB.ty.1
  have hh : 0 ≤ h := by
    rcases hE with ⟨_, b⟩ | ⟨_, _, _, _, _, _⟩ <;> omega
  have hsr : (T.1 2 u.toNatClampNeg).toInt = 0 ∨ (T.1 2 u.toNatClampNeg).toInt = 7 := by
    rw [← hs]
    rcases hE with ⟨a, _⟩ | ⟨a, _⟩
    · exact .inl a
    · exact .inr a
  unfold f_X11_reads
  refine QT.ilt (fun _ => ?_) (fun h => by omega)
  refine QT.grd (fun _ => ?_)
  rw [e2]
  refine QT.ieq (fun h => by omega) (fun _ => ?_)
  refine QT.ilt (fun _ => ?_) (fun h => by omega)
  unfold f_X11_reads_157 f_X11_reads_158 f_X11_reads_180
  refine QT.ile (fun h => by omega) (fun _ => ?_)
  refine QT.ilt (fun _ => ?_) (fun h => by omega)
  unfold f_X11_reads_227
  rw [e2]
  refine QT.grd (fun hu => ?_)
  refine QT.ieq (fun h => by omega) (fun _ => ?_)
  refine QT.ieq (fun h7 => ?_) (fun h7 => ?_)
  · obtain ⟨w, w1, w2, w3⟩ := hG.rec7 (by omega)
    have hE' : 1 ≤ (S.1 10 (6 * p + w)).toInt ∧ (S.1 10 (6 * p + w)).toInt ≤ h := by
      rcases hE with ⟨a, _⟩ | ⟨_, r, _, b, c, d⟩
      · rw [hs] at a
        omega
      · have er : r = 6 * p + w := by omega
        rw [er] at c d
        exact ⟨c, d⟩
    refine QT.bnd (h1 u lev (-1) L w τ hB hlev hu w1 w2 hE'.1 (by omega)) (fun z hz => QT.grd (fun _ => QT.ret hz))
  · have hs0 : (T.1 2 u.toNatClampNeg).toInt = 0 := by omega
    have hl : QT (f_X11_readsLeaf u (-1) (-1) τ) (fun w => w.1 = 1 ∧ NRD τ w.2) := by
      unfold f_X11_readsLeaf f_X11_readsLeaf_108
      rw [e2]
      refine QT.grd (fun _ => ?_)
      refine QT.ieq (fun h => by omega) (fun _ => ?_)
      refine QT.ieq (fun h => by omega) (fun _ => ?_)
      refine QT.ieq (fun h => by omega) (fun _ => ?_)
      refine QT.ieq (fun h => by omega) (fun _ => ?_)
      refine QT.ieq (fun h => by omega) (fun _ => ?_)
      refine QT.ite (fun h => absurd h one_ne) (fun _ => ?_)
      refine QT.ilt (fun _ => ?_) (fun h => by omega)
      refine QT.grd (fun _ => QT.ret ⟨rfl, fun _ _ _ => rfl, fun _ _ => rfl, fun c hc => ?_⟩)
      exact stL_ne hc
    exact QT.bnd hl (fun z hz => QT.grd (fun _ => QT.ret hz))
theorem e_all {p q : Nat} {S T : ST} (hS : RST p q S T) (hX : EHX S) : ∀ M, cE0 p S T (R_X11_reads M).1 ∧ cE1 p S T (R_X11_reads M).2.2 := by
  intro M
  induction M with
  | zero =>
    refine ⟨?_, ?_⟩
    · intro x u lev pb pl' h L d τ _ _ _ _ _
      exact QT.none
    · intro u lev xB L w τ _ _ _ _ _ _ _
      exact QT.none
  | succ M ih => exact ⟨e0_top hS ih.2, e1_top hS hX ih.1⟩
theorem c_emp {b t m p q : Nat} {S T : ST} (hS : RST p q S T) (hSS : RSS b t S) (hX : EHX S) (M : Nat) : cEMP b t m p q S T (R_X11_reads M).1 := by
  intro x u lev L d xr σ τ hL hlev hY hd hC
  have lm := li_m1
  have l31 : (31 : Int32).toInt = 31 := by decide
  unfold f_X4_isEmptyThere
  have k := hC.1.1.kta
  refine QT.bnd (a_eh x σ (EHB.at hX k)) (fun q hq => ?_)
  obtain ⟨v, s⟩ := q
  obtain ⟨e, hv⟩ := hq
  have e : s = σ := e
  have hv : v = -1 ∨ (EHT σ x v.toInt ∧ 0 ≤ v.toInt ∧ (v.toInt ≤ 1296 ∨ v.toInt = 0)) := hv
  rw [e]
  dsimp only
  refine QT.ite (fun _ => QT.ret ⟨rfl, fun h => absurd rfl h⟩) (fun hne => ?_)
  obtain ⟨h1, h2, h3⟩ := hv.resolve_left hne
  have ea := il_addE (x := lev) (y := v) (by omega) (by omega)
  refine QT.ile (fun _ => QT.ret ⟨rfl, fun h => absurd rfl h⟩) (fun hlt => QT.ret ⟨rfl, fun _ pb pl' => ?_⟩)
  exact ((e_all hS hX M).1 x u lev pb pl' v.toInt L d τ hC.1.2 hlev hY (h1.ba k) (by omega)).mono (fun w hw => ⟨hw.1, RSK.nrd hC hw.2⟩)
/-- reading at every level, both sides -/
theorem ck {b t m p q : Nat} {S T : ST} (hb : BT b t) (hS : RST p q S T) (hSS : RSS b t S) (hX : EHX S) : ∀ N, CKN b t m p q S T N := ck_all hb hS hSS (fun M => c_emp hS hSS hX M)
