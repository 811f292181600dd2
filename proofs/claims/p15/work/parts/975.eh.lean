/-! records of no bytes: how high the class tells them -/
/-- a type of no bytes, so high at the most -/
def EHT (S : ST) (x : Int32) (h : Int) : Prop := ((S.1 15 x.toNatClampNeg).toInt = 0 ∧ 0 ≤ h) ∨ ((S.1 15 x.toNatClampNeg).toInt = 7 ∧ ∃ r : Nat, r < 36 ∧ (S.1 16 x.toNatClampNeg).toInt = r ∧ 1 ≤ (S.1 10 r).toInt ∧ (S.1 10 r).toInt ≤ h)
/-- the heights told, up to n -/
def EHB (S : ST) (n : Int) : Prop := ∀ r : Nat, r < 36 → S.1 10 r = -1 ∨ ((1 ≤ (S.1 10 r).toInt ∧ (S.1 10 r).toInt ≤ n) ∧ ∀ j : Nat, (j : Int) < (S.1 7 r).toInt → EHT S (S.1 13 (8 * r + j)) ((S.1 10 r).toInt - 1))
def EHX (S : ST) : Prop := EHB S 1296
theorem EHT.up {S : ST} {x : Int32} {h k : Int} (H : EHT S x h) (hk : h ≤ k) : EHT S x k := by
  rcases H with ⟨a, b⟩ | ⟨a, r, b, c, d, e⟩
  · exact .inl ⟨a, by omega⟩
  · exact .inr ⟨a, r, b, c, d, by omega⟩
theorem EHB.up {S : ST} {m n : Int} (H : EHB S m) (hk : m ≤ n) : EHB S n := fun r hr => (H r hr).imp id (fun h => ⟨⟨h.1.1, by have := h.1.2; omega⟩, h.2⟩)
theorem EHT.at {S σ : ST} {x : Int32} {h : Int} (H : EHT S x h) (k : KTA S σ) : EHT σ x h := by
  unfold EHT at H ⊢
  rw [(k 15 (by omega) (by omega)).1, (k 16 (by omega) (by omega)).1, (k 10 (by omega) (by omega)).1]
  exact H
theorem EHT.ba {S σ : ST} {x : Int32} {h : Int} (H : EHT σ x h) (k : KTA S σ) : EHT S x h := by
  unfold EHT at H ⊢
  rw [(k 15 (by omega) (by omega)).1, (k 16 (by omega) (by omega)).1, (k 10 (by omega) (by omega)).1] at H
  exact H
theorem EHB.at {S σ : ST} {n : Int} (H : EHB S n) (k : KTA S σ) : EHB σ n := by
  intro r hr
  have := H r hr
  rw [(k 10 (by omega) (by omega)).1, (k 7 (by omega) (by omega)).1, (k 13 (by omega) (by omega)).1]
  exact this.imp id (fun h => ⟨h.1, fun j hj => (h.2 j hj).at k⟩)
theorem qa_isType (x : Int32) (σ : ST) : QT (f_X5_isType 4 x σ) (fun q => q.2 = σ) := by
  unfold f_X5_isType
  exact QT.ite (fun _ => QT.ret rfl) (fun _ => QT.ite (fun _ => QT.ret rfl) (fun _ => QT.ite (fun _ => QT.ret rfl) (fun _ => QT.ret rfl)))
theorem qa_sortOf (x : Int32) (σ : ST) : QT (f_X5_sortOf 4 x σ) (fun q => q.2 = σ ∧ (q.1 = -1 ∨ q.1 = σ.1 15 x.toNatClampNeg)) := by
  unfold f_X5_sortOf
  refine QT.bnd (qa_isType x σ) (fun q hq => ?_)
  obtain ⟨v, s⟩ := q
  have e : s = σ := hq
  rw [e]
  exact QT.ite (fun _ => QT.ret ⟨rfl, .inl rfl⟩) (fun _ => QT.grd (fun _ => QT.ret ⟨rfl, .inr rfl⟩))
theorem qa_innerOf (x : Int32) (σ : ST) : QT (f_X5_innerOf 4 x σ) (fun q => q.2 = σ ∧ (q.1 = -1 ∨ q.1 = σ.1 16 x.toNatClampNeg)) := by
  unfold f_X5_innerOf
  refine QT.bnd (qa_isType x σ) (fun q hq => ?_)
  obtain ⟨v, s⟩ := q
  have e : s = σ := hq
  rw [e]
  exact QT.ite (fun _ => QT.ret ⟨rfl, .inl rfl⟩) (fun _ => QT.grd (fun _ => QT.ret ⟨rfl, .inr rfl⟩))
theorem qa_isRecord (x : Int32) (σ : ST) : QT (f_X5_isRecord x σ) (fun q => q.2 = σ) := by
  unfold f_X5_isRecord
  exact QT.ite (fun _ => QT.ret rfl) (fun _ => QT.ite (fun _ => QT.ret rfl) (fun _ => QT.ret rfl))
theorem a_eh {n : Int} (x : Int32) (σ : ST) (hE : EHB σ n) : QT (f_X5_emptyHeight 4 x σ) (fun q => q.2 = σ ∧ (q.1 = -1 ∨ (EHT σ x q.1.toInt ∧ 0 ≤ q.1.toInt ∧ (q.1.toInt ≤ n ∨ q.1.toInt = 0)))) := by
  have l0 := li_0
  have l7 := li_7
  have lm := li_m1
  unfold f_X5_emptyHeight
  refine QT.bnd (qa_sortOf x σ) (fun q1 h1 => ?_)
  obtain ⟨v1, s1⟩ := q1
  obtain ⟨e, h1⟩ := h1
  have e : s1 = σ := e
  have h1 : v1 = -1 ∨ v1 = σ.1 15 x.toNatClampNeg := h1
  rw [e]
  dsimp only
  refine QT.ite (fun h0 => QT.ret ?_) (fun h0 => ?_)
  · have e15 : (σ.1 15 x.toNatClampNeg).toInt = 0 := by
      rcases h1 with h1 | h1
      · rw [h1] at h0
        exact absurd h0 (by decide)
      · rw [← h1, h0]
        exact l0
    exact ⟨rfl, .inr ⟨.inl ⟨e15, by rw [l0]; omega⟩, by rw [l0]; omega, .inr l0⟩⟩
  refine QT.bnd (qa_innerOf x σ) (fun q2 h2 => ?_)
  obtain ⟨v2, s2⟩ := q2
  obtain ⟨e, h2⟩ := h2
  have e : s2 = σ := e
  have h2 : v2 = -1 ∨ v2 = σ.1 16 x.toNatClampNeg := h2
  rw [e]
  dsimp only
  refine QT.bnd (qa_sortOf x σ) (fun q3 h3 => ?_)
  obtain ⟨v3, s3⟩ := q3
  obtain ⟨e, h3⟩ := h3
  have e : s3 = σ := e
  have h3 : v3 = -1 ∨ v3 = σ.1 15 x.toNatClampNeg := h3
  rw [e]
  dsimp only
  refine QT.ite (fun h7 => ?_) (fun _ => QT.ret ⟨rfl, .inl rfl⟩)
  have e15 : (σ.1 15 x.toNatClampNeg).toInt = 7 := by
    rcases h3 with h3 | h3
    · rw [h3] at h7
      exact absurd h7 (by decide)
    · rw [← h3, h7]
      exact l7
  refine QT.bnd (qa_isRecord v2 σ) (fun q4 h4 => ?_)
  obtain ⟨v4, s4⟩ := q4
  have e : s4 = σ := h4
  rw [e]
  dsimp only
  refine QT.ite (fun _ => QT.ret ⟨rfl, .inl rfl⟩) (fun _ => QT.grd (fun hr => QT.ret ⟨rfl, ?_⟩))
  show σ.1 10 v2.toNatClampNeg = -1 ∨ _
  have nr := nN_ hr.1
  have e16 : v2 = σ.1 16 x.toNatClampNeg := by
    rcases h2 with h2 | h2
    · rw [h2] at hr
      omega
    · exact h2
  rcases hE v2.toNatClampNeg (by omega) with h | ⟨⟨a, b⟩, _⟩
  · exact .inl h
  · refine .inr ⟨.inr ⟨e15, v2.toNatClampNeg, by omega, ?_, a, Int.le_refl _⟩, ?_, .inl b⟩
    · rw [← e16]
      omega
    · show 0 ≤ (σ.1 10 v2.toNatClampNeg).toInt
      omega
/-- the height of a record by those of its fields -/
theorem a_hof {n : Int} {σ : ST} (hE : EHB σ n) (hn : 0 ≤ n ∧ n ≤ 1296) (x1 : Int32) {r : Nat} (h1 : x1.toInt = r) (hr : r < 36) (h8 : (σ.1 7 r).toInt ≤ 8) : ∀ (N i : Nat) (x2 x3 : Int32), x3.toInt = i → (0 ≤ x2.toInt ∧ x2.toInt ≤ n) → (∀ j : Nat, j < i → EHT σ (σ.1 13 (8 * r + j)) x2.toInt) → QT (f_X5_heightOfFields_4 4 N x1 x2 x3 σ) (fun q => q.2 = σ ∧ (q.1 = -1 ∨ ((1 ≤ q.1.toInt ∧ q.1.toInt ≤ n + 1) ∧ ∀ j : Nat, (j : Int) < (σ.1 7 r).toInt → EHT σ (σ.1 13 (8 * r + j)) (q.1.toInt - 1)))) := by
  have l0 := li_0
  have l1 := li_1
  have lm := li_m1
  intro N
  induction N with
  | zero =>
    intro i x2 x3 _ _ _
    rw [f_X5_heightOfFields_4]
    exact QT.none
  | succ N ih =>
    intro i x2 x3 h3 h2 hj
    rw [f_X5_heightOfFields_4, a4_fieldsOf x1 σ h1 hr, sbnd]
    dsimp only
    refine QT.ile (fun hle => QT.ret ⟨rfl, .inr ?_⟩) (fun hlt => ?_)
    · have e := il_addE (x := x2) (y := 1) (by omega) (by omega)
      show (1 ≤ (x2 + 1).toInt ∧ (x2 + 1).toInt ≤ n + 1) ∧ ∀ j : Nat, (j : Int) < (σ.1 7 r).toInt → EHT σ (σ.1 13 (8 * r + j)) ((x2 + 1).toInt - 1)
      exact ⟨by omega, fun j hj' => (hj j (by omega)).up (by omega)⟩
    · rw [a4_typeOf x1 x3 σ h1 h3 hr (by omega), sbnd]
      dsimp only
      refine QT.bnd (a_eh (σ.1 13 (8 * r + i)) σ hE) (fun q hq => ?_)
      obtain ⟨v, s⟩ := q
      obtain ⟨e, hv⟩ := hq
      have e : s = σ := e
      have hv : v = -1 ∨ (EHT σ (σ.1 13 (8 * r + i)) v.toInt ∧ 0 ≤ v.toInt ∧ (v.toInt ≤ n ∨ v.toInt = 0)) := hv
      rw [e]
      dsimp only
      refine QT.ite (fun _ => QT.ret ⟨rfl, .inl rfl⟩) (fun hne => ?_)
      have hv := hv.resolve_left hne
      have e3 := il_addE (x := x3) (y := 1) (by omega) (by omega)
      by_cases hc : x2 < v
      · have hc' := il_lt hc
        rw [if_pos hc]
        refine ih (i + 1) v (x3 + 1) (by omega) (by omega) (fun j hj' => ?_)
        by_cases hji : j = i
        · rw [hji]
          exact hv.1
        · exact (hj j (by omega)).up (by omega)
      · have hc' := il_nlt hc
        rw [if_neg hc]
        refine ih (i + 1) x2 (x3 + 1) (by omega) h2 (fun j hj' => ?_)
        by_cases hji : j = i
        · rw [hji]
          exact hv.1.up (by omega)
        · exact hj j (by omega)
/-- all but the heights -/
def E10 (σ w : ST) : Prop := (∀ c, c ≠ 10 → w.1 c = σ.1 c) ∧ w.2 = σ.2
theorem E10.rf {σ : ST} : E10 σ σ := ⟨fun _ _ => rfl, rfl⟩
theorem E10.i {σ w : ST} {r : Nat} {v : Int32} (h : E10 σ w) : E10 σ (stI w 10 r v) := ⟨fun c hc => (stI_ne hc).trans (h.1 c hc), h.2⟩
/-- one more height told -/
theorem EHB.set {w : ST} {n : Int} {r : Nat} {v : Int32} (hE : EHB w n) (hr : r < 36) (hw : w.1 10 r = -1) (hv : v = -1 ∨ ((1 ≤ v.toInt ∧ v.toInt ≤ n + 1) ∧ ∀ j : Nat, (j : Int) < (w.1 7 r).toInt → EHT w (w.1 13 (8 * r + j)) (v.toInt - 1))) : EHB (stI w 10 r v) (n + 1) := by
  have lm := li_m1
  have e7 : (stI w 10 r v).1 7 = w.1 7 := stI_ne (by decide)
  have e13 : (stI w 10 r v).1 13 = w.1 13 := stI_ne (by decide)
  have e15 : (stI w 10 r v).1 15 = w.1 15 := stI_ne (by decide)
  have e16 : (stI w 10 r v).1 16 = w.1 16 := stI_ne (by decide)
  have ne : ∀ i, i ≠ r → (stI w 10 r v).1 10 i = w.1 10 i := fun i hi => by rw [stI_at, upN hi]
  have eq : (stI w 10 r v).1 10 r = v := by rw [stI_at, upA rfl]
  have kT : ∀ (x : Int32) (h : Int), EHT w x h → EHT (stI w 10 r v) x h := fun x h H => by
    unfold EHT at H ⊢
    rw [e15, e16]
    rcases H with H | ⟨a, i, b, c, d, e⟩
    · exact .inl H
    · have hi : i ≠ r := fun hi => by
        rw [hi, hw] at d
        omega
      exact .inr ⟨a, i, b, c, by rw [ne i hi]; exact ⟨d, e⟩⟩
  intro i hi
  rw [e7, e13]
  by_cases hir : i = r
  · rw [hir, eq]
    exact hv.imp id (fun h => ⟨h.1, fun j hj => kT _ _ (h.2 j hj)⟩)
  · rw [ne i hir]
    exact (hE i hi).imp id (fun h => ⟨⟨h.1.1, by have := h.1.2; omega⟩, fun j hj => kT _ _ (h.2 j hj)⟩)
theorem a_fer28 {k10 : Int32 → ST → Option ST} {k18 : Int32 → Int32 → ST → Option ST} {σ : ST} (hrec : ∀ i, bI (σ.1 5 i) 0 36) (hfld : ∀ i, bI (σ.1 7 i) 0 8) (x1 x2 : Int32) {a p : Nat} (h1 : x1.toInt = a) (h2 : x2.toInt = p) (ha : a < 6) (hp : p < 6) {P : ST → Prop} (hk : ∀ w, E10 σ w → EHB w (216 * a + 36 * (p + 1)) → QT (k18 x1 (x2 + 1) w) P) : ∀ (N k : Nat) (x3 : Int32) (w : ST), x3.toInt = k → k ≤ 36 → E10 σ w → EHB w (216 * a + 36 * p + k) → QT (f_X5_findEmptyRecords_28 k10 k18 4 N x1 x2 x3 w) P := by
  have l0 := li_0
  have l1 := li_1
  have l6 := li_6
  intro N
  induction N with
  | zero =>
    intro k x3 w _ _ _ _
    rw [f_X5_findEmptyRecords_28]
    exact QT.none
  | succ N ih =>
    intro k x3 w h3 hk36 hw hE
    have e5 : w.1 5 = σ.1 5 := hw.1 5 (by decide)
    have e7 : w.1 7 = σ.1 7 := hw.1 7 (by decide)
    have n2 : x2.toNatClampNeg = p := nC (by omega)
    rw [f_X5_findEmptyRecords_28]
    have hro : f_X5_recordsOf 4 x2 w = some (w.1 5 p, w) := by
      unfold f_X5_recordsOf
      rw [if_neg (by rw [Int32.lt_iff_toInt_lt]; omega), if_neg (by rw [Int32.le_iff_toInt_le]; omega), if_pos (by omega), n2]
    rw [hro, sbnd]
    dsimp only
    have hb := hrec p
    unfold bI at hb
    rw [e5]
    refine QT.ile (fun _ => hk w hw (hE.up (by omega))) (fun hlt => ?_)
    have em : (x2 * 6).toInt = 6 * x2.toInt := by rw [Int32.mul_comm]; exact mlE (k := 6) (y := x2) 6 l6 (by omega) (by omega)
    have ea := il_addE (x := x2 * 6) (y := x3) (by omega) (by omega)
    have e3 := il_addE (x := x3) (y := 1) (by omega) (by omega)
    have nr : (x2 * 6 + x3).toNatClampNeg = 6 * p + k := nC (by omega)
    refine QT.bnd (qa_isRecord (x2 * 6 + x3) w) (fun q hq => ?_)
    obtain ⟨v, s⟩ := q
    have e : s = w := hq
    rw [e]
    dsimp only
    unfold f_X5_findEmptyRecords_77
    refine QT.ite (fun _ => ih (k + 1) (x3 + 1) w (by omega) (by omega) hw (hE.up (by omega))) (fun _ => ?_)
    refine QT.grd (fun hr => ?_)
    refine QT.ite (fun hm1 => ?_) (fun _ => ih (k + 1) (x3 + 1) w (by omega) (by omega) hw (hE.up (by omega)))
    have hm1 : w.1 10 (x2 * 6 + x3).toNatClampNeg = -1 := hm1
    have h8 := hfld (6 * p + k)
    unfold bI at h8
    unfold f_X5_heightOfFields
    refine QT.bnd (a_hof hE (by omega) (x2 * 6 + x3) (r := 6 * p + k) (by omega) (by omega) (by rw [e7]; exact h8.2) FU 0 0 0 l0 (by omega) (fun j hj => by omega)) (fun q2 h2 => ?_)
    obtain ⟨v2, s2⟩ := q2
    obtain ⟨e, hv⟩ := h2
    have e : s2 = w := e
    rw [e]
    dsimp only
    rw [nr] at hm1 ⊢
    refine ih (k + 1) (x3 + 1) (stI w 10 (6 * p + k) v2) (by omega) (by omega) hw.i ?_
    have := EHB.set hE (r := 6 * p + k) (v := v2) (by omega) hm1 hv
    exact this.up (by omega)
theorem a_fer18 {k10 : Int32 → ST → Option ST} {σ : ST} (hpl : bI (σ.1 4 0) 0 6) (hrec : ∀ i, bI (σ.1 5 i) 0 36) (hfld : ∀ i, bI (σ.1 7 i) 0 8) (x1 : Int32) {a : Nat} (h1 : x1.toInt = a) (ha : a < 6) {P : ST → Prop} (hk : ∀ w, E10 σ w → EHB w (216 * (a + 1)) → QT (k10 (x1 + 1) w) P) : ∀ (N p : Nat) (x2 : Int32) (w : ST), x2.toInt = p → p ≤ 6 → E10 σ w → EHB w (216 * a + 36 * p) → QT (f_X5_findEmptyRecords_18 k10 4 N x1 x2 w) P := by
  have l0 := li_0
  have l1 := li_1
  intro N
  induction N with
  | zero =>
    intro p x2 w _ _ _ _
    rw [f_X5_findEmptyRecords_18]
    exact QT.none
  | succ N ih =>
    intro p x2 w h2 hp6 hw hE
    have e4 : w.1 4 = σ.1 4 := hw.1 4 (by decide)
    rw [f_X5_findEmptyRecords_18, e4]
    unfold bI at hpl
    refine QT.ile (fun _ => hk w hw (hE.up (by omega))) (fun hlt => ?_)
    have e2 := il_addE (x := x2) (y := 1) (by omega) (by omega)
    exact a_fer28 hrec hfld x1 x2 h1 h2 ha (by omega) (fun w' hw' hE' => ih (p + 1) (x2 + 1) w' (by omega) (by omega) hw' (hE'.up (by omega))) FU 0 0 w l0 (by omega) hw (hE.up (by omega))
theorem a_fer10 {σ : ST} (hpl : bI (σ.1 4 0) 0 6) (hrec : ∀ i, bI (σ.1 5 i) 0 36) (hfld : ∀ i, bI (σ.1 7 i) 0 8) : ∀ (N a : Nat) (x1 : Int32) (w : ST), x1.toInt = a → a ≤ 6 → E10 σ w → EHB w (216 * a) → QT (f_X5_findEmptyRecords_10 4 N x1 w) (fun z => E10 σ z ∧ EHX z) := by
  have l0 := li_0
  have l1 := li_1
  have l6 := li_6
  intro N
  induction N with
  | zero =>
    intro a x1 w _ _ _ _
    rw [f_X5_findEmptyRecords_10]
    exact QT.none
  | succ N ih =>
    intro a x1 w h1 ha hw hE
    rw [f_X5_findEmptyRecords_10]
    refine QT.ile (fun _ => QT.ret ⟨hw, hE.up (by omega)⟩) (fun hlt => ?_)
    have e1 := il_addE (x := x1) (y := 1) (by omega) (by omega)
    exact a_fer18 hpl hrec hfld x1 h1 (by omega) (fun w' hw' hE' => ih (a + 1) (x1 + 1) w' (by omega) (by omega) hw' (hE'.up (by omega))) FU 0 0 w l0 (by omega) hw (hE.up (by omega))
/-- the heights are told, whatever was there -/
theorem a_fer {σ : ST} (hpl : bI (σ.1 4 0) 0 6) (hrec : ∀ i, bI (σ.1 5 i) 0 36) (hfld : ∀ i, bI (σ.1 7 i) 0 8) : QT (f_X5_findEmptyRecords 4 σ) (fun z => E10 σ z ∧ EHX z) := by
  have l0 := li_0
  unfold f_X5_findEmptyRecords f_J7_fill_53178
  have hf : PT (f_J7_fill_53178_5 10 FU (-1) 0 (nI (lnA 10 : Nat)) σ) (fun t => (∀ i, i < 36 → t.1 10 i = -1) ∧ (∀ c, c ≠ 10 → t.1 c = σ.1 c) ∧ t.2 = σ.2) := pt_fill 10 (-1) 36 (by omega) FU 0 0 _ σ l0 (by decide) (fun i hi => by omega)
  refine QT.bnd (fun q e => hf q e) (fun w hw => ?_)
  exact a_fer10 hpl hrec hfld FU 0 0 w l0 (by omega) ⟨hw.2.1, hw.2.2⟩ (fun r hr => .inl (hw.1 r hr))
theorem w_J7_fill_53178_5 {s : ST} {u : Nat}  (h_u : 20 ≤ u) : ∀ (n : Nat) (x1 : Int32) (x2 : Int32) (x3 : Int32) (σ : ST), KTA s σ → PF st0 (KTA s) (f_J7_fill_53178_5 u n x1 x2 x3 σ) := by
  intro n
  induction n with
  | zero => intro x1 x2 x3 σ h; rw [f_J7_fill_53178_5]; exact PF.none
  | succ n ih =>
    intro x1 x2 x3 σ h
    rw [f_J7_fill_53178_5]
    exact (PF.ite (fun _ => (PF.ret0 h)) (fun _ => (PF.ite (fun _ => (ih _ _ _ _ (KTA.i (by omega) h))) (fun _ => PF.none))))
theorem w_J7_fill_53178 {s : ST} {u : Nat} {p1 : Int32} {σ : ST}  (h_u : 20 ≤ u) (h : KTA s σ) : PF st0 (KTA s) (f_J7_fill_53178 u p1 σ) := by
  unfold f_J7_fill_53178
  exact (w_J7_fill_53178_5 (by omega) _ _ _ _ _ h)
theorem w_X1_clear {s : ST}  {σ : ST}   (h : KTA s σ) : PF st0 (KTA s) (f_X1_clear σ) := by
  unfold f_X1_clear
  exact (PF.bnd (w_J7_fill_53178 (by omega) h) (fun q1 hq1 => (PF.ret0 hq1)))
theorem w_X0_clear {s : ST}  {σ : ST}   (h : KTA s σ) : PF st0 (KTA s) (f_X0_clear σ) := by
  unfold f_X0_clear
  exact (PF.bnd (w_J7_fill_53178 (by omega) (KTA.l (by omega) h)) (fun q1 hq1 => (PF.ret0 (KTA.i (by omega) (KTA.i (by omega) hq1)))))
theorem w_X9_clear {s : ST}  {σ : ST}   (h : KTA s σ) : PF st0 (KTA s) (f_X9_clear σ) := by
  unfold f_X9_clear
  exact (PF.ret0 (KTA.i (by omega) (KTA.i (by omega) (KTA.i (by omega) h))))
/-- no plan, or heights that hold -/
def EHY (σ : ST) : Prop := (σ.1 4 0).toInt = 0 ∨ EHX σ
theorem EHY.at {S σ : ST} (h : EHY S) (k : KTA S σ) : EHY σ := by
  unfold EHY
  rw [(k 4 (by omega) (by omega)).1]
  exact h.imp id (fun h => EHB.at h k)
/-- behind plans the heights hold -/
theorem eh_plans (p0 : Int32) (σ : ST) (q : Int32 × ST) (h : f_X10_plans p0 σ = some q) (hE : EHY σ) (hI : IA q.2) : EHY q.2 := by
  unfold f_X10_plans at h
  by_cases h1 : p0 < 0
  · rw [if_pos h1] at h
    cases h
    exact hE
  rw [if_neg h1] at h
  by_cases h2 : p0 ≤ σ.1 0 1
  · rw [if_pos h2] at h
    obtain ⟨s1, e1, h⟩ := bnd_some h
    obtain ⟨⟨r, s2⟩, e2, h⟩ := bnd_some h
    dsimp only at h
    by_cases h3 : r = 0
    · rw [if_pos h3] at h
      obtain ⟨x, ex, h⟩ := bnd_some h
      cases h
      have k1 : KTA σ s1 := w_X6_begin (KTA.i (by omega) KTA.rf) s1 e1
      have k2 : KTA σ s2 := w_X3_parse k1 (r, s2) e2
      exact hE.at (w_X6_faultAnswer k2 x ex)
    · rw [if_neg h3] at h
      obtain ⟨c, ec, h⟩ := bnd_some h
      obtain ⟨d, ed, h⟩ := bnd_some h
      obtain ⟨x1, e3, h⟩ := bnd_some h
      obtain ⟨x2, e4, h⟩ := bnd_some h
      obtain ⟨x3, e5, h⟩ := bnd_some h
      obtain ⟨x4, e6, h⟩ := bnd_some h
      cases h
      have hI : IA x4 := hI
      have k1 : K5A c d := v_X5_findEmptyRecords (by omega) K5A.rf d ed
      have k2 : KTA d x1 := w_X1_clear KTA.rf x1 e3
      have k3 : KTA d x2 := w_X0_clear k2 x2 e4
      have k4 : KTA d x3 := w_X9_clear k3 x3 e5
      have k5 : KTA d x4 := w_X7_clear (by omega) k4 x4 e6
      have c4 : x4.1 4 = c.1 4 := (k5 4 (by omega) (by omega)).1.trans (k1 4 (by omega) (by omega) (by omega)).1
      have c5 : x4.1 5 = c.1 5 := (k5 5 (by omega) (by omega)).1.trans (k1 5 (by omega) (by omega) (by omega)).1
      have c7 : x4.1 7 = c.1 7 := (k5 7 (by omega) (by omega)).1.trans (k1 7 (by omega) (by omega) (by omega)).1
      have b4 := hI.plans
      have b5 := hI.recs
      have b7 := hI.flds
      rw [c4] at b4
      rw [c5] at b5
      rw [c7] at b7
      exact .inr (EHB.at (a_fer b4 b5 b7 d ed).2 k5)
  · rw [if_neg h2] at h
    cases h
    exact hE
