/-! a mark; what stands for a field that is missing -/
theorem OK.and {α : Type} {o : Option α} {P Q : α → Prop} (h : OK o P) (k : OK o Q) : OK o (fun q => P q ∧ Q q) := by
  obtain ⟨x, e, hx⟩ := h
  obtain ⟨y, e2, hy⟩ := k
  rw [e] at e2
  cases e2
  exact ⟨x, e, hx, hy⟩
def MKP (a b a' b' : ST) : Prop := CA a a' ∧ CH [] GI b b' ∧ (∀ c, c ≠ 0 → b'.2.1 c = b.2.1 c) ∧ LX a' b' ∧ (b.1 0 4).toInt + 1 ≤ (b'.1 0 4).toInt ∧ uT b' + 1 ≤ uT b
theorem ab_mark {c : Int} (p0 : Int32) (a b : ST) (hX : LX a b) (hc : c = 123 ∨ c = 125 ∨ c = 91 ∨ c = 93 ∨ c = 44 ∨ c = 59) (hp : p0.toInt = c) : ((a.1 2 4).toInt = c → OK (f_X6_advance a) (fun a' => OK (f_X11_mark p0 b) (fun q => q.1.toInt = 1 ∧ MKP a b a' q.2))) ∧ (¬ (a.1 2 4).toInt = c → OK (f_X11_mark p0 b) (fun q => q.1.toInt = 0 ∧ CH [] [12] b q.2)) := by
  have hK := hX.2.2.1
  have hs := hK.sg hc
  refine ⟨fun h => ?_, fun h => ?_⟩
  · have ek : b.1 0 13 = p0 := Int32.toInt_inj.mp (by rw [hp]; exact hs.mpr h)
    have k0 : ¬ (a.1 2 4).toInt = 0 := by omega
    have k1 : ¬ (a.1 2 4).toInt = 1 := by omega
    have t0 : ¬ (b.1 0 6).toInt = 0 := fun e => k0 (hK.t0.mpr e)
    have nx := hX.nxt.2 t0
    have u1 := uT_1 t0
    unfold f_X11_mark
    rw [if_pos ek]
    refine (ab_go a b hX (hK.hg k0 k1)).mono (fun a' h' => OK.bnd h' (fun b' hq => ?_))
    obtain ⟨ca, cb, cL, hX', hat, _, hu⟩ := hq
    exact OK.ret ⟨li_1, ca, cb, cL, hX', by show (b.1 0 4).toInt + 1 ≤ (b'.1 0 4).toInt; omega, by show uT b' + 1 ≤ uT b; omega⟩
  · have ek : ¬ b.1 0 13 = p0 := fun e => h (hs.mp (by rw [e]; exact hp))
    unfold f_X11_mark
    rw [if_neg ek]
    refine OK.bndC (b_wrongHere 1 b) (fun v s c2 hv => ?_)
    refine OK.grd (b01 (.inl hv)) ?_
    exact OK.ret ⟨hv, c2⟩
/-- what else leaves of the reference's numbers -/
def FYL (N : Nat) (τ b : ST) : Prop := b.2.1 9 = τ.2.1 9 ∧ b.2.1 12 = τ.2.1 12 ∧ b.2.1 14 = τ.2.1 14 ∧ ∀ i, i ≠ N → b.2.1 17 i = τ.2.1 17 i ∧ b.2.1 18 i = τ.2.1 18 i
theorem FYL.rf {N : Nat} {τ : ST} : FYL N τ τ := ⟨rfl, rfl, rfl, fun _ _ => ⟨rfl, rfl⟩⟩
theorem FYL.trans {N : Nat} {τ b w : ST} (h : FYL N τ b) (k : FYL N b w) : FYL N τ w := ⟨k.1.trans h.1, k.2.1.trans h.2.1, k.2.2.1.trans h.2.2.1, fun i hi => ⟨(k.2.2.2 i hi).1.trans (h.2.2.2 i hi).1, (k.2.2.2 i hi).2.trans (h.2.2.2 i hi).2⟩⟩
theorem L5.fyl {N : Nat} {τ b : ST} (h : L5 τ b) : FYL N τ b := ⟨h.1, h.2.1, h.2.2.1, fun i _ => ⟨by rw [h.2.2.2.1], by rw [h.2.2.2.2]⟩⟩
def FY (N : Nat) (τ b : ST) : Prop := (∀ c, c ∉ [0, 16, 19] → b.1 c = τ.1 c) ∧ (∀ i, i ∉ GJ → b.1 0 i = τ.1 0 i) ∧ ((∀ i, bI (τ.1 19 i) 0 12) → ∀ i, bI (b.1 19 i) 0 12) ∧ (∀ i, i ≠ N → b.1 16 i = τ.1 16 i ∧ b.1 19 i = τ.1 19 i) ∧ FYL N τ b
theorem FY.rf {N : Nat} {τ : ST} : FY N τ τ := ⟨fun _ _ => rfl, fun _ _ => rfl, fun h => h, fun _ _ => ⟨rfl, rfl⟩, FYL.rf⟩
theorem FY.trans {N : Nat} {τ b w : ST} (h : FY N τ b) (k : FY N b w) : FY N τ w := ⟨fun c hc => (k.1 c hc).trans (h.1 c hc), fun i hi => (k.2.1 i hi).trans (h.2.1 i hi), fun h9 => k.2.2.1 (h.2.2.1 h9), fun i hi => ⟨(k.2.2.2.1 i hi).1.trans (h.2.2.2.1 i hi).1, (k.2.2.2.1 i hi).2.trans (h.2.2.2.1 i hi).2⟩, h.2.2.2.2.trans k.2.2.2.2⟩
theorem CH.fy {N : Nat} {I : List Nat} {τ b : ST} (hI : ∀ i, i ∈ I → i ∈ GJ) (h : CH [] I τ b) : FY N τ b := ⟨fun c hc => h.1 c (fun e => hc (by rw [e]; decide)) (by simp), fun i hi => h.2.1 i (fun h9 => hi (hI i h9)), fun h9 i => by rw [h.1 19 (by decide) (by simp)]; exact h9 i, fun i _ => ⟨by rw [h.1 16 (by decide) (by simp)], by rw [h.1 19 (by decide) (by simp)]⟩, h.l5.fyl⟩
theorem BE.fy {N : Nat} {τ z : ST} (h : BE N τ z) : FY N τ z := by
  refine ⟨fun c hc => h.1 c (fun h9 => hc ?_), fun i _ => by rw [h.1 0 (by decide)], h.2.1, fun i hi => (h.2.2.2 i hi).1, h.2.2.1 9 (by decide), h.2.2.1 12 (by decide), h.2.2.1 14 (by decide), fun i hi => (h.2.2.2 i hi).2⟩
  simp only [List.mem_cons, List.not_mem_nil, or_false] at h9 ⊢
  omega
def AFr (r n : Nat) (σ a : ST) : Prop := (∀ c, c ∉ [2, 25] → a.1 c = σ.1 c) ∧ (∀ c, c ∉ [2, 30] → a.2.1 c = σ.2.1 c) ∧ (∀ i, i ≠ r → a.1 25 i = σ.1 25 i) ∧ (∀ i, i ≠ n → a.2.1 30 i = σ.2.1 30 i)
theorem AFr.rf {r n : Nat} {σ : ST} : AFr r n σ σ := ⟨fun _ _ => rfl, fun _ _ => rfl, fun _ _ => rfl, fun _ _ => rfl⟩
theorem AFr.trans {r n : Nat} {σ a b : ST} (h : AFr r n σ a) (k : AFr r n a b) : AFr r n σ b := ⟨fun c hc => (k.1 c hc).trans (h.1 c hc), fun c hc => (k.2.1 c hc).trans (h.2.1 c hc), fun i hi => (k.2.2.1 i hi).trans (h.2.2.1 i hi), fun i hi => (k.2.2.2 i hi).trans (h.2.2.2 i hi)⟩
theorem CA.fr {r n : Nat} {σ a : ST} (h : CA σ a) : AFr r n σ a := ⟨fun c hc => h.1 c (fun e => hc (by rw [e]; decide)), fun c hc => h.2.2.1 c (fun e => hc (by rw [e]; decide)), fun i _ => by rw [h.1 25 (by decide)], fun i _ => by rw [h.2.2.1 30 (by decide)]⟩
/-- an else was told -/
def EOX (r j : Nat) (σ τ a b : ST) : Prop := (∀ i, i ≠ 288 + 8 * r + j → b.2.1 17 i = τ.2.1 17 i ∧ b.2.1 18 i = τ.2.1 18 i) ∧ (b.1 16 (288 + 8 * r + j)).toInt = 1 ∧ a.1 25 r = (σ.1 25 r ||| (1 <<< ((Int32.ofNat j) &&& 31))) ∧ EWF (FCS (τ.1 2) (τ.1 5) (τ.1 15 (288 + 8 * r + j))) (a.2.1 30 (8 * r + j)) (b.2.1 17 (288 + 8 * r + j)) (b.2.1 18 (288 + 8 * r + j)) (b.1 19 (288 + 8 * r + j))
/-- an else was told, or none -/
def ELX (r j : Nat) (σ τ a b : ST) : Prop := (∀ i, i ≠ 288 + 8 * r + j → b.2.1 17 i = τ.2.1 17 i ∧ b.2.1 18 i = τ.2.1 18 i) ∧ ((b.1 16 (288 + 8 * r + j) = τ.1 16 (288 + 8 * r + j) ∧ a.1 25 r = σ.1 25 r) ∨ ((b.1 16 (288 + 8 * r + j)).toInt = 1 ∧ a.1 25 r = (σ.1 25 r ||| (1 <<< ((Int32.ofNat j) &&& 31))) ∧ EWF (FCS (τ.1 2) (τ.1 5) (τ.1 15 (288 + 8 * r + j))) (a.2.1 30 (8 * r + j)) (b.2.1 17 (288 + 8 * r + j)) (b.2.1 18 (288 + 8 * r + j)) (b.1 19 (288 + 8 * r + j))))
theorem ELX.ext {r j : Nat} {σ τ a b z : ST} (h : ELX r j σ τ a b) (h1 : ∀ c, c ≠ 11 → z.1 c = b.1 c) (h2 : ∀ c, c ≠ 12 → z.2.1 c = b.2.1 c) : ELX r j σ τ a z := by
  unfold ELX
  rw [h1 16 (by decide), h1 19 (by decide), h2 17 (by decide), h2 18 (by decide)]
  exact h
def EO (r j : Nat) (σ τ : ST) (qa : Int32 × ST) (qb : (Int32 × ST) × Nat) : Prop := FY (288 + 8 * r + j) τ qb.1.2 ∧ ((qa.1.toInt = 0 ∧ qb.1.1.toInt = 0 ∧ qb.2 + 40 * uT qb.1.2 ≤ 40 * uT τ + 18) ∨ (qa.1.toInt = 0 ∧ qb.1.1.toInt = 1 ∧ (qb.1.2.1 0 13).toInt = 0 ∧ TX qb.1.2 ∧ qb.2 + 40 * uT qb.1.2 ≤ 40 * uT τ + 18) ∨ (qa.1.toInt = 1 ∧ qb.1.1.toInt = 1 ∧ LX qa.2 qb.1.2 ∧ (∀ c, c ∉ [0, 17, 18] → qb.1.2.2.1 c = τ.2.1 c) ∧ (τ.1 0 4).toInt ≤ (qb.1.2.1 0 4).toInt ∧ AFr r (8 * r + j) σ qa.2 ∧ qb.2 + 40 * uT qb.1.2 ≤ 40 * uT τ ∧ EOX r j σ τ qa.2 qb.1.2))
def FNI (N R : Nat) (x3 : Int64) (b w : ST) : Prop := (∀ c, c ≠ 11 → w.1 c = b.1 c) ∧ (∀ i, i ≠ R → w.1 11 i = b.1 11 i) ∧ w.1 11 R = b.1 11 R + 1 ∧ (∀ c, c ≠ 12 → w.2.1 c = b.2.1 c) ∧ w.2.1 12 N = x3 ∧ ∀ i, i ≠ N → w.2.1 12 i = b.2.1 12 i
theorem b_field190 (x1 x2 : Int32) (x3 : Int64) (τ : ST) (N R : Nat) (h1 : x1.toInt = R) (hR : R < 72) (h2 : x2.toInt = N) (hN : N < 576) : OK (f_X11_field_190 x1 x2 x3 τ) (fun q => q.1.1.toInt = 1 ∧ q.2 = 0 ∧ FNI N R x3 τ q.1.2) := by
  unfold f_X11_field_190
  have n1 : x1.toNatClampNeg = R := nC h1
  have n2 : x2.toNatClampNeg = N := nC h2
  rw [n1, n2]
  refine OK.grd ⟨by omega, by omega⟩ ?_
  refine OK.grd ⟨by omega, by omega⟩ ?_
  refine OK.lt (fun z hz => ?_)
  subst hz
  refine OK.ret ⟨li_1, rfl, fun c hc => ?_, fun i hi => ?_, ?_, fun c hc => ?_, ?_, fun i hi => ?_⟩
  · show (stI (stL τ 12 N x3) 11 R _).1 c = _
    rw [stI_ne hc]
    rfl
  · show upd (τ.1 11) R _ i = _
    rw [upd_no hi]
  · show upd (τ.1 11) R (τ.1 11 R + 1) R = _
    rw [upd_at]
  · show (stL τ 12 N x3).2.1 c = _
    rw [stL_ne hc]
  · show vp_updL (τ.2.1 12) N x3 N = _
    rw [updL_at]
  · show vp_updL (τ.2.1 12) N x3 i = _
    rw [updL_no hi]
/-- what a field's end leaves in the reference -/
def FXL (N : Nat) (τ b : ST) : Prop := b.2.1 9 = τ.2.1 9 ∧ b.2.1 14 = τ.2.1 14 ∧ ∀ i, i ≠ N → b.2.1 12 i = τ.2.1 12 i ∧ b.2.1 17 i = τ.2.1 17 i ∧ b.2.1 18 i = τ.2.1 18 i
theorem FXL.trans {N : Nat} {τ b w : ST} (h : FXL N τ b) (k : FXL N b w) : FXL N τ w := ⟨k.1.trans h.1, k.2.1.trans h.2.1, fun i hi => ⟨(k.2.2 i hi).1.trans (h.2.2 i hi).1, (k.2.2 i hi).2.1.trans (h.2.2 i hi).2.1, (k.2.2 i hi).2.2.trans (h.2.2 i hi).2.2⟩⟩
def FX (R N : Nat) (τ b : ST) : Prop := (∀ c, c ∉ [0, 11, 16, 19] → b.1 c = τ.1 c) ∧ (∀ i, i ∉ GJ → b.1 0 i = τ.1 0 i) ∧ (∀ i, i ≠ R → b.1 11 i = τ.1 11 i) ∧ ((∀ i, bI (τ.1 19 i) 0 12) → ∀ i, bI (b.1 19 i) 0 12) ∧ (∀ i, i ≠ N → b.1 16 i = τ.1 16 i ∧ b.1 19 i = τ.1 19 i) ∧ FXL N τ b
theorem FY.fx {R N : Nat} {τ b : ST} (h : FY N τ b) : FX R N τ b := by
  refine ⟨fun c hc => h.1 c (fun h9 => hc ?_), h.2.1, fun i _ => by rw [h.1 11 (by decide)], h.2.2.1, h.2.2.2.1, h.2.2.2.2.1, h.2.2.2.2.2.2.1, fun i hi => ⟨by rw [h.2.2.2.2.2.1], h.2.2.2.2.2.2.2 i hi⟩⟩
  simp only [List.mem_cons, List.not_mem_nil, or_false] at h9 ⊢
  omega
theorem FX.trans {R N : Nat} {τ b w : ST} (h : FX R N τ b) (k : FX R N b w) : FX R N τ w := ⟨fun c hc => (k.1 c hc).trans (h.1 c hc), fun i hi => (k.2.1 i hi).trans (h.2.1 i hi), fun i hi => (k.2.2.1 i hi).trans (h.2.2.1 i hi), fun h9 => k.2.2.2.1 (h.2.2.2.1 h9), fun i hi => ⟨(k.2.2.2.2.1 i hi).1.trans (h.2.2.2.2.1 i hi).1, (k.2.2.2.2.1 i hi).2.trans (h.2.2.2.2.1 i hi).2⟩, h.2.2.2.2.2.trans k.2.2.2.2.2⟩
theorem FNI.fx {N R : Nat} {x3 : Int64} {b w : ST} (h : FNI N R x3 b w) : FX R N b w := by
  refine ⟨fun c hc => h.1 c (fun e => hc (by rw [e]; decide)), fun i _ => by rw [h.1 0 (by decide)], h.2.1, fun h9 i => by rw [h.1 19 (by decide)]; exact h9 i, fun i _ => ⟨by rw [h.1 16 (by decide)], by rw [h.1 19 (by decide)]⟩, h.2.2.2.1 9 (by decide), h.2.2.2.1 14 (by decide), fun i hi => ⟨h.2.2.2.2.2 i hi, by rw [h.2.2.2.1 17 (by decide)], by rw [h.2.2.2.1 18 (by decide)]⟩⟩
def EL (r j : Nat) (x3 : Int64) (σ τ : ST) (qa : Int32 × ST) (qb : (Int32 × ST) × Nat) : Prop := FX (36 + r) (288 + 8 * r + j) τ qb.1.2 ∧ ((qa.1.toInt = 0 ∧ qb.1.1.toInt = 0 ∧ qb.2 + 40 * uT qb.1.2 ≤ 40 * uT τ + 1) ∨ (qa.1.toInt = 0 ∧ qb.1.1.toInt = 1 ∧ (qb.1.2.1 0 13).toInt = 0 ∧ TX qb.1.2 ∧ qb.2 + 40 * uT qb.1.2 ≤ 40 * uT τ + 1) ∨ (qa.1.toInt = 1 ∧ qb.1.1.toInt = 1 ∧ LX qa.2 qb.1.2 ∧ ((qb.1.2.1 11 (36 + r)).toInt = (j : Int) + 1 ∧ qb.1.2.2.1 12 (288 + 8 * r + j) = x3 ∧ ∀ i, i ≠ 288 + 8 * r + j → qb.1.2.2.1 12 i = τ.2.1 12 i) ∧ (∀ c, c ∉ [0, 12, 17, 18] → qb.1.2.2.1 c = τ.2.1 c) ∧ (τ.1 0 4).toInt ≤ (qb.1.2.1 0 4).toInt ∧ AFr r (8 * r + j) σ qa.2 ∧ qb.2 + 40 * uT qb.1.2 ≤ 40 * uT τ + 1 ∧ ELX r j σ τ qa.2 qb.1.2))
theorem EO.el {r j : Nat} {x1 x2 : Int32} {x3 : Int64} {σ τ : ST} {qa : Int32 × ST} {b : ST} (hr : r < 36) (hj : j < 8) (hx1 : x1.toInt = 36 + (r : Int)) (hx2 : x2.toInt = 288 + 8 * (r : Int) + j) (hX : LX qa.2 b) (hf : (b.1 11 (36 + r)).toInt = j) (hq : qa.1.toInt = 1) {x : Nat} (hx : x + 40 * uT b ≤ 40 * uT τ + 1) (hF : FY (288 + 8 * r + j) τ b) (h12 : b.2.1 12 = τ.2.1 12) (hL : ∀ c, c ∉ [0, 17, 18] → b.2.1 c = τ.2.1 c) (hat : (τ.1 0 4).toInt ≤ (b.1 0 4).toInt) (hA : AFr r (8 * r + j) σ qa.2) (hE : ELX r j σ τ qa.2 b) : OK (f_X11_field_190 x1 x2 x3 b) (fun z => EL r j x3 σ τ qa (z.1, x + z.2)) := by
  have l1 := li_1
  refine (b_field190 x1 x2 x3 b (288 + 8 * r + j) (36 + r) (by omega) (by omega) (by omega) (by omega)).mono (fun z hz => ?_)
  obtain ⟨z1, z2, hz⟩ := hz
  have e1 := il_addE (x := b.1 11 (36 + r)) (y := 1) (by omega) (by omega)
  refine ⟨hF.fx.trans hz.fx, .inr (.inr ⟨hq, z1, ?_, ⟨?_, hz.2.2.2.2.1, fun i hi => ?_⟩, fun c hc => ?_, ?_, hA, ?_, hE.ext hz.1 hz.2.2.2.1⟩)⟩
  · exact hX.ext rfl rfl rfl rfl (hz.1 1 (by decide)) (fun i _ => by rw [hz.1 0 (by decide)]) (hz.2.2.2.1 0 (by decide))
  · rw [hz.2.2.1]
    omega
  · rw [← h12]
    exact hz.2.2.2.2.2 i hi
  · simp only [List.mem_cons, List.not_mem_nil, or_false, not_or] at hc
    rw [hz.2.2.2.1 c hc.2.1]
    refine hL c ?_
    simp only [List.mem_cons, List.not_mem_nil, or_false, not_or]
    exact ⟨hc.1, hc.2.2⟩
  · rw [hz.1 0 (by decide)]
    exact hat
  · show x + z.2 + 40 * uT z.1.2 ≤ _
    rw [z2, uT_eq (b := z.1.2) (τ := b) (by rw [hz.1 0 (by decide)]) (by rw [hz.1 0 (by decide)]) (by rw [hz.1 0 (by decide)])]
    exact hx
theorem ab_else (P t0 t1 r j : Nat) (p0 p1 x1 x2 : Int32) (x3 : Int64) (σ τ : ST) (hP : 1 ≤ P ∧ P ≤ 6) (hX : LX σ τ) (h0 : p0.toInt = r) (h1 : p1.toInt = j) (hr : r < 36) (hj : j < 8) (hx1 : x1.toInt = 36 + (r : Int)) (hx2 : x2.toInt = 288 + 8 * (r : Int) + j) (ht : 400 ≤ t0 ∧ t1 ≤ 650) (hA : (σ.1 29 (8 * r + j)).toInt = (t0 : Int) + P - 400) (hB : (τ.1 15 (288 + 8 * r + j)).toInt = t0) (hcA : (σ.1 20 1).toInt = (t1 : Int) + P - 400) (hR : RWS P t0 t1 σ τ) (hV : VD t0 t1 (τ.1 2) (τ.1 3) (τ.1 4) (τ.1 5) 4 (τ.1 15 (288 + 8 * r + j))) (hf : (τ.1 11 (36 + r)).toInt = j) : OK (f_X3_parseElse p0 p1 σ) (fun qa => OK (f_X11_field_169 x1 x2 x3 τ) (EL r j x3 σ τ qa)) := by
  unfold f_X3_parseElse f_X11_field_169
  have hK := hX.2.2.1
  have e3 : kwV 3 = v_else := rfl
  have l0 := li_0
  have l1 := li_1
  have l6 := li_6
  refine OK.bndR (a_isKeyword 3 σ τ hK (k := 3) (by omega) li_3) (fun v hv => ?_)
  dsimp only
  rw [e3] at hv
  refine OK.sw ?_
  refine OK.bndK (b_isElse τ) (fun vb x hvb hx => ?_)
  refine OK.kac ?_
  dsimp only
  by_cases hW : W_ τ v_else
  rotate_left
  · -- nothing stands for it
    have hv1 : v.toInt = 0 := by
      rcases hv with hv | hv
      · exact hv.1
      · exact absurd hv.2 hW
    have hvb1 : vb.toInt = 0 := by
      rcases hvb with hv | hv
      · exact hv.1
      · exact absurd hv.2 hW
    refine OK.sw ?_
    refine OK.ieq (fun _ => ?_) (fun h => by omega)
    refine OK.ret ?_
    refine OK.ieq (fun _ => ?_) (fun h => by omega)
    exact EO.el hr hj hx1 hx2 hX hf l1 (by omega) FY.rf rfl (fun _ _ => rfl) (Int.le_refl _) AFr.rf ⟨fun _ _ => ⟨rfl, rfl⟩, .inl ⟨rfl, rfl⟩⟩
  have hv1 : v.toInt = 1 := by
    rcases hv with hv | hv
    · exact absurd hW hv.2
    · exact hv.1
  have hvb1 : vb.toInt = 1 := by
    rcases hvb with hv | hv
    · exact absurd hW hv.2
    · exact hv.1
  refine OK.ieq (fun h => by omega) (fun _ => ?_)
  refine OK.sw ?_
  refine OK.ieq (fun h => by omega) (fun _ => ?_)
  have kA := (hK.kw (k := 3) (by omega)).mp (by rw [e3]; exact hW)
  have hg := hK.hg (by omega) (by omega)
  have u1 := uT_1 (τ := τ) (by have := hW.1; omega)
  have nx := hX.nxt.1
  refine OK.bnd2 (ab_goW σ τ hX hg) (fun a1 b1 hq => ?_)
  obtain ⟨⟨ca, cb, cL, hX1, hat, _, hu⟩, hTW1⟩ := hq
  have hK1 := hX1.2.2.1
  have htx1 := hX1.tx
  have B15 : b1.1 15 = τ.1 15 := cb.1 15 (by decide) (by decide)
  refine OK.bndB (Q := EO r j a1 b1) ?_ (fun qa qb hq => ?_)
  rotate_left
  · obtain ⟨qF, hq⟩ := hq
    have FYq : FY (288 + 8 * r + j) τ qb.1.2 := (cb.fy (by decide)).trans qF
    refine OK.kac ?_
    rcases hq with ⟨q1, q2, q3⟩ | ⟨q1, q2, q3, q4, q5⟩ | ⟨q1, q2, q3, q4, q5, q6, q7, q8⟩
    · refine OK.ieq (fun _ => ?_) (fun h => by omega)
      exact OK.ret ⟨FYq.fx, .inl ⟨q1, l0, by show x + (qb.2 + 0) + 40 * uT qb.1.2 ≤ _; omega⟩⟩
    · refine OK.ieq (fun h => by omega) (fun _ => ?_)
      refine (b_field190 x1 x2 x3 qb.1.2 (288 + 8 * r + j) (36 + r) (by omega) (by omega) (by omega) (by omega)).mono (fun z hz => ?_)
      obtain ⟨z1, z2, hz⟩ := hz
      have ez : z.1.2.1 0 = qb.1.2.1 0 := hz.1 0 (by decide)
      refine ⟨FYq.fx.trans hz.fx, .inr (.inl ⟨q1, z1, by rw [ez]; exact q3, ?_, ?_⟩)⟩
      · unfold TX
        rw [ez]
        exact q4
      · show x + (qb.2 + z.2) + 40 * uT z.1.2 ≤ _
        rw [z2, uT_eq (b := z.1.2) (τ := qb.1.2) (by rw [ez]) (by rw [ez]) (by rw [ez])]
        omega
    · refine OK.ieq (fun h => by omega) (fun _ => ?_)
      refine (EO.el (x := x + qb.2) hr hj hx1 hx2 q3 ?_ q1 (by omega) FYq ?_ (fun c hc => ?_) (by omega) (ca.fr.trans q6) ?_).mono (fun z hz => ?_)
      · rw [FYq.1 11 (by decide)]
        exact hf
      · rw [q4 12 (by decide), cL 12 (by decide)]
      · have hc0 : c ≠ 0 := fun e => hc (by rw [e]; decide)
        rw [q4 c hc, cL c hc0]
      · obtain ⟨o1, o2, o3, o4⟩ := q8
        refine ⟨fun i hi => ?_, .inr ⟨o2, ?_, ?_⟩⟩
        · rw [(o1 i hi).1, (o1 i hi).2, cL 17 (by decide), cL 18 (by decide)]
          exact ⟨rfl, rfl⟩
        · rw [o3, ca.1 25 (by decide)]
        · rw [cb.1 2 (by decide) (by decide), cb.1 5 (by decide) (by decide), B15] at o4
          exact o4
      · have e : x + qb.2 + z.2 = x + (qb.2 + z.2) := by omega
        rw [e] at hz
        exact hz
  -- what follows the word
  have hR1 : RWS P t0 t1 a1 b1 := hR.ext (ca.1 31 (by decide)) (ca.1 32 (by decide)) (ca.2.2.1 34 (by decide)) (cb.1 2 (by decide) (by decide)) (cb.1 4 (by decide) (by decide)) (cb.1 5 (by decide) (by decide)) (cL 6 (by decide))
  have hV1 : VD t0 t1 (b1.1 2) (b1.1 3) (b1.1 4) (b1.1 5) 4 (b1.1 15 (288 + 8 * r + j)) := by
    rw [cb.1 2 (by decide) (by decide), cb.1 3 (by decide) (by decide), cb.1 4 (by decide) (by decide), cb.1 5 (by decide) (by decide), B15]
    exact hV
  have hcA1 : (a1.1 20 1).toInt = (t1 : Int) + P - 400 := by rw [ca.1 20 (by decide)]; exact hcA
  obtain ⟨u, hu1, ⟨huS, _⟩, hFo, hFc⟩ := ab_first P t0 t1 (a1.1 29 (8 * r + j)) (b1.1 15 (288 + 8 * r + j)) a1 b1 hR1 hV1 (by rw [ca.1 29 (by decide)]; exact hA) (by rw [B15]; exact hB) hcA1 ht hP
  have nu := nN_ (x := u) (by omega)
  have srt : a1.1 31 (u.toNatClampNeg + P - 400) = b1.1 2 u.toNatClampNeg := (hR1 u.toNatClampNeg (by omega) (by omega)).1
  have bfail : ∀ qa : Int32 × ST, qa.1.toInt = 0 → ∀ q : (Int32 × ST) × Nat, CH [] [12] b1 q.1.2 → q.1.1.toInt = 0 → q.2 ≤ 18 → EO r j a1 b1 qa q := fun qa h0 q cq h1 h2 => ⟨cq.fy (by decide), .inl ⟨h0, h1, by rw [uT_eq (cq.2.1 3 (by decide)) (cq.2.1 5 (by decide)) (cq.2.1 6 (by decide))]; omega⟩⟩
  refine OK.bndR (a_beginsLiteral a1 b1 hK1) (fun v5 hv5 => ?_)
  dsimp only
  refine OK.ieq (fun h50 => ?_) (fun h51 => ?_)
  · refine OK.bnd (a_refuse _ _) (fun q hq => ?_)
    refine OK.grd (b01 (.inl hq)) ?_
    refine OK.ret ?_
    refine b_elseOf x2 b1 (288 + 8 * r + j) u (by omega) (by omega) htx1 (by omega) hFo _ (fun _ q2 c2 h1 h2 => bfail (q.1, q.2) hq q2 c2 h1 h2) (fun hL hFT y z xx hy hz _ hxx => ?_)
    have hbad : (a1.1 2 4).toInt = 1 := by
      rcases hv5 with hv | hv
      · exact hv.2.elim id (fun h => absurd hL h)
      · have := hv.1
        omega
    have htk : (b1.1 0 13).toInt = 0 ∧ (b1.1 0 6).toInt = 2 ∧ ∃ k : Nat, (b1.1 0 5).toInt = k ∧ bt (b1.1 1) (b1.1 0 3).toInt k = 46 := by
      obtain ⟨_, h | h | h | h | h | h⟩ := hK1
      · omega
      · obtain ⟨_, s0, h5 | h2⟩ := h
        · exfalso
          unfold LT_ W_ at hL
          omega
        · exact ⟨s0, h2⟩
      · obtain ⟨_, _, _, _, h9⟩ := h
        have h9 : (a1.1 2 4).toInt = 2 ∨ (a1.1 2 4).toInt = 3 := h9.elim (fun h => .inl h.1) (fun h => .inr h.1)
        omega
      · have := h.1
        clear h
        omega
      · have := h.1
        clear h
        omega
      · have := h.1
        clear h
        omega
    obtain ⟨hs0, ht2, kk, e5, e46⟩ := htk
    have hy0 : y.toInt = 0 := by omega
    have z0 : z.1 0 = b1.1 0 := hz.1 0 (by decide)
    have z1 : z.1 1 = b1.1 1 := hz.1 1 (by decide)
    have u2 := uT_1 (τ := b1) (by omega)
    have zx : TX z := by
      unfold TX
      rw [z0]
      exact htx1
    have b5 := htx1.2.1
    unfold bI at b5
    unfold f_X11_elseOf_121 f_X11_elseOf_139
    refine OK.bnd ((b_go z kk (by rw [z0]; exact hX1.2.1) (by rw [z0]; exact e5) (by omega)).and (b_goT z zx)) (fun t ht9 => ?_)
    obtain ⟨⟨ct, s, hs, hT⟩, _, tx, tu⟩ := ht9
    rw [z0, z1] at hs hT
    rw [z0] at tu
    have es : s = kk := by
      rcases Nat.lt_or_ge kk s with h9 | h9
      · have := hs.2.1 kk (Nat.le_refl _) h9
        unfold isB at this
        omega
      · exact Nat.le_antisymm h9 hs.1
    subst es
    have t13 : (t.1 0 13).toInt = 0 := by
      obtain ⟨_, h | h | h | h | h⟩ := hT
      · exact h.2.2.1
      · exact h.2.1
      · have h9 := h.1
        clear h
        unfold isD at h9
        omega
      · exact h.2.1
      · rcases h.2.2 with h9 | h9
        · have := h9.1
          clear h h9
          omega
        · exact h9.2.2
    refine OK.ieq (fun _ => ?_) (fun h => by omega)
    refine OK.ret ⟨hz.fy.trans (ct.fy (by decide)), .inr (.inl ⟨hq, l1, t13, tx, ?_⟩)⟩
    show xx + 0 + 40 * uT t ≤ _
    omega
  · have hk1 : ¬ (a1.1 2 4).toInt = 1 ∧ LT_ b1 := by
      rcases hv5 with hv | hv
      · have := hv.1
        omega
      · exact hv.2
    obtain ⟨hk1, hL⟩ := hk1
    refine OK.bndR (OK.eqR (a_typeOf p0 p1 a1 h0 h1 hr hj)) (fun w hw => ?_)
    rw [hw]
    dsimp only
    refine OK.bndR hFc (fun w9 hw9 => ?_)
    dsimp only
    refine OK.bndR (a_sortOf w9 a1 (u.toNatClampNeg + P - 400) (by omega) (by omega) (by omega)) (fun w11 hw11 => ?_)
    dsimp only
    have hw12 : w11.toInt = (b1.1 2 u.toNatClampNeg).toInt := by rw [hw11, srt]
    refine OK.bndR (a_fits w11 a1 b1 hK1 hk1) (fun w13 hw13 => ?_)
    dsimp only
    rw [hw12] at hw13
    refine OK.ieq (fun h130 => ?_) (fun h131 => ?_)
    · have hnF : ¬ FT_ b1 (b1.1 2 u.toNatClampNeg).toInt := by
        rcases hw13 with hv | hv
        · exact hv.2
        · have := hv.1
          omega
      refine OK.bnd (a_refuse _ _) (fun q hq => ?_)
      refine OK.grd (b01 (.inl hq)) ?_
      refine OK.ret ?_
      exact b_elseOf x2 b1 (288 + 8 * r + j) u (by omega) (by omega) htx1 (by omega) hFo _ (fun _ q2 c2 h1 h2 => bfail (q.1, q.2) hq q2 c2 h1 h2) (fun _ hFT => absurd hFT hnF)
    have hFT : FT_ b1 (b1.1 2 u.toNatClampNeg).toInt := by
      rcases hw13 with hv | hv
      · have := hv.1
        omega
      · exact hv.2
    refine OK.bndR (ab_ewr w11 a1 b1 hX1 hTW1 hk1 (by rw [hw12]; exact hFT)) (fun w15 hw15 => ?_)
    dsimp only
    refine OK.bnd (a_setElse p0 p1 w15 a1 h0 h1 hr hj) (fun a2 ha2 => ?_)
    obtain ⟨c1, c2, c3, c4, c5, c6⟩ := ha2
    refine OK.sw ?_
    refine b_elseOf x2 b1 (288 + 8 * r + j) u (by omega) (by omega) htx1 (by omega) hFo _ (fun h => absurd ⟨hL, hFT⟩ h) (fun _ _ y z xx hy hz hBV hxx => ?_)
    refine OK.sw ?_
    unfold f_X11_elseOf_121 f_X11_elseOf_139
    have z0 : z.1 0 = b1.1 0 := hz.1 0 (by decide)
    have hX2 : LX a2 z := hX1.ext (c1 1 (by decide)) (c1 2 (by decide)) (c2 3 (by decide)) (c2 2 (by decide)) (hz.1 1 (by decide)) (fun i _ => by rw [z0]) (hz.2.2.1 0 (by decide))
    have ht0 : ¬ (b1.1 0 6).toInt = 0 := by
      have h9 := htx1.2.2.2
      unfold LT_ W_ at hL
      omega
    have hk0 : ¬ (a1.1 2 4).toInt = 0 := fun e => ht0 (hK1.t0.mp e)
    have hg2 : a2.1 2 3 = z.1 0 5 := by rw [c1 2 (by decide), z0]; exact hK1.hg hk0 hk1
    have u2 := uT_1 ht0
    have nx1 := hX1.nxt.1
    have hFC : 0 ≤ (b1.1 2 u.toNatClampNeg).toInt ∧ (b1.1 2 u.toNatClampNeg).toInt ≤ 6 := by
      have t4 : (b1.1 0 13).toInt = 123 → (b1.1 0 6).toInt = 4 := fun h123 => by
        obtain ⟨_, h | h | h | h | h | h⟩ := hK1
        · omega
        · have := h.2.1
          clear h
          omega
        · have := h.2.1
          clear h
          omega
        · have := h.2.2.1
          clear h
          omega
        · have := h.2.2.1
          clear h
          omega
        · exact h.2.1
      unfold FT_ W_ at hFT
      unfold LT_ W_ at hL
      omega
    have h6 : (b1.1 0 13).toInt = 91 ↔ (b1.1 2 u.toNatClampNeg).toInt = 6 := by
      constructor
      · intro h91
        have t4 : (b1.1 0 6).toInt = 4 := by
          obtain ⟨_, h | h | h | h | h | h⟩ := hK1
          · omega
          · have := h.2.1
            clear h
            omega
          · have := h.2.1
            clear h
            omega
          · have := h.2.2.1
            clear h
            omega
          · have := h.2.2.1
            clear h
            omega
          · exact h.2.1
        unfold FT_ W_ at hFT
        omega
      · intro e6
        rw [e6] at hFT
        exact ft_6.mp hFT
    have AF2 : AFr r (8 * r + j) a1 a2 := ⟨fun c hc => c1 c (fun e => hc (by rw [e]; decide)), fun c hc => c2 c (fun e => hc (by rw [e]; decide)), c4, c6⟩
    have zL : ∀ c, c ∉ [0, 17, 18] → z.2.1 c = b1.2.1 c := fun c hc => hz.2.2.1 c (fun h9 => hc (by
      simp only [List.mem_cons, List.not_mem_nil, or_false] at h9 ⊢
      omega))
    refine OK.bnd2 (ab_go a2 z hX2 hg2) (fun a3 b3 hq3 => ?_)
    obtain ⟨ca3, cb3, cL3, hX3, hat3, _, hu3⟩ := hq3
    rw [z0] at hat3 hu3
    have FY3 : FY (288 + 8 * r + j) b1 b3 := hz.fy.trans (cb3.fy (by decide))
    have AF3 : AFr r (8 * r + j) a1 a3 := AF2.trans ca3.fr
    have X2 : EOX r j a1 b1 a2 z := by
      refine ⟨fun i hi => (hz.2.2.2 i hi).2, hBV.1, c3, ?_⟩
      rw [← huS, c5]
      rw [hw12] at hw15
      exact ⟨hw15 _ _ _ hBV.2.1 hBV.2.2, hFC⟩
    have X3 : EOX r j a1 b1 a3 b3 := by
      unfold EOX
      rw [ca3.1 25 (by decide), ca3.2.2.1 30 (by decide), cb3.1 16 (by decide) (by decide), cb3.1 19 (by decide) (by decide), cL3 17 (by decide), cL3 18 (by decide)]
      exact X2
    have L3 : ∀ c, c ∉ [0, 17, 18] → b3.2.1 c = b1.2.1 c := fun c hc => by
      rw [cL3 c (fun e => hc (by rw [e]; decide))]
      exact zL c hc
    by_cases hs6 : (b1.1 2 u.toNatClampNeg).toInt = 6
    · have hy1 : y.toInt = 1 := by
        have := h6.mpr hs6
        omega
      refine OK.ieq (fun _ => ?_) (fun h => by omega)
      have l93 : (93 : Int32).toInt = 93 := by decide
      have hm := ab_mark (c := 93) 93 a3 b3 hX3 (by omega) l93
      by_cases h93 : (a3.1 2 4).toInt = 93
      · refine OK.ieq (fun _ => ?_) (fun h => by omega)
        refine OK.sw ?_
        refine OK.ieq (fun h => by omega) (fun _ => ?_)
        refine OK.sw ?_
        refine OK.bnd2 (hm.1 h93) (fun a4 q4 hq4 => ?_)
        obtain ⟨e4, ca4, cb4, cL4, hX4, hat4, hu4⟩ := hq4
        refine OK.ret ?_
        refine OK.ieq (fun h => by omega) (fun _ => ?_)
        refine OK.ret ⟨FY3.trans (cb4.fy (by decide)), .inr (.inr ⟨l1, l1, hX4, fun c hc => ?_, ?_, AF3.trans ca4.fr, ?_, ?_⟩)⟩
        · rw [cL4 c (fun e => hc (by rw [e]; decide))]
          exact L3 c hc
        · show (b1.1 0 4).toInt ≤ (q4.2.1 0 4).toInt
          omega
        · show xx + 0 + 40 * uT q4.2 ≤ _
          omega
        · show EOX r j a1 b1 a4 q4.2
          unfold EOX
          rw [ca4.1 25 (by decide), ca4.2.2.1 30 (by decide), cb4.1 16 (by decide) (by decide), cb4.1 19 (by decide) (by decide), cL4 17 (by decide), cL4 18 (by decide)]
          exact X3
      · refine OK.ieq (fun h => by omega) (fun _ => ?_)
        refine OK.bnd (a_refuse _ _) (fun q hq => ?_)
        refine OK.grd (b01 (.inl hq)) ?_
        refine OK.ret ?_
        refine OK.ieq (fun h => by omega) (fun _ => ?_)
        refine OK.bnd (hm.2 h93) (fun q4 hq4 => ?_)
        obtain ⟨e4, c4⟩ := hq4
        refine OK.ieq (fun _ => ?_) (fun h => by omega)
        refine OK.ret ⟨FY3.trans (c4.fy (by decide)), .inl ⟨hq, l0, ?_⟩⟩
        show xx + 0 + 40 * uT q4.2 ≤ _
        rw [uT_eq (c4.2.1 3 (by decide)) (c4.2.1 5 (by decide)) (c4.2.1 6 (by decide))]
        omega
    · have hy1 : y.toInt = 0 := by
        have h9 : ¬ (b1.1 0 13).toInt = 91 := fun h => hs6 (h6.mp h)
        omega
      refine OK.ieq (fun h => by omega) (fun _ => ?_)
      refine OK.ret ?_
      refine OK.ieq (fun _ => ?_) (fun h => by omega)
      refine OK.ret ⟨FY3, .inr (.inr ⟨l1, l1, hX3, L3, ?_, AF3, ?_, X3⟩)⟩
      · show (b1.1 0 4).toInt ≤ (b3.1 0 4).toInt
        omega
      · show xx + 0 + 40 * uT b3 ≤ _
        omega
