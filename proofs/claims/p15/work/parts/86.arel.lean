/-! the class's fields of a pair of records, beside the reference's -/
theorem PHB.acc {p : Nat} {σ τ : ST} (h : PHB 4 p σ τ) {i : Nat} (hi : (i : Int) < (τ.1 8 p).toInt) : WL (σ.2.1 8 (6 * p + i)) (τ.2.1 9 (6 * p + i)) ∧ σ.1 7 (6 * p + i) = τ.1 11 (6 * p + i) ∧ bI (τ.1 11 (6 * p + i)) 0 8 ∧ ELH 4 (6 * p + i) (τ.1 11 (6 * p + i)).toInt.toNat σ τ ∧ ∀ j : Nat, (j : Int) < (τ.1 11 (6 * p + i)).toInt → FLH 4 p (τ.1 8 p).toInt (8 * (6 * p + i) + j) σ τ := by
  obtain ⟨⟨x1, _⟩, _, ⟨x2, x3⟩, x4, x5⟩ := h.2.2.2 i hi
  exact ⟨x1, x2, x3, x4, x5⟩
theorem PHB.cnt {p : Nat} {σ τ : ST} (h : PHB 4 p σ τ) : σ.1 5 p = τ.1 8 p ∧ (1 ≤ (τ.1 8 p).toInt ∧ (τ.1 8 p).toInt ≤ 6) ∧ (σ.1 4 1).toInt ≤ 262 := ⟨h.1.1, h.1.2, h.2.2.1⟩
/-- the first of so many -/
def FIX (m : Nat) (P : Nat → Prop) (val : Nat → Int) (z : Int) : Prop := z = -1 ∧ (∀ i, i < m → ¬ P i) ∨ ∃ i, i < m ∧ z = val i ∧ P i ∧ ∀ j, j < i → ¬ P j
theorem FIX.uniq {m : Nat} {P Q : Nat → Prop} {u v : Nat → Int} {z y : Int} (hPQ : ∀ i, i < m → (P i ↔ Q i)) (h : FIX m P u z) (k : FIX m Q v y) : z = -1 ∧ y = -1 ∨ ∃ i, i < m ∧ z = u i ∧ y = v i := by
  rcases h with ⟨a, b⟩ | ⟨i, a, b, c, d⟩
  · rcases k with ⟨a', b'⟩ | ⟨i', a', b', c', d'⟩
    · exact .inl ⟨a, a'⟩
    · exact absurd ((hPQ i' a').mpr c') (b i' a')
  · rcases k with ⟨a', b'⟩ | ⟨i', a', b', c', d'⟩
    · exact absurd ((hPQ i a).mp c) (b' i a)
    · have e : i = i' := by
        by_cases h1 : i < i'
        · exact absurd ((hPQ i a).mp c) (d' i h1)
        · by_cases h2 : i' < i
          · exact absurd ((hPQ i' a').mpr c') (d i' h2)
          · omega
      subst e
      exact .inr ⟨i, a, b, b'⟩
theorem a4_fieldNamed_29 (x2 : Int64) (x4 x5 : Int32) (σ : ST) (r m : Nat) (hr : r < 36) (h4 : x4.toInt = 8 * (r : Int)) (h5 : x5.toInt = m) (hm : m ≤ 8) : ∀ (f k : Nat) (x6 : Int32), x6.toInt = k → k ≤ m → m < f + k → (∀ i : Nat, i < k → ¬ σ.2.1 11 (8 * r + i) = x2) → OK (f_X5_fieldNamed_29 4 f x2 x4 x5 x6 σ) (RO σ fun v => FIX m (fun i => σ.2.1 11 (8 * r + i) = x2) (fun i => i) v.toInt) := by
  intro f
  induction f with
  | zero => intro k x6 h1 h2 h3; omega
  | succ f ih =>
    intro k x6 h6 hk hf hn
    rw [f_X5_fieldNamed_29]
    have lm := li_m1
    have l1 := li_1
    have l8 := li_8
    refine OK.ile (fun h => OK.roret (.inl ⟨lm, fun i hi => hn i (by omega)⟩)) (fun h => ?_)
    refine OK.ile (fun h => by omega) (fun _ => ?_)
    have e := il_addE (x := x4) (y := x6) (by omega) (by omega)
    have e1 := il_addE (x := x6) (y := 1) (by omega) (by omega)
    have np : (x4 + x6).toNatClampNeg = 8 * r + k := nC (by omega)
    refine OK.grd ⟨by omega, by omega⟩ ?_
    rw [np]
    refine OK.ite (fun h9 => ?_) (fun h9 => ?_)
    · rw [lg_cmp_eq] at h9
      exact OK.roret (.inr ⟨k, by omega, h6, h9, hn⟩)
    · rw [lg_cmp_eq] at h9
      refine ih (k + 1) (x6 + 1) (by omega) (by omega) (by omega) (fun i hi => ?_)
      by_cases e9 : i = k
      · rw [e9]; exact h9
      · exact hn i (by omega)
theorem a4_fieldNamed (p0 : Int32) (p1 : Int64) (σ : ST) (r m : Nat) (hr : r < 36) (h0 : p0.toInt = r) (hm : (σ.1 7 r).toInt = m) (hm8 : m ≤ 8) : OK (f_X5_fieldNamed 4 p0 p1 σ) (RO σ fun v => FIX m (fun i => σ.2.1 11 (8 * r + i) = p1) (fun i => i) v.toInt) := by
  unfold f_X5_fieldNamed f_X5_fieldNamed_24
  have l0 := li_0
  have l8 := li_8
  have lu := FUi
  have nr : p0.toNatClampNeg = r := nC h0
  have e8 : (p0 * 8).toInt = 8 * p0.toInt := by
    rw [Int32.mul_comm]
    exact mlE (k := 8) (y := p0) 8 l8 (by omega) (by omega)
  refine OK.bndR (a_isFieldOf p0 0 σ ⟨by omega, by omega⟩ (by omega)) (fun v hv => ?_)
  dsimp only
  refine OK.ieq (fun h => by omega) (fun _ => ?_)
  refine OK.grd ⟨by omega, by omega⟩ ?_
  rw [nr]
  exact a4_fieldNamed_29 p1 (p0 * 8) (σ.1 7 r) σ r m hr (by omega) hm hm8 FU 0 0 l0 (by omega) (by omega) (fun i hi => by omega)
theorem by_fieldOf_3 (x1 : Int32) (x2 : Int64) (τ : ST) (r m : Nat) (hr : r < 72) (h1 : x1.toInt = r) (hm : (τ.1 11 r).toInt = m) (hm8 : m ≤ 8) : ∀ (f k : Nat) (x4 : Int32), x4.toInt = k → k ≤ m → m < f + k → (∀ i : Nat, i < k → ¬ τ.2.1 12 (8 * r + i) = x2) → OK (f_X11_fieldOf_3 f x1 x2 x4 τ) (RO τ fun v => FIX m (fun i => τ.2.1 12 (8 * r + i) = x2) (fun i => 8 * (r : Int) + i) v.toInt) := by
  intro f
  induction f with
  | zero => intro k x4 h1 h2 h3; omega
  | succ f ih =>
    intro k x4 h4 hk hf hn
    rw [f_X11_fieldOf_3]
    have lm := li_m1
    have l1 := li_1
    have l8 := li_8
    have nr : x1.toNatClampNeg = r := nC h1
    refine OK.grd ⟨by omega, by omega⟩ ?_
    rw [nr]
    refine OK.ile (fun h => OK.roret (.inl ⟨lm, fun i hi => hn i (by omega)⟩)) (fun h => ?_)
    have em := mlE (k := 8) (y := x1) 8 l8 (by omega) (by omega)
    have e := il_addE (x := 8 * x1) (y := x4) (by omega) (by omega)
    have e1 := il_addE (x := x4) (y := 1) (by omega) (by omega)
    have np : (8 * x1 + x4).toNatClampNeg = 8 * r + k := nC (by omega)
    refine OK.grd ⟨by omega, by omega⟩ ?_
    rw [np]
    refine OK.ite (fun h9 => ?_) (fun h9 => ?_)
    · rw [lg_cmp_eq] at h9
      exact OK.roret (.inr ⟨k, by omega, by show (8 * x1 + x4).toInt = 8 * (r : Int) + (k : Int); omega, h9, hn⟩)
    · rw [lg_cmp_eq] at h9
      refine ih (k + 1) (x4 + 1) (by omega) (by omega) (by omega) (fun i hi => ?_)
      by_cases e9 : i = k
      · rw [e9]; exact h9
      · exact hn i (by omega)
theorem by_fieldOf (p0 : Int32) (p1 : Int64) (τ : ST) (r m : Nat) (hr : r < 72) (h0 : p0.toInt = r) (hm : (τ.1 11 r).toInt = m) (hm8 : m ≤ 8) : OK (f_X11_fieldOf p0 p1 τ) (RO τ fun v => FIX m (fun i => τ.2.1 12 (8 * r + i) = p1) (fun i => 8 * (r : Int) + i) v.toInt) := by
  have lu := FUi
  unfold f_X11_fieldOf
  exact by_fieldOf_3 p0 p1 τ r m hr h0 hm hm8 FU 0 0 li_0 (by omega) (by omega) (fun i hi => by omega)
/-- two plans, both sides -/
def PQ (p q : Nat) (σ τ : ST) : Prop := (p < 6 ∧ q < 6) ∧ ((τ.1 0 53).toInt = p ∧ (τ.1 0 54).toInt = q) ∧ (PHB 4 p σ τ ∧ PHB 4 q σ τ) ∧ ME τ
theorem PQ.rm {p q : Nat} {σ τ : ST} (h : PQ p q σ τ) : rmW τ = (τ.1 8 p).toInt ∧ rmR τ = (τ.1 8 q).toInt := by
  have e1 : (τ.1 0 53).toNatClampNeg = p := nC h.2.1.1
  have e2 : (τ.1 0 54).toNatClampNeg = q := nC h.2.1.2
  unfold rmW rmR
  rw [e1, e2]
  exact ⟨rfl, rfl⟩
theorem ab_source {p q : Nat} {σ τ : ST} (h : PQ p q σ τ) (p0 p1 p2 wi f : Int32) (w r j : Nat) (hw : (w : Int) < (τ.1 8 p).toInt) (hr : (r : Int) < (τ.1 8 q).toInt) (hj : (j : Int) < (τ.1 11 (6 * q + r)).toInt) (h0 : p0.toInt = 6 * (p : Int) + w) (h1 : p1.toInt = 6 * (q : Int) + r) (h2 : p2.toInt = j) (hwi : wi.toInt = w) (hf : f.toInt = 8 * (6 * (q : Int) + r) + j) : OK (f_X5_sourceOf 4 p0 p1 p2 σ) (RO σ fun z => ∃ y : Int32, f_X11_fieldFor wi f τ = some (y, τ) ∧ (z.toInt = -1 ∧ y.toInt = -1 ∨ ∃ i : Nat, (i : Int) < (τ.1 11 (6 * p + w)).toInt ∧ z.toInt = i ∧ y.toInt = 8 * (6 * (p : Int) + w) + i)) := by
  obtain ⟨⟨hp, hq⟩, ⟨e53, e54⟩, ⟨hP, hQ⟩, hM⟩ := h
  obtain ⟨a1, a2, a3, a4, a5⟩ := hP.acc hw
  obtain ⟨b1, b2, b3, b4, b5⟩ := hQ.acc hr
  have cP := hP.cnt
  have cQ := hQ.cnt
  have g3 := a3.1
  have g4 := a3.2
  have g5 := b3.1
  have g6 := b3.2
  obtain ⟨m, hm⟩ : ∃ m : Nat, (τ.1 11 (6 * p + w)).toInt = m := ⟨_, (Int.toNat_of_nonneg (by omega)).symm⟩
  obtain ⟨⟨n1, n2⟩, n3, n4, n5⟩ := b5 j hj
  have n1 : WL (σ.2.1 11 (8 * (6 * q + r) + j)) (τ.2.1 12 (8 * (6 * q + r) + j)) := n1
  have n3 : FMR (σ.2.1 12 (8 * (6 * q + r) + j)) (τ.2.1 14 (8 * (6 * q + r) + j)) := n3
  have nf : f.toNatClampNeg = 8 * (6 * q + r) + j := nC (by omega)
  have l0 := li_0
  have lm := li_m1
  have l6 := li_6
  have m7 : (σ.1 7 (6 * p + w)).toInt = m := by rw [a2]; exact hm
  have wl : ∀ {x y : Int64}, WL x y → ∀ i, i < m → (σ.2.1 11 (8 * (6 * p + w) + i) = x ↔ τ.2.1 12 (8 * (6 * p + w) + i) = y) := fun {x y} hx i hi => by
    have hh : WL (σ.2.1 11 (8 * (6 * p + w) + i)) (τ.2.1 12 (8 * (6 * p + w) + i)) := (a5 i (by omega)).1.1
    exact hh.iff hx
  have x1 := mlE (k := 6) (y := τ.1 0 53) 6 l6 (by omega) (by omega)
  have x2 := il_addE (x := 6 * τ.1 0 53) (y := wi) (by omega) (by omega)
  have fo : ∀ x : Int64, OK (f_X11_fieldOf (6 * τ.1 0 53 + wi) x τ) (RO τ fun v => FIX m (fun i => τ.2.1 12 (8 * (6 * p + w) + i) = x) (fun i => 8 * ((6 * p + w : Nat) : Int) + i) v.toInt) := fun x => by_fieldOf _ x τ (6 * p + w) m (by omega) (by omega) hm (by omega)
  unfold f_X5_sourceOf
  rw [a4_fieldName p1 p2 σ (r := 6 * q + r) (j := j) (by omega) h2 (by omega) (by omega), sbnd]
  dsimp only
  refine OK.bndR (a4_fieldNamed p0 _ σ (6 * p + w) m (by omega) (by omega) m7 (by omega)) (fun z hz => ?_)
  dsimp only
  rw [a4_formerName p1 p2 σ (r := 6 * q + r) (j := j) (by omega) h2 (by omega) (by omega), sbnd]
  dsimp only
  have hB : f_X11_fieldFor wi f τ = (f_X11_fieldOf (6 * τ.1 0 53 + wi) (τ.2.1 12 (8 * (6 * q + r) + j)) τ).bind fun q2 => if 0 ≤ q2.1 then (some (q2.1, q2.2)) else (if (lg_cmp (q2.2.2.1 14 (8 * (6 * q + r) + j)) 0) ≤ 0 then (some (q2.1, q2.2)) else ((f_X11_fieldOf ((6 * (q2.2.1 0 53)) + wi) (q2.2.2.1 14 (8 * (6 * q + r) + j)) q2.2).bind fun q4 => some (q4.1, q4.2))) := by
    unfold f_X11_fieldFor
    rw [if_pos ⟨by omega, by omega⟩, nf]
  obtain ⟨⟨y, s⟩, ey, es, hy⟩ := fo (τ.2.1 12 (8 * (6 * q + r) + j))
  have es : s = τ := es
  subst es
  have hy : FIX m (fun i => s.2.1 12 (8 * (6 * p + w) + i) = s.2.1 12 (8 * (6 * q + r) + j)) (fun i => 8 * ((6 * p + w : Nat) : Int) + i) y.toInt := hy
  rw [ey, sbnd] at hB
  dsimp only at hB
  rcases hz.uniq (wl n1) hy with ⟨z1, y1⟩ | ⟨i, i1, i2, i3⟩
  rotate_left
  · rw [if_pos (by rw [Int32.le_iff_toInt_le]; omega)] at hB
    refine OK.ieq (fun h => by omega) (fun _ => ?_)
    exact OK.roret ⟨y, hB, .inr ⟨i, by omega, i2, by omega⟩⟩
  rw [if_neg (by rw [Int32.le_iff_toInt_le]; omega)] at hB
  have hpos := n3.pos
  refine OK.ieq (fun _ => ?_) (fun h => by omega)
  have hle : (lg_cmp (s.2.1 14 (8 * (6 * q + r) + j)) 0) ≤ 0 ↔ ¬ 0 < (s.2.1 14 (8 * (6 * q + r) + j)).toInt := by
    rw [lg_cmp_le, Int64.le_iff_toInt_le, l64_0]
    omega
  refine OK.ite (fun h => ?_) (fun h => ?_)
  · rw [lg_cmp_eq] at h
    rw [if_pos (hle.mpr (hpos.mp h))] at hB
    exact OK.roret ⟨y, hB, .inl ⟨z1, y1⟩⟩
  · rw [lg_cmp_eq] at h
    rw [if_neg (fun h9 => h (hpos.mpr (hle.mp h9)))] at hB
    have n3 : WL (σ.2.1 12 (8 * (6 * q + r) + j)) (s.2.1 14 (8 * (6 * q + r) + j)) := by
      rcases n3 with n3 | n3
      · exact absurd n3.1 h
      · exact n3.1
    refine OK.bndR (a4_fieldNamed p0 _ σ (6 * p + w) m (by omega) (by omega) m7 (by omega)) (fun z2 hz2 => ?_)
    dsimp only
    obtain ⟨⟨y2, t⟩, ey2, es2, hy2⟩ := fo (s.2.1 14 (8 * (6 * q + r) + j))
    have es2 : t = s := es2
    subst es2
    have hy2 : FIX m (fun i => t.2.1 12 (8 * (6 * p + w) + i) = t.2.1 14 (8 * (6 * q + r) + j)) (fun i => 8 * ((6 * p + w : Nat) : Int) + i) y2.toInt := hy2
    rw [ey2, sbnd] at hB
    refine OK.roret ⟨y2, hB, ?_⟩
    rcases hz2.uniq (wl n3) hy2 with h9 | ⟨i, i1, i2, i3⟩
    · exact .inl h9
    · exact .inr ⟨i, by omega, i2, by omega⟩
theorem ab_mayPair {p q : Nat} {σ τ : ST} (h : PQ p q σ τ) (p0 p1 wi ri : Int32) (w r : Nat) (hw : (w : Int) < (τ.1 8 p).toInt) (hr : (r : Int) < (τ.1 8 q).toInt) (h0 : p0.toInt = 6 * (p : Int) + w) (h1 : p1.toInt = 6 * (q : Int) + r) (hwi : wi.toInt = w) (hri : ri.toInt = r) : OK (f_X0_mayPair p0 p1 σ) (RO σ fun z => z.toInt = 0 ∧ ¬ NYS τ wi ri ∨ z.toInt = 1 ∧ NYS τ wi ri) := by
  obtain ⟨⟨hp, hq⟩, ⟨e53, e54⟩, ⟨hP, hQ⟩, hM⟩ := h
  have a1 := (hP.acc hw).1
  have b1 := (hQ.acc hr).1
  have cP := hP.cnt
  have cQ := hQ.cnt
  have l0 := li_0
  have l1 := li_1
  have n53 : (τ.1 0 53).toNatClampNeg = p := nC e53
  have n54 : (τ.1 0 54).toNatClampNeg = q := nC e54
  have nw : wi.toNatClampNeg = w := nC hwi
  have nr : ri.toNatClampNeg = r := nC hri
  have h18 : ¬ (w = 0 ∧ r = 0) → OK (f_X0_mayPair_18 p0 p1 σ) (RO σ fun z => z.toInt = 0 ∧ ¬ NYS τ wi ri ∨ z.toInt = 1 ∧ NYS τ wi ri) := fun hn => by
    unfold f_X0_mayPair_18 f_X0_mayPair_38
    rw [a4_recordName p0 σ (r := 6 * p + w) (by omega) (by omega), sbnd]
    dsimp only
    rw [a4_recordName p1 σ (r := 6 * q + r) (by omega) (by omega), sbnd]
    dsimp only
    have hi := a1.iff b1
    have hN : NYS τ wi ri ↔ σ.2.1 8 (6 * p + w) = σ.2.1 8 (6 * q + r) := by
      unfold NYS
      rw [n53, n54, nw, nr, hi]
      exact ⟨fun h => h.elim (fun h => absurd ⟨by omega, by omega⟩ hn) id, .inr⟩
    refine OK.ite (fun h => ?_) (fun h => ?_)
    · rw [lg_cmp_eq] at h
      exact OK.roret (.inr ⟨l1, hN.mpr h⟩)
    · rw [lg_cmp_eq] at h
      exact OK.roret (.inl ⟨l0, fun h9 => h (hN.mp h9)⟩)
  unfold f_X0_mayPair f_X0_mayPair_38
  obtain ⟨v1, ev1, hv1⟩ := a_floorMod p0 σ (k := 6 * p + w) (by omega) (by omega)
  obtain ⟨v2, ev2, hv2⟩ := a_floorMod p1 σ (k := 6 * q + r) (by omega) (by omega)
  rw [ev1, sbnd]
  dsimp only
  refine OK.ieq (fun hz1 => ?_) (fun hz1 => h18 (by omega))
  rw [ev2, sbnd]
  dsimp only
  exact OK.ieq (fun hz2 => OK.roret (.inr ⟨l1, .inl ⟨by omega, by omega⟩⟩)) (fun hz2 => h18 (by omega))
theorem ELH.has {r m : Nat} {σ τ : ST} (h : ELH 4 r m σ τ) (hr : r < 36) (p0 p1 : Int32) {j : Nat} (h0 : p0.toInt = r) (h1 : p1.toInt = j) (hj : j < m) (hj8 : j < 8) (hb : (τ.1 16 (8 * r + j)).toInt = 0 ∨ (τ.1 16 (8 * r + j)).toInt = 1) : OK (f_X5_hasElse 4 p0 p1 σ) (RO σ fun z => z.toInt = 0 ∧ τ.1 16 (8 * r + j) = 0 ∨ z.toInt = 1 ∧ ¬ τ.1 16 (8 * r + j) = 0) := by
  obtain ⟨w, w1, w2, w3⟩ := h
  rw [a4_hasElse p0 p1 σ h0 h1 hr hj8 w1 w2]
  refine OK.roret ?_
  have hk := w3 j (by omega)
  cases e : w.testBit j with
  | true =>
    have := (hk.mp e).2
    exact .inr ⟨li_1, fun h9 => by rw [h9] at this; revert this; decide⟩
  | false =>
    refine .inl ⟨li_0, ?_⟩
    rcases hb with hb | hb
    · exact Int32.toInt_inj.mp (hb.trans li_0.symm)
    · exact absurd (hk.mpr ⟨hj, hb⟩) (by rw [e]; decide)
theorem ab_fieldsFit_2 {p q : Nat} {σ τ : ST} {PR : Nat → Int32} (h : PQ p q σ τ) (hPR : ∀ k, k < 36 → (PR k = 0 ↔ lbt (σ.2.1 41 4) k = false)) (p0 p1 wi ri : Int32) (w r : Nat) (hw : (w : Int) < (τ.1 8 p).toInt) (hr : (r : Int) < (τ.1 8 q).toInt) (h0 : p0.toInt = 6 * (p : Int) + w) (h1 : p1.toInt = 6 * (q : Int) + r) (hwi : wi.toInt = w) (hri : ri.toInt = r) : ∀ (n j : Nat) (x3 : Int32), x3.toInt = j → (j : Int) ≤ (τ.1 11 (6 * q + r)).toInt → 9 < n + j → (∀ (k : Nat) (f v : Int32), k < j → f.toInt = 8 * (6 * (τ.1 0 54).toInt + ri.toInt) + k → f_X11_fieldFor wi f τ = some (v, τ) → (0 ≤ v.toInt → MTt τ PR (τ.1 15 v.toNatClampNeg) (τ.1 15 f.toNatClampNeg)) ∧ (v.toInt < 0 → ¬ τ.1 16 f.toNatClampNeg = 0)) → OK (f_X0_fieldsFit_2 n p0 p1 x3 σ) (RO σ fun z => z.toInt = 0 ∧ ¬ HXP τ PR wi ri ∨ z.toInt = 1 ∧ HXP τ PR wi ri) := by
  intro n
  have h' := h
  obtain ⟨⟨hp, hq⟩, ⟨e53, e54⟩, ⟨hP, hQ⟩, hM⟩ := h'
  obtain ⟨a1, a2, a3, a4, a5⟩ := hP.acc hw
  obtain ⟨b1, b2, b3, b4, b5⟩ := hQ.acc hr
  have cP := hP.cnt
  have cQ := hQ.cnt
  have g3 := a3.1
  have g4 := a3.2
  have g5 := b3.1
  have g6 := b3.2
  have l0 := li_0
  have l1 := li_1
  have lm := li_m1
  have n54 : (τ.1 0 54).toNatClampNeg = q := nC e54
  have nr : ri.toNatClampNeg = r := nC hri
  induction n with
  | zero => intro j x3 k1 k2 k3; omega
  | succ n ih =>
    intro j x3 k1 k2 k3 hI
    rw [f_X0_fieldsFit_2]
    unfold f_X0_fieldsFit_68
    rw [a4_fieldsOf p1 σ (r := 6 * q + r) (by omega) (by omega), sbnd]
    dsimp only
    rw [b2]
    refine OK.ile (fun hle => OK.roret (.inr ⟨l1, fun k f v kk1 kk2 kk3 => ?_⟩)) (fun hlt => ?_)
    · rw [n54, nr] at kk1
      exact hI k f v (by omega) kk2 kk3
    have hj : (j : Int) < (τ.1 11 (6 * q + r)).toInt := by omega
    have e3 := il_addE (x := x3) (y := 1) (by omega) (by omega)
    have hN : 8 * (6 * q + r) + j ≤ 1000 := by omega
    have iF := ofNatI hN
    have nF : (Int32.ofNat (8 * (6 * q + r) + j)).toNatClampNeg = 8 * (6 * q + r) + j := nC iF
    refine OK.bndR (ab_source h p0 p1 x3 wi (Int32.ofNat (8 * (6 * q + r) + j)) w r j hw hr hj h0 h1 k1 hwi (by omega)) (fun z hz => ?_)
    dsimp only
    obtain ⟨y, ey, hy⟩ := hz
    have bad : ¬ ((0 ≤ y.toInt → MTt τ PR (τ.1 15 y.toNatClampNeg) (τ.1 15 (8 * (6 * q + r) + j))) ∧ (y.toInt < 0 → ¬ τ.1 16 (8 * (6 * q + r) + j) = 0)) → ¬ HXP τ PR wi ri := fun hm h9 => by
      have x := h9 j _ y (by rw [n54, nr]; exact hj) (by omega) ey
      rw [nF] at x
      exact hm x
    have next : ((0 ≤ y.toInt → MTt τ PR (τ.1 15 y.toNatClampNeg) (τ.1 15 (8 * (6 * q + r) + j))) ∧ (y.toInt < 0 → ¬ τ.1 16 (8 * (6 * q + r) + j) = 0)) → OK (f_X0_fieldsFit_2 n p0 p1 (x3 + 1) σ) (RO σ fun z => z.toInt = 0 ∧ ¬ HXP τ PR wi ri ∨ z.toInt = 1 ∧ HXP τ PR wi ri) := fun hm => by
      refine ih (j + 1) (x3 + 1) (by omega) (by omega) (by omega) (fun k f v kk1 kk2 kk3 => ?_)
      by_cases e : k < j
      · exact hI k f v e kk2 kk3
      · have ef : f = Int32.ofNat (8 * (6 * q + r) + j) := Int32.toInt_inj.mp (by omega)
        rw [ef] at kk3 ⊢
        rw [ey] at kk3
        have ev : y = v := (Prod.mk.inj (Option.some.inj kk3)).1
        rw [← ev, nF]
        exact hm
    have b16 := (b5 j hj).2.2.2
    have b16 : (τ.1 16 (8 * (6 * q + r) + j)).toInt = 0 ∨ (τ.1 16 (8 * (6 * q + r) + j)).toInt = 1 := b16.elim .inl (fun h => .inr h.1)
    rcases hy with ⟨y1, y2⟩ | ⟨i, i1, i2, i3⟩
    · refine OK.ieq (fun _ => ?_) (fun h9 => by omega)
      refine OK.bndR (b4.has (by omega) p1 x3 (by omega) k1 (by omega) (by omega) b16) (fun u hu => ?_)
      dsimp only
      refine OK.ieq (fun hu0 => OK.roret (.inl ⟨l0, bad (fun h9 => ?_)⟩)) (fun hu0 => next ⟨fun h9 => by omega, fun _ => ?_⟩)
      · rcases hu with hu | hu
        · exact h9.2 (by omega) hu.2
        · omega
      · rcases hu with hu | hu
        · omega
        · exact hu.2
    · refine OK.ieq (fun h9 => by omega) (fun _ => ?_)
      rw [a4_typeOf p0 z σ (r := 6 * p + w) (j := i) (by omega) i2 (by omega) (by omega), sbnd]
      dsimp only
      rw [a4_typeOf p1 x3 σ (r := 6 * q + r) (j := j) (by omega) k1 (by omega) (by omega), sbnd]
      dsimp only
      have ny : y.toNatClampNeg = 8 * (6 * p + w) + i := nC (by omega)
      have tW : TY p (τ.1 8 p).toInt σ τ 4 (σ.1 13 (8 * (6 * p + w) + i)) (τ.1 15 (8 * (6 * p + w) + i)) := (a5 i i1).2.2.1
      have tR : TY q (τ.1 8 q).toInt σ τ 4 (σ.1 13 (8 * (6 * q + r) + j)) (τ.1 15 (8 * (6 * q + r) + j)) := (b5 j hj).2.2.1
      rw [ny] at bad next
      refine OK.bndR (aT_fits cP.2.2 hp hq cP.2.1.2 cQ.2.1.2 hPR _ _ _ _ 4 4 tW tR (by omega) (by omega)) (fun u hu => ?_)
      dsimp only
      refine OK.ieq (fun hu0 => OK.roret (.inl ⟨l0, bad (fun h9 => ?_)⟩)) (fun hu0 => next ⟨fun _ => ?_, fun h9 => by omega⟩)
      · rcases hu with hu | hu
        · exact hu.2 (h9.1 (by omega))
        · omega
      · rcases hu with hu | hu
        · omega
        · exact hu.2
theorem ab_fieldsFit {p q : Nat} {σ τ : ST} {PR : Nat → Int32} (h : PQ p q σ τ) (hPR : ∀ k, k < 36 → (PR k = 0 ↔ lbt (σ.2.1 41 4) k = false)) (p0 p1 wi ri : Int32) (w r : Nat) (hw : (w : Int) < (τ.1 8 p).toInt) (hr : (r : Int) < (τ.1 8 q).toInt) (h0 : p0.toInt = 6 * (p : Int) + w) (h1 : p1.toInt = 6 * (q : Int) + r) (hwi : wi.toInt = w) (hri : ri.toInt = r) : OK (f_X0_fieldsFit p0 p1 σ) (RO σ fun z => z.toInt = 0 ∧ ¬ HXP τ PR wi ri ∨ z.toInt = 1 ∧ HXP τ PR wi ri) := by
  unfold f_X0_fieldsFit
  have lu := FUi
  have b3 := (h.2.2.1.2.acc hr).2.2.1
  have g := b3.1
  exact ab_fieldsFit_2 h hPR p0 p1 wi ri w r hw hr h0 h1 hwi hri FU 0 0 li_0 (by omega) (by omega) (fun k f v hk => by omega)
