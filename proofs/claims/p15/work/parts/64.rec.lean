/-! a record: both read the same -/
/-- what stays of the reference's numbers -/
def BQ (R : Nat) (τ b : ST) : Prop := (∀ i, i < R → b.2.1 9 i = τ.2.1 9 i) ∧ ∀ i, i < 8 * R → b.2.1 12 i = τ.2.1 12 i ∧ b.2.1 14 i = τ.2.1 14 i ∧ b.2.1 17 i = τ.2.1 17 i ∧ b.2.1 18 i = τ.2.1 18 i
theorem BQ.rf {R : Nat} {τ : ST} : BQ R τ τ := ⟨fun _ _ => rfl, fun _ _ => ⟨rfl, rfl, rfl, rfl⟩⟩
theorem BQ.trans {R R1 : Nat} {τ b w : ST} (h : BQ R τ b) (k : BQ R1 b w) (hR : R ≤ R1) : BQ R τ w := ⟨fun i hi => (k.1 i (by omega)).trans (h.1 i hi), fun i hi => by
  have x := h.2 i hi
  have y := k.2 i (by omega)
  exact ⟨y.1.trans x.1, y.2.1.trans x.2.1, y.2.2.1.trans x.2.2.1, y.2.2.2.trans x.2.2.2⟩⟩
theorem BQ.l0 {R : Nat} {τ b : ST} (h : ∀ c, c ≠ 0 → b.2.1 c = τ.2.1 c) : BQ R τ b := ⟨fun i _ => by rw [h 9 (by decide)], fun i _ => ⟨by rw [h 12 (by decide)], by rw [h 14 (by decide)], by rw [h 17 (by decide)], by rw [h 18 (by decide)]⟩⟩
theorem BLs.bq {R t0 N : Nat} {τ b : ST} (h : BLs t0 N τ b) (hN : 8 * R ≤ N) : BQ R τ b := ⟨fun i _ => by rw [h.1 9 (by decide)], fun i hi => h.2.2 i (by omega)⟩
def FW (K t0 R : Nat) (τ b : ST) : Prop := (∀ c, c ∉ [0, 2, 3, 4, 5, 7, 8, 10, 11, 13, 15, 16, 19] → b.1 c = τ.1 c) ∧ (∀ i, i ∉ [4, 5, 6, 8, 10, 12, 13, 34] → b.1 0 i = τ.1 0 i) ∧ (∀ j, j < t0 → b.1 2 j = τ.1 2 j ∧ b.1 3 j = τ.1 3 j ∧ b.1 4 j = τ.1 4 j) ∧ (∀ j, j < 4 * t0 → b.1 5 j = τ.1 5 j) ∧ (∀ i, i < K → b.1 8 i = τ.1 8 i) ∧ (∀ i, i < R → b.1 11 i = τ.1 11 i) ∧ (∀ i, i < 8 * R → b.1 15 i = τ.1 15 i ∧ b.1 13 i = τ.1 13 i ∧ b.1 16 i = τ.1 16 i ∧ b.1 19 i = τ.1 19 i) ∧ ((∀ i, bI (τ.1 19 i) 0 12) → ∀ i, bI (b.1 19 i) 0 12) ∧ (∀ i, i < R → b.1 10 i = τ.1 10 i) ∧ BQ R τ b
theorem FW.rf {K t0 R : Nat} {τ : ST} : FW K t0 R τ τ := ⟨fun _ _ => rfl, fun _ _ => rfl, fun _ _ => ⟨rfl, rfl, rfl⟩, fun _ _ => rfl, fun _ _ => rfl, fun _ _ => rfl, fun _ _ => ⟨rfl, rfl, rfl, rfl⟩, fun h => h, fun _ _ => rfl, BQ.rf⟩
theorem FW.trans {K t0 R K1 t1 R1 : Nat} {τ b w : ST} (h : FW K t0 R τ b) (k : FW K1 t1 R1 b w) (hK : K ≤ K1) (ht : t0 ≤ t1) (hR : R ≤ R1) : FW K t0 R τ w := ⟨fun c hc => (k.1 c hc).trans (h.1 c hc), fun i hi => (k.2.1 i hi).trans (h.2.1 i hi), fun j hj => by
  have a := h.2.2.1 j hj
  have b := k.2.2.1 j (by omega)
  exact ⟨b.1.trans a.1, b.2.1.trans a.2.1, b.2.2.trans a.2.2⟩, fun j hj => (k.2.2.2.1 j (by omega)).trans (h.2.2.2.1 j hj), fun i hi => (k.2.2.2.2.1 i (by omega)).trans (h.2.2.2.2.1 i hi), fun i hi => (k.2.2.2.2.2.1 i (by omega)).trans (h.2.2.2.2.2.1 i hi), fun i hi => by
  have a := h.2.2.2.2.2.2.1 i hi
  have b := k.2.2.2.2.2.2.1 i (by omega)
  exact ⟨b.1.trans a.1, b.2.1.trans a.2.1, b.2.2.1.trans a.2.2.1, b.2.2.2.trans a.2.2.2⟩, fun h9 => k.2.2.2.2.2.2.2.1 (h.2.2.2.2.2.2.2.1 h9), fun i hi => (k.2.2.2.2.2.2.2.2.1 i (by omega)).trans (h.2.2.2.2.2.2.2.2.1 i hi), h.2.2.2.2.2.2.2.2.2.trans k.2.2.2.2.2.2.2.2.2 hR⟩
theorem FZ.fw {K t0 R N : Nat} {τ b : ST} (h : FZ t0 R N τ b) (hN : 8 * R ≤ N) : FW K t0 R τ b := by
  refine ⟨fun c hc => h.1 c (fun h9 => hc ?_), fun i hi => h.2.1 i hi, h.2.2.1, h.2.2.2.1, fun i _ => by rw [h.1 8 (by decide)], h.2.2.2.2.1, fun i hi => h.2.2.2.2.2.1 i (by omega), h.2.2.2.2.2.2.1, fun i _ => by rw [h.1 10 (by decide)], fun i _ => by rw [h.2.2.2.2.2.2.2.1], fun i hi => h.2.2.2.2.2.2.2.2 i (by omega)⟩
  simp only [List.mem_cons, List.not_mem_nil, or_false] at h9 ⊢
  omega
theorem CH.fw {K t0 R : Nat} {I : List Nat} {τ b : ST} (hI : ∀ i, i ∈ I → i ∈ [4, 5, 6, 8, 10, 12, 13, 34]) (h : CH [] I τ b) : FW K t0 R τ b := (h.fz (t0 := t0) (R := R) (N := 8 * R) hI).fw (Nat.le_refl _)
/-- what stays of the class's draft: the plans before, the rows below c -/
def AP (k c : Nat) (σ a : ST) : Prop := (∀ i, i < k → a.1 21 i = σ.1 21 i ∧ a.1 22 i = σ.1 22 i) ∧ (∀ i, i < 6 * k → a.1 23 i = σ.1 23 i ∧ a.2.1 24 i = σ.2.1 24 i ∧ a.1 25 i = σ.1 25 i) ∧ (∀ i, i < 48 * k → a.2.1 27 i = σ.2.1 27 i ∧ a.2.1 28 i = σ.2.1 28 i ∧ a.2.1 30 i = σ.2.1 30 i ∧ a.1 29 i = σ.1 29 i) ∧ ∀ i, i < c → a.1 31 i = σ.1 31 i ∧ a.1 32 i = σ.1 32 i ∧ a.1 33 i = σ.1 33 i
theorem AP.rf {k c : Nat} {σ : ST} : AP k c σ σ := ⟨fun _ _ => ⟨rfl, rfl⟩, fun _ _ => ⟨rfl, rfl, rfl⟩, fun _ _ => ⟨rfl, rfl, rfl, rfl⟩, fun _ _ => ⟨rfl, rfl, rfl⟩⟩
theorem AP.trans {k c : Nat} {σ a b : ST} (h : AP k c σ a) (g : AP k c a b) : AP k c σ b := ⟨fun i hi => ⟨(g.1 i hi).1.trans (h.1 i hi).1, (g.1 i hi).2.trans (h.1 i hi).2⟩, fun i hi => ⟨(g.2.1 i hi).1.trans (h.2.1 i hi).1, (g.2.1 i hi).2.1.trans (h.2.1 i hi).2.1, (g.2.1 i hi).2.2.trans (h.2.1 i hi).2.2⟩, fun i hi => by
  have x := h.2.2.1 i hi
  have y := g.2.2.1 i hi
  exact ⟨y.1.trans x.1, y.2.1.trans x.2.1, y.2.2.1.trans x.2.2.1, y.2.2.2.trans x.2.2.2⟩, fun i hi => by
  have x := h.2.2.2 i hi
  have y := g.2.2.2 i hi
  exact ⟨y.1.trans x.1, y.2.1.trans x.2.1, y.2.2.trans x.2.2⟩⟩
theorem CA.ap {k c : Nat} {σ a : ST} (h : CA σ a) : AP k c σ a := ⟨fun i _ => ⟨by rw [h.1 21 (by decide)], by rw [h.1 22 (by decide)]⟩, fun i _ => ⟨by rw [h.1 23 (by decide)], by rw [h.2.2.1 24 (by decide)], by rw [h.1 25 (by decide)]⟩, fun i _ => ⟨by rw [h.2.2.1 27 (by decide)], by rw [h.2.2.1 28 (by decide)], by rw [h.2.2.1 30 (by decide)], by rw [h.1 29 (by decide)]⟩, fun i _ => ⟨by rw [h.1 31 (by decide)], by rw [h.1 32 (by decide)], by rw [h.1 33 (by decide)]⟩⟩
theorem AFF.ap {k c c0 r n : Nat} {σ a : ST} (h : AFF c0 r n σ a) (hr : 6 * k ≤ r) (hn : 48 * k ≤ n) (hc : c ≤ c0) : AP k c σ a := ⟨fun i _ => ⟨by rw [h.1 21 (by decide)], by rw [h.1 22 (by decide)]⟩, fun i hi => ⟨(h.2.2.1 i (by omega)).1, by rw [h.2.2.2.1 24 (by decide)], (h.2.2.1 i (by omega)).2⟩, fun i hi => h.2.2.2.2.1 i (by omega), fun i hi => by
  have x := h.2.2.2.2.2 i (by omega)
  exact ⟨x.1, x.2.1, x.2.2.2⟩⟩
/-- a name unlike those before it -/
def DNM (f : Nat → Int64) (m i : Nat) : Prop := ∀ j : Nat, j < i → ¬ f (m + j) = f (m + i)
/-- a plan so far, side by side -/
def PB_ (P lo t k m : Nat) (σ τ : ST) : Prop := ((1 ≤ P ∧ P ≤ 6 ∧ P = k + 1) ∧ (400 ≤ lo ∧ lo ≤ t) ∧ (τ.1 0 34).toInt = t ∧ (σ.1 20 1).toInt = (t : Int) + P - 400 ∧ (σ.1 20 0).toInt = P) ∧ ((σ.1 22 k).toInt = (lo : Int) + k - 400 ∧ σ.2.1 34 (lo + k - 400) = 0 ∧ (σ.1 31 (lo + k - 400)).toInt = 7 ∧ (σ.1 32 (lo + k - 400)).toInt = 6 * (k : Int)) ∧ RWS P lo t σ τ ∧ (∀ i : Nat, i < m → (WL (σ.2.1 24 (6 * k + i)) (τ.2.1 9 (36 + (6 * k + i))) ∧ DNM (σ.2.1 24) (6 * k) i) ∧ RLEN (σ.2.1 24 (6 * k + i)) (τ.1 10 (36 + (6 * k + i))) ∧ σ.1 23 (6 * k + i) = τ.1 11 (36 + (6 * k + i)) ∧ FRL P t (6 * k + i) (τ.1 11 (36 + (6 * k + i))).toInt.toNat σ τ) ∧ RX P lo t σ τ
def BR_ (lo t k m : Nat) (τ : ST) : Prop := ∀ i : Nat, i < m → bI (τ.1 11 (36 + (6 * k + i))) 0 8 ∧ ∀ j : Nat, (j : Int) < (τ.1 11 (36 + (6 * k + i))).toInt → VD lo t (τ.1 2) (τ.1 3) (τ.1 4) (τ.1 5) 4 (τ.1 15 (8 * (36 + (6 * k + i)) + j))
theorem VD.fz {lo hi t1 R N d : Nat} {τ b : ST} {t : Int32} (h : FZ hi R N τ b) (hh : hi ≤ t1) (hV : VD lo hi (τ.1 2) (τ.1 3) (τ.1 4) (τ.1 5) d t) : VD lo t1 (b.1 2) (b.1 3) (b.1 4) (b.1 5) d t := VD.ext (by omega) (Int.le_refl _) (by omega) (fun j h1 h2 => by
  have e := h.2.2.1 j (by omega)
  exact ⟨e.1, fun _ => e.2.1, e.2.2, fun k hk => h.2.2.2.1 _ (by omega)⟩) d t hV
theorem PB_.step {P lo t0 k i j : Nat} {σ τ a b : ST} (hp : PB_ P lo t0 k (i + 1) σ τ) (hb : BR_ lo t0 k (i + 1) τ) (hfB : (τ.1 11 (36 + (6 * k + i))).toInt = j) (hF : FZ t0 (36 + (6 * k + i)) (8 * (36 + (6 * k + i)) + j) τ b) (hS : FLS P t0 (6 * k + i) j σ τ a b) : ∃ t1 : Nat, (j < 8 ∧ t0 < t1) ∧ PB_ P lo t1 k (i + 1) a b ∧ BR_ lo t1 k (i + 1) b ∧ 4 * ((t1 : Int) - 400) ≤ (b.1 0 4).toInt + 1 := by
  obtain ⟨⟨p1, p2, p3, p4, p5⟩, ⟨p6, p7, pa, pb⟩, p8, p9, pX⟩ := hp
  obtain ⟨t1, ⟨hj, s1, s2, s3, s4⟩, sX, ⟨s5, s6, s7⟩, s8, s9, s10, s11, s12, s13⟩ := hS
  have rr := s12.2.2.2.2.2 (lo + k - 400) (by omega)
  refine ⟨t1, ⟨hj, s1⟩, ⟨⟨p1, ⟨p2.1, by omega⟩, s3, s4, ?_⟩, ⟨?_, ?_, by rw [rr.1]; exact pa, by rw [rr.2.1]; exact pb⟩, ?_, ?_, ?_⟩, ?_, s10⟩
  · rw [s12.2.1 0 (by decide)]
    exact p5
  · rw [s12.1 22 (by decide)]
    exact p6
  · rw [rr.2.2.1]
    exact p7
  · intro q h1 h2
    by_cases hq : q < t0
    · obtain ⟨x1, x2, x3, x4⟩ := p8 q h1 hq
      have ra := s12.2.2.2.2.2 (q + P - 400) (by omega)
      have rb := hF.2.2.1 q hq
      rw [ra.1, ra.2.1, ra.2.2.1, rb.1, rb.2.2, hF.2.2.2.1 (4 * q) (by omega), s11.2.1 q hq]
      exact ⟨x1, x2, x3, x4⟩
    · exact s8 q (by omega) h2
  · intro q hq
    obtain ⟨x1, x2, x3, x4⟩ := p9 q hq
    rw [s12.2.2.2.1 24 (by decide), s11.1 9 (by decide), hF.1 10 (by decide)]
    refine ⟨x1, x2, ?_⟩
    by_cases e : q = i
    · subst e
      have e9 : (b.1 11 (36 + (6 * k + q))).toInt.toNat = j + 1 := by omega
      rw [e9]
      exact ⟨Int32.toInt_inj.mp (by omega), s7⟩
    · have h8 := (hb q hq).1.2
      have r6 := s12.2.2.1 (6 * k + q) (by omega)
      rw [r6.1, hF.2.2.2.2.1 _ (by omega)]
      refine ⟨x3, x4.ext (by omega) r6.2 (fun w hw => s12.2.2.2.2.1 _ (by omega)) (fun w hw => hF.2.2.2.2.2.1 _ (by omega)) (fun w hw => s11.2.2 _ (by omega)) (fun w hw => (hF.2.2.1 w hw).1) (fun w hw => hF.2.2.2.1 w hw)⟩
  · refine RX.join (t := t0) (pX.ext (fun q h1 h2 => (p8 q h1 h2).2.2.2.2.2) (fun q h1 h2 _ => (s12.2.2.2.2.2 (q + P - 400) (by omega)).2.1) (fun q h1 h2 => (s12.2.2.2.2.2 (q + P - 400) (by omega)).2.2.2) (fun q h1 h2 => ?_)) s13 (by omega)
    have rb := hF.2.2.1 q h2
    exact ⟨rb.1, fun _ => rb.2.1, rb.2.2, fun w hw => hF.2.2.2.1 _ (by omega)⟩
  · intro q hq
    by_cases e : q = i
    · subst e
      refine ⟨⟨by omega, by omega⟩, fun w hw => ?_⟩
      by_cases ew : w = j
      · subst ew
        exact VD.ext (by omega) (by omega) (Int.le_refl _) (fun _ _ _ => ⟨rfl, fun _ => rfl, rfl, fun _ _ => rfl⟩) _ _ s9
      · rw [(hF.2.2.2.2.2.1 _ (by omega)).1]
        exact VD.fz hF (by omega) ((hb q hq).2 w (by omega))
    · have h11 := hF.2.2.2.2.1 (36 + (6 * k + q)) (by omega)
      rw [h11]
      refine ⟨(hb q hq).1, fun w hw => ?_⟩
      have h8 := (hb q hq).1.2
      rw [(hF.2.2.2.2.2.1 _ (by omega)).1]
      exact VD.fz hF (by omega) ((hb q hq).2 w hw)
def RCP (sl P lo t k i : Nat) (σ τ : ST) (qa : Int32 × ST) (qb : (Int32 × ST) × Nat) : Prop := FW (6 + k) t (36 + (6 * k + i)) τ qb.1.2 ∧ ((qa.1.toInt = 0 ∧ qb.1.1.toInt = 0 ∧ qb.2 + 40 * uT qb.1.2 ≤ 40 * uT τ + 23) ∨ (qa.1.toInt = 1 ∧ qb.1.1.toInt = 1 ∧ i < 6 ∧ (∃ t1 : Nat, t ≤ t1 ∧ PB_ P lo t1 k (i + 1) qa.2 qb.1.2 ∧ BR_ lo t1 k (i + 1) qb.1.2 ∧ ((qa.2.1 21 k).toInt = (i : Int) + 1 ∧ (qb.1.2.1 8 (6 + k)).toInt = (i : Int) + 1) ∧ LX qa.2 qb.1.2 ∧ 4 * ((t1 : Int) - 400) ≤ (qb.1.2.1 0 4).toInt) ∧ AP k (lo + k - 400) σ qa.2 ∧ qb.2 + 40 * uT qb.1.2 + sl ≤ 40 * uT τ))
def LST (P lo t k i j : Nat) (σ τ : ST) : Prop := (PB_ P lo t k (i + 1) σ τ ∧ BR_ lo t k (i + 1) τ) ∧ ((σ.1 21 k).toInt = (i : Int) + 1 ∧ (τ.1 8 (6 + k)).toInt = i) ∧ ((σ.1 23 (6 * k + i)).toInt = j ∧ (τ.1 11 (36 + (6 * k + i))).toInt = j) ∧ LX σ τ ∧ (¬ (σ.1 2 4).toInt = 0 ∧ ¬ (σ.1 2 4).toInt = 1) ∧ 4 * ((t : Int) - 400) ≤ (τ.1 0 4).toInt + 1
/-- one record more is counted -/
def C8 (K : Nat) (b z : ST) : Prop := (∀ c, c ≠ 8 → z.1 c = b.1 c) ∧ (∀ i, i ≠ K → z.1 8 i = b.1 8 i) ∧ z.1 8 K = b.1 8 K + 1 ∧ z.2 = b.2
theorem C8.mk {K : Nat} {b : ST} : C8 K b (stI b 8 K (b.1 8 K + 1)) := by
  have e9 : (stI b 8 K (b.1 8 K + 1)).1 8 = upd (b.1 8) K (b.1 8 K + 1) := rfl
  exact ⟨fun c hc => stI_ne hc, fun i hi => by rw [e9, upd_no hi], by rw [e9, upd_at], rfl⟩
theorem C8.fw {K t0 R : Nat} {b z : ST} (h : C8 K b z) : FW K t0 R b z := ⟨fun c hc => h.1 c (fun e => hc (by rw [e]; decide)), fun i _ => by rw [h.1 0 (by decide)], fun j _ => ⟨by rw [h.1 2 (by decide)], by rw [h.1 3 (by decide)], by rw [h.1 4 (by decide)]⟩, fun j _ => by rw [h.1 5 (by decide)], fun i hi => h.2.1 i (by omega), fun i _ => by rw [h.1 11 (by decide)], fun i _ => ⟨by rw [h.1 15 (by decide)], by rw [h.1 13 (by decide)], by rw [h.1 16 (by decide)], by rw [h.1 19 (by decide)]⟩, fun h9 i => by rw [h.1 19 (by decide)]; exact h9 i, fun i _ => by rw [h.1 10 (by decide)], BQ.l0 (fun c _ => by rw [h.2.2.2])⟩
theorem C8.tx {K : Nat} {b z : ST} (h : C8 K b z) (hx : TX b) : TX z := by
  unfold TX
  rw [h.1 0 (by decide)]
  exact hx
theorem C8.ut {K : Nat} {b z : ST} (h : C8 K b z) : uT z = uT b := uT_eq (by rw [h.1 0 (by decide)]) (by rw [h.1 0 (by decide)]) (by rw [h.1 0 (by decide)])
theorem C8.lx {K : Nat} {a b z : ST} (h : C8 K b z) (hX : LX a b) : LX a z := hX.ext rfl rfl rfl rfl (h.1 1 (by decide)) (fun i _ => by rw [h.1 0 (by decide)]) (by rw [h.2.2.2])
theorem PB_.ext {P lo t k m : Nat} {σ τ a b : ST} (h : PB_ P lo t k m σ τ) (a1 : ∀ c, c ∈ [20, 22, 23, 25, 29, 31, 32, 33] → a.1 c = σ.1 c) (a2 : ∀ c, c ∈ [24, 27, 28, 30, 34] → a.2.1 c = σ.2.1 c) (b0 : b.1 0 34 = τ.1 0 34) (b1 : ∀ c, c ∈ [2, 3, 4, 5, 10, 11, 13, 15, 16, 19] → b.1 c = τ.1 c) (b2 : ∀ c, c ∈ [6, 9, 12, 14, 17, 18] → b.2.1 c = τ.2.1 c) : PB_ P lo t k m a b := by
  obtain ⟨⟨p1, p2, p3, p4, p5⟩, ⟨p6, p7, pa, pb⟩, p8, p9, pX⟩ := h
  refine ⟨⟨p1, p2, by rw [b0]; exact p3, by rw [a1 20 (by decide)]; exact p4, by rw [a1 20 (by decide)]; exact p5⟩, ⟨by rw [a1 22 (by decide)]; exact p6, by rw [a2 34 (by decide)]; exact p7, by rw [a1 31 (by decide)]; exact pa, by rw [a1 32 (by decide)]; exact pb⟩, p8.ext (a1 31 (by decide)) (a1 32 (by decide)) (a2 34 (by decide)) (b1 2 (by decide)) (b1 4 (by decide)) (b1 5 (by decide)) (b2 6 (by decide)), fun i hi => ?_, pX.eq (a1 32 (by decide)) (a1 33 (by decide)) (b1 2 (by decide)) (b1 3 (by decide)) (b1 4 (by decide)) (b1 5 (by decide))⟩
  rw [a2 24 (by decide), b2 9 (by decide), a1 23 (by decide), b1 10 (by decide), b1 11 (by decide)]
  obtain ⟨x1, x2, x3, x4⟩ := p9 i hi
  exact ⟨x1, x2, x3, x4.ext (Nat.le_refl _) (by rw [a1 25 (by decide)]) (fun w _ => ⟨by rw [a2 27 (by decide)], by rw [a2 28 (by decide)], by rw [a2 30 (by decide)], by rw [a1 29 (by decide)]⟩) (fun w _ => ⟨by rw [b1 15 (by decide)], by rw [b1 13 (by decide)], by rw [b1 16 (by decide)], by rw [b1 19 (by decide)]⟩) (fun w _ => ⟨by rw [b2 12 (by decide)], by rw [b2 14 (by decide)], by rw [b2 17 (by decide)], by rw [b2 18 (by decide)]⟩) (fun w _ => by rw [b1 2 (by decide)]) (fun w _ => by rw [b1 5 (by decide)])⟩
theorem BR_.ext {lo t k m : Nat} {τ b : ST} (h : BR_ lo t k m τ) (b1 : ∀ c, c ∈ [2, 3, 4, 5, 11, 15] → b.1 c = τ.1 c) : BR_ lo t k m b := by
  unfold BR_
  rw [b1 2 (by decide), b1 3 (by decide), b1 4 (by decide), b1 5 (by decide), b1 11 (by decide), b1 15 (by decide)]
  exact h
theorem ab_rec_loop (P lo k i : Nat) (x1 x2A x2B : Int32) (hi : i < 6) (h1 : x1.toInt = 6 + (k : Int)) (hA : x2A.toInt = 6 * (k : Int) + i) (hB : x2B.toInt = 36 + (6 * (k : Int) + i)) : ∀ (f g j t : Nat) (x3 : Int32) (σ τ : ST), 9 < f + j → 9 < g + j → j ≤ 8 → x3.toInt = j → LST P lo t k i j σ τ → OK (f_X3_parseRecord_108 f x2A x3 σ) (fun qa => OK ((f_X11_go τ).bind fun q12 => (f_X11_field x2B q12).bind fun q14 => ac q14.2 (f_X11_record_114 g x1 x2B q14.1.1 q14.1.2)) (RCP 0 P lo t k i σ τ qa)) := by
  intro f
  have l0 := li_0
  have l1 := li_1
  have l8 := li_8
  have l44 := li_44
  have l59 := li_59
  induction f with
  | zero => intro g j t x3 σ τ h; omega
  | succ f ih =>
    intro g j t x3 σ τ hf hg hj hx3 hLS
    obtain ⟨⟨hp, hb⟩, ⟨h21, h8⟩, ⟨h23, h11⟩, hX, ⟨k0, k1⟩, hat⟩ := hLS
    have hK := hX.2.2.1
    have hPk := hp.1.1
    have hlt := hp.1.2.1
    rw [f_X3_parseRecord_108]
    refine OK.ilt (fun h => by omega) (fun _ => ?_)
    have t0 : ¬ (τ.1 0 6).toInt = 0 := fun e => k0 (hK.t0.mpr e)
    have u0 := uT_1 t0
    have nx := hX.nxt.2 t0
    refine OK.bnd2 (ab_go σ τ hX (hK.hg k0 k1)) (fun a1 b1 hq => ?_)
    obtain ⟨ca, cb, cL, hX1, hat1, _, hu1⟩ := hq
    have hp1 : PB_ P lo t k (i + 1) a1 b1 := hp.ext (fun c hc => ca.1 c (fun e => by rw [e] at hc; revert hc; decide)) (fun c hc => ca.2.2.1 c (fun e => by rw [e] at hc; revert hc; decide)) (cb.2.1 34 (by decide)) (fun c hc => cb.1 c (fun e => by rw [e] at hc; revert hc; decide) (by simp)) (fun c hc => cL c (fun e => by rw [e] at hc; revert hc; decide))
    have hb1 : BR_ lo t k (i + 1) b1 := hb.ext (fun c hc => cb.1 c (fun e => by rw [e] at hc; revert hc; decide) (by simp))
    have h11b : (b1.1 11 (36 + (6 * k + i))).toInt = j := by rw [cb.1 11 (by decide) (by decide)]; exact h11
    have hN1 : FRL P t (6 * k + i) j a1 b1 := by
      have h9 := (hp1.2.2.2.1 i (by omega)).2.2.2
      have e9 : (b1.1 11 (36 + (6 * k + i))).toInt.toNat = j := by omega
      rw [e9] at h9
      exact h9
    have hfld := ab_field P t (6 * k + i) j x2A x3 x2B a1 b1 ⟨hPk.1, hPk.2.1⟩ hX1 (by omega) hx3 (by omega) hj (by omega) (by have := hp.1.2.1; omega) hp1.1.2.2.1 hp1.1.2.2.2.1 (by omega) (by rw [ca.1 23 (by decide)]; exact h23) h11b hN1
    refine OK.bnd2 hfld (fun qa qb hq => ?_)
    obtain ⟨qF, hq⟩ := hq
    have FWq : FW (6 + k) t (36 + (6 * k + i)) τ qb.1.2 := (cb.fw (by decide)).trans (qF.fw (K := 6 + k) (by omega)) (Nat.le_refl _) (Nat.le_refl t) (Nat.le_refl _)
    have n1 : x1.toNatClampNeg = 6 + k := nC (by omega)
    cases g with
    | zero => omega
    | succ g =>
    have z8 : C8 (6 + k) qb.1.2 (stI qb.1.2 8 (6 + k) (qb.1.2.1 8 (6 + k) + 1)) := C8.mk
    rw [f_X11_record_114]
    rcases hq with ⟨q1, q2, q3⟩ | ⟨q1, q2, q3, q4, q5⟩ | ⟨q1, q2, hS, q4⟩
    · -- both refuse
      refine OK.ieq (fun _ => ?_) (fun h => by omega)
      refine OK.ret ?_
      refine OK.kac ?_
      refine OK.ieq (fun _ => ?_) (fun h => by omega)
      unfold f_X11_record_140
      rw [n1]
      refine OK.grd ⟨by omega, by omega⟩ ?_
      refine OK.ieq (fun _ => ?_) (fun h => by omega)
      refine OK.ret ⟨FWq.trans z8.fw (Nat.le_refl _) (Nat.le_refl t) (Nat.le_refl _), .inl ⟨l0, l0, ?_⟩⟩
      show qb.2 + 0 + 40 * uT _ ≤ _
      rw [z8.ut]
      omega
    · -- the class refuses; the reference will
      refine OK.ieq (fun _ => ?_) (fun h => by omega)
      refine OK.ret ?_
      refine OK.kac ?_
      refine OK.ieq (fun h => by omega) (fun _ => ?_)
      refine OK.ieq (fun h => by omega) (fun _ => ?_)
      unfold f_X11_record_140
      rw [n1]
      refine OK.grd ⟨by omega, by omega⟩ ?_
      refine OK.ieq (fun h => by omega) (fun _ => ?_)
      refine OK.bndC (b_mark 59 _ (z8.tx q4)) (fun v s c2 hv => ?_)
      obtain ⟨_, hv⟩ := hv
      rw [z8.1 0 (by decide)] at hv
      have hv0 : v.toInt = 0 ∧ uT s ≤ uT qb.1.2 := by
        rcases hv with hv | hv
        · rw [z8.ut] at hv
          exact hv
        · have := hv.2.1
          omega
      refine OK.ieq (fun _ => ?_) (fun h => absurd hv0.1 h)
      refine OK.ret ⟨(FWq.trans z8.fw (Nat.le_refl _) (Nat.le_refl t) (Nat.le_refl _)).trans (c2.fw (by decide)) (Nat.le_refl _) (Nat.le_refl t) (Nat.le_refl _), .inl ⟨l0, l0, ?_⟩⟩
      show qb.2 + 0 + 40 * uT s ≤ _
      omega
    -- a field more
    obtain ⟨t1, ⟨hj7, ht1⟩, hp2, hb2, hat2⟩ := PB_.step hp1 hb1 h11b qF hS
    obtain ⟨t1', ⟨_, _, _, s3, _⟩, sX, ⟨s5, s6, _⟩, _, _, _, s11, s12, _⟩ := hS
    have A21 : qa.2.1 21 = σ.1 21 := (s12.1 21 (by decide)).trans (ca.1 21 (by decide))
    have B8 : qb.1.2.1 8 = τ.1 8 := (qF.1 8 (by decide)).trans (cb.1 8 (by decide) (by decide))
    have hKq := sX.2.2.1
    refine OK.ieq (fun h => by omega) (fun _ => ?_)
    by_cases h44 : (qa.2.1 2 4).toInt = 44
    · refine OK.ieq (fun h => by omega) (fun _ => ?_)
      refine OK.ieq (fun _ => ?_) (fun h => by omega)
      have s44 := (hKq.sg (c := 44) (by omega)).mpr h44
      have ex3 := il_addE (x := x3) (y := 1) (by omega) (by omega)
      refine (ih g (j + 1) t1 (x3 + 1) qa.2 qb.1.2 (by omega) (by omega) (by omega) (by omega) ⟨⟨hp2, hb2⟩, ⟨by rw [A21]; exact h21, by rw [B8]; exact h8⟩, ⟨s5, s6⟩, sX, ⟨by omega, by omega⟩, hat2⟩).mono (fun qa9 h9 => ?_)
      refine OK.kac ?_
      refine OK.ieq (fun h => by omega) (fun _ => ?_)
      refine OK.ieq (fun _ => ?_) (fun h => by omega)
      refine h9.mono (fun y hy => ?_)
      obtain ⟨yF, hy⟩ := hy
      refine ⟨FWq.trans yF (Nat.le_refl _) (by omega) (Nat.le_refl _), ?_⟩
      rcases hy with ⟨y1, y2, y3⟩ | ⟨y1, y2, _, ⟨t2, y3, y4⟩, y6, y5⟩
      · exact .inl ⟨y1, y2, by show qb.2 + y.2 + 40 * uT y.1.2 ≤ _; omega⟩
      · exact .inr ⟨y1, y2, hi, ⟨t2, by omega, y4⟩, (ca.ap.trans (s12.ap (by omega) (by omega) (by omega))).trans y6, by show qb.2 + y.2 + 40 * uT y.1.2 + 0 ≤ _; omega⟩
    · have s44 : ¬ (qb.1.2.1 0 13).toInt = 44 := fun e => h44 ((hKq.sg (c := 44) (by omega)).mp e)
      have hm := ab_mark (c := 59) 59 qa.2 _ (z8.lx sX) (by omega) l59
      have B8i : (qb.1.2.1 8 (6 + k)).toInt = i := by rw [B8]; exact h8
      have e8 := il_addE (x := qb.1.2.1 8 (6 + k)) (y := 1) (by omega) (by omega)
      have FW8 := FWq.trans (z8.fw (t0 := t) (R := 36 + (6 * k + i))) (Nat.le_refl _) (Nat.le_refl t) (Nat.le_refl _)
      have u8 := z8.ut
      unfold f_X11_record_140
      rw [n1]
      generalize stI qb.1.2 8 (6 + k) (qb.1.2.1 8 (6 + k) + 1) = z at z8 hm FW8 u8 ⊢
      by_cases h59 : (qa.2.1 2 4).toInt = 59
      · refine OK.ieq (fun _ => ?_) (fun h => by omega)
        refine OK.sw ?_
        refine OK.kac ?_
        refine OK.ieq (fun h => by omega) (fun _ => ?_)
        refine OK.ieq (fun h => by omega) (fun _ => ?_)
        refine OK.grd ⟨by omega, by omega⟩ ?_
        refine OK.ieq (fun h => by omega) (fun _ => ?_)
        refine OK.sw ?_
        refine OK.bnd2 (hm.1 h59) (fun a2 q2 hq2 => ?_)
        obtain ⟨m1, ma, mb, mL, mX, mat, mu⟩ := hq2
        refine OK.ret ?_
        refine OK.ieq (fun h => by omega) (fun _ => ?_)
        have mb1 : ∀ c, c ≠ 0 → c ≠ 8 → q2.2.1 c = qb.1.2.1 c := fun c h0 h8 => (mb.1 c h0 (by simp)).trans (z8.1 c h8)
        have mL1 : ∀ c, c ≠ 0 → q2.2.2.1 c = qb.1.2.2.1 c := fun c h0 => by rw [mL c h0, z8.2.2.2]
        have z4 : z.1 0 = qb.1.2.1 0 := z8.1 0 (by decide)
        rw [z4] at mat
        refine OK.ret ⟨FW8.trans (mb.fw (by decide)) (Nat.le_refl _) (Nat.le_refl t) (Nat.le_refl _), .inr ⟨l1, l1, hi, ⟨t1, by omega, ?_, ?_, ⟨?_, ?_⟩, mX, ?_⟩, (ca.ap.trans (s12.ap (by omega) (by omega) (by omega))).trans ma.ap, ?_⟩⟩
        · exact hp2.ext (fun c hc => ma.1 c (fun e => by rw [e] at hc; revert hc; decide)) (fun c hc => ma.2.2.1 c (fun e => by rw [e] at hc; revert hc; decide)) (by show q2.2.1 0 34 = _; rw [mb.2.1 34 (by decide), z4]) (fun c hc => mb1 c (fun e => by rw [e] at hc; revert hc; decide) (fun e => by rw [e] at hc; revert hc; decide)) (fun c hc => mL1 c (fun e => by rw [e] at hc; revert hc; decide))
        · exact hb2.ext (fun c hc => mb1 c (fun e => by rw [e] at hc; revert hc; decide) (fun e => by rw [e] at hc; revert hc; decide))
        · show (a2.1 21 k).toInt = _
          rw [ma.1 21 (by decide), A21]
          exact h21
        · show (q2.2.1 8 (6 + k)).toInt = _
          rw [mb.1 8 (by decide) (by decide), z8.2.2.1]
          omega
        · show _ ≤ (q2.2.1 0 4).toInt
          omega
        · show qb.2 + 0 + 40 * uT q2.2 + 0 ≤ _
          omega
      · refine OK.ieq (fun h => by omega) (fun _ => ?_)
        refine OK.ieq (fun h => by omega) (fun _ => ?_)
        refine OK.bnd (a_refuse _ _) (fun q hq => ?_)
        refine OK.grd (b01 (.inl hq)) ?_
        refine OK.ret ?_
        refine OK.kac ?_
        refine OK.ieq (fun h => by omega) (fun _ => ?_)
        refine OK.ieq (fun h => by omega) (fun _ => ?_)
        refine OK.grd ⟨by omega, by omega⟩ ?_
        refine OK.ieq (fun h => by omega) (fun _ => ?_)
        refine OK.bnd (hm.2 h59) (fun q2 hq2 => ?_)
        obtain ⟨m1, mc⟩ := hq2
        refine OK.ieq (fun _ => ?_) (fun h => by omega)
        refine OK.ret ⟨FW8.trans (mc.fw (by decide)) (Nat.le_refl _) (Nat.le_refl t) (Nat.le_refl _), .inl ⟨hq, l0, ?_⟩⟩
        show qb.2 + 0 + 40 * uT q2.2 ≤ _
        rw [uT_eq (mc.2.1 3 (by decide)) (mc.2.1 5 (by decide)) (mc.2.1 6 (by decide))]
        omega
theorem ab_record (P lo t k m : Nat) (pA pB : Int32) (σ τ : ST) (hp : PB_ P lo t k m σ τ) (hb : BR_ lo t k m τ) (h21 : (σ.1 21 k).toInt = m) (h8 : (τ.1 8 (6 + k)).toInt = m) (hm : m ≤ 6) (hX : LX σ τ) (hW : W_ τ v_record) (hA : pA.toInt = k) (hB : pB.toInt = 6 + (k : Int)) (hat : 4 * ((t : Int) - 400) ≤ (τ.1 0 4).toInt) : OK (f_X3_parseRecord pA σ) (fun qa => OK (f_X11_record pB τ) (RCP 20 P lo t k m σ τ qa)) := by
  unfold f_X3_parseRecord f_X11_record
  have hK := hX.2.2.1
  have l0 := li_0
  have l1 := li_1
  have l3 := li_3
  have l6 := li_6
  have lm := li_m1
  have hk6 : k < 6 := by have := hp.1.1; omega
  have e1 : kwV 1 = v_record := rfl
  have kA := (hK.kw (k := 1) (by omega)).mp (by rw [e1]; exact hW)
  have nB : pB.toNatClampNeg = 6 + k := nC (by omega)
  have w1 := hW.1
  have u0 := uT_1 (τ := τ) (by omega)
  have nx := hX.nxt.2 (by omega)
  have bf : ∀ (qa : Int32 × ST) (b s : ST) (v : Int32) (xx : Nat), qa.1.toInt = 0 → FW (6 + k) t (36 + (6 * k + m)) τ b → CH [] [12] b s → v.toInt = 0 → xx + 40 * uT b ≤ 40 * uT τ + 23 → RCP 20 P lo t k m σ τ qa ((v, s), xx) := fun qa b s v xx h1 hF c h2 hx => ⟨hF.trans (c.fw (by decide)) (Nat.le_refl _) (Nat.le_refl t) (Nat.le_refl _), .inl ⟨h1, h2, by show xx + 40 * uT s ≤ _; rw [uT_eq (c.2.1 3 (by decide)) (c.2.1 5 (by decide)) (c.2.1 6 (by decide))]; omega⟩⟩
  rw [a_recordsOf pA σ hA hk6]
  refine OK.lt (fun q1 h1 => ?_)
  subst h1
  dsimp only
  refine OK.sw ?_
  refine OK.bndK (b_isRecord τ) (fun v x hv hx => ?_)
  refine OK.kac ?_
  dsimp only
  have hv1 : v.toInt = 1 := by
    rcases hv with hv | hv
    · exact absurd hW hv.2
    · exact hv.1
  refine OK.ieq (fun h => by omega) (fun _ => ?_)
  refine OK.grd ⟨by omega, by omega⟩ ?_
  rw [nB]
  by_cases hm6 : m = 6
  · refine OK.ieq (fun _ => ?_) (fun h => by omega)
    refine OK.bndC (b_wrongHere 4 τ) (fun v2 s2 c2 hv2 => ?_)
    refine OK.grd (b01 (.inl hv2)) ?_
    refine OK.ret ?_
    refine OK.ilt (fun h => by omega) (fun _ => ?_)
    refine OK.bnd (a_refuse _ _) (fun q hq => ?_)
    refine OK.grd (b01 (.inl hq)) ?_
    exact OK.ret (bf (q.1, q.2) τ s2 v2 _ hq FW.rf c2 hv2 (by show x + 0 + 40 * uT τ ≤ _; omega))
  refine OK.ieq (fun h => by omega) (fun _ => ?_)
  refine OK.sw ?_
  refine OK.ilt (fun _ => ?_) (fun h => by omega)
  refine OK.bnd2 (ab_go σ τ hX (hK.hg (by omega) (by omega))) (fun a1 b1 hq => ?_)
  obtain ⟨ca, cb, cL, hX1, hat1, _, hu1⟩ := hq
  have hK1 := hX1.2.2.1
  have FW1 : FW (6 + k) t (36 + (6 * k + m)) τ b1 := cb.fw (by decide)
  refine OK.sw ?_
  refine OK.bndK (b_isName b1) (fun vn xn hvn hxn => ?_)
  refine OK.kac ?_
  dsimp only
  by_cases hN1 : NM b1
  rotate_left
  · have hn0 : vn.toInt = 0 := by
      rcases hvn with hv | hv
      · exact hv.1
      · exact absurd hv.2 hN1
    have k3 : ¬ (a1.1 2 4).toInt = 3 := fun e => hN1 (hK1.nm.mpr e)
    refine OK.ieq (fun _ => ?_) (fun h => by omega)
    refine OK.bndC (b_wrongHere 1 b1) (fun v2 s2 c2 hv2 => ?_)
    refine OK.grd (b01 (.inl hv2)) ?_
    refine OK.ret ?_
    refine OK.ieq (fun h => by omega) (fun _ => ?_)
    refine OK.bnd (a_refuse _ _) (fun q hq => ?_)
    refine OK.grd (b01 (.inl hq)) ?_
    exact OK.ret (bf (q.1, q.2) b1 s2 v2 _ hq FW1 c2 hv2 (by show x + (xn + 0) + 40 * uT b1 ≤ _; omega))
  have hn1 : vn.toInt = 1 := by
    rcases hvn with hv | hv
    · exact absurd hN1 hv.2
    · exact hv.1
  have k3 := hK1.nm.mp hN1
  obtain ⟨w1', w2, w3⟩ := hK1.wd (by rw [sv_nm hK1 hN1]; omega)
  refine OK.ieq (fun h => by omega) (fun _ => ?_)
  have h8b : (b1.1 8 (6 + k)).toInt = m := by rw [cb.1 8 (by decide) (by decide)]; exact h8
  have h21a : (a1.1 21 k).toInt = m := by rw [ca.1 21 (by decide)]; exact h21
  refine OK.bndR (bx_recordOf pB (b1.2.1 0 7) b1 (6 + k) m (by omega) (by omega) h8b hm) (fun vb hvb => ?_)
  dsimp only
  refine OK.sw ?_
  refine OK.ieq (fun _ => ?_) (fun h => by omega)
  refine OK.bndR (a_recordNamed pA (a1.2.1 2 7) a1 k m hk6 hA h21a hm) (fun va hva => ?_)
  dsimp only
  have nms : ∀ i : Nat, i < m → WL (a1.2.1 24 (6 * k + i)) (b1.2.1 9 (6 * (6 + k) + i)) := fun i hi => by
    have e : 6 * (6 + k) + i = 36 + (6 * k + i) := by omega
    rw [e, ca.2.2.1 24 (by decide), cL 9 (by decide)]
    exact (hp.2.2.2.1 i hi).1.1
  by_cases hex : ∃ i : Nat, i < m ∧ a1.2.1 24 (6 * k + i) = a1.2.1 2 7
  · have hva0 : 0 ≤ va.toInt := by
      rcases hva with hv | ⟨i, _, _, hv⟩
      · obtain ⟨i, hi, e⟩ := hex
        exact absurd e (hv.2 i hi)
      · omega
    have hvb0 : 0 ≤ vb.toInt := by
      rcases hvb with hv | ⟨i, _, _, hv⟩
      · obtain ⟨i, hi, e⟩ := hex
        exact absurd (((nms i hi).iff w3).mp e) (hv.2 i hi)
      · omega
    clear hva hvb hex
    refine OK.ieq (fun h => by omega) (fun _ => ?_)
    refine OK.bnd (a_refuse _ _) (fun q hq => ?_)
    refine OK.grd (b01 (.inl hq)) ?_
    refine OK.ret ?_
    refine OK.ilt (fun h => by omega) (fun _ => ?_)
    refine OK.bndC (b_wrongHere 3 b1) (fun v2 s2 c2 hv2 => ?_)
    refine OK.grd (b01 (.inl hv2)) ?_
    exact OK.ret (bf (q.1, q.2) b1 s2 v2 _ hq FW1 c2 hv2 (by show x + (xn + 0) + 40 * uT b1 ≤ _; omega))
  have hva1 : va.toInt = -1 := by
    rcases hva with hv | ⟨i, hi, e, _⟩
    · exact hv.1
    · exact absurd ⟨i, hi, e.1⟩ hex
  have hvb1 : vb.toInt = -1 := by
    rcases hvb with hv | ⟨i, hi, e, _⟩
    · exact hv.1
    · exact absurd ⟨i, hi, ((nms i hi).iff w3).mpr e.1⟩ hex
  have hdn : ∀ j : Nat, j < m → ¬ a1.2.1 24 (6 * k + j) = a1.2.1 2 7 := fun j hj e => hex ⟨j, hj, e⟩
  clear hva hvb hex
  refine OK.ieq (fun _ => ?_) (fun h => by omega)
  rw [a_recordsOf pA a1 hA hk6]
  refine OK.lt (fun q7 h7 => ?_)
  subst h7
  dsimp only
  refine OK.bnd (a_addRecord pA (a1.2.1 2 7) a1 hA hk6 h21a (by omega)) (fun a2 ha2 => ?_)
  obtain ⟨f1, f2, f3, f4, f5, f6, f7, f8, f9, f10⟩ := ha2
  refine OK.sw ?_
  refine OK.ilt (fun _ => ?_) (fun h => by omega)
  have em := mlE (k := 6) (y := pB) 6 (by decide) (by omega) (by omega)
  have eN := il_addE (x := 6 * pB) (y := b1.1 8 (6 + k)) (by omega) (by omega)
  have nN : (6 * pB + b1.1 8 (6 + k)).toNatClampNeg = 36 + (6 * k + m) := nC (by omega)
  refine OK.grd ⟨by omega, by omega⟩ ?_
  rw [nN]
  refine OK.lt (fun z hz => ?_)
  have g1 : ∀ c, c ∉ [10, 11] → (stI z 11 (36 + (6 * k + m)) 0).1 c = b1.1 c := fun c hc => by
    simp only [List.mem_cons, List.not_mem_nil, or_false, not_or] at hc
    rw [stI_ne hc.2, hz, stI_ne hc.1]
    rfl
  have g10 : ∀ i, i ≠ 36 + (6 * k + m) → (stI z 11 (36 + (6 * k + m)) 0).1 10 i = b1.1 10 i := fun i hi => by
    rw [stI_ne (by decide), hz]
    show upd (b1.1 10) _ _ i = _
    rw [upd_no hi]
  have g10e : (stI z 11 (36 + (6 * k + m)) 0).1 10 (36 + (6 * k + m)) = b1.1 0 8 := by
    rw [stI_ne (by decide), hz]
    show upd (b1.1 10) _ _ _ = _
    rw [upd_at]
    rfl
  have g11 : ∀ i, i ≠ 36 + (6 * k + m) → (stI z 11 (36 + (6 * k + m)) 0).1 11 i = b1.1 11 i := fun i hi => by
    have e9 : (stI z 11 (36 + (6 * k + m)) 0).1 11 = upd (z.1 11) (36 + (6 * k + m)) 0 := rfl
    rw [e9, upd_no hi, hz, stI_ne (by decide)]
    rfl
  have g0 : (stI z 11 (36 + (6 * k + m)) 0).1 11 (36 + (6 * k + m)) = 0 := by
    have e9 : (stI z 11 (36 + (6 * k + m)) 0).1 11 = upd (z.1 11) (36 + (6 * k + m)) 0 := rfl
    rw [e9, upd_at]
  have g2 : ∀ c, c ≠ 9 → (stI z 11 (36 + (6 * k + m)) 0).2.1 c = b1.2.1 c := fun c hc => by
    show z.2.1 c = _
    rw [hz]
    show (stL b1 9 _ _).2.1 c = _
    rw [stL_ne hc]
  have g9 : (stI z 11 (36 + (6 * k + m)) 0).2.1 9 (36 + (6 * k + m)) = b1.2.1 0 7 := by
    show z.2.1 9 _ = _
    rw [hz]
    show vp_updL (b1.2.1 9) _ _ _ = _
    rw [updL_at]
  have g9n : ∀ i, i ≠ 36 + (6 * k + m) → (stI z 11 (36 + (6 * k + m)) 0).2.1 9 i = b1.2.1 9 i := fun i hi => by
    show z.2.1 9 _ = _
    rw [hz]
    show vp_updL (b1.2.1 9) _ _ _ = _
    rw [updL_no hi]
  clear hz
  generalize stI z 11 (36 + (6 * k + m)) 0 = b2 at g1 g10 g10e g11 g0 g2 g9 g9n ⊢
  have hX2 : LX a2 b2 := hX1.ext (f1 1 (by decide)) (f1 2 (by decide)) (f2 3 (by decide)) (f2 2 (by decide)) (g1 1 (by decide)) (fun i _ => by rw [g1 0 (by decide)]) (g2 0 (by decide))
  have u2 : uT b2 = uT b1 := uT_eq (by rw [g1 0 (by decide)]) (by rw [g1 0 (by decide)]) (by rw [g1 0 (by decide)])
  have FW2 : FW (6 + k) t (36 + (6 * k + m)) τ b2 := by
    refine FW1.trans (K1 := 6 + k) (t1 := t) (R1 := 36 + (6 * k + m)) ⟨fun c hc => g1 c (fun h9 => hc ?_), fun i _ => by rw [g1 0 (by decide)], fun j _ => ⟨by rw [g1 2 (by decide)], by rw [g1 3 (by decide)], by rw [g1 4 (by decide)]⟩, fun j _ => by rw [g1 5 (by decide)], fun i _ => by rw [g1 8 (by decide)], fun i hi => g11 i (by omega), fun i _ => ⟨by rw [g1 15 (by decide)], by rw [g1 13 (by decide)], by rw [g1 16 (by decide)], by rw [g1 19 (by decide)]⟩, fun h i => by rw [g1 19 (by decide)]; exact h i, fun i hi => g10 i (by omega), fun i hi => g9n i (by omega), fun i _ => ⟨by rw [g2 12 (by decide)], by rw [g2 14 (by decide)], by rw [g2 17 (by decide)], by rw [g2 18 (by decide)]⟩⟩ (Nat.le_refl _) (Nat.le_refl _) (Nat.le_refl _)
    simp only [List.mem_cons, List.not_mem_nil, or_false] at h9 ⊢
    omega
  have hp2 : PB_ P lo t k (m + 1) a2 b2 := by
    have hp1 : PB_ P lo t k m a1 b1 := hp.ext (fun c hc => ca.1 c (fun e => by rw [e] at hc; revert hc; decide)) (fun c hc => ca.2.2.1 c (fun e => by rw [e] at hc; revert hc; decide)) (cb.2.1 34 (by decide)) (fun c hc => cb.1 c (fun e => by rw [e] at hc; revert hc; decide) (by simp)) (fun c hc => cL c (fun e => by rw [e] at hc; revert hc; decide))
    obtain ⟨⟨p1, p2, p3, p4, p5⟩, ⟨p6, p7, pa, pb⟩, p8, p9, pX⟩ := hp1
    refine ⟨⟨p1, p2, by rw [g1 0 (by decide)]; exact p3, by rw [f1 20 (by decide)]; exact p4, by rw [f1 20 (by decide)]; exact p5⟩, ⟨by rw [f1 22 (by decide)]; exact p6, by rw [f2 34 (by decide)]; exact p7, by rw [f1 31 (by decide)]; exact pa, by rw [f1 32 (by decide)]; exact pb⟩, p8.ext (f1 31 (by decide)) (f1 32 (by decide)) (f2 34 (by decide)) (g1 2 (by decide)) (g1 4 (by decide)) (g1 5 (by decide)) (g2 6 (by decide)), fun i hi => ?_, pX.eq (f1 32 (by decide)) (f1 33 (by decide)) (g1 2 (by decide)) (g1 3 (by decide)) (g1 4 (by decide)) (g1 5 (by decide))⟩
    by_cases e : i = m
    · subst e
      have hdn2 : DNM (a2.2.1 24) (6 * k) i := fun j hj => by
        rw [f5, f6 _ (by omega)]
        exact hdn j hj
      rw [f5, g9, g10e]
      refine ⟨⟨w3, hdn2⟩, hX1.rlen hN1, Int32.toInt_inj.mp ?_, ⟨0, by omega, f9, fun w _ => ?_⟩, fun w hw => ?_⟩
      · rw [g0, l0]
        exact f7
      · rw [g0, l0, Nat.zero_testBit]
        exact ⟨fun h => by simp at h, fun h => by omega⟩
      · rw [g0, l0] at hw
        omega
    · have hdn3 : DNM (a1.2.1 24) (6 * k) i → DNM (a2.2.1 24) (6 * k) i := fun h j hj => by
        rw [f6 _ (by omega), f6 _ (by omega)]
        exact h j hj
      rw [f6 _ (by omega), g9n _ (by omega), g10 _ (by omega), f8 _ (by omega), g11 _ (by omega)]
      obtain ⟨⟨x1, x1d⟩, x2, x3, x4⟩ := p9 i (by omega)
      exact ⟨⟨x1, hdn3 x1d⟩, x2, x3, x4.ext (Nat.le_refl _) (f10 _ (by omega)) (fun w _ => ⟨by rw [f2 27 (by decide)], by rw [f2 28 (by decide)], by rw [f2 30 (by decide)], by rw [f1 29 (by decide)]⟩) (fun w _ => ⟨by rw [g1 15 (by decide)], by rw [g1 13 (by decide)], by rw [g1 16 (by decide)], by rw [g1 19 (by decide)]⟩) (fun w _ => ⟨by rw [g2 12 (by decide)], by rw [g2 14 (by decide)], by rw [g2 17 (by decide)], by rw [g2 18 (by decide)]⟩) (fun w _ => by rw [g1 2 (by decide)]) (fun w _ => by rw [g1 5 (by decide)])⟩
  have hb2 : BR_ lo t k (m + 1) b2 := by
    intro i hi
    by_cases e : i = m
    · subst e
      rw [g0, l0]
      exact ⟨⟨by omega, by omega⟩, fun j hj => by omega⟩
    · have hb1 := hb i (by omega)
      rw [g11 _ (by omega), cb.1 11 (by decide) (by decide), g1 15 (by decide), cb.1 15 (by decide) (by decide), g1 2 (by decide), g1 3 (by decide), g1 4 (by decide), g1 5 (by decide), cb.1 2 (by decide) (by decide), cb.1 3 (by decide) (by decide), cb.1 4 (by decide) (by decide), cb.1 5 (by decide) (by decide)]
      exact hb1
  have eA := mlE (k := 6) (y := pA) 6 (by decide) (by omega) (by omega)
  have cA : pA * 6 = 6 * pA := Int32.mul_comm _ _
  have eA2 := il_addE (x := 6 * pA) (y := a1.1 21 k) (by omega) (by omega)
  rw [cA]
  have lu := FUi
  refine OK.sw ?_
  refine (ab_rec_loop P lo k m pB (6 * pA + a1.1 21 k) (6 * pB + b1.1 8 (6 + k)) (by omega) hB (by omega) (by omega) FU FU 0 t 0 a2 b2 (by omega) (by omega) (by omega) l0 ⟨⟨hp2, hb2⟩, ⟨f3, by rw [g1 8 (by decide)]; exact h8b⟩, ⟨f7, by rw [g0]; exact l0⟩, hX2, ⟨by rw [f1 2 (by decide)]; omega, by rw [f1 2 (by decide)]; omega⟩, by rw [g1 0 (by decide)]; omega⟩).mono2 (fun qa y hy => ?_)
  obtain ⟨yF, hy⟩ := hy
  refine ⟨FW2.trans yF (Nat.le_refl _) (Nat.le_refl _) (Nat.le_refl _), ?_⟩
  rcases hy with ⟨y1, y2, y3⟩ | ⟨y1, y2, y6, y3, y7, y5⟩
  · exact .inl ⟨y1, y2, by show x + (xn + y.2) + 40 * uT y.1.2 ≤ _; omega⟩
  · exact .inr ⟨y1, y2, y6, y3, (ca.ap.trans ⟨fun i hi => ⟨f4 i (by omega), by rw [f1 22 (by decide)]⟩, fun i hi => ⟨f8 i (by omega), f6 i (by omega), f10 i (by omega)⟩, fun i _ => ⟨by rw [f2 27 (by decide)], by rw [f2 28 (by decide)], by rw [f2 30 (by decide)], by rw [f1 29 (by decide)]⟩, fun i _ => ⟨by rw [f1 31 (by decide)], by rw [f1 32 (by decide)], by rw [f1 33 (by decide)]⟩⟩).trans y7, by show x + (xn + y.2) + 40 * uT y.1.2 + 20 ≤ _; omega⟩
