/-! a record: both read the same -/
/-- what stays of the reference's numbers -/
def BQ (R : Nat) (τ b : ST) : Prop := (∀ i, i < R → b.2.1 9 i = τ.2.1 9 i) ∧ ∀ i, i < 8 * R → b.2.1 12 i = τ.2.1 12 i ∧ b.2.1 14 i = τ.2.1 14 i ∧ b.2.1 17 i = τ.2.1 17 i ∧ b.2.1 18 i = τ.2.1 18 i
theorem BQ.rf {R : Nat} {τ : ST} : BQ R τ τ := ⟨fun _ _ => rfl, fun _ _ => ⟨rfl, rfl, rfl, rfl⟩⟩
theorem BQ.trans {R R1 : Nat} {τ b w : ST} (h : BQ R τ b) (k : BQ R1 b w) (hR : R ≤ R1) : BQ R τ w := ⟨fun i hi => (k.1 i (by omega)).trans (h.1 i hi), fun i hi => by
  have x := h.2 i hi
  have y := k.2 i (by omega)
  exact ⟨y.1.trans x.1, y.2.1.trans x.2.1, y.2.2.1.trans x.2.2.1, y.2.2.2.trans x.2.2.2⟩⟩
theorem BQ.l0 {R : Nat} {τ b : ST} (h : ∀ c, c ≠ 0 → b.2.1 c = τ.2.1 c) : BQ R τ b := ⟨fun i _ => by rw [h 9 (by decide)], fun i _ => ⟨by rw [h 12 (by decide)], by rw [h 14 (by decide)], by rw [h 17 (by decide)], by rw [h 18 (by decide)]⟩⟩
theorem BLs.bq {R t0 N : Nat} {τ b : ST} (h : BLs t0 N τ b) (hN : 8 * R ≤ N) : BQ R τ b := ⟨fun i _ => by rw [h.1 9 (by decide)], fun i hi => h.2.2 i (by omega)⟩
def FW (K t0 R : Nat) (τ b : ST) : Prop := (∀ c, c ∉ [0, 2, 3, 4, 5, 7, 8, 10, 11, 13, 15, 16, 19] → b.1 c = τ.1 c) ∧ (∀ i, i ∉ [4, 5, 6, 8, 10, 12, 13, 34] → b.1 0 i = τ.1 0 i) ∧ (∀ j, j < t0 → b.1 2 j = τ.1 2 j ∧ b.1 3 j = τ.1 3 j ∧ b.1 4 j = τ.1 4 j) ∧ (∀ j, j < 4 * t0 → b.1 5 j = τ.1 5 j) ∧ (∀ i, i < K → b.1 8 i = τ.1 8 i) ∧ (∀ i, i < R → b.1 11 i = τ.1 11 i) ∧ (∀ i, i < 8 * R → b.1 15 i = τ.1 15 i ∧ b.1 13 i = τ.1 13 i ∧ b.1 16 i = τ.1 16 i ∧ b.1 19 i = τ.1 19 i) ∧ ((∀ i, bI (τ.1 19 i) 0 12) → ∀ i, bI (b.1 19 i) 0 12) ∧ (∀ i, i < R → b.1 10 i = τ.1 10 i) ∧ BQ R τ b
theorem FW.rf {K t0 R : Nat} {τ : ST} : FW K t0 R τ τ := ⟨fun _ _ => rfl, fun _ _ => rfl, fun _ _ => ⟨rfl, rfl, rfl⟩, fun _ _ => rfl, fun _ _ => rfl, fun _ _ => rfl, fun _ _ => ⟨rfl, rfl, rfl, rfl⟩, fun h => h, fun _ _ => rfl, BQ.rf⟩
theorem FW.trans {K t0 R K1 t1 R1 : Nat} {τ b w : ST} (h : FW K t0 R τ b) (k : FW K1 t1 R1 b w) (hK : K ≤ K1) (ht : t0 ≤ t1) (hR : R ≤ R1) : FW K t0 R τ w := ⟨fun c hc => (k.1 c hc).trans (h.1 c hc), fun i hi => (k.2.1 i hi).trans (h.2.1 i hi), fun j hj => by
  have a := h.2.2.1 j hj
  have b := k.2.2.1 j (by omega)
  exact ⟨b.1.trans a.1, b.2.1.trans a.2.1, b.2.2.trans a.2.2⟩, fun j hj => (k.2.2.2.1 j (by omega)).trans (h.2.2.2.1 j hj), fun i hi => (k.2.2.2.2.1 i (by omega)).trans (h.2.2.2.2.1 i hi), fun i hi => (k.2.2.2.2.2.1 i (by omega)).trans (h.2.2.2.2.2.1 i hi), fun i hi => by
  have a := h.2.2.2.2.2.2.1 i hi
  have b := k.2.2.2.2.2.2.1 i (by omega)
  exact ⟨b.1.trans a.1, b.2.1.trans a.2.1, b.2.2.1.trans a.2.2.1, b.2.2.2.trans a.2.2.2⟩, fun h9 => k.2.2.2.2.2.2.2.1 (h.2.2.2.2.2.2.2.1 h9), fun i hi => (k.2.2.2.2.2.2.2.2.1 i (by omega)).trans (h.2.2.2.2.2.2.2.2.1 i hi), h.2.2.2.2.2.2.2.2.2.trans k.2.2.2.2.2.2.2.2.2 hR⟩
theorem FZ.fw {K t0 R N : Nat} {τ b : ST} (h : FZ t0 R N τ b) (hN : 8 * R ≤ N) : FW K t0 R τ b := by
  refine ⟨fun c hc => h.1 c (fun h9 => hc ?_), fun i hi => h.2.1 i hi, h.2.2.1, h.2.2.2.1, fun i _ => by rw [h.1 8 (by decide)], h.2.2.2.2.1, fun i hi => h.2.2.2.2.2.1 i (by omega), h.2.2.2.2.2.2.1, fun i _ => by rw [h.1 10 (by decide)], fun i _ => by rw [h.2.2.2.2.2.2.2.1], fun i hi => h.2.2.2.2.2.2.2.2 i (by omega)⟩
  simp only [List.mem_cons, List.not_mem_nil, or_false] at h9 ⊢
  omega
theorem CH.fw {K t0 R : Nat} {I : List Nat} {τ b : ST} (hI : ∀ i, i ∈ I → i ∈ [4, 5, 6, 8, 10, 12, 13, 34]) (h : CH [] I τ b) : FW K t0 R τ b := (h.fz (t0 := t0) (R := R) (N := 8 * R) hI).fw (Nat.le_refl _)
/-- what stays of the class's draft: the plans before, the rows below c -/
def AP (k c : Nat) (σ a : ST) : Prop := (∀ i, i < k → a.1 21 i = σ.1 21 i ∧ a.1 22 i = σ.1 22 i) ∧ (∀ i, i < 6 * k → a.1 23 i = σ.1 23 i ∧ a.2.1 24 i = σ.2.1 24 i ∧ a.1 25 i = σ.1 25 i) ∧ (∀ i, i < 48 * k → a.2.1 27 i = σ.2.1 27 i ∧ a.2.1 28 i = σ.2.1 28 i ∧ a.2.1 30 i = σ.2.1 30 i ∧ a.1 29 i = σ.1 29 i) ∧ ∀ i, i < c → a.1 31 i = σ.1 31 i ∧ a.1 32 i = σ.1 32 i ∧ a.1 33 i = σ.1 33 i
theorem AP.rf {k c : Nat} {σ : ST} : AP k c σ σ := ⟨fun _ _ => ⟨rfl, rfl⟩, fun _ _ => ⟨rfl, rfl, rfl⟩, fun _ _ => ⟨rfl, rfl, rfl, rfl⟩, fun _ _ => ⟨rfl, rfl, rfl⟩⟩
theorem AP.trans {k c : Nat} {σ a b : ST} (h : AP k c σ a) (g : AP k c a b) : AP k c σ b := ⟨fun i hi => ⟨(g.1 i hi).1.trans (h.1 i hi).1, (g.1 i hi).2.trans (h.1 i hi).2⟩, fun i hi => ⟨(g.2.1 i hi).1.trans (h.2.1 i hi).1, (g.2.1 i hi).2.1.trans (h.2.1 i hi).2.1, (g.2.1 i hi).2.2.trans (h.2.1 i hi).2.2⟩, fun i hi => by
  have x := h.2.2.1 i hi
  have y := g.2.2.1 i hi
  exact ⟨y.1.trans x.1, y.2.1.trans x.2.1, y.2.2.1.trans x.2.2.1, y.2.2.2.trans x.2.2.2⟩, fun i hi => by
  have x := h.2.2.2 i hi
  have y := g.2.2.2 i hi
  exact ⟨y.1.trans x.1, y.2.1.trans x.2.1, y.2.2.trans x.2.2⟩⟩
theorem CA.ap {k c : Nat} {σ a : ST} (h : CA σ a) : AP k c σ a := ⟨fun i _ => ⟨by rw [h.1 21 (by decide)], by rw [h.1 22 (by decide)]⟩, fun i _ => ⟨by rw [h.1 23 (by decide)], by rw [h.2.2.1 24 (by decide)], by rw [h.1 25 (by decide)]⟩, fun i _ => ⟨by rw [h.2.2.1 27 (by decide)], by rw [h.2.2.1 28 (by decide)], by rw [h.2.2.1 30 (by decide)], by rw [h.1 29 (by decide)]⟩, fun i _ => ⟨by rw [h.1 31 (by decide)], by rw [h.1 32 (by decide)], by rw [h.1 33 (by decide)]⟩⟩
theorem AFF.ap {k c c0 r n : Nat} {σ a : ST} (h : AFF c0 r n σ a) (hr : 6 * k ≤ r) (hn : 48 * k ≤ n) (hc : c ≤ c0) : AP k c σ a := ⟨fun i _ => ⟨by rw [h.1 21 (by decide)], by rw [h.1 22 (by decide)]⟩, fun i hi => ⟨(h.2.2.1 i (by omega)).1, by rw [h.2.2.2.1 24 (by decide)], (h.2.2.1 i (by omega)).2⟩, fun i hi => h.2.2.2.2.1 i (by omega), fun i hi => by
  have x := h.2.2.2.2.2 i (by omega)
  exact ⟨x.1, x.2.1, x.2.2.2⟩⟩
/-- a name unlike those before it -/
def DNM (f : Nat → Int64) (m i : Nat) : Prop := ∀ j : Nat, j < i → ¬ f (m + j) = f (m + i)
/-- a plan so far, side by side -/
def PB_ (P lo t k m : Nat) (σ τ : ST) : Prop := ((1 ≤ P ∧ P ≤ 6 ∧ P = k + 1) ∧ (400 ≤ lo ∧ lo ≤ t) ∧ (τ.1 0 34).toInt = t ∧ (σ.1 20 1).toInt = (t : Int) + P - 400 ∧ (σ.1 20 0).toInt = P) ∧ ((σ.1 22 k).toInt = (lo : Int) + k - 400 ∧ σ.2.1 34 (lo + k - 400) = 0 ∧ (σ.1 31 (lo + k - 400)).toInt = 7 ∧ (σ.1 32 (lo + k - 400)).toInt = 6 * (k : Int)) ∧ RWS P lo t σ τ ∧ (∀ i : Nat, i < m → (WL (σ.2.1 24 (6 * k + i)) (τ.2.1 9 (36 + (6 * k + i))) ∧ DNM (σ.2.1 24) (6 * k) i) ∧ RLEN (σ.2.1 24 (6 * k + i)) (τ.1 10 (36 + (6 * k + i))) ∧ σ.1 23 (6 * k + i) = τ.1 11 (36 + (6 * k + i)) ∧ FRL P t (6 * k + i) (τ.1 11 (36 + (6 * k + i))).toInt.toNat σ τ) ∧ RX P lo t σ τ
def BR_ (lo t k m : Nat) (τ : ST) : Prop := ∀ i : Nat, i < m → bI (τ.1 11 (36 + (6 * k + i))) 0 8 ∧ ∀ j : Nat, (j : Int) < (τ.1 11 (36 + (6 * k + i))).toInt → VD lo t (τ.1 2) (τ.1 3) (τ.1 4) (τ.1 5) 4 (τ.1 15 (8 * (36 + (6 * k + i)) + j))
theorem VD.fz {lo hi t1 R N d : Nat} {τ b : ST} {t : Int32} (h : FZ hi R N τ b) (hh : hi ≤ t1) (hV : VD lo hi (τ.1 2) (τ.1 3) (τ.1 4) (τ.1 5) d t) : VD lo t1 (b.1 2) (b.1 3) (b.1 4) (b.1 5) d t := VD.ext (by omega) (Int.le_refl _) (by omega) (fun j h1 h2 => by
  have e := h.2.2.1 j (by omega)
  exact ⟨e.1, fun _ => e.2.1, e.2.2, fun k hk => h.2.2.2.1 _ (by omega)⟩) d t hV
theorem PB_.step {P lo t0 k i j : Nat} {σ τ a b : ST} (hp : PB_ P lo t0 k (i + 1) σ τ) (hb : BR_ lo t0 k (i + 1) τ) (hfB : (τ.1 11 (36 + (6 * k + i))).toInt = j) (hF : FZ t0 (36 + (6 * k + i)) (8 * (36 + (6 * k + i)) + j) τ b) (hS : FLS P t0 (6 * k + i) j σ τ a b) : ∃ t1 : Nat, (j < 8 ∧ t0 < t1) ∧ PB_ P lo t1 k (i + 1) a b ∧ BR_ lo t1 k (i + 1) b ∧ 4 * ((t1 : Int) - 400) ≤ (b.1 0 4).toInt + 1 := by
  obtain ⟨⟨p1, p2, p3, p4, p5⟩, ⟨p6, p7, pa, pb⟩, p8, p9, pX⟩ := hp
  obtain ⟨t1, ⟨hj, s1, s2, s3, s4⟩, sX, ⟨s5, s6, s7⟩, s8, s9, s10, s11, s12, s13⟩ := hS
  have rr := s12.2.2.2.2.2 (lo + k - 400) (by omega)
  refine ⟨t1, ⟨hj, s1⟩, ⟨⟨p1, ⟨p2.1, by omega⟩, s3, s4, ?_⟩, ⟨?_, ?_, by rw [rr.1]; exact pa, by rw [rr.2.1]; exact pb⟩, ?_, ?_, ?_⟩, ?_, s10⟩
  · rw [s12.2.1 0 (by decide)]
    exact p5
  · rw [s12.1 22 (by decide)]
    exact p6
  · rw [rr.2.2.1]
    exact p7
  · intro q h1 h2
    by_cases hq : q < t0
    · obtain ⟨x1, x2, x3, x4⟩ := p8 q h1 hq
      have ra := s12.2.2.2.2.2 (q + P - 400) (by omega)
      have rb := hF.2.2.1 q hq
      rw [ra.1, ra.2.1, ra.2.2.1, rb.1, rb.2.2, hF.2.2.2.1 (4 * q) (by omega), s11.2.1 q hq]
      exact ⟨x1, x2, x3, x4⟩
    · exact s8 q (by omega) h2
  · intro q hq
    obtain ⟨x1, x2, x3, x4⟩ := p9 q hq
    rw [s12.2.2.2.1 24 (by decide), s11.1 9 (by decide), hF.1 10 (by decide)]
    refine ⟨x1, x2, ?_⟩
    by_cases e : q = i
    · subst e
      have e9 : (b.1 11 (36 + (6 * k + q))).toInt.toNat = j + 1 := by omega
      rw [e9]
      exact ⟨Int32.toInt_inj.mp (by omega), s7⟩
    · have h8 := (hb q hq).1.2
      have r6 := s12.2.2.1 (6 * k + q) (by omega)
      rw [r6.1, hF.2.2.2.2.1 _ (by omega)]
      refine ⟨x3, x4.ext (by omega) r6.2 (fun w hw => s12.2.2.2.2.1 _ (by omega)) (fun w hw => hF.2.2.2.2.2.1 _ (by omega)) (fun w hw => s11.2.2 _ (by omega)) (fun w hw => (hF.2.2.1 w hw).1) (fun w hw => hF.2.2.2.1 w hw)⟩
  · refine RX.join (t := t0) (pX.ext (fun q h1 h2 => (p8 q h1 h2).2.2.2.2.2) (fun q h1 h2 _ => (s12.2.2.2.2.2 (q + P - 400) (by omega)).2.1) (fun q h1 h2 => (s12.2.2.2.2.2 (q + P - 400) (by omega)).2.2.2) (fun q h1 h2 => ?_)) s13 (by omega)
    have rb := hF.2.2.1 q h2
    exact ⟨rb.1, fun _ => rb.2.1, rb.2.2, fun w hw => hF.2.2.2.1 _ (by omega)⟩
  · intro q hq
    by_cases e : q = i
    · subst e
      refine ⟨⟨by omega, by omega⟩, fun w hw => ?_⟩
      by_cases ew : w = j
      · subst ew
        exact VD.ext (by omega) (by omega) (Int.le_refl _) (fun _ _ _ => ⟨rfl, fun _ => rfl, rfl, fun _ _ => rfl⟩) _ _ s9
      · rw [(hF.2.2.2.2.2.1 _ (by omega)).1]
        exact VD.fz hF (by omega) ((hb q hq).2 w (by omega))
    · have h11 := hF.2.2.2.2.1 (36 + (6 * k + q)) (by omega)
      rw [h11]
      refine ⟨(hb q hq).1, fun w hw => ?_⟩
      have h8 := (hb q hq).1.2
      rw [(hF.2.2.2.2.2.1 _ (by omega)).1]
      exact VD.fz hF (by omega) ((hb q hq).2 w hw)
def RCP (sl P lo t k i : Nat) (σ τ : ST) (qa : Int32 × ST) (qb : (Int32 × ST) × Nat) : Prop := FW (6 + k) t (36 + (6 * k + i)) τ qb.1.2 ∧ ((qa.1.toInt = 0 ∧ qb.1.1.toInt = 0 ∧ qb.2 + 40 * uT qb.1.2 ≤ 40 * uT τ + 23) ∨ (qa.1.toInt = 1 ∧ qb.1.1.toInt = 1 ∧ i < 6 ∧ (∃ t1 : Nat, t ≤ t1 ∧ PB_ P lo t1 k (i + 1) qa.2 qb.1.2 ∧ BR_ lo t1 k (i + 1) qb.1.2 ∧ ((qa.2.1 21 k).toInt = (i : Int) + 1 ∧ (qb.1.2.1 8 (6 + k)).toInt = (i : Int) + 1) ∧ LX qa.2 qb.1.2 ∧ 4 * ((t1 : Int) - 400) ≤ (qb.1.2.1 0 4).toInt) ∧ AP k (lo + k - 400) σ qa.2 ∧ qb.2 + 40 * uT qb.1.2 + sl ≤ 40 * uT τ))
def LST (P lo t k i j : Nat) (σ τ : ST) : Prop := (PB_ P lo t k (i + 1) σ τ ∧ BR_ lo t k (i + 1) τ) ∧ ((σ.1 21 k).toInt = (i : Int) + 1 ∧ (τ.1 8 (6 + k)).toInt = i) ∧ ((σ.1 23 (6 * k + i)).toInt = j ∧ (τ.1 11 (36 + (6 * k + i))).toInt = j) ∧ LX σ τ ∧ (¬ (σ.1 2 4).toInt = 0 ∧ ¬ (σ.1 2 4).toInt = 1) ∧ 4 * ((t : Int) - 400) ≤ (τ.1 0 4).toInt + 1
/-- one record more is counted -/
def C8 (K : Nat) (b z : ST) : Prop := (∀ c, c ≠ 8 → z.1 c = b.1 c) ∧ (∀ i, i ≠ K → z.1 8 i = b.1 8 i) ∧ z.1 8 K = b.1 8 K + 1 ∧ z.2 = b.2
theorem C8.mk {K : Nat} {b : ST} : C8 K b (stI b 8 K (b.1 8 K + 1)) := by
  have e9 : (stI b 8 K (b.1 8 K + 1)).1 8 = upd (b.1 8) K (b.1 8 K + 1) := rfl
  exact ⟨fun c hc => stI_ne hc, fun i hi => by rw [e9, upd_no hi], by rw [e9, upd_at], rfl⟩
theorem C8.fw {K t0 R : Nat} {b z : ST} (h : C8 K b z) : FW K t0 R b z := ⟨fun c hc => h.1 c (fun e => hc (by rw [e]; decide)), fun i _ => by rw [h.1 0 (by decide)], fun j _ => ⟨by rw [h.1 2 (by decide)], by rw [h.1 3 (by decide)], by rw [h.1 4 (by decide)]⟩, fun j _ => by rw [h.1 5 (by decide)], fun i hi => h.2.1 i (by omega), fun i _ => by rw [h.1 11 (by decide)], fun i _ => ⟨by rw [h.1 15 (by decide)], by rw [h.1 13 (by decide)], by rw [h.1 16 (by decide)], by rw [h.1 19 (by decide)]⟩, fun h9 i => by rw [h.1 19 (by decide)]; exact h9 i, fun i _ => by rw [h.1 10 (by decide)], BQ.l0 (fun c _ => by rw [h.2.2.2])⟩
theorem C8.tx {K : Nat} {b z : ST} (h : C8 K b z) (hx : TX b) : TX z := by
  unfold TX
  rw [h.1 0 (by decide)]
  exact hx
theorem C8.ut {K : Nat} {b z : ST} (h : C8 K b z) : uT z = uT b := uT_eq (by rw [h.1 0 (by decide)]) (by rw [h.1 0 (by decide)]) (by rw [h.1 0 (by decide)])
theorem C8.lx {K : Nat} {a b z : ST} (h : C8 K b z) (hX : LX a b) : LX a z := hX.ext rfl rfl rfl rfl (h.1 1 (by decide)) (fun i _ => by rw [h.1 0 (by decide)]) (by rw [h.2.2.2])
theorem PB_.ext {P lo t k m : Nat} {σ τ a b : ST} (h : PB_ P lo t k m σ τ) (a1 : ∀ c, c ∈ [20, 22, 23, 25, 29, 31, 32, 33] → a.1 c = σ.1 c) (a2 : ∀ c, c ∈ [24, 27, 28, 30, 34] → a.2.1 c = σ.2.1 c) (b0 : b.1 0 34 = τ.1 0 34) (b1 : ∀ c, c ∈ [2, 3, 4, 5, 10, 11, 13, 15, 16, 19] → b.1 c = τ.1 c) (b2 : ∀ c, c ∈ [6, 9, 12, 14, 17, 18] → b.2.1 c = τ.2.1 c) : PB_ P lo t k m a b := by
  obtain ⟨⟨p1, p2, p3, p4, p5⟩, ⟨p6, p7, pa, pb⟩, p8, p9, pX⟩ := h
  refine ⟨⟨p1, p2, by rw [b0]; exact p3, by rw [a1 20 (by decide)]; exact p4, by rw [a1 20 (by decide)]; exact p5⟩, ⟨by rw [a1 22 (by decide)]; exact p6, by rw [a2 34 (by decide)]; exact p7, by rw [a1 31 (by decide)]; exact pa, by rw [a1 32 (by decide)]; exact pb⟩, p8.ext (a1 31 (by decide)) (a1 32 (by decide)) (a2 34 (by decide)) (b1 2 (by decide)) (b1 4 (by decide)) (b1 5 (by decide)) (b2 6 (by decide)), fun i hi => ?_, pX.eq (a1 32 (by decide)) (a1 33 (by decide)) (b1 2 (by decide)) (b1 3 (by decide)) (b1 4 (by decide)) (b1 5 (by decide))⟩
  rw [a2 24 (by decide), b2 9 (by decide), a1 23 (by decide), b1 10 (by decide), b1 11 (by decide)]
  obtain ⟨x1, x2, x3, x4⟩ := p9 i hi
  exact ⟨x1, x2, x3, x4.ext (Nat.le_refl _) (by rw [a1 25 (by decide)]) (fun w _ => ⟨by rw [a2 27 (by decide)], by rw [a2 28 (by decide)], by rw [a2 30 (by decide)], by rw [a1 29 (by decide)]⟩) (fun w _ => ⟨by rw [b1 15 (by decide)], by rw [b1 13 (by decide)], by rw [b1 16 (by decide)], by rw [b1 19 (by decide)]⟩) (fun w _ => ⟨by rw [b2 12 (by decide)], by rw [b2 14 (by decide)], by rw [b2 17 (by decide)], by rw [b2 18 (by decide)]⟩) (fun w _ => by rw [b1 2 (by decide)]) (fun w _ => by rw [b1 5 (by decide)])⟩
theorem BR_.ext {lo t k m : Nat} {τ b : ST} (h : BR_ lo t k m τ) (b1 : ∀ c, c ∈ [2, 3, 4, 5, 11, 15] → b.1 c = τ.1 c) : BR_ lo t k m b := by
  unfold BR_
  rw [b1 2 (by decide), b1 3 (by decide), b1 4 (by decide), b1 5 (by decide), b1 11 (by decide), b1 15 (by decide)]
  exact h
theorem ab_rec_loop (P lo k i : Nat) (x1 x2A x2B : Int32) (hi : i < 6) (h1 : x1.toInt = 6 + (k : Int)) (hA : x2A.toInt = 6 * (k : Int) + i) (hB : x2B.toInt = 36 + (6 * (k : Int) + i)) : ∀ (f g j t : Nat) (x3 : Int32) (σ τ : ST), 9 < f + j → 9 < g + j → j ≤ 8 → x3.toInt = j → LST P lo t k i j σ τ → OK (f_X3_parseRecord_108 f x2A x3 σ) (fun qa => OK ((f_X11_go τ).bind fun q12 => (f_X11_field x2B q12).bind fun q14 => ac q14.2 (f_X11_record_114 g x1 x2B q14.1.1 q14.1.2)) (RCP 0 P lo t k i σ τ qa)) := by
  intro f
  have l0 := li_0
  have l1 := li_1
  have l8 := li_8
  have l44 := li_44
  have l59 := li_59
  induction f with
  | zero => intro g j t x3 σ τ h; omega
  | succ f ih =>
    intro g j t x3 σ τ hf hg hj hx3 hLS
    obtain ⟨⟨hp, hb⟩, ⟨h21, h8⟩, ⟨h23, h11⟩, hX, ⟨k0, k1⟩, hat⟩ := hLS
    have hK := hX.2.2.1
    have hPk := hp.1.1
    have hlt := hp.1.2.1
    rw [f_X3_parseRecord_108]
    refine OK.ilt (fun h => by omega) (fun _ => ?_)
    have t0 : ¬ (τ.1 0 6).toInt = 0 := fun e => k0 (hK.t0.mpr e)
    have u0 := uT_1 t0
    have nx := hX.nxt.2 t0
    refine OK.bnd2 (ab_go σ τ hX (hK.hg k0 k1)) (fun a1 b1 hq => ?_)
    obtain ⟨ca, cb, cL, hX1, hat1, _, hu1⟩ := hq
    have hp1 : PB_ P lo t k (i + 1) a1 b1 := hp.ext (fun c hc => ca.1 c (fun e => by rw [e] at hc; revert hc; decide)) (fun c hc => ca.2.2.1 c (fun e => by rw [e] at hc; revert hc; decide)) (cb.2.1 34 (by decide)) (fun c hc => cb.1 c (fun e => by rw [e] at hc; revert hc; decide) (by simp)) (fun c hc => cL c (fun e => by rw [e] at hc; revert hc; decide))
    have hb1 : BR_ lo t k (i + 1) b1 := hb.ext (fun c hc => cb.1 c (fun e => by rw [e] at hc; revert hc; decide) (by simp))
    have h11b : (b1.1 11 (36 + (6 * k + i))).toInt = j := by rw [cb.1 11 (by decide) (by decide)]; exact h11
    have hN1 : FRL P t (6 * k + i) j a1 b1 := by
      have h9 := (hp1.2.2.2.1 i (by omega)).2.2.2
      have e9 : (b1.1 11 (36 + (6 * k + i))).toInt.toNat = j := by omega
      rw [e9] at h9
      exact h9
    have hfld := ab_field P t (6 * k + i) j x2A x3 x2B a1 b1 ⟨hPk.1, hPk.2.1⟩ hX1 (by omega) hx3 (by omega) hj (by omega) (by have := hp.1.2.1; omega) hp1.1.2.2.1 hp1.1.2.2.2.1 (by omega) (by rw [ca.1 23 (by decide)]; exact h23) h11b hN1
    refine OK.bnd2 hfld (fun qa qb hq => ?_)
    obtain ⟨qF, hq⟩ := hq
    have FWq : FW (6 + k) t (36 + (6 * k + i)) τ qb.1.2 := (cb.fw (by decide)).trans (qF.fw (K := 6 + k) (by omega)) (Nat.le_refl _) (Nat.le_refl t) (Nat.le_refl _)
    have n1 : x1.toNatClampNeg = 6 + k := nC (by omega)
    cases g with
    | zero => omega
    | succ g =>
    have z8 : C8 (6 + k) qb.1.2 (stI qb.1.2 8 (6 + k) (qb.1.2.1 8 (6 + k) + 1)) := C8.mk
    rw [f_X11_record_114]
    rcases hq with ⟨q1, q2, q3⟩ | ⟨q1, q2, q3, q4, q5⟩ | ⟨q1, q2, hS, q4⟩
    · -- both refuse
      refine OK.ieq (fun _ => ?_) (fun h => by omega)
      refine OK.ret ?_
      refine OK.kac ?_
      refine OK.ieq (fun _ => ?_) (fun h => by omega)
      unfold f_X11_record_140
      rw [n1]
      refine OK.grd ⟨by omega, by omega⟩ ?_
      refine OK.ieq (fun _ => ?_) (fun h => by omega)
      refine OK.ret ⟨FWq.trans z8.fw (Nat.le_refl _) (Nat.le_refl t) (Nat.le_refl _), .inl ⟨l0, l0, ?_⟩⟩
      show qb.2 + 0 + 40 * uT _ ≤ _
      rw [z8.ut]
      omega
    · -- the class refuses; the reference will
      refine OK.ieq (fun _ => ?_) (fun h => by omega)
      refine OK.ret ?_
      refine OK.kac ?_
      refine OK.ieq (fun h => by omega) (fun _ => ?_)
      refine OK.ieq (fun h => by omega) (fun _ => ?_)
      unfold f_X11_record_140
      rw [n1]
      refine OK.grd ⟨by omega, by omega⟩ ?_
      refine OK.ieq (fun h => by omega) (fun _ => ?_)
      refine OK.bndC (b_mark 59 _ (z8.tx q4)) (fun v s c2 hv => ?_)
      obtain ⟨_, hv⟩ := hv
      rw [z8.1 0 (by decide)] at hv
      have hv0 : v.toInt = 0 ∧ uT s ≤ uT qb.1.2 := by
        rcases hv with hv | hv
        · rw [z8.ut] at hv
          exact hv
        · have := hv.2.1
          omega
      refine OK.ieq (fun _ => ?_) (fun h => absurd hv0.1 h)
      refine OK.ret ⟨(FWq.trans z8.fw (Nat.le_refl _) (Nat.le_refl t) (Nat.le_refl _)).trans (c2.fw (by decide)) (Nat.le_refl _) (Nat.le_refl t) (Nat.le_refl _), .inl ⟨l0, l0, ?_⟩⟩
      show qb.2 + 0 + 40 * uT s ≤ _
      omega
    -- a field more
    obtain ⟨t1, ⟨hj7, ht1⟩, hp2, hb2, hat2⟩ := PB_.step hp1 hb1 h11b qF hS
    obtain ⟨t1', ⟨_, _, _, s3, _⟩, sX, ⟨s5, s6, _⟩, _, _, _, s11, s12, _⟩ := hS
    have A21 : qa.2.1 21 = σ.1 21 := (s12.1 21 (by decide)).trans (ca.1 21 (by decide))
    have B8 : qb.1.2.1 8 = τ.1 8 := (qF.1 8 (by decide)).trans (cb.1 8 (by decide) (by decide))
    have hKq := sX.2.2.1
    refine OK.ieq (fun h => by omega) (fun _ => ?_)
    by_cases h44 : (qa.2.1 2 4).toInt = 44
    · refine OK.ieq (fun h => by omega) (fun _ => ?_)
      refine OK.ieq (fun _ => ?_) (fun h => by omega)
      have s44 := (hKq.sg (c := 44) (by omega)).mpr h44
      have ex3 := il_addE (x := x3) (y := 1) (by omega) (by omega)
      refine (ih g (j + 1) t1 (x3 + 1) qa.2 qb.1.2 (by omega) (by omega) (by omega) (by omega) ⟨⟨hp2, hb2⟩, ⟨by rw [A21]; exact h21, by rw [B8]; exact h8⟩, ⟨s5, s6⟩, sX, ⟨by omega, by omega⟩, hat2⟩).mono (fun qa9 h9 => ?_)
      refine OK.kac ?_
      refine OK.ieq (fun h => by omega) (fun _ => ?_)
      refine OK.ieq (fun _ => ?_) (fun h => by omega)
      refine h9.mono (fun y hy => ?_)
      obtain ⟨yF, hy⟩ := hy
      refine ⟨FWq.trans yF (Nat.le_refl _) (by omega) (Nat.le_refl _), ?_⟩
      rcases hy with ⟨y1, y2, y3⟩ | ⟨y1, y2, _, ⟨t2, y3, y4⟩, y6, y5⟩
      · exact .inl ⟨y1, y2, by show qb.2 + y.2 + 40 * uT y.1.2 ≤ _; omega⟩
      · exact .inr ⟨y1, y2, hi, ⟨t2, by omega, y4⟩, (ca.ap.trans (s12.ap (by omega) (by omega) (by omega))).trans y6, by show qb.2 + y.2 + 40 * uT y.1.2 + 0 ≤ _; omega⟩
    · have s44 : ¬ (qb.1.2.1 0 13).toInt = 44 := fun e => h44 ((hKq.sg (c := 44) (by omega)).mp e)
      have hm := ab_mark (c := 59) 59 qa.2 _ (z8.lx sX) (by omega) l59
      have B8i : (qb.1.2.1 8 (6 + k)).toInt = i := by rw [B8]; exact h8
      have e8 := il_addE (x := qb.1.2.1 8 (6 + k)) (y := 1) (by omega) (by omega)
      have FW8 := FWq.trans (z8.fw (t0 := t) (R := 36 + (6 * k + i))) (Nat.le_refl _) (Nat.le_refl t) (Nat.le_refl _)
      have u8 := z8.ut
      unfold f_X11_record_140
      rw [n1]
      generalize stI qb.1.2 8 (6 + k) (qb.1.2.1 8 (6 + k) + 1) = z at z8 hm FW8 u8 ⊢
      by_cases h59 : (qa.2.1 2 4).toInt = 59
      · refine OK.ieq (fun _ => ?_) (fun h => by omega)
        refine OK.sw ?_
        refine OK.kac ?_
        refine OK.ieq (fun h => by omega) (fun _ => ?_)
        refine OK.ieq (fun h => by omega) (fun _ => ?_)
        refine OK.grd ⟨by omega, by omega⟩ ?_
        refine OK.ieq (fun h => by omega) (fun _ => ?_)
        refine OK.sw ?_
        refine OK.bnd2 (hm.1 h59) (fun a2 q2 hq2 => ?_)
        obtain ⟨m1, ma, mb, mL, mX, mat, mu⟩ := hq2
        refine OK.ret ?_
        refine OK.ieq (fun h => by omega) (fun _ => ?_)
        have mb1 : ∀ c, c ≠ 0 → c ≠ 8 → q2.2.1 c = qb.1.2.1 c := fun c h0 h8 => (mb.1 c h0 (by simp)).trans (z8.1 c h8)
        have mL1 : ∀ c, c ≠ 0 → q2.2.2.1 c = qb.1.2.2.1 c := fun c h0 => by rw [mL c h0, z8.2.2.2]
        have z4 : z.1 0 = qb.1.2.1 0 := z8.1 0 (by decide)
        rw [z4] at mat
        refine OK.ret ⟨FW8.trans (mb.fw (by decide)) (Nat.le_refl _) (Nat.le_refl t) (Nat.le_refl _), .inr ⟨l1, l1, hi, ⟨t1, by omega, ?_, ?_, ⟨?_, ?_⟩, mX, ?_⟩, (ca.ap.trans (s12.ap (by omega) (by omega) (by omega))).trans ma.ap, ?_⟩⟩
        · exact hp2.ext (fun c hc => ma.1 c (fun e => by rw [e] at hc; revert hc; decide)) (fun c hc => ma.2.2.1 c (fun e => by rw [e] at hc; revert hc; decide)) (by show q2.2.1 0 34 = _; rw [mb.2.1 34 (by decide), z4]) (fun c hc => mb1 c (fun e => by rw [e] at hc; revert hc; decide) (fun e => by rw [e] at hc; revert hc; decide)) (fun c hc => mL1 c (fun e => by rw [e] at hc; revert hc; decide))
        · exact hb2.ext (fun c hc => mb1 c (fun e => by rw [e] at hc; revert hc; decide) (fun e => by rw [e] at hc; revert hc; decide))
        · show (a2.1 21 k).toInt = _
          rw [ma.1 21 (by decide), A21]
          exact h21
        · show (q2.2.1 8 (6 + k)).toInt = _
          rw [mb.1 8 (by decide) (by decide), z8.2.2.1]
          omega
        · show _ ≤ (q2.2.1 0 4).toInt
          omega
        · show qb.2 + 0 + 40 * uT q2.2 + 0 ≤ _
          omega
      · refine OK.ieq (fun h => by omega) (fun _ => ?_)
        refine OK.ieq (fun h => by omega) (fun _ => ?_)
        refine OK.bnd (a_refuse _ _) (fun q hq => ?_)
        refine OK.grd (b01 (.inl hq)) ?_
        refine OK.ret ?_
        refine OK.kac ?_
        refine OK.ieq (fun h => by omega) (fun _ => ?_)
        refine OK.ieq (fun h => by omega) (fun _ => ?_)
        refine OK.grd ⟨by omega, by omega⟩ ?_
        refine OK.ieq (fun h => by omega) (fun _ => ?_)
        refine OK.bnd (hm.2 h59) (fun q2 hq2 => ?_)
        obtain ⟨m1, mc⟩ := hq2
        refine OK.ieq (fun _ => ?_) (fun h => by omega)
        refine OK.ret ⟨FW8.trans (mc.fw (by decide)) (Nat.le_refl _) (Nat.le_refl t) (Nat.le_refl _), .inl ⟨hq, l0, ?_⟩⟩
        show qb.2 + 0 + 40 * uT q2.2 ≤ _
        rw [uT_eq (mc.2.1 3 (by decide)) (mc.2.1 5 (by decide)) (mc.2.1 6 (by decide))]
        omega
theorem ab_record (P lo t k m : Nat) (pA pB : Int32) (σ τ : ST) (hp : PB_ P lo t k m σ τ) (hb : BR_ lo t k m τ) (h21 : (σ.1 21 k).toInt = m) (h8 : (τ.1 8 (6 + k)).toInt = m) (hm : m ≤ 6) (hX : LX σ τ) (hW : W_ τ v_record) (hA : pA.toInt = k) (hB : pB.toInt = 6 + (k : Int)) (hat : 4 * ((t : Int) - 400) ≤ (τ.1 0 4).toInt) : OK (f_X3_parseRecord pA σ) (fun qa => OK (f_X11_record pB τ) (RCP 20 P lo t k m σ τ qa)) := by
  unfold f_X3_parseRecord f_X11_record
  have hK := hX.2.2.1
  have l0 := li_0
  have l1 := li_1
  have l3 := li_3
  have l6 := li_6
  have lm := li_m1
  have hk6 : k < 6 := by have := hp.1.1; omega
  have e1 : kwV 1 = v_record := rfl
  have kA := (hK.kw (k := 1) (by omega)).mp (by rw [e1]; exact hW)
  have nB : pB.toNatClampNeg = 6 + k := nC (by omega)
  have w1 := hW.1
  have u0 := uT_1 (τ := τ) (by omega)
  have nx := hX.nxt.2 (by omega)
  have bf : ∀ (qa : Int32 × ST) (b s : ST) (v : Int32) (xx : Nat), qa.1.toInt = 0 → FW (6 + k) t (36 + (6 * k + m)) τ b → CH [] [12] b s → v.toInt = 0 → xx + 40 * uT b ≤ 40 * uT τ + 23 → RCP 20 P lo t k m σ τ qa ((v, s), xx) := fun qa b s v xx h1 hF c h2 hx => ⟨hF.trans (c.fw (by decide)) (Nat.le_refl _) (Nat.le_refl t) (Nat.le_refl _), .inl ⟨h1, h2, by show xx + 40 * uT s ≤ _; rw [uT_eq (c.2.1 3 (by decide)) (c.2.1 5 (by decide)) (c.2.1 6 (by decide))]; omega⟩⟩
  rw [a_recordsOf pA σ hA hk6]
  refine OK.lt (fun q1 h1 => ?_)
  subst h1
  dsimp only
  refine OK.sw ?_
  refine OK.bndK (b_isRecord τ) (fun v x hv hx => ?_)
  refine OK.kac ?_
  dsimp only
  have hv1 : v.toInt = 1 := by
    rcases hv with hv | hv
    · exact absurd hW hv.2
    · exact hv.1
  refine OK.ieq (fun h => by omega) (fun _ => ?_)
  refine OK.grd ⟨by omega, by omega⟩ ?_
  rw [nB]
  by_cases hm6 : m = 6
  · refine OK.ieq (fun _ => ?_) (fun h => by omega)
    refine OK.bndC (b_wrongHere 4 τ) (fun v2 s2 c2 hv2 => ?_)
    refine OK.grd (b01 (.inl hv2)) ?_
    refine OK.ret ?_
    refine OK.ilt (fun h => by omega) (fun _ => ?_)
    refine OK.bnd (a_refuse _ _) (fun q hq => ?_)
    refine OK.grd (b01 (.inl hq)) ?_
    exact OK.ret (bf (q.1, q.2) τ s2 v2 _ hq FW.rf c2 hv2 (by show x + 0 + 40 * uT τ ≤ _; omega))
  refine OK.ieq (fun h => by omega) (fun _ => ?_)
  refine OK.sw ?_
  refine OK.ilt (fun _ => ?_) (fun h => by omega)
  refine OK.bnd2 (ab_go σ τ hX (hK.hg (by omega) (by omega))) (fun a1 b1 hq => ?_)
  obtain ⟨ca, cb, cL, hX1, hat1, _, hu1⟩ := hq
  have hK1 := hX1.2.2.1
  have FW1 : FW (6 + k) t (36 + (6 * k + m)) τ b1 := cb.fw (by decide)
  refine OK.sw ?_
  refine OK.bndK (b_isName b1) (fun vn xn hvn hxn => ?_)
  refine OK.kac ?_
  dsimp only
  by_cases hN1 : NM b1
  rotate_left
  · have hn0 : vn.toInt = 0 := by
      rcases hvn with hv | hv
      · exact hv.1
      · exact absurd hv.2 hN1
    have k3 : ¬ (a1.1 2 4).toInt = 3 := fun e => hN1 (hK1.nm.mpr e)
    refine OK.ieq (fun _ => ?_) (fun h => by omega)
    refine OK.bndC (b_wrongHere 1 b1) (fun v2 s2 c2 hv2 => ?_)
    refine OK.grd (b01 (.inl hv2)) ?_
    refine OK.ret ?_
    refine OK.ieq (fun h => by omega) (fun _ => ?_)
    refine OK.bnd (a_refuse _ _) (fun q hq => ?_)
    refine OK.grd (b01 (.inl hq)) ?_
    exact OK.ret (bf (q.1, q.2) b1 s2 v2 _ hq FW1 c2 hv2 (by show x + (xn + 0) + 40 * uT b1 ≤ _; omega))
  have hn1 : vn.toInt = 1 := by
    rcases hvn with hv | hv
    · exact absurd hN1 hv.2
    · exact hv.1
  have k3 := hK1.nm.mp hN1
  obtain ⟨w1', w2, w3⟩ := hK1.wd (by rw [sv_nm hK1 hN1]; omega)
  refine OK.ieq (fun h => by omega) (fun _ => ?_)
  have h8b : (b1.1 8 (6 + k)).toInt = m := by rw [cb.1 8 (by decide) (by decide)]; exact h8
  have h21a : (a1.1 21 k).toInt = m := by rw [ca.1 21 (by decide)]; exact h21
  refine OK.bndR (bx_recordOf pB (b1.2.1 0 7) b1 (6 + k) m (by omega) (by omega) h8b hm) (fun vb hvb => ?_)
  dsimp only
  refine OK.sw ?_
  refine OK.ieq (fun _ => ?_) (fun h => by omega)
  refine OK.bndR (a_recordNamed pA (a1.2.1 2 7) a1 k m hk6 hA h21a hm) (fun va hva => ?_)
  dsimp only
  have nms : ∀ i : Nat, i < m → WL (a1.2.1 24 (6 * k + i)) (b1.2.1 9 (6 * (6 + k) + i)) := fun i hi => by
    have e : 6 * (6 + k) + i = 36 + (6 * k + i) := by omega
    rw [e, ca.2.2.1 24 (by decide), cL 9 (by decide)]
    exact (hp.2.2.2.1 i hi).1.1
  by_cases hex : ∃ i : Nat, i < m ∧ a1.2.1 24 (6 * k + i) = a1.2.1 2 7
  · have hva0 : 0 ≤ va.toInt := by
      rcases hva with hv | ⟨i, _, _, hv⟩
      · obtain ⟨i, hi, e⟩ := hex
        exact absurd e (hv.2 i hi)
      · omega
    have hvb0 : 0 ≤ vb.toInt := by
      rcases hvb with hv | ⟨i, _, _, hv⟩
      · obtain ⟨i, hi, e⟩ := hex
        exact absurd (((nms i hi).iff w3).mp e) (hv.2 i hi)
      · omega
    clear hva hvb hex
    refine OK.ieq (fun h => by omega) (fun _ => ?_)
    refine OK.bnd (a_refuse _ _) (fun q hq => ?_)
    refine OK.grd (b01 (.inl hq)) ?_
    refine OK.ret ?_
    refine OK.ilt (fun h => by omega) (fun _ => ?_)
    refine OK.bndC (b_wrongHere 3 b1) (fun v2 s2 c2 hv2 => ?_)
    refine OK.grd (b01 (.inl hv2)) ?_
    exact OK.ret (bf (q.1, q.2) b1 s2 v2 _ hq FW1 c2 hv2 (by show x + (xn + 0) + 40 * uT b1 ≤ _; omega))
  have hva1 : va.toInt = -1 := by
    rcases hva with hv | ⟨i, hi, e, _⟩
    · exact hv.1
    · exact absurd ⟨i, hi, e.1⟩ hex
  have hvb1 : vb.toInt = -1 := by
    rcases hvb with hv | ⟨i, hi, e, _⟩
    · exact hv.1
    · exact absurd ⟨i, hi, ((nms i hi).iff w3).mpr e.1⟩ hex
  have hdn : ∀ j : Nat, j < m → ¬ a1.2.1 24 (6 * k + j) = a1.2.1 2 7 := fun j hj e => hex ⟨j, hj, e⟩
  clear hva hvb hex
  refine OK.ieq (fun _ => ?_) (fun h => by omega)
  rw [a_recordsOf pA a1 hA hk6]
  refine OK.lt (fun q7 h7 => ?_)
  subst h7
  dsimp only
  refine OK.bnd (a_addRecord pA (a1.2.1 2 7) a1 hA hk6 h21a (by omega)) (fun a2 ha2 => ?_)
  obtain ⟨f1, f2, f3, f4, f5, f6, f7, f8, f9, f10⟩ := ha2
  refine OK.sw ?_
  refine OK.ilt (fun _ => ?_) (fun h => by omega)
  have em := mlE (k := 6) (y := pB) 6 (by decide) (by omega) (by omega)
  have eN := il_addE (x := 6 * pB) (y := b1.1 8 (6 + k)) (by omega) (by omega)
  have nN : (6 * pB + b1.1 8 (6 + k)).toNatClampNeg = 36 + (6 * k + m) := nC (by omega)
  refine OK.grd ⟨by omega, by omega⟩ ?_
  rw [nN]
  refine OK.lt (fun z hz => ?_)
  have g1 : ∀ c, c ∉ [10, 11] → (stI z 11 (36 + (6 * k + m)) 0).1 c = b1.1 c := fun c hc => by
    simp only [List.mem_cons, List.not_mem_nil, or_false, not_or] at hc
    rw [stI_ne hc.2, hz, stI_ne hc.1]
    rfl
  have g10 : ∀ i, i ≠ 36 + (6 * k + m) → (stI z 11 (36 + (6 * k + m)) 0).1 10 i = b1.1 10 i := fun i hi => by
    rw [stI_ne (by decide), hz]
    show upd (b1.1 10) _ _ i = _
    rw [upd_no hi]
  have g10e : (stI z 11 (36 + (6 * k + m)) 0).1 10 (36 + (6 * k + m)) = b1.1 0 8 := by
    rw [stI_ne (by decide), hz]
    show upd (b1.1 10) _ _ _ = _
    rw [upd_at]
    rfl
  have g11 : ∀ i, i ≠ 36 + (6 * k + m) → (stI z 11 (36 + (6 * k + m)) 0).1 11 i = b1.1 11 i := fun i hi => by
    have e9 : (stI z 11 (36 + (6 * k + m)) 0).1 11 = upd (z.1 11) (36 + (6 * k + m)) 0 := rfl
    rw [e9, upd_no hi, hz, stI_ne (by decide)]
    rfl
  have g0 : (stI z 11 (36 + (6 * k + m)) 0).1 11 (36 + (6 * k + m)) = 0 := by
    have e9 : (stI z 11 (36 + (6 * k + m)) 0).1 11 = upd (z.1 11) (36 + (6 * k + m)) 0 := rfl
    rw [e9, upd_at]
  have g2 : ∀ c, c ≠ 9 → (stI z 11 (36 + (6 * k + m)) 0).2.1 c = b1.2.1 c := fun c hc => by
    show z.2.1 c = _
    rw [hz]
    show (stL b1 9 _ _).2.1 c = _
    rw [stL_ne hc]
  have g9 : (stI z 11 (36 + (6 * k + m)) 0).2.1 9 (36 + (6 * k + m)) = b1.2.1 0 7 := by
    show z.2.1 9 _ = _
    rw [hz]
    show vp_updL (b1.2.1 9) _ _ _ = _
    rw [updL_at]
  have g9n : ∀ i, i ≠ 36 + (6 * k + m) → (stI z 11 (36 + (6 * k + m)) 0).2.1 9 i = b1.2.1 9 i := fun i hi => by
    show z.2.1 9 _ = _
    rw [hz]
    show vp_updL (b1.2.1 9) _ _ _ = _
    rw [updL_no hi]
  clear hz
  generalize stI z 11 (36 + (6 * k + m)) 0 = b2 at g1 g10 g10e g11 g0 g2 g9 g9n ⊢
  have hX2 : LX a2 b2 := hX1.ext (f1 1 (by decide)) (f1 2 (by decide)) (f2 3 (by decide)) (f2 2 (by decide)) (g1 1 (by decide)) (fun i _ => by rw [g1 0 (by decide)]) (g2 0 (by decide))
  have u2 : uT b2 = uT b1 := uT_eq (by rw [g1 0 (by decide)]) (by rw [g1 0 (by decide)]) (by rw [g1 0 (by decide)])
  have FW2 : FW (6 + k) t (36 + (6 * k + m)) τ b2 := by
    refine FW1.trans (K1 := 6 + k) (t1 := t) (R1 := 36 + (6 * k + m)) ⟨fun c hc => g1 c (fun h9 => hc ?_), fun i _ => by rw [g1 0 (by decide)], fun j _ => ⟨by rw [g1 2 (by decide)], by rw [g1 3 (by decide)], by rw [g1 4 (by decide)]⟩, fun j _ => by rw [g1 5 (by decide)], fun i _ => by rw [g1 8 (by decide)], fun i hi => g11 i (by omega), fun i _ => ⟨by rw [g1 15 (by decide)], by rw [g1 13 (by decide)], by rw [g1 16 (by decide)], by rw [g1 19 (by decide)]⟩, fun h i => by rw [g1 19 (by decide)]; exact h i, fun i hi => g10 i (by omega), fun i hi => g9n i (by omega), fun i _ => ⟨by rw [g2 12 (by decide)], by rw [g2 14 (by decide)], by rw [g2 17 (by decide)], by rw [g2 18 (by decide)]⟩⟩ (Nat.le_refl _) (Nat.le_refl _) (Nat.le_refl _)
    simp only [List.mem_cons, List.not_mem_nil, or_false] at h9 ⊢
    omega
  have hp2 : PB_ P lo t k (m + 1) a2 b2 := by
    have hp1 : PB_ P lo t k m a1 b1 := hp.ext (fun c hc => ca.1 c (fun e => by rw [e] at hc; revert hc; decide)) (fun c hc => ca.2.2.1 c (fun e => by rw [e] at hc; revert hc; decide)) (cb.2.1 34 (by decide)) (fun c hc => cb.1 c (fun e => by rw [e] at hc; revert hc; decide) (by simp)) (fun c hc => cL c (fun e => by rw [e] at hc; revert hc; decide))
    obtain ⟨⟨p1, p2, p3, p4, p5⟩, ⟨p6, p7, pa, pb⟩, p8, p9, pX⟩ := hp1
    refine ⟨⟨p1, p2, by rw [g1 0 (by decide)]; exact p3, by rw [f1 20 (by decide)]; exact p4, by rw [f1 20 (by decide)]; exact p5⟩, ⟨by rw [f1 22 (by decide)]; exact p6, by rw [f2 34 (by decide)]; exact p7, by rw [f1 31 (by decide)]; exact pa, by rw [f1 32 (by decide)]; exact pb⟩, p8.ext (f1 31 (by decide)) (f1 32 (by decide)) (f2 34 (by decide)) (g1 2 (by decide)) (g1 4 (by decide)) (g1 5 (by decide)) (g2 6 (by decide)), fun i hi => ?_, pX.eq (f1 32 (by decide)) (f1 33 (by decide)) (g1 2 (by decide)) (g1 3 (by decide)) (g1 4 (by decide)) (g1 5 (by decide))⟩
    by_cases e : i = m
    · subst e
      have hdn2 : DNM (a2.2.1 24) (6 * k) i := fun j hj => by
        rw [f5, f6 _ (by omega)]
        exact hdn j hj
      rw [f5, g9, g10e]
      refine ⟨⟨w3, hdn2⟩, hX1.rlen hN1, Int32.toInt_inj.mp ?_, ⟨0, by omega, f9, fun w _ => ?_⟩, fun w hw => ?_⟩
      · rw [g0, l0]
        exact f7
      · rw [g0, l0, Nat.zero_testBit]
        exact ⟨fun h => by simp at h, fun h => by omega⟩
      · rw [g0, l0] at hw
        omega
    · have hdn3 : DNM (a1.2.1 24) (6 * k) i → DNM (a2.2.1 24) (6 * k) i := fun h j hj => by
        rw [f6 _ (by omega), f6 _ (by omega)]
        exact h j hj
      rw [f6 _ (by omega), g9n _ (by omega), g10 _ (by omega), f8 _ (by omega), g11 _ (by omega)]
      obtain ⟨⟨x1, x1d⟩, x2, x3, x4⟩ := p9 i (by omega)
      exact ⟨⟨x1, hdn3 x1d⟩, x2, x3, x4.ext (Nat.le_refl _) (f10 _ (by omega)) (fun w _ => ⟨by rw [f2 27 (by decide)], by rw [f2 28 (by decide)], by rw [f2 30 (by decide)], by rw [f1 29 (by decide)]⟩) (fun w _ => ⟨by rw [g1 15 (by decide)], by rw [g1 13 (by decide)], by rw [g1 16 (by decide)], by rw [g1 19 (by decide)]⟩) (fun w _ => ⟨by rw [g2 12 (by decide)], by rw [g2 14 (by decide)], by rw [g2 17 (by decide)], by rw [g2 18 (by decide)]⟩) (fun w _ => by rw [g1 2 (by decide)]) (fun w _ => by rw [g1 5 (by decide)])⟩
  have hb2 : BR_ lo t k (m + 1) b2 := by
    intro i hi
    by_cases e : i = m
    · subst e
      rw [g0, l0]
      exact ⟨⟨by omega, by omega⟩, fun j hj => by omega⟩
    · have hb1 := hb i (by omega)
      rw [g11 _ (by omega), cb.1 11 (by decide) (by decide), g1 15 (by decide), cb.1 15 (by decide) (by decide), g1 2 (by decide), g1 3 (by decide), g1 4 (by decide), g1 5 (by decide), cb.1 2 (by decide) (by decide), cb.1 3 (by decide) (by decide), cb.1 4 (by decide) (by decide), cb.1 5 (by decide) (by decide)]
      exact hb1
  have eA := mlE (k := 6) (y := pA) 6 (by decide) (by omega) (by omega)
  have cA : pA * 6 = 6 * pA := Int32.mul_comm _ _
  have eA2 := il_addE (x := 6 * pA) (y := a1.1 21 k) (by omega) (by omega)
  rw [cA]
  have lu := FUi
  refine OK.sw ?_
  refine (ab_rec_loop P lo k m pB (6 * pA + a1.1 21 k) (6 * pB + b1.1 8 (6 + k)) (by omega) hB (by omega) (by omega) FU FU 0 t 0 a2 b2 (by omega) (by omega) (by omega) l0 ⟨⟨hp2, hb2⟩, ⟨f3, by rw [g1 8 (by decide)]; exact h8b⟩, ⟨f7, by rw [g0]; exact l0⟩, hX2, ⟨by rw [f1 2 (by decide)]; omega, by rw [f1 2 (by decide)]; omega⟩, by rw [g1 0 (by decide)]; omega⟩).mono2 (fun qa y hy => ?_)
  obtain ⟨yF, hy⟩ := hy
  refine ⟨FW2.trans yF (Nat.le_refl _) (Nat.le_refl _) (Nat.le_refl _), ?_⟩
  rcases hy with ⟨y1, y2, y3⟩ | ⟨y1, y2, y6, y3, y7, y5⟩
  · exact .inl ⟨y1, y2, by show x + (xn + y.2) + 40 * uT y.1.2 ≤ _; omega⟩
  · exact .inr ⟨y1, y2, y6, y3, (ca.ap.trans ⟨fun i hi => ⟨f4 i (by omega), by rw [f1 22 (by decide)]⟩, fun i hi => ⟨f8 i (by omega), f6 i (by omega), f10 i (by omega)⟩, fun i _ => ⟨by rw [f2 27 (by decide)], by rw [f2 28 (by decide)], by rw [f2 30 (by decide)], by rw [f1 29 (by decide)]⟩, fun i _ => ⟨by rw [f1 31 (by decide)], by rw [f1 32 (by decide)], by rw [f1 33 (by decide)]⟩⟩).trans y7, by show x + (xn + y.2) + 40 * uT y.1.2 + 20 ≤ _; omega⟩
/-! the records that were asked for: both find them, or both do not -/
def AR (σ0 σ : ST) : Prop := (∀ c, c ≠ 32 → σ.1 c = σ0.1 c) ∧ σ.2.1 = σ0.2.1
def B3 (lo : Nat) (τ0 τ : ST) : Prop := (∀ c, c ≠ 3 → τ.1 c = τ0.1 c) ∧ (∀ q, q < lo ∨ ¬ (τ0.1 2 q).toInt = 7 → τ.1 3 q = τ0.1 3 q) ∧ τ.2.1 = τ0.2.1
def D7 (lo j m : Nat) (τ : ST) : Prop := ∀ q : Nat, lo ≤ q → q < j → (τ.1 2 q).toInt = 7 → 0 ≤ (τ.1 3 q).toInt ∧ (τ.1 3 q).toInt < m
/-- the records that are asked for, on both sides, and the rows below are as they were -/
def E7 (P lo j k : Nat) (τ0 σ0 σ τ : ST) : Prop := (∀ q : Nat, lo ≤ q → q < j → (τ.1 2 q).toInt = 7 → (σ.1 32 (q + P - 400)).toInt = 6 * (k : Int) + (τ.1 3 q).toInt) ∧ ∀ i : Nat, (i < lo + P - 400 ∨ ¬ (τ0.1 2 (i + 400 - P)).toInt = 7) → σ.1 32 i = σ0.1 32 i
def RES (P k lo t m : Nat) (σ0 τ0 : ST) (qa qb : Int32 × ST) : Prop := ((0 ≤ qa.1.toInt ∧ qa.1.toInt < 262) ∧ qa.1.toInt < (qa.2.1 20 1).toInt ∧ qb.1.toInt = 0 ∧ ∃ b', B3 lo τ0 b' ∧ CH [] [12] b' qb.2) ∨ (qa.1.toInt = -1 ∧ qb.1.toInt = 1 ∧ AR σ0 qa.2 ∧ B3 lo τ0 qb.2 ∧ D7 lo t m qb.2 ∧ E7 P lo t k τ0 σ0 qa.2 qb.2)
theorem ab_res_loop (P lo t k m : Nat) (pA pB : Int32) (σ0 τ0 : ST) (hp : PB_ P lo t k m σ0 τ0) (h21 : (σ0.1 21 k).toInt = m) (h8 : (τ0.1 8 (6 + k)).toInt = m) (hm : m ≤ 6) (ht : t ≤ 650) (hA : pA.toInt = k) (hB : pB.toInt = 6 + (k : Int)) : ∀ (f g j : Nat) (x2 x3 : Int32) (σ τ : ST), t < f + j → t < g + j → lo ≤ j → j ≤ t → x2.toInt = (j : Int) + P - 400 → x3.toInt = j → AR σ0 σ → B3 lo τ0 τ → D7 lo j m τ → E7 P lo j k τ0 σ0 σ τ → OK (f_X5_resolve_6 20 f pA x2 σ) (fun qa => OK (f_X11_ends_2 g pB x3 τ) (RES P k lo t m σ0 τ0 qa)) := by
  intro f
  have l0 := li_0
  have l1 := li_1
  have l7 := li_7
  have lm := li_m1
  obtain ⟨⟨p1, p2, p3, p4, p5⟩, ⟨p6, p7, pa, pb⟩, p8, p9, pX⟩ := hp
  induction f with
  | zero => intro g j x2 x3 σ τ h1 h2 h3 h4; omega
  | succ f ih =>
    intro g j x2 x3 σ τ hf hg hlo hjt hx2 hx3 hAR hB3 hD hE
    cases g with
    | zero => omega
    | succ g =>
    rw [f_X5_resolve_6, f_X11_ends_2]
    have c20 : (σ.1 20 1).toInt = (t : Int) + P - 400 := by rw [hAR.1 20 (by decide)]; exact p4
    have c34 : (τ.1 0 34).toInt = t := by rw [hB3.1 0 (by decide)]; exact p3
    by_cases hj : j = t
    · subst hj
      refine OK.ile (fun _ => ?_) (fun h => by omega)
      refine OK.ret ?_
      refine OK.ile (fun _ => ?_) (fun h => by omega)
      exact OK.ret (.inr ⟨lm, l1, hAR, hB3, hD, hE⟩)
    refine OK.ile (fun h => by omega) (fun _ => ?_)
    refine OK.bndR (a_isType x2 σ (j + P - 400) (by omega) (by omega) (by omega)) (fun v hv => ?_)
    dsimp only
    refine OK.ieq (fun h => by omega) (fun _ => ?_)
    refine OK.grd ⟨by omega, by omega⟩ ?_
    have n2 : x2.toNatClampNeg = j + P - 400 := nC (by omega)
    have n3 : x3.toNatClampNeg = j := nC hx3
    rw [n2, n3]
    obtain ⟨r1, r2, r3, r4⟩ := p8 j hlo (by omega)
    have e34 : σ.2.1 (20 + 14) (j + P - 400) = σ0.2.1 34 (j + P - 400) := by rw [hAR.2]
    have t2 : τ.1 2 j = τ0.1 2 j := by rw [hB3.1 2 (by decide)]
    have ex2 := il_addE (x := x2) (y := 1) (by omega) (by omega)
    have ex3 := il_addE (x := x3) (y := 1) (by omega) (by omega)
    unfold f_X5_resolve_62 f_X11_ends_59
    by_cases h7 : (τ0.1 2 j).toInt = 7
    · obtain ⟨w, wn⟩ := r2 h7
      rw [if_neg (fun h => wn (by rw [← e34]; exact (lg_cmp_eq _ _).mp h))]
      refine OK.bndR (a_recordNamed pA _ σ k m (by omega) hA (by rw [hAR.1 21 (by decide)]; exact h21) hm) (fun va hva => ?_)
      dsimp only
      have e9 : (stI σ (20 + 12) (j + P - 400) va).1 (20 + 12) = upd (σ.1 (20 + 12)) (j + P - 400) va := rfl
      rw [e9, upd_at]
      refine OK.sw ?_
      refine OK.ile (fun h => by omega) (fun _ => ?_)
      refine OK.grd ⟨by omega, by omega⟩ ?_
      refine OK.ieq (fun _ => ?_) (fun h => by rw [t2] at h; omega)
      refine OK.bndR (bx_recordOf pB _ τ (6 + k) m (by omega) (by omega) (by rw [hB3.1 8 (by decide)]; exact h8) hm) (fun vb hvb => ?_)
      dsimp only
      have e10 : (stI τ 3 j vb).1 3 = upd (τ.1 3) j vb := rfl
      have e11 : (stI τ 3 j vb).1 3 j = vb := by rw [e10, upd_at]
      rw [e11]
      have nms : ∀ i : Nat, i < m → (σ.2.1 24 (6 * k + i) = σ.2.1 (20 + 14) (j + P - 400) ↔ τ.2.1 9 (6 * (6 + k) + i) = τ.2.1 6 j) := fun i hi => by
        have e : 6 * (6 + k) + i = 36 + (6 * k + i) := by omega
        rw [e34, hAR.2, hB3.2.2, e]
        exact (p9 i hi).1.1.iff w
      have b3 : B3 lo τ0 (stI τ 3 j vb) := ⟨fun c hc => by rw [stI_ne hc]; exact hB3.1 c hc, fun q hq => by rw [e10, upd_no (fun e => by subst e; exact hq.elim (fun h => by omega) (fun h => h h7))]; exact hB3.2.1 q hq, hB3.2.2⟩
      have ar : AR σ0 (stI σ (20 + 12) (j + P - 400) va) := ⟨fun c hc => by rw [stI_ne hc]; exact hAR.1 c hc, hAR.2⟩
      by_cases hex : ∃ i : Nat, i < m ∧ τ.2.1 9 (6 * (6 + k) + i) = τ.2.1 6 j
      · have hsame : va.toInt = 6 * (k : Int) + vb.toInt := by
          rcases hva with hv | ⟨ia, hia, ea, hv⟩
          · obtain ⟨i, hi, e⟩ := hex
            exact absurd ((nms i hi).mpr e) (hv.2 i hi)
          rcases hvb with hw | ⟨ib, hib, eb, hw⟩
          · obtain ⟨i, hi, e⟩ := hex
            exact absurd e (hw.2 i hi)
          have : ia = ib := by
            rcases Nat.lt_trichotomy ia ib with h9 | h9 | h9
            · exact absurd ((nms ia hia).mp ea.1) (eb.2 ia h9)
            · exact h9
            · exact absurd ((nms ib hib).mpr eb.1) (ea.2 ib h9)
          omega
        have hvb0 : 0 ≤ vb.toInt ∧ vb.toInt < m := by
          rcases hvb with hv | ⟨i, hi, _, hv⟩
          · obtain ⟨i, hi, e⟩ := hex
            exact absurd e (hv.2 i hi)
          · omega
        have hva0 : 0 ≤ va.toInt := by
          rcases hva with hv | ⟨i, hi, _, hv⟩
          · obtain ⟨i, hi, e⟩ := hex
            exact absurd ((nms i hi).mpr e) (hv.2 i hi)
          · omega
        clear hva hvb hex
        refine OK.ile (fun _ => ?_) (fun h => by omega)
        refine OK.sw ?_
        refine OK.ieq (fun h => by omega) (fun _ => ?_)
        refine ih g (j + 1) (x2 + 1) (x3 + 1) _ _ (by omega) (by omega) (by omega) (by omega) (by omega) (by omega) ar b3 (fun q h1 h2 h3 => ?_) ⟨fun q h1 h2 h3 => ?_, fun q hq => ?_⟩
        by_cases e : q = j
        · subst e
          rw [e11]
          exact hvb0
        · rw [e10, upd_no e]
          exact hD q h1 (by omega) h3
        · by_cases e : q = j
          · subst e
            rw [e11, e9, upd_at]
            exact hsame
          · rw [e10, upd_no e, e9, upd_no (by omega)]
            exact hE.1 q h1 (by omega) h3
        · rw [e9, upd_no (fun e => by
            rcases hq with hq | hq
            · omega
            · apply hq
              have e5 : q + 400 - P = j := by omega
              rw [e5]
              exact h7)]
          exact hE.2 q hq
      · have hvb1 : vb.toInt = -1 := by
          rcases hvb with hv | ⟨i, hi, e, _⟩
          · exact hv.1
          · exact absurd ⟨i, hi, e.1⟩ hex
        have hva1 : va.toInt = -1 := by
          rcases hva with hv | ⟨i, hi, e, _⟩
          · exact hv.1
          · exact absurd ⟨i, hi, (nms i hi).mp e.1⟩ hex
        clear hva hvb hex
        refine OK.ile (fun h => by omega) (fun _ => ?_)
        refine OK.bndC (b_wrong 3 _ _) (fun v2 s2 c2 hv2 => ?_)
        refine OK.grd (b01 (.inl hv2)) ?_
        refine OK.ret ?_
        refine OK.ieq (fun _ => ?_) (fun h => by omega)
        exact OK.ret (.inl ⟨⟨by show 0 ≤ x2.toInt; omega, by show x2.toInt < 262; omega⟩, by show x2.toInt < (σ.1 20 1).toInt; omega, hv2, _, b3, c2⟩)
    · have a0 := r3 h7
      rw [if_pos ((lg_cmp_eq _ _).mpr (e34.trans a0))]
      refine OK.sw ?_
      refine OK.ile (fun h => by omega) (fun _ => ?_)
      refine OK.grd ⟨by omega, by omega⟩ ?_
      refine OK.ieq (fun h => by rw [t2] at h; omega) (fun _ => ?_)
      refine OK.sw ?_
      refine ih g (j + 1) (x2 + 1) (x3 + 1) σ τ (by omega) (by omega) (by omega) (by omega) (by omega) (by omega) hAR hB3 (fun q h1 h2 h3 => ?_) ⟨fun q h1 h2 h3 => ?_, hE.2⟩
      · by_cases e : q = j
        · subst e
          rw [t2] at h3
          exact absurd h3 h7
        · exact hD q h1 (by omega) h3
      · by_cases e : q = j
        · subst e
          rw [t2] at h3
          exact absurd h3 h7
        · exact hE.1 q h1 (by omega) h3
def RSV (P k lo t m : Nat) (σ0 τ0 : ST) (qa qb : Int32 × ST) : Prop := (qa.1.toInt = 0 ∧ qb.1.toInt = 0 ∧ ∃ b', B3 lo τ0 b' ∧ CH [] [12] b' qb.2) ∨ (qa.1.toInt = 1 ∧ qb.1.toInt = 1 ∧ AR σ0 qa.2 ∧ B3 lo τ0 qb.2 ∧ D7 lo t m qb.2 ∧ E7 P lo t k τ0 σ0 qa.2 qb.2)
theorem ab_resolve (P lo t k m : Nat) (pA pB xl : Int32) (σ τ : ST) (hp : PB_ P lo t k m σ τ) (h21 : (σ.1 21 k).toInt = m) (h8 : (τ.1 8 (6 + k)).toInt = m) (hm : m ≤ 6) (ht : t ≤ 650) (hA : pA.toInt = k) (hB : pB.toInt = 6 + (k : Int)) (hl : xl.toInt = lo) : OK (f_X3_resolve pA σ) (fun qa => OK (f_X11_ends pB xl τ) (RSV P k lo t m σ τ qa)) := by
  unfold f_X3_resolve f_X11_ends f_X5_resolve
  have l0 := li_0
  have l1 := li_1
  have l6 := li_6
  have lm := li_m1
  have lu := FUi
  obtain ⟨⟨p1, p2, p3, p4, p5⟩, ⟨p6, p7, pa, pb⟩, p8, p9, pX⟩ := hp
  have nA : pA.toNatClampNeg = k := nC hA
  have er : f_X5_rootType 20 pA σ = some (σ.1 22 k, σ) := by
    unfold f_X5_rootType
    rw [if_neg (by rw [Int32.lt_iff_toInt_lt]; omega), if_neg (by rw [Int32.le_iff_toInt_le]; omega), if_pos ⟨by omega, by omega⟩, nA]
  rw [er]
  have e1 := il_addE (x := σ.1 22 k) (y := 1) (by omega) (by omega)
  have ef : FU = 99999 + 1 := rfl
  have es : f_X5_resolve_6 20 FU pA (σ.1 22 k) σ = f_X5_resolve_6 20 99999 pA (σ.1 22 k + 1) σ := by
    rw [ef, f_X5_resolve_6]
    obtain ⟨q, eq, hq1, hq2⟩ := a_isType (σ.1 22 k) σ (lo + k - 400) (by omega) (by omega) (by omega)
    have nr : (σ.1 22 k).toNatClampNeg = lo + k - 400 := nC (by omega)
    rw [if_neg (by rw [Int32.le_iff_toInt_le]; omega), eq]
    show (if q.1 = 0 then _ else _) = _
    rw [if_neg (fun e => by rw [e] at hq2; omega), if_pos ⟨by omega, by omega⟩, nr, if_pos ((lg_cmp_eq _ _).mpr (by rw [hq1]; exact p7)), hq1]
    rfl
  obtain ⟨qa, ea, hq⟩ := ab_res_loop P lo t k m pA pB σ τ ⟨⟨p1, p2, p3, p4, p5⟩, ⟨p6, p7, pa, pb⟩, p8, p9, pX⟩ h21 h8 hm ht hA hB 99999 FU lo (σ.1 22 k + 1) xl σ τ (by omega) (by omega) (Nat.le_refl _) p2.2 (by omega) hl ⟨fun _ _ => rfl, rfl⟩ ⟨fun _ _ => rfl, fun _ _ => rfl, rfl⟩ (fun q h1 h2 => by omega) ⟨fun q h1 h2 => by omega, fun _ _ => rfl⟩
  have ee : ((some (σ.1 22 k, σ) : Option (Int32 × ST)).bind fun q1 => f_X5_resolve_6 20 FU pA q1.1 q1.2) = some qa := es.trans ea
  rw [ee]
  refine OK.lt (fun z hz => ?_)
  rw [hz]
  unfold f_X3_resolve_33
  by_cases h1 : qa.1.toInt = -1
  · refine OK.ieq (fun _ => ?_) (fun h => by omega)
    refine OK.ret (hq.mono (fun qb hb => ?_))
    rcases hb with hb | hb
    · have := hb.1.1
      omega
    · exact .inr ⟨l1, hb.2⟩
  · refine OK.ieq (fun h => by omega) (fun _ => ?_)
    obtain ⟨qb, eb, hb⟩ := hq
    have hb : ((0 ≤ qa.1.toInt ∧ qa.1.toInt < 262) ∧ qa.1.toInt < (qa.2.1 20 1).toInt ∧ qb.1.toInt = 0 ∧ ∃ b', B3 lo τ b' ∧ CH [] [12] b' qb.2) := hb.elim id (fun h => absurd h.1 h1)
    obtain ⟨h2, h3, h4⟩ := hb
    have ha : OK (f_X5_askedPlace 20 qa.1 qa.2) (fun _ => True) := by
      unfold f_X5_askedPlace
      refine OK.bndR (a_isType qa.1 qa.2 qa.1.toInt.toNat (by omega) (by omega) (by omega)) (fun v hv => ?_)
      dsimp only
      refine OK.ieq (fun h => by omega) (fun _ => ?_)
      exact OK.grd ⟨by omega, by omega⟩ (OK.ret trivial)
    have hr : ∀ (p0 p1 : Int32) (s : ST), OK (f_X6_refuseAt p0 p1 s) (fun q => q.1.toInt = 0) := fun p0 p1 s => by
      unfold f_X6_refuseAt
      exact OK.ite (fun _ => OK.ret l0) (fun _ => OK.ret l0)
    refine OK.bnd ha (fun q3 _ => ?_)
    refine OK.bnd (hr _ _ _) (fun q5 h5 => ?_)
    refine OK.ieq (fun _ => ?_) (fun h => by omega)
    exact OK.ret ⟨qb, eb, .inl ⟨l0, h4⟩⟩
/-! a plan: both read the same -/
def FV (K t0 R : Nat) (τ b : ST) : Prop := (∀ c, c ∉ [0, 2, 3, 4, 5, 7, 8, 10, 11, 13, 15, 16, 19] → b.1 c = τ.1 c) ∧ (∀ i, i ∉ [4, 5, 6, 8, 10, 12, 13, 33, 34] → b.1 0 i = τ.1 0 i) ∧ (∀ j, j < t0 → b.1 2 j = τ.1 2 j ∧ b.1 3 j = τ.1 3 j ∧ b.1 4 j = τ.1 4 j) ∧ (∀ j, j < 4 * t0 → b.1 5 j = τ.1 5 j) ∧ (∀ i, i < K → b.1 8 i = τ.1 8 i) ∧ (∀ i, i < R → b.1 11 i = τ.1 11 i) ∧ (∀ i, i < 8 * R → b.1 15 i = τ.1 15 i ∧ b.1 13 i = τ.1 13 i ∧ b.1 16 i = τ.1 16 i ∧ b.1 19 i = τ.1 19 i) ∧ ((∀ i, bI (τ.1 19 i) 0 12) → ∀ i, bI (b.1 19 i) 0 12) ∧ (∀ i, i < R → b.1 10 i = τ.1 10 i) ∧ BQ R τ b
theorem FV.rf {K t0 R : Nat} {τ : ST} : FV K t0 R τ τ := ⟨fun _ _ => rfl, fun _ _ => rfl, fun _ _ => ⟨rfl, rfl, rfl⟩, fun _ _ => rfl, fun _ _ => rfl, fun _ _ => rfl, fun _ _ => ⟨rfl, rfl, rfl, rfl⟩, fun h => h, fun _ _ => rfl, BQ.rf⟩
theorem FV.trans {K t0 R K1 t1 R1 : Nat} {τ b w : ST} (h : FV K t0 R τ b) (k : FV K1 t1 R1 b w) (hK : K ≤ K1) (ht : t0 ≤ t1) (hR : R ≤ R1) : FV K t0 R τ w := ⟨fun c hc => (k.1 c hc).trans (h.1 c hc), fun i hi => (k.2.1 i hi).trans (h.2.1 i hi), fun j hj => by
  have a := h.2.2.1 j hj
  have b := k.2.2.1 j (by omega)
  exact ⟨b.1.trans a.1, b.2.1.trans a.2.1, b.2.2.trans a.2.2⟩, fun j hj => (k.2.2.2.1 j (by omega)).trans (h.2.2.2.1 j hj), fun i hi => (k.2.2.2.2.1 i (by omega)).trans (h.2.2.2.2.1 i hi), fun i hi => (k.2.2.2.2.2.1 i (by omega)).trans (h.2.2.2.2.2.1 i hi), fun i hi => by
  have a := h.2.2.2.2.2.2.1 i hi
  have b := k.2.2.2.2.2.2.1 i (by omega)
  exact ⟨b.1.trans a.1, b.2.1.trans a.2.1, b.2.2.1.trans a.2.2.1, b.2.2.2.trans a.2.2.2⟩, fun h9 => k.2.2.2.2.2.2.2.1 (h.2.2.2.2.2.2.2.1 h9), fun i hi => (k.2.2.2.2.2.2.2.2.1 i (by omega)).trans (h.2.2.2.2.2.2.2.2.1 i hi), h.2.2.2.2.2.2.2.2.2.trans k.2.2.2.2.2.2.2.2.2 hR⟩
theorem FV.weak {K t0 R K1 t1 R1 : Nat} {τ b : ST} (h : FV K1 t1 R1 τ b) (hK : K ≤ K1) (ht : t0 ≤ t1) (hR : R ≤ R1) : FV K t0 R τ b := (FV.rf (K := K) (t0 := t0) (R := R)).trans h hK ht hR
theorem FW.fv {K t0 R : Nat} {τ b : ST} (h : FW K t0 R τ b) : FV K t0 R τ b := by
  refine ⟨h.1, fun i hi => h.2.1 i (fun h9 => hi ?_), h.2.2.1, h.2.2.2.1, h.2.2.2.2.1, h.2.2.2.2.2.1, h.2.2.2.2.2.2.1, h.2.2.2.2.2.2.2⟩
  simp only [List.mem_cons, List.not_mem_nil, or_false] at h9 ⊢
  omega
theorem FV.s33 {K t0 R : Nat} {τ : ST} {v : Int32} : FV K t0 R τ (stI τ 0 33 v) := by
  refine ⟨fun c hc => stI_ne (fun e => hc (by rw [e]; decide)), fun i hi => ?_, fun _ _ => ⟨rfl, rfl, rfl⟩, fun _ _ => rfl, fun _ _ => rfl, fun _ _ => rfl, fun _ _ => ⟨rfl, rfl, rfl, rfl⟩, fun h => h, fun _ _ => rfl, BQ.rf⟩
  show upd (τ.1 0) 33 v i = _
  rw [upd_no (fun e => hi (by rw [e]; decide))]
theorem B3.fv {K t0 R : Nat} {τ b : ST} (h : B3 t0 τ b) : FV K t0 R τ b := ⟨fun c hc => h.1 c (fun e => hc (by rw [e]; decide)), fun i _ => by rw [h.1 0 (by decide)], fun j hj => ⟨by rw [h.1 2 (by decide)], h.2.1 j (.inl hj), by rw [h.1 4 (by decide)]⟩, fun j _ => by rw [h.1 5 (by decide)], fun i _ => by rw [h.1 8 (by decide)], fun i _ => by rw [h.1 11 (by decide)], fun i _ => ⟨by rw [h.1 15 (by decide)], by rw [h.1 13 (by decide)], by rw [h.1 16 (by decide)], by rw [h.1 19 (by decide)]⟩, fun h9 i => by rw [h.1 19 (by decide)]; exact h9 i, fun i _ => by rw [h.1 10 (by decide)], BQ.l0 (fun c _ => by rw [h.2.2])⟩
/-- a plan of the draft that has ended -/
def PLD (p t : Nat) (b : ST) : Prop := ∃ lo hi : Nat, (400 ≤ lo ∧ lo ≤ hi ∧ hi ≤ t) ∧ (1 ≤ (b.1 8 (6 + p)).toInt ∧ (b.1 8 (6 + p)).toInt ≤ 6) ∧ (∀ i : Nat, (i : Int) < (b.1 8 (6 + p)).toInt → bI (b.1 11 (36 + (6 * p + i))) 0 8 ∧ ∀ j : Nat, (j : Int) < (b.1 11 (36 + (6 * p + i))).toInt → VD lo hi (b.1 2) (b.1 3) (b.1 4) (b.1 5) 4 (b.1 15 (8 * (36 + (6 * p + i)) + j))) ∧ (∀ q : Nat, lo ≤ q → q < hi → (b.1 2 q).toInt = 7 → 0 ≤ (b.1 3 q).toInt ∧ (b.1 3 q).toInt < (b.1 8 (6 + p)).toInt)
theorem PLD.fv {p t t' K t1 R : Nat} {τ b : ST} (h : PLD p t τ) (hF : FV K t1 R τ b) (ht : t ≤ t1) (ht2 : t ≤ t') (hK : 6 + p < K) (hR : 36 + 6 * p + 6 ≤ R) : PLD p t' b := by
  obtain ⟨lo, hi, h1, h2, h3, h4⟩ := h
  have e8 := hF.2.2.2.2.1 (6 + p) hK
  refine ⟨lo, hi, by omega, by rw [e8]; exact h2, ?_, ?_⟩
  · rw [e8]
    intro i hi9
    have e11 := hF.2.2.2.2.2.1 (36 + (6 * p + i)) (by omega)
    rw [e11]
    obtain ⟨a1, a2⟩ := h3 i hi9
    have a3 := a1.2
    refine ⟨a1, fun j hj => ?_⟩
    rw [(hF.2.2.2.2.2.2.1 (8 * (36 + (6 * p + i)) + j) (by omega)).1]
    refine VD.ext (by omega) (Int.le_refl _) (Int.le_refl _) (fun q hq1 hq2 => ?_) _ _ (a2 j hj)
    have e := hF.2.2.1 q (by omega)
    exact ⟨e.1, fun _ => e.2.1, e.2.2, fun k hk => hF.2.2.2.1 _ (by omega)⟩
  · rw [e8]
    intro q hq1 hq2
    have e := hF.2.2.1 q (by omega)
    rw [e.1, e.2.1]
    exact h4 q hq1 hq2
/-- what of the rows of the draft is bounded -/
def M4 (t : Nat) (b : ST) : Prop := ∀ q : Nat, 400 ≤ q → q < t → 0 ≤ (b.1 4 q).toInt ∧ (b.1 4 q).toInt ≤ 4
theorem sbnd {α β : Type} {e : α} {f : α → Option β} : (some e).bind f = f e := rfl
theorem a_isKw (p0 : Int32) (σ τ : ST) (h : TK σ τ) {k : Nat} (hk : k < 15) (e : p0.toInt = k) : (W_ τ (kwV k) → f_X6_isKeyword p0 σ = some (1, σ)) ∧ (¬ W_ τ (kwV k) → f_X6_isKeyword p0 σ = some (0, σ)) := by
  obtain ⟨q, eq, h1, h2⟩ := a_isKeyword p0 σ τ h hk e
  have l0 := li_0
  have l1 := li_1
  obtain ⟨v, s⟩ := q
  have h1 : s = σ := h1
  refine ⟨fun hW => ?_, fun hW => ?_⟩
  · have hv : v.toInt = 1 := h2.elim (fun h => absurd hW h.2) (fun h => h.1)
    have ev : v = 1 := Int32.toInt_inj.mp (by omega)
    rw [eq, h1, ev]
  · have hv : v.toInt = 0 := h2.elim (fun h => h.1) (fun h => absurd h.2 hW)
    have ev : v = 0 := Int32.toInt_inj.mp (by omega)
    rw [eq, h1, ev]
theorem a_parse_it (n : Nat) (xk x2 : Int32) (σ : ST) {k m : Nat} (hxk : xk.toInt = k) (hk : k < 6) (hx2 : x2.toInt ≤ 42) (h21 : (σ.1 21 k).toInt = m) : f_X3_parse_11 (n + 1) xk x2 σ = f_X3_parse_33 (f_X3_parse_11 n) xk x2 (if m = 0 then 0 else 1) σ := by
  have l0 := li_0
  have l42 := li_42
  rw [f_X3_parse_11, if_neg (by rw [Int32.lt_iff_toInt_lt]; omega), a_recordsOf xk σ hxk hk]
  show (if σ.1 21 k ≤ 0 then _ else _) = _
  by_cases hm : m = 0
  · rw [if_pos (by rw [Int32.le_iff_toInt_le]; omega), if_pos hm]
  · rw [if_neg (by rw [Int32.le_iff_toInt_le]; omega), if_neg hm]
theorem a_parse_33 (kk : Int32 → Int32 → ST → Option (Int32 × ST)) (xk x2 y : Int32) (σ τ : ST) (hK : TK σ τ) (hxk : 0 ≤ xk.toInt) : (W_ τ v_record → f_X3_parse_33 kk xk x2 y σ = (f_X3_parseRecord xk σ).bind fun q3 => if q3.1 = 0 then some (0, q3.2) else kk xk (x2 + 1) q3.2) ∧ (¬ W_ τ v_record → f_X3_parse_33 kk xk x2 y σ = f_X3_parse_60 kk xk x2 y σ) := by
  have lm := li_m1
  have e1 : kwV 1 = v_record := rfl
  have hk := a_isKw 1 σ τ hK (k := 1) (by omega) li_1
  rw [e1] at hk
  have hn : ¬ xk = -1 := fun e => by rw [e] at hxk; omega
  refine ⟨fun hW => ?_, fun hW => ?_⟩
  · unfold f_X3_parse_33 f_X3_parse_157
    rw [if_neg hn, hk.1 hW]
    rw [sbnd]
    dsimp only
    rw [if_neg (by decide)]
  · unfold f_X3_parse_33
    rw [if_neg hn, hk.2 hW]
    rw [sbnd]
    dsimp only
    rw [if_pos rfl]
/-- the class goes on with another plan -/
def NX (n : Nat) (x1 x2 : Int32) (σ : ST) : Option (Int32 × ST) := (f_X3_beginPlan (x1 + 1) σ).bind fun q3 => if q3.1 = 0 then some (0, q3.2) else f_X3_parse_11 n (x1 + 1) (x2 + 1) q3.2
theorem a_parse_60_end (kk : Int32 → Int32 → ST → Option (Int32 × ST)) (xk x2 : Int32) (σ τ : ST) (hK : TK σ τ) (h0 : (σ.1 2 4).toInt = 0) : f_X3_parse_60 kk xk x2 1 σ = (f_X3_resolve xk σ).bind fun q1 => if q1.1 = 0 then some (0, q1.2) else some (1, q1.2) := by
  have hk := a_isKw 0 σ τ hK (k := 0) (by omega) li_0
  have hW : ¬ W_ τ (kwV 0) := fun h => by
    have := (hK.kw (k := 0) (by omega)).mp h
    omega
  have e0 : σ.1 2 4 = 0 := Int32.toInt_inj.mp h0
  have n1 : ¬ (1 : Int32) = 0 := by decide
  unfold f_X3_parse_60 f_X3_parse_79 f_X3_parse_90
  rw [if_neg n1, if_pos e0, if_neg n1, hk.2 hW]
  rw [sbnd]
  dsimp only
  rw [if_pos rfl]
  unfold f_X3_parse_105 f_X3_parse_106 f_X3_parse_127
  rw [if_neg n1]
  simp only [if_neg n1]
theorem a_parse_60_no (kk : Int32 → Int32 → ST → Option (Int32 × ST)) (xk x2 : Int32) (σ τ : ST) (hK : TK σ τ) (h0 : ¬ (σ.1 2 4).toInt = 0) (hW : ¬ W_ τ v_plan) : OK (f_X3_parse_60 kk xk x2 1 σ) (fun q => q.1.toInt = 0) := by
  have hk := a_isKw 0 σ τ hK (k := 0) (by omega) li_0
  have e1 : kwV 0 = v_plan := rfl
  rw [e1] at hk
  have e0 : ¬ σ.1 2 4 = 0 := fun e => h0 (by rw [e]; exact li_0)
  have n1 : ¬ (1 : Int32) = 0 := by decide
  unfold f_X3_parse_60 f_X3_parse_78 f_X3_parse_79 f_X3_parse_90
  rw [if_neg n1, if_neg e0, if_neg n1, hk.2 hW]
  rw [sbnd]
  dsimp only
  rw [if_pos rfl]
  unfold f_X3_parse_105 f_X3_parse_106
  rw [if_pos rfl, if_pos rfl]
  refine OK.bnd (a_refuse _ _) (fun q hq => ?_)
  exact OK.grd (b01 (.inl hq)) (OK.ret hq)
theorem a_parse_60_nx (n : Nat) (xk x2 : Int32) (σ τ : ST) (hK : TK σ τ) (hW : W_ τ v_plan) : f_X3_parse_60 (f_X3_parse_11 n) xk x2 1 σ = (f_X3_resolve xk σ).bind fun q1 => if q1.1 = 0 then some (0, q1.2) else NX n xk x2 q1.2 := by
  have hk := a_isKw 0 σ τ hK (k := 0) (by omega) li_0
  have e1 : kwV 0 = v_plan := rfl
  have kA := (hK.kw (k := 0) (by omega)).mp (by rw [e1]; exact hW)
  rw [e1] at hk
  have e0 : ¬ σ.1 2 4 = 0 := fun e => by
    rw [e] at kA
    have := kA.1
    revert this
    decide
  have n1 : ¬ (1 : Int32) = 0 := by decide
  unfold f_X3_parse_60 f_X3_parse_78 f_X3_parse_79 f_X3_parse_90
  rw [if_neg n1, if_neg e0, if_neg n1, hk.1 hW]
  rw [sbnd]
  dsimp only
  rw [if_neg n1]
  unfold f_X3_parse_106 f_X3_parse_127 f_X3_parse_157
  rw [if_pos rfl, if_neg n1]
  rfl
theorem a_parse_0 (kk : Int32 → Int32 → ST → Option (Int32 × ST)) (xk x2 : Int32) (σ : ST) (hxk : 0 ≤ xk.toInt) : OK (f_X3_parse_60 kk xk x2 0 σ) (fun q => q.1.toInt = 0) := by
  have lm := li_m1
  have hn : ¬ xk = -1 := fun e => by rw [e] at hxk; omega
  unfold f_X3_parse_60 f_X3_parse_78 f_X3_parse_79 f_X3_parse_105 f_X3_parse_106
  rw [if_pos rfl, if_pos rfl, if_neg hn, if_pos rfl, if_pos rfl]
  refine OK.bnd (a_refuse _ _) (fun q hq => ?_)
  exact OK.grd (b01 (.inl hq)) (OK.ret hq)
/-- a plan so far, at a token -/
def PST (P lo t k m : Nat) (σ τ : ST) : Prop := PB_ P lo t k m σ τ ∧ BR_ lo t k m τ ∧ ((σ.1 21 k).toInt = m ∧ (τ.1 8 (6 + k)).toInt = m) ∧ LX σ τ ∧ 4 * ((t : Int) - 400) ≤ (τ.1 0 4).toInt
/-- the rows of both, with their records -/
def RSD (p lo hi : Nat) (rm : Int) (a b : ST) : Prop := ∀ j : Nat, lo ≤ j → j < hi → a.1 31 (j + (p + 1) - 400) = b.1 2 j ∧ ((b.1 2 j).toInt = 8 → (a.1 32 (j + (p + 1) - 400)).toInt = (b.1 5 (4 * j)).toInt + (p + 1 : Nat) - 400) ∧ ((b.1 2 j).toInt = 7 → (0 ≤ (b.1 3 j).toInt ∧ (b.1 3 j).toInt < rm) ∧ (a.1 32 (j + (p + 1) - 400)).toInt = 6 * (p : Int) + (b.1 3 j).toInt) ∧ 0 ≤ (b.1 4 j).toInt ∧ (b.1 4 j).toInt ≤ 4
/-- a plan of both drafts, side by side -/
def FPA (p t : Nat) (σ τ : ST) : Prop := ∃ lo hi : Nat, (400 ≤ lo ∧ lo ≤ hi ∧ hi ≤ t ∧ hi ≤ 650) ∧ (σ.1 21 p = τ.1 8 (6 + p) ∧ (1 ≤ (σ.1 21 p).toInt ∧ (σ.1 21 p).toInt ≤ 6)) ∧ ((σ.1 22 p).toInt = (lo : Int) + p - 400 ∧ (σ.1 31 (lo + p - 400)).toInt = 7 ∧ (σ.1 32 (lo + p - 400)).toInt = 6 * (p : Int)) ∧ RSD p lo hi (σ.1 21 p).toInt σ τ ∧ RX (p + 1) lo hi σ τ ∧ ∀ i : Nat, (i : Int) < (σ.1 21 p).toInt → (WL (σ.2.1 24 (6 * p + i)) (τ.2.1 9 (36 + (6 * p + i))) ∧ DNM (σ.2.1 24) (6 * p) i) ∧ RLEN (σ.2.1 24 (6 * p + i)) (τ.1 10 (36 + (6 * p + i))) ∧ (σ.1 23 (6 * p + i) = τ.1 11 (36 + (6 * p + i)) ∧ bI (τ.1 11 (36 + (6 * p + i))) 0 8) ∧ FRL (p + 1) hi (6 * p + i) (τ.1 11 (36 + (6 * p + i))).toInt.toNat σ τ ∧ ∀ j : Nat, (j : Int) < (τ.1 11 (36 + (6 * p + i))).toInt → VD lo hi (τ.1 2) (τ.1 3) (τ.1 4) (τ.1 5) 4 (τ.1 15 (8 * (36 + (6 * p + i)) + j))
theorem FPA.keep {p t k c t0 t' : Nat} {σ τ a b : ST} (h : FPA p t σ τ) (hp : p < k) (hA : AP k c σ a) (hF : FV (6 + k) t0 (36 + 6 * k) τ b) (ht : t ≤ t0) (ht2 : t ≤ t') (hc : t + (p + 1) - 400 ≤ c) : FPA p t' a b := by
  obtain ⟨lo, hi, h1, ⟨h2, h3⟩, ⟨h4, h5, h6⟩, h7, h8, h9⟩ := h
  have e1 := hA.1 p hp
  have hQ := hF.2.2.2.2.2.2.2.2.2
  by_cases hlh : hi = lo
  · refine ⟨lo, hi, by omega, ⟨by rw [e1.1, hF.2.2.2.2.1 (6 + p) (by omega)]; exact h2, by rw [e1.1]; exact h3⟩, ?_, fun j _ _ => by omega, fun j _ _ => by omega, ?_⟩
    · have e2 := hA.2.2.2 (lo + p - 400) (by omega)
      rw [e1.2, e2.1, e2.2.1]
      exact ⟨h4, h5, h6⟩
    · rw [e1.1]
      intro i hi9
      obtain ⟨x1, x2, ⟨x3, x4⟩, x5, x6⟩ := h9 i hi9
      have e2 := hA.2.1 (6 * p + i) (by omega)
      have x7 := x4.2
      have xd : DNM (a.2.1 24) (6 * p) i := fun j hj => by
        rw [(hA.2.1 (6 * p + j) (by omega)).2.1, e2.2.1]
        exact x1.2 j hj
      rw [e2.1, e2.2.1, hQ.1 _ (by omega), hF.2.2.2.2.2.1 (36 + (6 * p + i)) (by omega), hF.2.2.2.2.2.2.2.2.1 (36 + (6 * p + i)) (by omega)]
      refine ⟨⟨x1.1, xd⟩, x2, ⟨x3, x4⟩, x5.ext (Nat.le_refl _) e2.2.2 (fun w hw => hA.2.2.1 _ (by omega)) (fun w hw => hF.2.2.2.2.2.2.1 _ (by omega)) (fun w hw => hQ.2 _ (by omega)) (fun w hw => (hF.2.2.1 w (by omega)).1) (fun w hw => hF.2.2.2.1 w (by omega)), fun j hj => ?_⟩
      have := (x6 j hj).rng
      omega
  have rA : ∀ j : Nat, lo ≤ j → j < hi → a.1 31 (j + (p + 1) - 400) = σ.1 31 (j + (p + 1) - 400) ∧ a.1 32 (j + (p + 1) - 400) = σ.1 32 (j + (p + 1) - 400) ∧ a.1 33 (j + (p + 1) - 400) = σ.1 33 (j + (p + 1) - 400) := fun j j1 j2 => hA.2.2.2 _ (by omega)
  have rB : ∀ j : Nat, j < hi → b.1 2 j = τ.1 2 j ∧ b.1 3 j = τ.1 3 j ∧ b.1 4 j = τ.1 4 j := fun j j2 => hF.2.2.1 j (by omega)
  have rC : ∀ j : Nat, j < 4 * hi → b.1 5 j = τ.1 5 j := fun j j2 => hF.2.2.2.1 j (by omega)
  refine ⟨lo, hi, by omega, ⟨by rw [e1.1, hF.2.2.2.2.1 (6 + p) (by omega)]; exact h2, by rw [e1.1]; exact h3⟩, ?_, ?_, ?_, ?_⟩
  · have e2 := hA.2.2.2 (lo + p - 400) (by omega)
    rw [e1.2, e2.1, e2.2.1]
    exact ⟨h4, h5, h6⟩
  · rw [e1.1]
    intro j j1 j2
    obtain ⟨r1, r2, r3⟩ := rA j j1 j2
    obtain ⟨s1, s2, s3⟩ := rB j j2
    rw [r1, r2, s1, s2, s3, rC _ (by omega)]
    exact h7 j j1 j2
  · exact h8.ext (fun j j1 j2 => (h7 j j1 j2).2.2.2.2) (fun j j1 j2 _ => (rA j j1 j2).2.1) (fun j j1 j2 => (rA j (by omega) j2).2.2) (fun j j1 j2 => ⟨(rB j j2).1, fun _ => (rB j j2).2.1, (rB j j2).2.2, fun k hk => rC _ (by omega)⟩)
  · rw [e1.1]
    intro i hi9
    obtain ⟨x1, x2, ⟨x3, x4⟩, x5, x6⟩ := h9 i hi9
    have e2 := hA.2.1 (6 * p + i) (by omega)
    have x7 := x4.2
    have xd : DNM (a.2.1 24) (6 * p) i := fun j hj => by
      rw [(hA.2.1 (6 * p + j) (by omega)).2.1, e2.2.1]
      exact x1.2 j hj
    rw [e2.1, e2.2.1, hQ.1 _ (by omega), hF.2.2.2.2.2.1 (36 + (6 * p + i)) (by omega), hF.2.2.2.2.2.2.2.2.1 (36 + (6 * p + i)) (by omega)]
    refine ⟨⟨x1.1, xd⟩, x2, ⟨x3, x4⟩, x5.ext (Nat.le_refl _) e2.2.2 (fun w hw => hA.2.2.1 _ (by omega)) (fun w hw => hF.2.2.2.2.2.2.1 _ (by omega)) (fun w hw => hQ.2 _ (by omega)) (fun w hw => (rB w hw).1) (fun w hw => rC w hw), fun j hj => ?_⟩
    rw [(hF.2.2.2.2.2.2.1 (8 * (36 + (6 * p + i)) + j) (by omega)).1]
    exact VD.ext (by omega) (Int.le_refl _) (Int.le_refl _) (fun q q1 q2 => ⟨(rB q (by omega)).1, fun _ => (rB q (by omega)).2.1, (rB q (by omega)).2.2, fun k hk => rC _ (by omega)⟩) _ _ (x6 j hj)
/-- a plan has ended on both sides -/
def PLE (P t k : Nat) (σ0 : ST) (A : Option (Int32 × ST)) (b : ST) : Prop := ∃ t1 : Nat, (t ≤ t1 ∧ t1 ≤ 650) ∧ PLD k t1 b ∧ (b.1 0 34).toInt = t1 ∧ (∀ q : Nat, t ≤ q → q < t1 → 0 ≤ (b.1 4 q).toInt ∧ (b.1 4 q).toInt ≤ 4) ∧
  (((b.1 0 6).toInt = 0 ∧ OK A (fun qa => qa.1.toInt = 1 ∧ (qa.2.1 20 0).toInt = P ∧ (qa.2.1 20 1).toInt = (t1 : Int) + P - 400 ∧ AP k (t + k - 400) σ0 qa.2 ∧ FPA k t1 qa.2 b)) ∨
   (∃ (n : Nat) (xk x2 : Int32) (σ : ST), W_ b v_plan ∧ A = NX n xk x2 σ ∧ LX σ b ∧ xk.toInt = k ∧ (σ.1 20 1).toInt = (t1 : Int) + P - 400 ∧ 4 * ((t1 : Int) - 400) ≤ (b.1 0 4).toInt ∧ (0 ≤ x2.toInt ∧ x2.toInt ≤ 7 * (k : Int) + 7) ∧ 42 < (n : Int) + 1 + x2.toInt ∧ AP k (t + k - 400) σ0 σ ∧ FPA k t1 σ b))
def PLO (P lo k : Nat) (σ0 τ : ST) (A : Option (Int32 × ST)) (z : (Int32 × ST) × Nat) : Prop := FV (6 + k) lo (36 + 6 * k) τ z.1.2 ∧
  ((z.1.1.toInt = 0 ∧ OK A (fun qa => qa.1.toInt = 0) ∧ z.2 + 40 * uT z.1.2 ≤ 40 * uT τ + 26) ∨
   (z.1.1.toInt = 1 ∧ PLE P lo k σ0 A z.1.2 ∧ z.1.2.1 0 33 = τ.1 0 33 + 1 ∧ z.2 + 40 * uT z.1.2 ≤ 40 * uT τ + 3))
/-! the records of a plan, and its end -/
theorem uT_33 {b : ST} {v : Int32} : uT (stI b 0 33 v) = uT b := uT_eq rfl rfl rfl
theorem ab_119 (P lo t k m : Nat) (xk x1 xl : Int32) (σ τ : ST) (hS : PST P lo t k m σ τ) (hm : 1 ≤ m ∧ m ≤ 6) (hxk : xk.toInt = k) (hx1 : x1.toInt = 6 + (k : Int)) (hxl : xl.toInt = lo) : OK (f_X11_plan_119 x1 xl 1 τ) (fun z => z.2 = 0 ∧ FV (6 + k) lo (36 + 6 * k) τ z.1.2 ∧ uT z.1.2 = uT τ ∧ ((z.1.1.toInt = 0 ∧ OK (f_X3_resolve xk σ) (fun qa => qa.1.toInt = 0)) ∨ (z.1.1.toInt = 1 ∧ OK (f_X3_resolve xk σ) (fun qa => qa.1.toInt = 1 ∧ LX qa.2 z.1.2 ∧ qa.2.1 20 = σ.1 20 ∧ AP k (lo + k - 400) σ qa.2 ∧ FPA k t qa.2 z.1.2) ∧ (PLD k t z.1.2 ∧ t ≤ 650 ∧ (z.1.2.1 0 34).toInt = t ∧ ∀ q : Nat, lo ≤ q → q < t → 0 ≤ (z.1.2.1 4 q).toInt ∧ (z.1.2.1 4 q).toInt ≤ 4) ∧ z.1.2.1 0 33 = τ.1 0 33 + 1 ∧ z.1.2.1 0 6 = τ.1 0 6 ∧ z.1.2.1 0 4 = τ.1 0 4 ∧ z.1.2.2.1 = τ.2.1))) := by
  unfold f_X11_plan_119
  have l0 := li_0
  have l1 := li_1
  have n1 : ¬ (1 : Int32) = 0 := by decide
  rw [if_neg n1]
  obtain ⟨hp, hb, ⟨h21, h8⟩, hX, hat⟩ := hS
  have hat9 := hX.at
  have g1 : ∀ c, c ≠ 0 → (stI τ 0 33 (τ.1 0 33 + 1)).1 c = τ.1 c := fun c hc => stI_ne hc
  have e9 : (stI τ 0 33 (τ.1 0 33 + 1)).1 0 = upd (τ.1 0) 33 (τ.1 0 33 + 1) := rfl
  have g0 : ∀ i, i ≠ 33 → (stI τ 0 33 (τ.1 0 33 + 1)).1 0 i = τ.1 0 i := fun i hi => by rw [e9, upd_no hi]
  have g33 : (stI τ 0 33 (τ.1 0 33 + 1)).1 0 33 = τ.1 0 33 + 1 := by rw [e9, upd_at]
  have g2 : (stI τ 0 33 (τ.1 0 33 + 1)).2.1 = τ.2.1 := rfl
  have gF : FV (6 + k) lo (36 + 6 * k) τ (stI τ 0 33 (τ.1 0 33 + 1)) := FV.s33
  generalize stI τ 0 33 (τ.1 0 33 + 1) = s at g1 g0 g33 g2 gF ⊢
  have hps : PB_ P lo t k m σ s := hp.ext (fun _ _ => rfl) (fun _ _ => rfl) (g0 34 (by decide)) (fun c hc => g1 c (fun e => by rw [e] at hc; revert hc; decide)) (fun c _ => by rw [g2])
  have us : uT s = uT τ := uT_eq (g0 3 (by decide)) (g0 5 (by decide)) (g0 6 (by decide))
  have hXs : LX σ s := hX.ext rfl rfl rfl rfl (g1 1 (by decide)) (fun i hi => g0 i (fun e => by rw [e] at hi; revert hi; decide)) (by rw [g2])
  obtain ⟨qa, ea, qb, eb, hq⟩ := ab_resolve P lo t k m xk x1 xl σ s hps h21 (by rw [g1 8 (by decide)]; exact h8) hm.2 (by omega) hxk hx1 hxl
  rw [eb, sbnd]
  rcases hq with ⟨q1, q2, b', q3, q4⟩ | ⟨q1, q2, q3, q4, q5, q6⟩
  · refine OK.ieq (fun _ => ?_) (fun h => by omega)
    refine OK.ret ⟨rfl, (gF.trans (q3.fv (K := 6 + k) (R := 36 + 6 * k)) (Nat.le_refl _) (Nat.le_refl _) (Nat.le_refl _)).trans ((q4.fw (K := 6 + k) (t0 := lo) (R := 36 + 6 * k) (by decide)).fv) (Nat.le_refl _) (Nat.le_refl _) (Nat.le_refl _), ?_, .inl ⟨l0, qa, ea, q1⟩⟩
    show uT qb.2 = _
    rw [uT_eq (q4.2.1 3 (by decide)) (q4.2.1 5 (by decide)) (q4.2.1 6 (by decide)), uT_eq (b := b') (τ := s) (by rw [q3.1 0 (by decide)]) (by rw [q3.1 0 (by decide)]) (by rw [q3.1 0 (by decide)])]
    exact us
  · refine OK.ieq (fun h => by omega) (fun _ => ?_)
    have e0 : qb.2.1 0 = s.1 0 := q4.1 0 (by decide)
    have eb1 : ∀ c, c ≠ 0 → c ≠ 3 → qb.2.1 c = τ.1 c := fun c h0 h3 => (q4.1 c h3).trans (g1 c h0)
    have X9 : LX qa.2 qb.2 := hXs.ext (q3.1 1 (by decide)) (q3.1 2 (by decide)) (by rw [q3.2]) (by rw [q3.2]) (q4.1 1 (by decide)) (fun i _ => by rw [e0]) (by rw [q4.2.2])
    have eb2 : ∀ c, qb.2.2.1 c = τ.2.1 c := fun c => by rw [q4.2.2, g2]
    have r32 : ∀ i : Nat, (i < lo + P - 400 ∨ ¬ (τ.1 2 (i + 400 - P)).toInt = 7) → qa.2.1 32 i = σ.1 32 i := fun i hi => q6.2 i (by rw [g1 2 (by decide)]; exact hi)
    have hPk := hp.1.1
    have hlo := hp.1.2.1
    have b3s : ∀ q, ¬ (τ.1 2 q).toInt = 7 → qb.2.1 3 q = τ.1 3 q := fun q hq => by rw [q4.2.1 q (.inr (by rw [g1 2 (by decide)]; exact hq)), g1 3 (by decide)]
    have eP : k + 1 = P := by omega
    have rlo : ∀ i : Nat, i < lo + k - 400 → qa.2.1 32 i = σ.1 32 i := fun i hi => r32 i (.inl (Nat.lt_of_lt_of_le hi (Nat.sub_le_sub_right (Nat.add_le_add_left (by rw [← eP]; exact Nat.le_succ k) lo) 400)))
    have fpa : FPA k t qa.2 qb.2 := by
      refine ⟨lo, t, ⟨hlo.1, hlo.2, Nat.le_refl _, by omega⟩, ⟨?_, ?_⟩, ⟨?_, ?_, ?_⟩, ?_, ?_, ?_⟩
      · rw [q3.1 21 (by decide), eb1 8 (by decide) (by decide)]
        exact Int32.toInt_inj.mp (by omega)
      · rw [q3.1 21 (by decide)]
        omega
      · rw [q3.1 22 (by decide)]
        exact hp.2.1.1
      · rw [q3.1 31 (by decide)]
        exact hp.2.1.2.2.1
      · rw [r32 _ (.inl (by omega))]
        exact hp.2.1.2.2.2
      · intro j j1 j2
        obtain ⟨x1, x2, x3, x4, x5⟩ := hp.2.2.1 j j1 j2
        rw [q3.1 31 (by decide), q3.1 21 (by decide), eb1 2 (by decide) (by decide), eb1 4 (by decide) (by decide), eb1 5 (by decide) (by decide), eP]
        refine ⟨x1, fun h8 => ?_, fun h7 => ?_, x5⟩
        · have e5 : j + P - 400 + 400 - P = j := by omega
          rw [r32 _ (.inr (by rw [e5]; omega))]
          exact x4 h8
        · have h7b : (qb.2.1 2 j).toInt = 7 := by rw [eb1 2 (by decide) (by decide)]; exact h7
          have y1 := q5 j j1 j2 h7b
          have y2 := q6.1 j j1 j2 h7b
          rw [h21]
          exact ⟨y1, y2⟩
      · rw [eP]
        refine hp.2.2.2.2.ext (fun j j1 j2 => (hp.2.2.1 j j1 j2).2.2.2.2.2) (fun j j1 j2 h6 => ?_) (fun j j1 j2 => by rw [q3.1 33 (by decide)]) (fun j j1 j2 => ⟨by rw [eb1 2 (by decide) (by decide)], fun h6 => b3s j (by omega), by rw [eb1 4 (by decide) (by decide)], fun w _ => by rw [eb1 5 (by decide) (by decide)]⟩)
        have e5 : j + P - 400 + 400 - P = j := by omega
        rw [r32 _ (.inr (by rw [e5]; omega))]
      · rw [q3.1 21 (by decide)]
        intro i hi
        obtain ⟨x1, x2, x3, x4⟩ := hp.2.2.2.1 i (by omega)
        obtain ⟨a1, a2⟩ := hb i (by omega)
        rw [q3.2, eb2 9, eb1 10 (by decide) (by decide), eb1 11 (by decide) (by decide), q3.1 23 (by decide), eP]
        refine ⟨x1, x2, ⟨x3, a1⟩, x4.ext (Nat.le_refl _) (by rw [q3.1 25 (by decide)]) (fun w _ => ⟨by rw [q3.2], by rw [q3.2], by rw [q3.2], by rw [q3.1 29 (by decide)]⟩) (fun w _ => ⟨by rw [eb1 15 (by decide) (by decide)], by rw [eb1 13 (by decide) (by decide)], by rw [eb1 16 (by decide) (by decide)], by rw [eb1 19 (by decide) (by decide)]⟩) (fun w _ => ⟨by rw [eb2 12], by rw [eb2 14], by rw [eb2 17], by rw [eb2 18]⟩) (fun w _ => by rw [eb1 2 (by decide) (by decide)]) (fun w _ => by rw [eb1 5 (by decide) (by decide)]), fun j hj => ?_⟩
        rw [eb1 15 (by decide) (by decide)]
        refine VD.ext (by omega) (Int.le_refl _) (Int.le_refl _) (fun q hq1 hq2 => ?_) _ _ (a2 j hj)
        exact ⟨by rw [eb1 2 (by decide) (by decide)], fun h6 => b3s q (by omega), by rw [eb1 4 (by decide) (by decide)], fun w _ => by rw [eb1 5 (by decide) (by decide)]⟩
    refine OK.ret ⟨rfl, gF.trans (q4.fv (K := 6 + k) (R := 36 + 6 * k)) (Nat.le_refl _) (Nat.le_refl _) (Nat.le_refl _), ?_, .inr ⟨l1, ⟨qa, ea, q1, X9, q3.1 20 (by decide), ⟨fun i _ => ⟨by rw [q3.1 21 (by decide)], by rw [q3.1 22 (by decide)]⟩, fun i _ => ⟨by rw [q3.1 23 (by decide)], by rw [q3.2], by rw [q3.1 25 (by decide)]⟩, fun i _ => ⟨by rw [q3.2], by rw [q3.2], by rw [q3.2], by rw [q3.1 29 (by decide)]⟩, fun i hi => ⟨by rw [q3.1 31 (by decide)], rlo i hi, by rw [q3.1 33 (by decide)]⟩⟩, fpa⟩, ⟨?_, by omega, ?_, ?_⟩, ?_, ?_, ?_, ?_⟩⟩
    · show uT qb.2 = _
      rw [uT_eq (b := qb.2) (τ := s) (by rw [e0]) (by rw [e0]) (by rw [e0])]
      exact us
    · have e8 : (qb.2.1 8 (6 + k)).toInt = m := by rw [eb1 8 (by decide) (by decide)]; exact h8
      refine ⟨lo, t, ⟨hp.1.2.1.1, hp.1.2.1.2, Nat.le_refl _⟩, ?_, ?_, ?_⟩
      · show 1 ≤ (qb.2.1 8 (6 + k)).toInt ∧ (qb.2.1 8 (6 + k)).toInt ≤ 6
        omega
      · show ∀ i : Nat, (i : Int) < (qb.2.1 8 (6 + k)).toInt → bI (qb.2.1 11 (36 + (6 * k + i))) 0 8 ∧ ∀ j : Nat, (j : Int) < (qb.2.1 11 (36 + (6 * k + i))).toInt → VD lo t (qb.2.1 2) (qb.2.1 3) (qb.2.1 4) (qb.2.1 5) 4 (qb.2.1 15 (8 * (36 + (6 * k + i)) + j))
        rw [e8, eb1 11 (by decide) (by decide), eb1 15 (by decide) (by decide)]
        intro i hi
        obtain ⟨a1, a2⟩ := hb i (by omega)
        refine ⟨a1, fun j hj => ?_⟩
        refine VD.ext (by omega) (Int.le_refl _) (Int.le_refl _) (fun q hq1 hq2 => ?_) _ _ (a2 j hj)
        refine ⟨by rw [eb1 2 (by decide) (by decide)], fun h6 => ?_, by rw [eb1 4 (by decide) (by decide)], fun w _ => by rw [eb1 5 (by decide) (by decide)]⟩
        rw [q4.2.1 q (.inr (by rw [g1 2 (by decide)]; omega)), g1 3 (by decide)]
      · intro q hq1 hq2 h7
        have h9 := q5 q hq1 hq2 h7
        show 0 ≤ (qb.2.1 3 q).toInt ∧ (qb.2.1 3 q).toInt < (qb.2.1 8 (6 + k)).toInt
        rw [e8]
        exact h9
    · show (qb.2.1 0 34).toInt = _
      rw [e0, g0 34 (by decide)]
      exact hp.1.2.2.1
    · intro q hq1 hq2
      show 0 ≤ (qb.2.1 4 q).toInt ∧ (qb.2.1 4 q).toInt ≤ 4
      rw [eb1 4 (by decide) (by decide)]
      have h9 := (hp.2.2.1 q hq1 hq2).2.2.2.2
      exact h9
    · show qb.2.1 0 33 = _
      rw [e0]
      exact g33
    · show qb.2.1 0 6 = _
      rw [e0]
      exact g0 6 (by decide)
    · show qb.2.1 0 4 = _
      rw [e0]
      exact g0 4 (by decide)
    · show qb.2.2.1 = _
      rw [q4.2.2, g2]
theorem PLE.pre {P t k : Nat} {σ0 σ1 : ST} {A : Option (Int32 × ST)} {b : ST} (h : PLE P t k σ1 A b) (hP : AP k (t + k - 400) σ0 σ1) : PLE P t k σ0 A b := by
  obtain ⟨t1, h1, h2, h3, h4, h5⟩ := h
  refine ⟨t1, h1, h2, h3, h4, ?_⟩
  rcases h5 with ⟨h0, hA⟩ | ⟨n, xk, x2, σ, a1, a2, a3, a4, a5, a6, a7, a8, a9, a10⟩
  · exact .inl ⟨h0, hA.mono (fun qa h => ⟨h.1, h.2.1, h.2.2.1, hP.trans h.2.2.2.1, h.2.2.2.2⟩)⟩
  · exact .inr ⟨n, xk, x2, σ, a1, a2, a3, a4, a5, a6, a7, a8, hP.trans a9, a10⟩
theorem ab_recs (P lo k : Nat) (x1 xl xk : Int32) (hx1 : x1.toInt = 6 + (k : Int)) (hxl : xl.toInt = lo) (hxk : xk.toInt = k) : ∀ (h m n t : Nat) (x2 : Int32) (σ τ : ST), 8 < h + m → 1 ≤ m → m ≤ 6 → PST P lo t k m σ τ → (0 ≤ x2.toInt ∧ x2.toInt ≤ 7 * (k : Int) + 1 + m) → 42 < (n : Int) + x2.toInt → OK (f_X11_plan_75 h x1 xl 1 τ) (PLO P lo k σ τ (f_X3_parse_11 n xk x2 σ)) := by
  intro h
  have l0 := li_0
  have l1 := li_1
  have n1 : ¬ (1 : Int32) = 0 := by decide
  induction h with
  | zero => intro m n t x2 σ τ h1 h2 h3; omega
  | succ h ih =>
    intro m n t x2 σ τ hh hm1 hm6 hS hx2 hn
    have hS0 := hS
    obtain ⟨hp, hb, ⟨h21, h8⟩, hX, hat⟩ := hS
    have hK := hX.2.2.1
    have hPk := hp.1.1
    have hlo := hp.1.2.1
    cases n with
    | zero => omega
    | succ n =>
    have eA := a_parse_it n xk x2 σ hxk (by omega) (by omega) h21
    rw [if_neg (by omega)] at eA
    have e33 := a_parse_33 (f_X3_parse_11 n) xk x2 1 σ τ hK (by omega)
    rw [f_X11_plan_75, if_neg n1]
    refine OK.bndK (b_isRecord τ) (fun v x hv hx => ?_)
    refine OK.kac ?_
    dsimp only
    by_cases hW : W_ τ v_record
    · have hv1 : v.toInt = 1 := by
        rcases hv with hv | hv
        · exact absurd hW hv.2
        · exact hv.1
      refine OK.ieq (fun h => by omega) (fun _ => ?_)
      obtain ⟨qa, ea, qb, eb, qF, hq⟩ := ab_record P lo t k m xk x1 σ τ hp hb h21 h8 hm6 hX hW hxk hx1 hat
      rw [eb, sbnd]
      refine OK.kac ?_
      have eA2 : f_X3_parse_11 (n + 1) xk x2 σ = if qa.1 = 0 then some (0, qa.2) else f_X3_parse_11 n xk (x2 + 1) qa.2 := by
        rw [eA, e33.1 hW, ea, sbnd]
      have qFv : FV (6 + k) lo (36 + 6 * k) τ qb.1.2 := qF.fv.weak (Nat.le_refl _) (by omega) (by omega)
      rcases hq with ⟨q1, q2, q3⟩ | ⟨q1, q2, q6, ⟨t1, ht1, hp1, hb1, hc1, hX1, hat1⟩, qP, q4⟩
      · have ez : qb.1.1 = 0 := Int32.toInt_inj.mp (by omega)
        have eq : qa.1 = 0 := Int32.toInt_inj.mp (by omega)
        rw [ez]
        cases h with
        | zero => omega
        | succ h =>
        rw [f_X11_plan_75, if_pos rfl]
        unfold f_X11_plan_95 f_X11_plan_119
        rw [if_pos rfl, if_pos rfl]
        refine OK.ret ⟨qFv.trans (FV.s33 (K := 6 + k) (t0 := lo) (R := 36 + 6 * k)) (Nat.le_refl _) (Nat.le_refl _) (Nat.le_refl _), .inl ⟨l0, ?_, ?_⟩⟩
        · rw [eA2, if_pos eq]
          exact OK.ret l0
        · show x + (qb.2 + 0) + 40 * uT (stI qb.1.2 0 33 (qb.1.2.1 0 33 + 1)) ≤ _
          rw [uT_33]
          omega
      · have ez : qb.1.1 = 1 := Int32.toInt_inj.mp (by omega)
        have eq : ¬ qa.1 = 0 := fun e => by rw [e] at q1; omega
        rw [ez]
        rw [if_neg eq] at eA2
        have ex := il_addE (x := x2) (y := 1) (by omega) (by omega)
        refine (ih (m + 1) n t1 (x2 + 1) qa.2 qb.1.2 (by omega) (by omega) (by omega) ⟨hp1, hb1, ⟨by rw [hc1.1]; rfl, by rw [hc1.2]; rfl⟩, hX1, hat1⟩ (by omega) (by omega)).mono (fun z hz => ?_)
        obtain ⟨zF, hz⟩ := hz
        refine ⟨qFv.trans zF (Nat.le_refl _) (Nat.le_refl _) (Nat.le_refl _), ?_⟩
        rw [eA2]
        rcases hz with ⟨z1, z2, z3⟩ | ⟨z1, z2, z3, z4⟩
        · exact .inl ⟨z1, z2, by show x + (qb.2 + z.2) + 40 * uT z.1.2 ≤ _; omega⟩
        · exact .inr ⟨z1, z2.pre qP, by show z.1.2.1 0 33 = _; rw [z3, qF.2.1 33 (by decide)], by show x + (qb.2 + z.2) + 40 * uT z.1.2 ≤ _; omega⟩
    have hv0 : v.toInt = 0 := by
      rcases hv with hv | hv
      · exact hv.1
      · exact absurd hv.2 hW
    refine OK.ieq (fun _ => ?_) (fun h => by omega)
    have eA2 := eA.trans (e33.2 hW)
    have h119 := ab_119 P lo t k m xk x1 xl σ τ hS0 ⟨hm1, hm6⟩ hxk hx1 hxl
    unfold f_X11_plan_95
    rw [if_neg n1]
    by_cases h0 : (τ.1 0 6).toInt = 0
    · have k0 := hK.t0.mpr h0
      refine OK.ieq (fun _ => ?_) (fun h => by omega)
      rw [a_parse_60_end (f_X3_parse_11 n) xk x2 σ τ hK k0] at eA2
      refine h119.mono (fun z hz => ?_)
      obtain ⟨z0, zF, zu, hz⟩ := hz
      refine ⟨zF, ?_⟩
      rw [eA2]
      rcases hz with ⟨z1, qa, ea, q1⟩ | ⟨z1, ⟨qa, ea, q1, q2, q3, qP, qQ⟩, ⟨z3, z4, z5, z6⟩, z7, z8, z9, z10⟩
      · refine .inl ⟨z1, ?_, by show x + z.2 + 40 * uT z.1.2 ≤ _; omega⟩
        rw [ea, sbnd]
        exact OK.ieq (fun _ => OK.ret l0) (fun h => by omega)
      · refine .inr ⟨z1, ⟨t, ⟨hlo.2, z4⟩, z3, z5, z6, .inl ⟨by show (z.1.2.1 0 6).toInt = 0; rw [z8]; exact h0, ?_⟩⟩, z7, by show x + z.2 + 40 * uT z.1.2 ≤ _; omega⟩
        rw [ea, sbnd]
        refine OK.ieq (fun h => by omega) (fun _ => OK.ret ⟨l1, ?_, by show (qa.2.1 20 1).toInt = _; rw [q3]; exact hp.1.2.2.2.1, qP, qQ⟩)
        show (qa.2.1 20 0).toInt = _
        rw [q3]
        exact hp.1.2.2.2.2
    have k0 : ¬ (σ.1 2 4).toInt = 0 := fun e => h0 (hK.t0.mp e)
    refine OK.ieq (fun h => by omega) (fun _ => ?_)
    refine OK.bndK (b_isPlan τ) (fun vp xp hvp hxp => ?_)
    refine OK.kac ?_
    dsimp only
    by_cases hP : W_ τ v_plan
    · have hv1 : vp.toInt = 1 := by
        rcases hvp with hv | hv
        · exact absurd hP hv.2
        · exact hv.1
      refine OK.ieq (fun h => by omega) (fun _ => ?_)
      rw [a_parse_60_nx n xk x2 σ τ hK hP] at eA2
      refine h119.mono (fun z hz => ?_)
      obtain ⟨z0, zF, zu, hz⟩ := hz
      refine ⟨zF, ?_⟩
      rw [eA2]
      rcases hz with ⟨z1, qa, ea, q1⟩ | ⟨z1, ⟨qa, ea, q1, q2, q3, qP, qQ⟩, ⟨z3, z4, z5, z6⟩, z7, z8, z9, z10⟩
      · refine .inl ⟨z1, ?_, by show x + (xp + z.2) + 40 * uT z.1.2 ≤ _; omega⟩
        rw [ea, sbnd]
        exact OK.ieq (fun _ => OK.ret l0) (fun h => by omega)
      · refine .inr ⟨z1, ⟨t, ⟨hlo.2, z4⟩, z3, z5, z6, .inr ⟨n, xk, x2, qa.2, ?_, ?_, q2, hxk, ?_, ?_, by omega, by omega, qP, qQ⟩⟩, z7, by show x + (xp + z.2) + 40 * uT z.1.2 ≤ _; omega⟩
        · exact ⟨by show (z.1.2.1 0 6).toInt = 1; rw [z8]; exact hP.1, by show z.1.2.2.1 0 7 = _; rw [z10]; exact hP.2⟩
        · rw [ea, sbnd, if_neg (fun e => by rw [e] at q1; omega)]
        · rw [q3]
          exact hp.1.2.2.2.1
        · show _ ≤ (z.1.2.1 0 4).toInt
          rw [z9]
          exact hat
    · have hv1 : vp.toInt = 0 := by
        rcases hvp with hv | hv
        · exact hv.1
        · exact absurd hv.2 hP
      refine OK.ieq (fun _ => ?_) (fun h => by omega)
      have hA := a_parse_60_no (f_X3_parse_11 n) xk x2 σ τ hK k0 hP
      rw [← eA2] at hA
      refine OK.bndC (b_wrongHere 1 τ) (fun v2 s2 c2 hv2 => ?_)
      have ev : v2 = 0 := Int32.toInt_inj.mp (by omega)
      rw [ev]
      unfold f_X11_plan_119
      rw [if_pos rfl]
      refine OK.ret ⟨((c2.fw (K := 6 + k) (t0 := lo) (R := 36 + 6 * k) (by decide)).fv).trans (FV.s33 (K := 6 + k) (t0 := lo) (R := 36 + 6 * k)) (Nat.le_refl _) (Nat.le_refl _) (Nat.le_refl _), .inl ⟨l0, hA, ?_⟩⟩
      show x + (xp + 0) + 40 * uT (stI s2 0 33 (s2.1 0 33 + 1)) ≤ _
      rw [uT_33, uT_eq (c2.2.1 3 (by decide)) (c2.2.1 5 (by decide)) (c2.2.1 6 (by decide))]
      omega
/-! a plan, from its word on -/
theorem a_addPlan (p0 : Int32) (σ : ST) (k c : Nat) (hp : p0.toInt = k) (hk : k < 6) (hc : (σ.1 20 1).toInt = c) (hc2 : c < 262) : OK (f_X5_addPlan 20 p0 σ) (fun a => (∀ d, d ∉ [20, 21, 22, 31, 32, 33, 35] → a.1 d = σ.1 d) ∧ (∀ d, d ≠ 34 → a.2.1 d = σ.2.1 d) ∧ (a.1 21 k).toInt = 0 ∧ (a.1 22 k).toInt = c ∧ a.2.1 34 c = 0 ∧ (a.1 20 1).toInt = (c : Int) + 1 ∧ (a.1 20 0).toInt = (k : Int) + 1 ∧ (∀ i, i ≠ k → a.1 21 i = σ.1 21 i ∧ a.1 22 i = σ.1 22 i) ∧ (a.1 31 c).toInt = 7 ∧ (a.1 32 c).toInt = 6 * (k : Int) ∧ ∀ i, i < c → a.1 31 i = σ.1 31 i ∧ a.1 32 i = σ.1 32 i ∧ a.1 33 i = σ.1 33 i) := by
  unfold f_X5_addPlan
  have l0 := li_0
  have l1 := li_1
  have l6 := li_6
  have nk : p0.toNatClampNeg = k := nC hp
  refine OK.ilt (fun h => by omega) (fun _ => ?_)
  refine OK.ilt (fun _ => ?_) (fun h => by omega)
  refine OK.grd ⟨by omega, by omega⟩ ?_
  rw [nk]
  have s1 : ∀ d, d ≠ 21 → (stI σ (20 + 1) k 0).1 d = σ.1 d := fun d hd => stI_ne hd
  have s2 : (stI σ (20 + 1) k 0).1 21 k = 0 := by
    have e9 : (stI σ (20 + 1) k 0).1 21 = upd (σ.1 21) k 0 := rfl
    rw [e9, upd_at]
  have s4 : ∀ i, i ≠ k → (stI σ (20 + 1) k 0).1 21 i = σ.1 21 i := fun i hi => by
    have e9 : (stI σ (20 + 1) k 0).1 21 = upd (σ.1 21) k 0 := rfl
    rw [e9, upd_no hi]
  have s3 : (stI σ (20 + 1) k 0).2.1 = σ.2.1 := rfl
  generalize stI σ (20 + 1) k 0 = s at s1 s2 s4 s3 ⊢
  refine OK.bnd (a_addType 7 s c (by rw [s1 20 (by decide)]; exact hc) hc2) (fun q2 hq2 => ?_)
  obtain ⟨q1, qF, qA, qB, qC, qD, qE, qG⟩ := hq2
  have e22 : (stI q2.2 (20 + 2) k q2.1).1 (20 + 2) k = q2.1 := by
    have e9 : (stI q2.2 (20 + 2) k q2.1).1 (20 + 2) = upd (q2.2.1 (20 + 2)) k q2.1 := rfl
    rw [e9, upd_at]
  have r1 : ∀ d, d ≠ 22 → (stI q2.2 (20 + 2) k q2.1).1 d = q2.2.1 d := fun d hd => stI_ne hd
  have r3 : (stI q2.2 (20 + 2) k q2.1).2.1 = q2.2.2.1 := rfl
  have r22 : ∀ i, i ≠ k → (stI q2.2 (20 + 2) k q2.1).1 22 i = q2.2.1 22 i := fun i hi => by
    have e9 : (stI q2.2 (20 + 2) k q2.1).1 (20 + 2) = upd (q2.2.1 (20 + 2)) k q2.1 := rfl
    show (stI q2.2 (20 + 2) k q2.1).1 (20 + 2) i = _
    rw [e9, upd_no hi]
  rw [e22]
  have e22 : (stI q2.2 (20 + 2) k q2.1).1 22 k = q2.1 := e22
  generalize stI q2.2 (20 + 2) k q2.1 = r at e22 r1 r3 r22 ⊢
  rw [a_setInner q2.1 (p0 * 6) r c q1 hc2 (by rw [r1 20 (by decide)]; omega), sbnd]
  have e1 := il_addE (x := p0) (y := 1) (by omega) (by omega)
  have w1 : ∀ d, d ∉ [20, 32] → (stI (stI r 32 c (p0 * 6)) 20 0 (p0 + 1)).1 d = r.1 d := fun d hd => by
    simp only [List.mem_cons, List.not_mem_nil, or_false, not_or] at hd
    rw [stI_ne hd.1, stI_ne hd.2]
  have w20 : (stI (stI r 32 c (p0 * 6)) 20 0 (p0 + 1)).1 20 = upd (r.1 20) 0 (p0 + 1) := rfl
  have w2 : (stI (stI r 32 c (p0 * 6)) 20 0 (p0 + 1)).2.1 = r.2.1 := rfl
  have w32 : (stI (stI r 32 c (p0 * 6)) 20 0 (p0 + 1)).1 32 = upd (r.1 32) c (p0 * 6) := rfl
  have e6 : (p0 * 6).toInt = 6 * (k : Int) := by
    rw [Int32.mul_comm]
    have := mlE (k := 6) (y := p0) 6 l6 (by omega) (by omega)
    omega
  generalize stI (stI r 32 c (p0 * 6)) 20 0 (p0 + 1) = w at w1 w20 w2 w32 ⊢
  refine OK.ret ⟨fun d hd => ?_, fun d hd => ?_, ?_, ?_, ?_, ?_, ?_, fun i hi => ⟨?_, ?_⟩, ?_, ?_, fun i hi => ?_⟩
  · simp only [List.mem_cons, List.not_mem_nil, or_false, not_or] at hd
    obtain ⟨d1, d2, d3, d4, d5, d6, d7⟩ := hd
    rw [w1 d (by simp only [List.mem_cons, List.not_mem_nil, or_false, not_or]; exact ⟨d1, d5⟩), r1 d d3]
    by_cases e : d = 2
    · rw [e, qA]
      exact s1 2 (by decide)
    · rw [qF.1 d (by simp only [List.mem_cons, List.not_mem_nil, or_false, not_or]; exact ⟨e, d1, d4, d5, d6, d7⟩)]
      exact s1 d d2
  · rw [w2, r3]
    by_cases e : d = 2
    · rw [e, qB, s3]
    · rw [qF.2.2.1 d (by simp only [List.mem_cons, List.not_mem_nil, or_false, not_or]; exact ⟨e, hd⟩), s3]
  · rw [w1 21 (by decide), r1 21 (by decide), qF.1 21 (by decide), s2]
    exact l0
  · rw [w1 22 (by decide), e22]
    exact q1
  · rw [w2, r3]
    exact qE
  · rw [w20, upd_no (by decide), r1 20 (by decide)]
    exact qD
  · rw [w20, upd_at]
    omega
  · rw [w1 21 (by decide), r1 21 (by decide), qF.1 21 (by decide)]
    exact s4 i hi
  · rw [w1 22 (by decide), r22 i hi, qF.1 22 (by decide), s1 22 (by decide)]
  · rw [w1 31 (by decide), r1 31 (by decide), qC]
    exact li_7
  · rw [w32, upd_at]
    exact e6
  · have h9 := qF.2.2.2 i hi
    rw [w1 31 (by decide), r1 31 (by decide), h9.1, w32, upd_no (by omega), r1 32 (by decide), h9.2.1, w1 33 (by decide), r1 33 (by decide), h9.2.2.2, s1 31 (by decide), s1 32 (by decide), s1 33 (by decide)]
    exact ⟨rfl, rfl, rfl⟩
theorem b_plan_0 (x1 xl : Int32) (b : ST) : OK (f_X11_plan_75 FU x1 xl 0 b) (fun z => z.1.1.toInt = 0 ∧ z.2 = 0 ∧ z.1.2 = stI b 0 33 (b.1 0 33 + 1)) := by
  have ef : FU = 99999 + 1 := rfl
  rw [ef, f_X11_plan_75, if_pos rfl]
  unfold f_X11_plan_95 f_X11_plan_119
  rw [if_pos rfl, if_pos rfl]
  exact OK.ret ⟨li_0, rfl, rfl⟩
theorem b_record_no (p0 : Int32) (τ : ST) (hW : ¬ W_ τ v_record) : OK (f_X11_record p0 τ) (fun q => q.1.1.toInt = 0 ∧ CH [] [12] τ q.1.2 ∧ q.2 ≤ 1) := by
  unfold f_X11_record
  have l0 := li_0
  refine OK.bndK (b_isRecord τ) (fun v x hv hx => ?_)
  refine OK.kac ?_
  dsimp only
  have hv0 : v.toInt = 0 := by
    rcases hv with hv | hv
    · exact hv.1
    · exact absurd hv.2 hW
  refine OK.ieq (fun _ => ?_) (fun h => by omega)
  refine OK.bndC (b_wrongHere 1 τ) (fun v2 s2 c2 hv2 => ?_)
  refine OK.grd (b01 (.inl hv2)) ?_
  exact OK.ret ⟨hv2, c2, by show x + 0 ≤ 1; omega⟩
theorem ab_plan (k t n : Nat) (xk x2 : Int32) (σ τ : ST) (hX : LX σ τ) (hW : W_ τ v_plan) (hk : k ≤ 6) (h33 : (τ.1 0 33).toInt = k) (h34 : (τ.1 0 34).toInt = t) (ht : 400 ≤ t) (hcA : (σ.1 20 1).toInt = (t : Int) + k - 400) (hat : 4 * ((t : Int) - 400) ≤ (τ.1 0 4).toInt) (hxk : xk.toInt = (k : Int) - 1) (hx2 : 0 ≤ x2.toInt ∧ x2.toInt ≤ 7 * (k : Int)) (hn : 42 < (n : Int) + 1 + x2.toInt) : OK (f_X11_plan τ) (fun z => PLO (k + 1) t k σ τ (NX n xk x2 σ) z ∧ (z.1.1.toInt = 1 → k < 6 ∧ z.2 + 40 * uT z.1.2 ≤ 40 * uT τ)) := by
  unfold f_X11_plan
  have l0 := li_0
  have l1 := li_1
  have l6 := li_6
  have hK := hX.2.2.1
  have hat9 := hX.at
  have e0 : kwV 0 = v_plan := rfl
  have kA := (hK.kw (k := 0) (by omega)).mp (by rw [e0]; exact hW)
  have w1 := hW.1
  have u0 := uT_1 (τ := τ) (by omega)
  have nx := hX.nxt.2 (by omega)
  have ek := il_addE (x := xk) (y := 1) (by omega) (by omega)
  have e2 := il_addE (x := x2) (y := 1) (by omega) (by omega)
  refine OK.bndK (b_isPlan τ) (fun v x hv hx => ?_)
  refine OK.kac ?_
  dsimp only
  have hv1 : v.toInt = 1 := by
    rcases hv with hv | hv
    · exact absurd hW hv.2
    · exact hv.1
  refine OK.ieq (fun h => by omega) (fun _ => ?_)
  by_cases hk6 : k = 6
  · refine OK.ieq (fun _ => ?_) (fun h => by omega)
    refine OK.bndC (b_wrongHere 4 τ) (fun v2 s2 c2 hv2 => ?_)
    refine OK.grd (b01 (.inl hv2)) ?_
    refine OK.ret ⟨⟨(c2.fw (by decide)).fv, .inl ⟨hv2, ?_, ?_⟩⟩, fun h => ?_⟩
    · unfold NX f_X3_beginPlan
      rw [if_neg (by rw [Int32.lt_iff_toInt_lt]; omega)]
      refine OK.bnd (OK.bnd (a_refuse _ _) (fun q hq => OK.grd (b01 (.inl hq)) (OK.ret (P := fun q : Int32 × ST => q.1.toInt = 0) hq))) (fun q hq => ?_)
      exact OK.ieq (fun _ => OK.ret l0) (fun h => by omega)
    · show x + 0 + 40 * uT s2 ≤ _
      rw [uT_eq (c2.2.1 3 (by decide)) (c2.2.1 5 (by decide)) (c2.2.1 6 (by decide))]
      omega
    · have h : v2.toInt = 1 := h
      omega
  refine OK.ieq (fun h => by omega) (fun _ => ?_)
  have e6 := il_addE (x := 6) (y := τ.1 0 33) (by omega) (by omega)
  have n6 : (6 + τ.1 0 33).toNatClampNeg = 6 + k := nC (by omega)
  refine OK.grd ⟨by omega, by omega⟩ ?_
  rw [n6]
  have hx1 : (6 + τ.1 0 33).toInt = 6 + (k : Int) := by omega
  -- a plan begins
  have e8 : (stI τ 8 (6 + k) 0).1 8 = upd (τ.1 8) (6 + k) 0 := rfl
  have g1 : ∀ c, c ≠ 8 → (stI τ 8 (6 + k) 0).1 c = τ.1 c := fun c hc => stI_ne hc
  have g8 : ∀ i, i ≠ 6 + k → (stI τ 8 (6 + k) 0).1 8 i = τ.1 8 i := fun i hi => by rw [e8, upd_no hi]
  have g80 : (stI τ 8 (6 + k) 0).1 8 (6 + k) = 0 := by rw [e8, upd_at]
  have g2 : (stI τ 8 (6 + k) 0).2.1 = τ.2.1 := rfl
  clear e8
  generalize stI τ 8 (6 + k) 0 = b0 at g1 g8 g80 g2 ⊢
  have F0 : FV (6 + k) t (36 + 6 * k) τ b0 := ⟨fun c hc => g1 c (fun e => hc (by rw [e]; decide)), fun i _ => by rw [g1 0 (by decide)], fun j _ => ⟨by rw [g1 2 (by decide)], by rw [g1 3 (by decide)], by rw [g1 4 (by decide)]⟩, fun j _ => by rw [g1 5 (by decide)], fun i hi => g8 i (by omega), fun i _ => by rw [g1 11 (by decide)], fun i _ => ⟨by rw [g1 15 (by decide)], by rw [g1 13 (by decide)], by rw [g1 16 (by decide)], by rw [g1 19 (by decide)]⟩, fun h i => by rw [g1 19 (by decide)]; exact h i, fun i _ => by rw [g1 10 (by decide)], BQ.l0 (fun c _ => by rw [g2])⟩
  obtain ⟨a1, ea1, f1, f2, f3, f4, f5, f6, f7, f8, f9, f10, f11⟩ := a_addPlan (xk + 1) σ k (t + k - 400) (by omega) (by omega) (by omega) (by omega)
  have hAP : AP k (t + k - 400) σ a1 := ⟨fun i hi => f8 i (by omega), fun i _ => ⟨by rw [f1 23 (by decide)], by rw [f2 24 (by decide)], by rw [f1 25 (by decide)]⟩, fun i _ => ⟨by rw [f2 27 (by decide)], by rw [f2 28 (by decide)], by rw [f2 30 (by decide)], by rw [f1 29 (by decide)]⟩, fun i hi => f11 i hi⟩
  have hX0 : LX a1 b0 := hX.ext (f1 1 (by decide)) (f1 2 (by decide)) (f2 3 (by decide)) (f2 2 (by decide)) (g1 1 (by decide)) (fun i _ => by rw [g1 0 (by decide)]) (by rw [g2])
  have hg0 : a1.1 2 3 = b0.1 0 5 := by rw [f1 2 (by decide), g1 0 (by decide)]; exact hK.hg (by omega) (by omega)
  obtain ⟨a2, ea2, b2, eb2, ca, cb, cL, hX2, hat2, _, hu2⟩ := ab_go a1 b0 hX0 hg0
  rw [g1 0 (by decide)] at hat2 hu2
  rw [eb2, sbnd]
  have F2 : FV (6 + k) t (36 + 6 * k) τ b2 := F0.trans ((cb.fw (K := 6 + k) (t0 := t) (R := 36 + 6 * k) (by decide)).fv) (Nat.le_refl _) (Nat.le_refl _) (Nat.le_refl _)
  have hm := ab_mark (c := 59) 59 a2 b2 hX2 (by omega) li_59
  have eN0 : NX n xk x2 σ = (if (a2.1 2 4) = 59 then ((f_X6_advance a2).bind fun q5 => some (1, q5)) else ((f_X6_refuse 1 a2).bind fun q7 => if q7.1 = 0 ∨ q7.1 = 1 then some (q7.1, q7.2) else none)).bind fun q3 => if q3.1 = 0 then some (0, q3.2) else f_X3_parse_11 n (xk + 1) (x2 + 1) q3.2 := by
    unfold NX f_X3_beginPlan
    rw [if_pos (by rw [Int32.lt_iff_toInt_lt]; omega), ea1, sbnd, ea2, sbnd]
  -- how a plan that is refused ends
  have fin0 : ∀ (b : ST) (xx : Nat), FV (6 + k) t (36 + 6 * k) τ b → xx + 40 * uT b ≤ 40 * uT τ + 26 → OK (NX n xk x2 σ) (fun qa => qa.1.toInt = 0) → OK (f_X11_plan_73 (6 + τ.1 0 33) (τ.1 0 34) b) (fun z => PLO (k + 1) t k σ τ (NX n xk x2 σ) (z.1, xx + z.2) ∧ (z.1.1.toInt = 1 → k < 6 ∧ xx + z.2 + 40 * uT z.1.2 ≤ 40 * uT τ)) := fun b xx hF hc hA => by
    unfold f_X11_plan_73 f_X11_plan_74
    refine (b_plan_0 _ _ b).mono (fun z hz => ?_)
    obtain ⟨z1, z2, z3⟩ := hz
    refine ⟨⟨?_, .inl ⟨z1, hA, ?_⟩⟩, fun h => by omega⟩
    · show FV (6 + k) t (36 + 6 * k) τ z.1.2
      rw [z3]
      exact hF.trans (FV.s33 (K := 6 + k) (t0 := t) (R := 36 + 6 * k)) (Nat.le_refl _) (Nat.le_refl _) (Nat.le_refl _)
    · show xx + z.2 + 40 * uT z.1.2 ≤ _
      rw [z2, z3, uT_33]
      omega
  by_cases h59 : (a2.1 2 4).toInt = 59
  rotate_left
  · obtain ⟨q3, eq3, q31, q32⟩ := hm.2 h59
    rw [eq3, sbnd]
    refine OK.ieq (fun _ => ?_) (fun h => by omega)
    refine fin0 q3.2 x (F2.trans ((q32.fw (K := 6 + k) (t0 := t) (R := 36 + 6 * k) (by decide)).fv) (Nat.le_refl _) (Nat.le_refl _) (Nat.le_refl _)) ?_ ?_
    · rw [uT_eq (q32.2.1 3 (by decide)) (q32.2.1 5 (by decide)) (q32.2.1 6 (by decide))]
      omega
    · rw [eN0, if_neg (fun e => h59 (by rw [e]; exact li_59))]
      refine OK.bnd (OK.bnd (a_refuse _ _) (fun q hq => OK.grd (b01 (.inl hq)) (OK.ret (P := fun q : Int32 × ST => q.1.toInt = 0) hq))) (fun q hq => ?_)
      exact OK.ieq (fun _ => OK.ret l0) (fun h => by omega)
  obtain ⟨a3, ea3, q3, eq3, q31, ma, mb, mL, mX, mat, mu⟩ := hm.1 h59
  rw [eq3, sbnd]
  refine OK.ieq (fun h => by omega) (fun _ => ?_)
  have eN : NX n xk x2 σ = f_X3_parse_11 n (xk + 1) (x2 + 1) a3 := by
    rw [eN0, if_pos (Int32.toInt_inj.mp (by rw [h59]; exact li_59.symm)), ea3, sbnd, sbnd]
    dsimp only
    rw [if_neg (by decide)]
  have F3 : FV (6 + k) t (36 + 6 * k) τ q3.2 := F2.trans ((mb.fw (K := 6 + k) (t0 := t) (R := 36 + 6 * k) (by decide)).fv) (Nat.le_refl _) (Nat.le_refl _) (Nat.le_refl _)
  have c33 : q3.2.1 0 33 = τ.1 0 33 := by rw [mb.2.1 33 (by decide), cb.2.1 33 (by decide), g1 0 (by decide)]
  have hp : PB_ (k + 1) t t k 0 a3 q3.2 := by
    refine ⟨⟨⟨by omega, by omega, rfl⟩, ⟨ht, Nat.le_refl _⟩, ?_, ?_, ?_⟩, ⟨?_, ?_, ?_, ?_⟩, fun j h1 h2 => by omega, fun i hi => by omega, fun j h1 h2 => by omega⟩
    · rw [mb.2.1 34 (by decide), cb.2.1 34 (by decide), g1 0 (by decide)]
      exact h34
    · rw [ma.1 20 (by decide), ca.1 20 (by decide)]
      omega
    · rw [ma.1 20 (by decide), ca.1 20 (by decide)]
      omega
    · rw [ma.1 22 (by decide), ca.1 22 (by decide)]
      omega
    · rw [ma.2.2.1 34 (by decide), ca.2.2.1 34 (by decide)]
      exact f5
    · rw [ma.1 31 (by decide), ca.1 31 (by decide)]
      exact f9
    · rw [ma.1 32 (by decide), ca.1 32 (by decide)]
      exact f10
  have h21 : (a3.1 21 k).toInt = ((0 : Nat) : Int) := by rw [ma.1 21 (by decide), ca.1 21 (by decide)]; exact f3
  have h8 : (q3.2.1 8 (6 + k)).toInt = ((0 : Nat) : Int) := by rw [mb.1 8 (by decide) (by decide), cb.1 8 (by decide) (by decide), g80]; exact l0
  have hb : BR_ t t k 0 q3.2 := fun i hi => by omega
  cases n with
  | zero => omega
  | succ n =>
  have eA := a_parse_it n (xk + 1) (x2 + 1) a3 (k := k) (by omega) (by omega) (by omega) h21
  rw [if_pos rfl] at eA
  have e33 := a_parse_33 (f_X3_parse_11 n) (xk + 1) (x2 + 1) 0 a3 q3.2 mX.2.2.1 (by omega)
  by_cases hR : W_ q3.2 v_record
  rotate_left
  · obtain ⟨q8, eq8, q81, q82, q83⟩ := b_record_no (6 + τ.1 0 33) q3.2 hR
    rw [eq8, sbnd]
    refine OK.kac ?_
    refine OK.ieq (fun _ => ?_) (fun h => by omega)
    have h9 := fin0 q8.1.2 (x + q8.2) (F3.trans ((q82.fw (K := 6 + k) (t0 := t) (R := 36 + 6 * k) (by decide)).fv) (Nat.le_refl _) (Nat.le_refl _) (Nat.le_refl _)) (by
      rw [uT_eq (q82.2.1 3 (by decide)) (q82.2.1 5 (by decide)) (q82.2.1 6 (by decide))]
      omega) (by
      rw [eN, eA, e33.2 hR]
      exact a_parse_0 _ _ _ _ (by omega))
    refine h9.mono (fun z hz => ?_)
    rw [Nat.add_assoc] at hz
    exact hz
  obtain ⟨qa, ea, qb, eb, qF, hq⟩ := ab_record (k + 1) t t k 0 (xk + 1) (6 + τ.1 0 33) a3 q3.2 hp hb h21 h8 (by omega) mX hR (by omega) hx1 (by omega)
  rw [eb, sbnd]
  refine OK.kac ?_
  have eA2 : NX (n + 1) xk x2 σ = if qa.1 = 0 then some (0, qa.2) else f_X3_parse_11 n (xk + 1) (x2 + 1 + 1) qa.2 := by
    rw [eN, eA, e33.1 hR, ea, sbnd]
  have F4 : FV (6 + k) t (36 + 6 * k) τ qb.1.2 := F3.trans qF.fv (Nat.le_refl _) (Nat.le_refl _) (by omega)
  rcases hq with ⟨q1, q2, q4⟩ | ⟨q1, q2, q6, ⟨t1, ht1, hp1, hb1, hc1, hX1, hat1⟩, qP, q4⟩
  · refine OK.ieq (fun _ => ?_) (fun h => by omega)
    have h9 := fin0 qb.1.2 (x + qb.2) F4 (by omega) (by
      rw [eA2, if_pos (Int32.toInt_inj.mp (by omega))]
      exact OK.ret l0)
    refine h9.mono (fun z hz => ?_)
    rw [Nat.add_assoc] at hz
    exact hz
  · refine OK.ieq (fun h => by omega) (fun _ => ?_)
    rw [if_neg (fun e => by rw [e] at q1; omega)] at eA2
    unfold f_X11_plan_74
    have e3 := il_addE (x := x2 + 1) (y := 1) (by omega) (by omega)
    have lu := FUi
    refine (ab_recs (k + 1) t k (6 + τ.1 0 33) (τ.1 0 34) (xk + 1) hx1 h34 (by omega) FU 1 n t1 (x2 + 1 + 1) qa.2 qb.1.2 (by omega) (by omega) (by omega) ⟨hp1, hb1, ⟨by rw [hc1.1]; rfl, by rw [hc1.2]; rfl⟩, hX1, hat1⟩ (by omega) (by omega)).mono (fun z hz => ?_)
    obtain ⟨zF, hz⟩ := hz
    rw [eA2]
    rcases hz with ⟨z1, z2, z3⟩ | ⟨z1, z2, z3, z4⟩
    · exact ⟨⟨F4.trans zF (Nat.le_refl _) (Nat.le_refl _) (Nat.le_refl _), .inl ⟨z1, z2, by show x + (qb.2 + z.2) + 40 * uT z.1.2 ≤ _; omega⟩⟩, fun h => by
        have h : z.1.1.toInt = 1 := h
        omega⟩
    · refine ⟨⟨F4.trans zF (Nat.le_refl _) (Nat.le_refl _) (Nat.le_refl _), .inr ⟨z1, z2.pre (((hAP.trans ca.ap).trans ma.ap).trans qP), ?_, by show x + (qb.2 + z.2) + 40 * uT z.1.2 ≤ _; omega⟩⟩, fun _ => ⟨by omega, by show x + (qb.2 + z.2) + 40 * uT z.1.2 ≤ _; omega⟩⟩
      show z.1.2.1 0 33 = _
      rw [z3, qF.2.1 33 (by decide), c33]
/-! the draft becomes what holds: the reference -/
def mv (x : Int32) : Int32 := if 0 ≤ x then x - 400 else x
theorem mv_pos {x : Int32} (h : 400 ≤ x.toInt) : (mv x).toInt = x.toInt - 400 := by
  have l0 := li_0
  have l400 := li_400
  have r := i_rng x
  unfold mv
  rw [if_pos (by rw [Int32.le_iff_toInt_le]; omega)]
  have e := il_subE (x := x) (y := 400) (by omega) (by omega)
  omega
theorem b_moved (x : Int32) (σ : ST) : f_X11_moved x σ = some (mv x, σ) := by
  unfold f_X11_moved mv
  by_cases h : 0 ≤ x
  · rw [if_pos h, if_pos h]
  · rw [if_neg h, if_neg h]
/-- a field's cells are those of another row -/
def TF (s σ : ST) (i j : Nat) : Prop := σ.1 13 i = s.1 13 j ∧ σ.1 19 i = s.1 19 j ∧ σ.2.1 12 i = s.2.1 12 j ∧ σ.2.1 14 i = s.2.1 14 j ∧ σ.2.1 17 i = s.2.1 17 j ∧ σ.2.1 18 i = s.2.1 18 j
def TH_ (s σ : ST) (a b c : Nat) : Prop := (∀ d, d ∉ [2, 3, 4, 5, 8, 10, 11, 13, 15, 16, 19] → σ.1 d = s.1 d) ∧ ((∀ i, i < a → σ.1 8 i = s.1 8 (6 + i)) ∧ ∀ i, 6 ≤ i → σ.1 8 i = s.1 8 i) ∧ ((∀ i, i < b → σ.1 11 i = s.1 11 (36 + i) ∧ σ.1 10 i = s.1 10 (36 + i) ∧ σ.2.1 9 i = s.2.1 9 (36 + i)) ∧ ∀ i, 36 ≤ i → σ.1 11 i = s.1 11 i ∧ σ.1 10 i = s.1 10 i ∧ σ.2.1 9 i = s.2.1 9 i) ∧ ((∀ i, i < c → σ.1 15 i = mv (s.1 15 (288 + i)) ∧ σ.1 16 i = vp_nar .boolean (s.1 16 (288 + i)) ∧ TF s σ i (288 + i)) ∧ ∀ i, 288 ≤ i → σ.1 15 i = s.1 15 i ∧ σ.1 16 i = s.1 16 i ∧ TF s σ i i) ∧ ∀ i, bI (σ.1 19 i) 0 12
def RW1 (s σ : ST) (q : Nat) : Prop := σ.1 2 q = s.1 2 (400 + q) ∧ ((s.1 2 (400 + q)).toInt = 6 → σ.1 3 q = mv (s.1 3 (400 + q))) ∧ (¬ (s.1 2 (400 + q)).toInt = 6 → σ.1 3 q = s.1 3 (400 + q)) ∧ σ.1 4 q = s.1 4 (400 + q)
def TR_ (s σ : ST) (d : Nat) : Prop := (∀ q, q < d → RW1 s σ q ∧ ∀ w : Nat, (w : Int) < (s.1 4 (400 + q)).toInt → σ.1 5 (4 * q + w) = mv (s.1 5 (4 * (400 + q) + w))) ∧ (∀ q, 400 ≤ q → σ.1 2 q = s.1 2 q ∧ σ.1 3 q = s.1 3 q ∧ σ.1 4 q = s.1 4 q) ∧ ∀ q, 1600 ≤ q → σ.1 5 q = s.1 5 q
theorem TH_.ext {s σ z : ST} {a b c : Nat} (h : TH_ s σ a b c) (e : ∀ d, d ∉ [2, 3, 4, 5] → z.1 d = σ.1 d) (eL : z.2.1 = σ.2.1) : TH_ s z a b c := by
  obtain ⟨h1, h2, h3, h4, h5⟩ := h
  refine ⟨fun d hd => ?_, ?_, ?_, ?_, ?_⟩
  · rw [e d (fun h9 => hd ?_)]
    · exact h1 d hd
    · simp only [List.mem_cons, List.not_mem_nil, or_false] at h9 ⊢
      omega
  · rw [e 8 (by decide)]
    exact h2
  · rw [e 11 (by decide), e 10 (by decide), eL]
    exact h3
  · unfold TF at h4 ⊢
    rw [e 15 (by decide), e 16 (by decide), e 13 (by decide), e 19 (by decide), eL]
    exact h4
  · rw [e 19 (by decide)]
    exact h5
theorem TR_.ext {s σ z : ST} {d : Nat} (h : TR_ s σ d) (e : ∀ c, c ∈ [2, 3, 4, 5] → z.1 c = σ.1 c) : TR_ s z d := by
  unfold TR_ RW1
  rw [e 2 (by decide), e 3 (by decide), e 4 (by decide), e 5 (by decide)]
  exact h
theorem b_takes_301 (s : ST) (q : Nat) (hq : q < 400) (m : Nat) (hm : (s.1 4 (400 + q)).toInt = m) (hm4 : m ≤ 4) (hM : ∀ p, p < q → 0 ≤ (s.1 4 (400 + p)).toInt ∧ (s.1 4 (400 + p)).toInt ≤ 4) (kk : Int32 → ST → Option ST) (Q : ST → Prop) (hk : ∀ (x : Int32) (z : ST), x.toInt = 401 + (q : Int) → TH_ s z 6 36 288 → TR_ s z (q + 1) → OK (kk x z) Q) : ∀ (f w : Nat) (x1 x2 : Int32) (σ : ST), m < f + w → w ≤ m → x1.toInt = 400 + (q : Int) → x2.toInt = w → TH_ s σ 6 36 288 → TR_ s σ q → RW1 s σ q → (∀ i : Nat, i < w → σ.1 5 (4 * q + i) = mv (s.1 5 (4 * (400 + q) + i))) → OK (f_X11_takes_301 kk f x1 x2 σ) Q := by
  intro f
  have l1 := li_1
  have l400 := li_400
  induction f with
  | zero => intro w x1 x2 σ h1 h2; omega
  | succ f ih =>
    intro w x1 x2 σ hf hw h1 h2 hT hR hW hB
    rw [f_X11_takes_301]
    have n1 : x1.toNatClampNeg = 400 + q := nC (by omega)
    rw [n1]
    refine OK.grd ⟨by omega, by omega⟩ ?_
    have e4 : σ.1 4 (400 + q) = s.1 4 (400 + q) := (hR.2.1 (400 + q) (by omega)).2.2
    rw [e4]
    have ex1 := il_addE (x := x1) (y := 1) (by omega) (by omega)
    refine OK.ile (fun h => ?_) (fun h => ?_)
    · refine hk (x1 + 1) σ (by omega) hT ⟨fun p hp => ?_, hR.2⟩
      by_cases e : p = q
      · subst e
        exact ⟨hW, fun i hi => hB i (by omega)⟩
      · exact hR.1 p (by omega)
    · have ex2 := il_addE (x := x2) (y := 1) (by omega) (by omega)
      have em := mlE (k := 4) (y := x1) 4 (by decide) (by omega) (by omega)
      have ea := il_addE (x := 4 * x1) (y := x2) (by omega) (by omega)
      have na : (4 * x1 + x2).toNatClampNeg = 4 * (400 + q) + w := nC (by omega)
      have es := il_subE (x := x1) (y := 400) (by omega) (by omega)
      have em2 := mlE (k := 4) (y := x1 - 400) 4 (by decide) (by omega) (by omega)
      have ea2 := il_addE (x := 4 * (x1 - 400)) (y := x2) (by omega) (by omega)
      have na2 : (4 * (x1 - 400) + x2).toNatClampNeg = 4 * q + w := nC (by omega)
      refine OK.grd ⟨by omega, by omega⟩ ?_
      rw [b_moved, sbnd, na, na2]
      dsimp only
      refine OK.grd ⟨by omega, by omega⟩ ?_
      rw [hR.2.2 (4 * (400 + q) + w) (by omega)]
      have z5 : (stI σ 5 (4 * q + w) (mv (s.1 5 (4 * (400 + q) + w)))).1 5 = upd (σ.1 5) (4 * q + w) (mv (s.1 5 (4 * (400 + q) + w))) := rfl
      have z1 : ∀ c, c ≠ 5 → (stI σ 5 (4 * q + w) (mv (s.1 5 (4 * (400 + q) + w)))).1 c = σ.1 c := fun c hc => stI_ne hc
      have zL : (stI σ 5 (4 * q + w) (mv (s.1 5 (4 * (400 + q) + w)))).2.1 = σ.2.1 := rfl
      generalize stI σ 5 (4 * q + w) (mv (s.1 5 (4 * (400 + q) + w))) = z at z5 z1 zL ⊢
      refine ih (w + 1) x1 (x2 + 1) z (by omega) (by omega) h1 (by omega) (hT.ext (fun d hd => z1 d (fun e => hd (by rw [e]; decide))) zL) ⟨fun p hp => ?_, fun p hp => ?_, fun p hp => ?_⟩ ?_ (fun i hi => ?_)
      · obtain ⟨r1, r2⟩ := hR.1 p hp
        have h9 := hM p hp
        refine ⟨?_, fun i hi => ?_⟩
        · unfold RW1
          rw [z1 2 (by decide), z1 3 (by decide), z1 4 (by decide)]
          exact r1
        · rw [z5, upd_no (by omega)]
          exact r2 i hi
      · rw [z1 2 (by decide), z1 3 (by decide), z1 4 (by decide)]
        exact hR.2.1 p hp
      · rw [z5, upd_no (by omega)]
        exact hR.2.2 p hp
      · unfold RW1
        rw [z1 2 (by decide), z1 3 (by decide), z1 4 (by decide)]
        exact hW
      · by_cases e : i = w
        · subst e
          rw [z5, upd_at]
        · rw [z5, upd_no (by omega)]
          exact hB i (by omega)
theorem b_takes_220 (s : ST) (t : Nat) (ht : 400 ≤ t ∧ t ≤ 650) (h34 : (s.1 0 34).toInt = t) (hM : M4 t s) : ∀ (f q : Nat) (x1 : Int32) (σ : ST), t < f + q + 400 → 400 + q ≤ t → x1.toInt = 400 + (q : Int) → TH_ s σ 6 36 288 → TR_ s σ q → OK (f_X11_takes_220 f x1 σ) (fun z => TH_ s z 6 36 288 ∧ TR_ s z (t - 400)) := by
  intro f
  have l6 := li_6
  have l400 := li_400
  have lu := FUi
  induction f with
  | zero => intro q x1 σ h1 h2; omega
  | succ f ih =>
    intro q x1 σ hf hq h1 hT hR
    rw [f_X11_takes_220]
    have c34 : (σ.1 0 34).toInt = t := by rw [hT.1 0 (by decide)]; exact h34
    refine OK.ile (fun h => ?_) (fun h => ?_)
    · have e : q = t - 400 := by omega
      rw [e] at hR
      exact OK.ret ⟨hT, hR⟩
    have n1 : x1.toNatClampNeg = 400 + q := nC (by omega)
    have es := il_subE (x := x1) (y := 400) (by omega) (by omega)
    have ns : (x1 - 400).toNatClampNeg = q := nC (by omega)
    rw [n1, ns]
    refine OK.grd ⟨by omega, by omega⟩ ?_
    refine OK.grd ⟨by omega, by omega⟩ ?_
    have r0 := hR.2.1 (400 + q) (by omega)
    have hm := hM (400 + q) (by omega) (by omega)
    have a2 : (stI σ 2 q (σ.1 2 (400 + q))).1 2 = upd (σ.1 2) q (σ.1 2 (400 + q)) := rfl
    have a1 : ∀ c, c ≠ 2 → (stI σ 2 q (σ.1 2 (400 + q))).1 c = σ.1 c := fun c hc => stI_ne hc
    have aL : (stI σ 2 q (σ.1 2 (400 + q))).2.1 = σ.2.1 := rfl
    generalize stI σ 2 q (σ.1 2 (400 + q)) = u at a2 a1 aL ⊢
    have u2 : u.1 2 (400 + q) = s.1 2 (400 + q) := by rw [a2, upd_no (by omega)]; exact r0.1
    have u2q : u.1 2 q = s.1 2 (400 + q) := by rw [a2, upd_at]; exact r0.1
    have u3 : u.1 3 (400 + q) = s.1 3 (400 + q) := by rw [a1 3 (by decide)]; exact r0.2.1
    have fin : ∀ y0 : Int32, ((s.1 2 (400 + q)).toInt = 6 → y0 = mv (s.1 3 (400 + q))) → (¬ (s.1 2 (400 + q)).toInt = 6 → y0 = s.1 3 (400 + q)) → OK (f_X11_takes_282 (f_X11_takes_220 f) x1 y0 (x1 - 400) u) (fun z => TH_ s z 6 36 288 ∧ TR_ s z (t - 400)) := by
      intro y0 y1 y2
      unfold f_X11_takes_282
      rw [n1, ns]
      refine OK.grd ⟨by omega, by omega⟩ ?_
      refine OK.grd ⟨by omega, by omega⟩ ?_
      refine OK.grd ⟨by omega, by omega⟩ ?_
      refine OK.lt (fun z hz => ?_)
      have z3 : z.1 3 = upd (u.1 3) q y0 := by rw [hz]; rfl
      have z4 : z.1 4 = upd (u.1 4) q (u.1 4 (400 + q)) := by rw [hz]; rfl
      have z1 : ∀ c, c ∉ [3, 4] → z.1 c = u.1 c := fun c hc => by
        simp only [List.mem_cons, List.not_mem_nil, or_false, not_or] at hc
        rw [hz, stI_ne hc.2, stI_ne hc.1]
      have zL : z.2.1 = σ.2.1 := by rw [hz]; exact aL
      clear hz
      have z2 : z.1 2 = u.1 2 := z1 2 (by decide)
      have u4 : u.1 4 (400 + q) = s.1 4 (400 + q) := by rw [a1 4 (by decide)]; exact r0.2.2
      refine b_takes_301 s q (by omega) (s.1 4 (400 + q)).toInt.toNat (by omega) (by omega) (fun p hp => hM (400 + p) (by omega) (by omega)) (f_X11_takes_220 f) _ (fun x z9 hx hT9 hR9 => ih (q + 1) x z9 (by omega) (by omega) (by omega) hT9 hR9) FU 0 x1 0 z (by omega) (by omega) h1 li_0 ?_ ⟨fun p hp => ?_, fun p hp => ?_, fun p hp => ?_⟩ ⟨?_, ?_, ?_, ?_⟩ (fun i hi => by omega)
      · refine hT.ext (fun d hd => ?_) zL
        simp only [List.mem_cons, List.not_mem_nil, or_false, not_or] at hd
        rw [z1 d (by simp only [List.mem_cons, List.not_mem_nil, or_false, not_or]; exact ⟨hd.2.1, hd.2.2.1⟩), a1 d hd.1]
      · obtain ⟨r1, r2⟩ := hR.1 p hp
        refine ⟨?_, fun i hi => ?_⟩
        · unfold RW1
          rw [z2, a2, upd_no (by omega), z3, upd_no (by omega), z4, upd_no (by omega), a1 3 (by decide), a1 4 (by decide)]
          exact r1
        · rw [z1 5 (by decide), a1 5 (by decide)]
          exact r2 i hi
      · rw [z2, a2, upd_no (by omega), z3, upd_no (by omega), z4, upd_no (by omega), a1 3 (by decide), a1 4 (by decide)]
        exact hR.2.1 p hp
      · rw [z1 5 (by decide), a1 5 (by decide)]
        exact hR.2.2 p hp
      · rw [z2]
        exact u2q
      · intro h9
        rw [z3, upd_at]
        exact y1 h9
      · intro h9
        rw [z3, upd_at]
        exact y2 h9
      · rw [z4, upd_at]
        exact u4
    rw [u2, u3, b_moved, sbnd]
    refine OK.ieq (fun h9 => ?_) (fun h9 => ?_)
    · exact fin _ (fun _ => rfl) (fun h => by omega)
    · exact fin _ (fun h => by omega) (fun _ => rfl)
theorem b_takes_98 (s : ST) (t : Nat) (ht : 400 ≤ t ∧ t ≤ 650) (h34 : (s.1 0 34).toInt = t) (hM : M4 t s) : ∀ (f i : Nat) (x1 : Int32) (σ : ST), 288 < f + i → i ≤ 288 → x1.toInt = i → TH_ s σ 6 36 i → TR_ s σ 0 → OK (f_X11_takes_98 f x1 σ) (fun z => TH_ s z 6 36 288 ∧ TR_ s z (t - 400)) := by
  intro f
  have l1 := li_1
  have l288 := li_288
  have lu := FUi
  induction f with
  | zero => intro i x1 σ h1 h2; omega
  | succ f ih =>
    intro i x1 σ hf hi h1 hT hR
    rw [f_X11_takes_98]
    refine OK.ile (fun h => ?_) (fun h => ?_)
    · have e : i = 288 := by omega
      subst e
      exact b_takes_220 s t ht h34 hM FU 0 400 σ (by omega) (by omega) li_400 hT hR
    have ea := il_addE (x := x1) (y := 288) (by omega) (by omega)
    have na : (x1 + 288).toNatClampNeg = 288 + i := nC (by omega)
    have n1 : x1.toNatClampNeg = i := nC h1
    have ex := il_addE (x := x1) (y := 1) (by omega) (by omega)
    rw [n1, na]
    refine OK.grd ⟨by omega, by omega⟩ ?_
    refine OK.grd ⟨by omega, by omega⟩ ?_
    refine OK.lt (fun z3 h3 => ?_)
    rw [b_moved, sbnd]
    refine OK.lt (fun z6 h6 => ?_)
    refine OK.lt (fun z7 h7 => ?_)
    have k15 : (stI z7 19 i (z7.1 19 (288 + i))).1 15 = upd (σ.1 15) i (mv (σ.1 15 (288 + i))) := by
      rw [h7, h6, h3]
      rfl
    have k19 : (stI z7 19 i (z7.1 19 (288 + i))).1 19 = upd (σ.1 19) i (σ.1 19 (288 + i)) := by
      rw [h7, h6, h3]
      rfl
    have k1 : ∀ c, c ∉ [13, 15, 16, 19] → (stI z7 19 i (z7.1 19 (288 + i))).1 c = σ.1 c := fun c hc => by
      simp only [List.mem_cons, List.not_mem_nil, or_false, not_or] at hc
      rw [stI_ne hc.2.2.2, h7]
      show z6.1 c = _
      rw [h6, stI_ne hc.2.2.1, stI_ne hc.2.1]
      show z3.1 c = _
      rw [h3, stI_ne hc.1]
      rfl
    have k13 : (stI z7 19 i (z7.1 19 (288 + i))).1 13 = upd (σ.1 13) i (σ.1 13 (288 + i)) := by
      rw [h7, h6, h3]
      rfl
    have k16 : (stI z7 19 i (z7.1 19 (288 + i))).1 16 = upd (σ.1 16) i (vp_nar .boolean (σ.1 16 (288 + i))) := by
      rw [h7, h6, h3]
      rfl
    have k12 : (stI z7 19 i (z7.1 19 (288 + i))).2.1 12 = vp_updL (σ.2.1 12) i (σ.2.1 12 (288 + i)) := by
      rw [h7, h6, h3]
      rfl
    have k14 : (stI z7 19 i (z7.1 19 (288 + i))).2.1 14 = vp_updL (σ.2.1 14) i (σ.2.1 14 (288 + i)) := by
      rw [h7, h6, h3]
      rfl
    have k17 : (stI z7 19 i (z7.1 19 (288 + i))).2.1 17 = vp_updL (σ.2.1 17) i (σ.2.1 17 (288 + i)) := by
      rw [h7, h6, h3]
      rfl
    have k18 : (stI z7 19 i (z7.1 19 (288 + i))).2.1 18 = vp_updL (σ.2.1 18) i (σ.2.1 18 (288 + i)) := by
      rw [h7, h6, h3]
      rfl
    have k9 : (stI z7 19 i (z7.1 19 (288 + i))).2.1 9 = σ.2.1 9 := by
      rw [h7, h6, h3]
      rfl
    clear h7 h6 h3
    generalize stI z7 19 i (z7.1 19 (288 + i)) = z at k15 k19 k1 k13 k16 k12 k14 k17 k18 k9 ⊢
    obtain ⟨t1, t2, t3, t4, t5⟩ := hT
    refine ih (i + 1) (x1 + 1) z (by omega) (by omega) (by omega) ⟨fun d hd => ?_, ?_, ?_, ⟨fun p hp => ?_, fun p hp => ?_⟩, fun p => ?_⟩ (hR.ext (fun c hc => k1 c (fun h9 => by
      simp only [List.mem_cons, List.not_mem_nil, or_false] at h9 hc
      omega)))
    · rw [k1 d (fun h9 => hd ?_)]
      · exact t1 d hd
      · simp only [List.mem_cons, List.not_mem_nil, or_false] at h9 ⊢
        omega
    · rw [k1 8 (by decide)]
      exact t2
    · rw [k1 11 (by decide), k1 10 (by decide), k9]
      exact t3
    · by_cases e : p = i
      · subst e
        obtain ⟨y1, y2, y3, y4, y5, y6, y7, y8⟩ := t4.2 (288 + p) (by omega)
        unfold TF
        rw [k15, upd_at, k16, upd_at, k13, upd_at, k19, upd_at, k12, updL_at, k14, updL_at, k17, updL_at, k18, updL_at, y1, y2]
        exact ⟨rfl, rfl, y3, y4, y5, y6, y7, y8⟩
      · unfold TF
        rw [k15, upd_no e, k16, upd_no e, k13, upd_no e, k19, upd_no e, k12, updL_no e, k14, updL_no e, k17, updL_no e, k18, updL_no e]
        exact t4.1 p (by omega)
    · unfold TF
      rw [k15, upd_no (by omega), k16, upd_no (by omega), k13, upd_no (by omega), k19, upd_no (by omega), k12, updL_no (by omega), k14, updL_no (by omega), k17, updL_no (by omega), k18, updL_no (by omega)]
      exact t4.2 p hp
    · rw [k19]
      exact upd_all (P := fun x => bI x 0 12) t5 (t5 _) p
theorem b_takes_39 (s : ST) (t : Nat) (ht : 400 ≤ t ∧ t ≤ 650) (h34 : (s.1 0 34).toInt = t) (hM : M4 t s) : ∀ (f i : Nat) (x1 : Int32) (σ : ST), 36 < f + i → i ≤ 36 → x1.toInt = i → TH_ s σ 6 i 0 → TR_ s σ 0 → OK (f_X11_takes_39 f x1 σ) (fun z => TH_ s z 6 36 288 ∧ TR_ s z (t - 400)) := by
  intro f
  have l1 := li_1
  have l36 := li_36
  have lu := FUi
  induction f with
  | zero => intro i x1 σ h1 h2; omega
  | succ f ih =>
    intro i x1 σ hf hi h1 hT hR
    rw [f_X11_takes_39]
    refine OK.ile (fun h => ?_) (fun h => ?_)
    · have e : i = 36 := by omega
      subst e
      exact b_takes_98 s t ht h34 hM FU 0 0 σ (by omega) (by omega) li_0 hT hR
    have ea := il_addE (x := x1) (y := 36) (by omega) (by omega)
    have na : (x1 + 36).toNatClampNeg = 36 + i := nC (by omega)
    have n1 : x1.toNatClampNeg = i := nC h1
    have ex := il_addE (x := x1) (y := 1) (by omega) (by omega)
    rw [n1, na]
    refine OK.grd ⟨by omega, by omega⟩ ?_
    refine OK.grd ⟨by omega, by omega⟩ ?_
    refine OK.lt (fun z3 h3 => ?_)
    have k11 : (stI z3 11 i (z3.1 11 (36 + i))).1 11 = upd (σ.1 11) i (σ.1 11 (36 + i)) := by
      rw [h3]
      rfl
    have k10 : (stI z3 11 i (z3.1 11 (36 + i))).1 10 = upd (σ.1 10) i (σ.1 10 (36 + i)) := by
      rw [h3]
      rfl
    have k1 : ∀ c, c ∉ [10, 11] → (stI z3 11 i (z3.1 11 (36 + i))).1 c = σ.1 c := fun c hc => by
      simp only [List.mem_cons, List.not_mem_nil, or_false, not_or] at hc
      rw [stI_ne hc.2, h3, stI_ne hc.1]
      rfl
    have k9 : (stI z3 11 i (z3.1 11 (36 + i))).2.1 9 = vp_updL (σ.2.1 9) i (σ.2.1 9 (36 + i)) := by
      rw [h3]
      rfl
    have kL : ∀ c, c ≠ 9 → (stI z3 11 i (z3.1 11 (36 + i))).2.1 c = σ.2.1 c := fun c hc => by
      show z3.2.1 c = _
      rw [h3]
      show (stL σ 9 _ _).2.1 c = _
      rw [stL_ne hc]
    clear h3
    generalize stI z3 11 i (z3.1 11 (36 + i)) = z at k11 k10 k1 k9 kL ⊢
    obtain ⟨t1, t2, t3, t4, t5⟩ := hT
    refine ih (i + 1) (x1 + 1) z (by omega) (by omega) (by omega) ⟨fun d hd => ?_, ?_, ⟨fun p hp => ?_, fun p hp => ?_⟩, ?_, ?_⟩ (hR.ext (fun c hc => k1 c (fun h9 => by
      simp only [List.mem_cons, List.not_mem_nil, or_false] at h9 hc
      omega)))
    · rw [k1 d (fun h9 => hd ?_)]
      · exact t1 d hd
      · simp only [List.mem_cons, List.not_mem_nil, or_false] at h9 ⊢
        omega
    · rw [k1 8 (by decide)]
      exact t2
    · by_cases e : p = i
      · subst e
        have e9 := t3.2 (36 + p) (by omega)
        rw [k11, upd_at, k10, upd_at, k9, updL_at]
        exact e9
      · rw [k11, upd_no e, k10, upd_no e, k9, updL_no e]
        exact t3.1 p (by omega)
    · rw [k11, upd_no (by omega), k10, upd_no (by omega), k9, updL_no (by omega)]
      exact t3.2 p hp
    · unfold TF at t4 ⊢
      rw [k1 15 (by decide), k1 16 (by decide), k1 13 (by decide), k1 19 (by decide), kL 12 (by decide), kL 14 (by decide), kL 17 (by decide), kL 18 (by decide)]
      exact t4
    · rw [k1 19 (by decide)]
      exact t5
theorem b_takes_10 (s : ST) (t : Nat) (ht : 400 ≤ t ∧ t ≤ 650) (h34 : (s.1 0 34).toInt = t) (hM : M4 t s) : ∀ (f i : Nat) (x1 : Int32) (σ : ST), 6 < f + i → i ≤ 6 → x1.toInt = i → TH_ s σ i 0 0 → TR_ s σ 0 → OK (f_X11_takes_10 f x1 σ) (fun z => TH_ s z 6 36 288 ∧ TR_ s z (t - 400)) := by
  intro f
  have l1 := li_1
  have l6 := li_6
  have lu := FUi
  induction f with
  | zero => intro i x1 σ h1 h2; omega
  | succ f ih =>
    intro i x1 σ hf hi h1 hT hR
    rw [f_X11_takes_10]
    refine OK.ile (fun h => ?_) (fun h => ?_)
    · have e : i = 6 := by omega
      subst e
      exact b_takes_39 s t ht h34 hM FU 0 0 σ (by omega) (by omega) li_0 hT hR
    have ea := il_addE (x := x1) (y := 6) (by omega) (by omega)
    have na : (x1 + 6).toNatClampNeg = 6 + i := nC (by omega)
    have n1 : x1.toNatClampNeg = i := nC h1
    have ex := il_addE (x := x1) (y := 1) (by omega) (by omega)
    rw [n1, na]
    refine OK.grd ⟨by omega, by omega⟩ ?_
    refine OK.grd ⟨by omega, by omega⟩ ?_
    have k8 : (stI σ 8 i (σ.1 8 (6 + i))).1 8 = upd (σ.1 8) i (σ.1 8 (6 + i)) := rfl
    have k1 : ∀ c, c ≠ 8 → (stI σ 8 i (σ.1 8 (6 + i))).1 c = σ.1 c := fun c hc => stI_ne hc
    have kL : (stI σ 8 i (σ.1 8 (6 + i))).2.1 = σ.2.1 := rfl
    generalize stI σ 8 i (σ.1 8 (6 + i)) = z at k8 k1 kL ⊢
    obtain ⟨t1, t2, t3, t4, t5⟩ := hT
    refine ih (i + 1) (x1 + 1) z (by omega) (by omega) (by omega) ⟨fun d hd => ?_, ⟨fun p hp => ?_, fun p hp => ?_⟩, ?_, ?_, ?_⟩ (hR.ext (fun c hc => k1 c (fun h9 => by
      rw [h9] at hc
      revert hc
      decide)))
    · rw [k1 d (fun h9 => hd (by rw [h9]; decide))]
      exact t1 d hd
    · by_cases e : p = i
      · subst e
        rw [k8, upd_at, t2.2 (6 + p) (by omega)]
      · rw [k8, upd_no e]
        exact t2.1 p (by omega)
    · rw [k8, upd_no (by omega)]
      exact t2.2 p hp
    · rw [k1 11 (by decide), k1 10 (by decide), kL]
      exact t3
    · unfold TF at t4 ⊢
      rw [k1 15 (by decide), k1 16 (by decide), k1 13 (by decide), k1 19 (by decide), kL]
      exact t4
    · rw [k1 19 (by decide)]
      exact t5
/-! what holds after plans -/
theorem VDmv {lo hi : Int} {S A M B S' A' M' B' : Nat → Int32} {rm : Int} (h0 : 400 ≤ lo) (hr : ∀ q : Nat, lo ≤ (400 + q : Int) → (400 + q : Int) < hi → S' q = S (400 + q) ∧ ((S (400 + q)).toInt = 6 → A' q = mv (A (400 + q))) ∧ (¬ (S (400 + q)).toInt = 6 → A' q = A (400 + q)) ∧ M' q = M (400 + q) ∧ ∀ w : Nat, (w : Int) < (M (400 + q)).toInt → B' (4 * q + w) = mv (B (4 * (400 + q) + w))) (h7 : ∀ q : Nat, lo ≤ (q : Int) → (q : Int) < hi → (S q).toInt = 7 → 0 ≤ (A q).toInt ∧ (A q).toInt < rm) : ∀ (d : Nat) (t : Int32), VD lo hi S A M B d t → VT (hi - 400) S' A' M' B' rm d (mv t) := by
  have nrow : ∀ {d : Nat} {t : Int32}, VD lo hi S A M B d t → ∃ q : Nat, t.toInt = 400 + (q : Int) ∧ t.toNatClampNeg = 400 + q ∧ (mv t).toInt = q ∧ (mv t).toNatClampNeg = q ∧ S' q = S t.toNatClampNeg := fun {d t} h => by
    have v1 := h.rng
    have mp := mv_pos (x := t) (by omega)
    refine ⟨(t.toInt - 400).toNat, by omega, nC (by omega), by omega, nC (by omega), ?_⟩
    have e : t.toNatClampNeg = 400 + (t.toInt - 400).toNat := nC (by omega)
    rw [e]
    exact (hr _ (by omega) (by omega)).1
  intro d
  induction d with
  | zero => intro t h; exact h
  | succ d ih =>
    intro t h
    obtain ⟨q, e1, e2, e3, e4, _⟩ := nrow h
    obtain ⟨v1, v2, v3, v4⟩ := h
    obtain ⟨r1, r2, r3, r4, r5⟩ := hr q (by omega) (by omega)
    rw [e2] at v2 v3 v4
    refine ⟨by omega, ?_, ?_, ?_, ?_⟩
    · rw [e4, r1]
      exact v2
    · rw [e4, r1]
      intro h6
      rw [r2 h6]
      exact ih _ (v3 h6)
    · rw [e4, r1]
      intro h9
      rw [r3 (by omega)]
      exact h7 (400 + q) (by omega) (by omega) h9
    · rw [e4, r1]
      intro h8
      obtain ⟨w1, w2, w3⟩ := v4 h8
      rw [r4]
      have sub : ∀ k : Nat, (k : Int) < (M (400 + q)).toInt → S' (B' (4 * q + k)).toNatClampNeg = S (B (4 * (400 + q) + k)).toNatClampNeg := fun k hk => by
        obtain ⟨p, _, _, _, p4, p5⟩ := nrow (w2 k hk).1
        rw [r5 k hk, p4]
        exact p5
      refine ⟨w1, fun k hk => ⟨?_, ?_⟩, fun j k hjk hk => ?_⟩
      · rw [r5 k hk]
        exact ih _ (w2 k hk).1
      · rw [sub k hk]
        exact (w2 k hk).2
      · rw [sub j (by omega), sub k hk]
        exact w3 j k hjk hk
theorem VT.ex {hi : Int} {S A M B S' A' M' B' : Nat → Int32} {rm : Int} (hr : ∀ q : Nat, (q : Int) < hi → S' q = S q ∧ A' q = A q ∧ M' q = M q ∧ ∀ w : Nat, w < 4 → B' (4 * q + w) = B (4 * q + w)) : ∀ (d : Nat) (t : Int32), VT hi S A M B rm d t → VT hi S' A' M' B' rm d t := by
  have nrow : ∀ {d : Nat} {t : Int32}, VT hi S A M B rm d t → (t.toNatClampNeg : Int) < hi := fun {d t} h => by
    have v1 := h.rng
    have n1 := nN_ v1.1
    omega
  intro d
  induction d with
  | zero => intro t h; exact h
  | succ d ih =>
    intro t h
    obtain ⟨r1, r2, r3, r4⟩ := hr _ (nrow h)
    obtain ⟨v1, v2, v3, v4, v5⟩ := h
    refine ⟨v1, by rw [r1]; exact v2, ?_, ?_, ?_⟩
    · rw [r1, r2]
      exact fun h6 => ih _ (v3 h6)
    · rw [r1, r2]
      exact v4
    · rw [r1, r3]
      intro h8
      obtain ⟨w1, w2, w3⟩ := v5 h8
      have sub : ∀ k : Nat, (k : Int) < (M t.toNatClampNeg).toInt → S' (B (4 * t.toNatClampNeg + k)).toNatClampNeg = S (B (4 * t.toNatClampNeg + k)).toNatClampNeg := fun k hk => (hr _ (nrow (w2 k hk).1)).1
      refine ⟨w1, fun k hk => ?_, fun j k hjk hk => ?_⟩
      · rw [r4 k (by omega), sub k hk]
        exact ⟨ih _ (w2 k hk).1, (w2 k hk).2⟩
      · rw [r4 k (by omega), r4 j (by omega), sub k hk, sub j (by omega)]
        exact w3 j k hjk hk
theorem IB.fv {τ b : ST} (h : IB τ) (hF : FV 6 400 36 τ b) : IB b := by
  obtain ⟨⟨p1, p2, p3⟩, h2, h3, h4, h5, h6, h7, h8, h9, h10⟩ := h
  obtain ⟨f1, f2, f3, f4, f5, f6, f7, f8⟩ := hF
  have e32 := f2 32 (by decide)
  refine ⟨⟨by rw [e32]; exact p1, ?_, f8.1 p3⟩, ?_, ?_, ?_, ?_, ?_, ?_, ?_, ?_, ?_⟩
  · rw [e32]
    intro p hp
    have p6 := p1.2
    rw [f5 p (by omega)]
    obtain ⟨a1, a2⟩ := p2 p hp
    refine ⟨a1, fun k hk => ?_⟩
    rw [f6 (6 * p + k) (by omega)]
    obtain ⟨c1, c2⟩ := a2 k hk
    have c3 := c1.2
    refine ⟨c1, fun j hj => ?_⟩
    rw [(f7 _ (by omega)).1]
    refine VT.ex (fun q hq => ?_) _ _ (c2 j hj)
    have e := f3 q (by omega)
    exact ⟨e.1, e.2.1, e.2.2, fun w hw => f4 _ (by omega)⟩
  · unfold PB
    rw [f1 35 (by decide)]
    exact h2
  · rw [f1 32 (by decide), e32]
    exact h3
  · rw [f1 33 (by decide)]
    exact h4
  · rw [f1 38 (by decide)]
    exact h5
  · rw [f2 68 (by decide)]
    exact h6
  · rw [f2 73 (by decide)]
    exact h7
  · rw [f2 83 (by decide)]
    exact h8
  · rw [f2 92 (by decide)]
    exact h9
  · unfold TH
    rw [f1 45 (by decide)]
    exact h10
/-- the messages are gone -/
def P80 (z y : ST) : Prop := y.2.1 = z.2.1 ∧ (∀ c, c ∉ [0, 32] → y.1 c = z.1 c) ∧ (∀ i, i ∉ [73, 81, 92, 93, 94] → y.1 0 i = z.1 0 i) ∧ (∀ i, i < 4 → y.1 32 i = -1) ∧ (y.1 0 73 = 0 ∧ y.1 0 92 = 0)
theorem b_plans_80 (z : ST) : ∀ (f i : Nat) (x3 : Int32) (σ : ST), 4 < f + i → i ≤ 4 → x3.toInt = i → (∀ c, c ≠ 32 → σ.1 c = z.1 c) → σ.2.1 = z.2.1 → (∀ j, j < i → σ.1 32 j = -1) → OK (f_X11_plans_80 f x3 σ) (fun y => y.2 = 0 ∧ P80 z y.1.2) := by
  intro f
  have l1 := li_1
  have l4 := li_4
  induction f with
  | zero => intro i x3 σ h1 h2; omega
  | succ f ih =>
    intro i x3 σ hf hi h3 hC hL hD
    rw [f_X11_plans_80]
    refine OK.ile (fun h => ?_) (fun h => ?_)
    · refine OK.ret ⟨rfl, hL, fun c hc => ?_, fun j hj => ?_, fun j hj => ?_, rfl, rfl⟩
      · simp only [List.mem_cons, List.not_mem_nil, or_false, not_or] at hc
        show (stI (stI (stI (stI (stI σ 0 73 0) 0 81 0) 0 92 0) 0 93 0) 0 94 0).1 c = _
        rw [stI_ne hc.1, stI_ne hc.1, stI_ne hc.1, stI_ne hc.1, stI_ne hc.1]
        exact hC c hc.2
      · simp only [List.mem_cons, List.not_mem_nil, or_false, not_or] at hj
        show upd (upd (upd (upd (upd (σ.1 0) 73 0) 81 0) 92 0) 93 0) 94 0 j = _
        rw [upd_no hj.2.2.2.2, upd_no hj.2.2.2.1, upd_no hj.2.2.1, upd_no hj.2.1, upd_no hj.1, hC 0 (by decide)]
      · exact hD j (by omega)
    · have n3 : x3.toNatClampNeg = i := nC h3
      have ex := il_addE (x := x3) (y := 1) (by omega) (by omega)
      refine OK.grd ⟨by omega, by omega⟩ ?_
      rw [n3]
      refine ih (i + 1) (x3 + 1) _ (by omega) (by omega) (by omega) (fun c hc => by rw [stI_ne hc]; exact hC c hc) hL (fun j hj => ?_)
      have e9 : (stI σ 32 i (-1)).1 32 = upd (σ.1 32) i (-1) := rfl
      by_cases e : j = i
      · subst e
        rw [e9, upd_at]
      · rw [e9, upd_no e]
        exact hD j (by omega)
/-- what the reference takes over of its draft -/
def Y6 (t : Nat) (b y : ST) : Prop := (∀ p, p < 6 → y.1 8 p = b.1 8 (6 + p)) ∧ (∀ i, i < 36 → y.1 11 i = b.1 11 (36 + i) ∧ y.1 10 i = b.1 10 (36 + i) ∧ y.2.1 9 i = b.2.1 9 (36 + i)) ∧ (∀ i, i < 288 → y.1 15 i = mv (b.1 15 (288 + i)) ∧ y.1 16 i = vp_nar .boolean (b.1 16 (288 + i)) ∧ TF b y i (288 + i)) ∧ ∀ q, 400 + q < t → RW1 b y q ∧ ∀ w : Nat, (w : Int) < (b.1 4 (400 + q)).toInt → y.1 5 (4 * q + w) = mv (b.1 5 (4 * (400 + q) + w))
/-- what holds in the reference stays -/
def KR (s y : ST) : Prop := (∀ p, p < 6 → y.1 8 p = s.1 8 p) ∧ (∀ i, i < 36 → y.1 11 i = s.1 11 i ∧ y.1 10 i = s.1 10 i ∧ y.2.1 9 i = s.2.1 9 i) ∧ (∀ i, i < 288 → y.1 15 i = s.1 15 i ∧ y.1 16 i = s.1 16 i ∧ TF s y i i) ∧ (∀ q, q < 400 → y.1 2 q = s.1 2 q ∧ y.1 3 q = s.1 3 q ∧ y.1 4 q = s.1 4 q) ∧ ∀ q, q < 1600 → y.1 5 q = s.1 5 q
theorem TF.rf {s : ST} {i : Nat} : TF s s i i := ⟨rfl, rfl, rfl, rfl, rfl, rfl⟩
theorem TF.trans {s a b : ST} {i j : Nat} (h : TF s a j j) (k : TF a b i j) : TF s b i j := ⟨k.1.trans h.1, k.2.1.trans h.2.1, k.2.2.1.trans h.2.2.1, k.2.2.2.1.trans h.2.2.2.1, k.2.2.2.2.1.trans h.2.2.2.2.1, k.2.2.2.2.2.trans h.2.2.2.2.2⟩
theorem KR.rf {s : ST} : KR s s := ⟨fun _ _ => rfl, fun _ _ => ⟨rfl, rfl, rfl⟩, fun _ _ => ⟨rfl, rfl, TF.rf⟩, fun _ _ => ⟨rfl, rfl, rfl⟩, fun _ _ => rfl⟩
theorem KR.trans {s a b : ST} (h : KR s a) (k : KR a b) : KR s b := ⟨fun p hp => (k.1 p hp).trans (h.1 p hp), fun i hi => by
  have x := h.2.1 i hi
  have y := k.2.1 i hi
  exact ⟨y.1.trans x.1, y.2.1.trans x.2.1, y.2.2.trans x.2.2⟩, fun i hi => by
  have x := h.2.2.1 i hi
  have y := k.2.2.1 i hi
  exact ⟨y.1.trans x.1, y.2.1.trans x.2.1, x.2.2.trans y.2.2⟩, fun i hi => by
  have x := h.2.2.2.1 i hi
  have y := k.2.2.2.1 i hi
  exact ⟨y.1.trans x.1, y.2.1.trans x.2.1, y.2.2.trans x.2.2⟩, fun i hi => (k.2.2.2.2 i hi).trans (h.2.2.2.2 i hi)⟩
theorem FV.kr {τ b : ST} (h : FV 6 400 36 τ b) : KR τ b := by
  obtain ⟨f1, f2, f3, f4, f5, f6, f7, f8, f9, f10⟩ := h
  exact ⟨fun p hp => f5 p hp, fun i hi => ⟨f6 i hi, f9 i hi, f10.1 i hi⟩, fun i hi => by
    have x := f7 i (by omega)
    have y := f10.2 i (by omega)
    exact ⟨x.1, x.2.2.1, x.2.1, x.2.2.2, y.1, y.2.1, y.2.2.1, y.2.2.2⟩, fun q hq => f3 q hq, fun q hq => f4 q (by omega)⟩
theorem KR.eq {s y : ST} (h1 : ∀ c, c ∈ [2, 3, 4, 5, 8, 10, 11, 13, 15, 16, 19] → y.1 c = s.1 c) (h2 : ∀ c, c ∈ [9, 12, 14, 17, 18] → y.2.1 c = s.2.1 c) : KR s y := by
  unfold KR TF
  rw [h1 2 (by decide), h1 3 (by decide), h1 4 (by decide), h1 5 (by decide), h1 8 (by decide), h1 10 (by decide), h1 11 (by decide), h1 13 (by decide), h1 15 (by decide), h1 16 (by decide), h1 19 (by decide), h2 9 (by decide), h2 12 (by decide), h2 14 (by decide), h2 17 (by decide), h2 18 (by decide)]
  exact ⟨fun _ _ => rfl, fun _ _ => ⟨rfl, rfl, rfl⟩, fun _ _ => ⟨rfl, rfl, rfl, rfl, rfl, rfl, rfl, rfl⟩, fun _ _ => ⟨rfl, rfl, rfl⟩, fun _ _ => rfl⟩
/-- along the branches of an either, the class's -/
def chn (N : Nat → Int32) (x : Int32) : Nat → Int32
  | 0 => x
  | k + 1 => N (chn N x k).toNatClampNeg
/-- one type: the class's x, the reference's y -/
def TYR (n : Int) (SA IA NA SB AB MB BB : Nat → Int32) (p : Nat) (rm : Int) : Nat → Int32 → Int32 → Prop
  | 0, _, _ => False
  | d + 1, x, y => ((0 ≤ x.toInt ∧ x.toInt < n) ∧ (0 ≤ y.toInt ∧ y.toInt < 400)) ∧ SA x.toNatClampNeg = SB y.toNatClampNeg ∧ (0 ≤ (SB y.toNatClampNeg).toInt ∧ (SB y.toNatClampNeg).toInt ≤ 8) ∧
    ((SB y.toNatClampNeg).toInt = 6 → TYR n SA IA NA SB AB MB BB p rm d (IA x.toNatClampNeg) (AB y.toNatClampNeg)) ∧
    ((SB y.toNatClampNeg).toInt = 7 → (0 ≤ (AB y.toNatClampNeg).toInt ∧ (AB y.toNatClampNeg).toInt < rm) ∧ (IA x.toNatClampNeg).toInt = 6 * (p : Int) + (AB y.toNatClampNeg).toInt) ∧
    (¬ (SB y.toNatClampNeg).toInt = 8 → (MB y.toNatClampNeg).toInt = 0) ∧
    ((SB y.toNatClampNeg).toInt = 8 → (1 ≤ (MB y.toNatClampNeg).toInt ∧ (MB y.toNatClampNeg).toInt ≤ 4) ∧
      (∀ k : Nat, (k : Int) < (MB y.toNatClampNeg).toInt → TYR n SA IA NA SB AB MB BB p rm d (chn NA (IA x.toNatClampNeg) k) (BB (4 * y.toNatClampNeg + k)) ∧ ¬ (SB (BB (4 * y.toNatClampNeg + k)).toNatClampNeg).toInt = 8) ∧
      (chn NA (IA x.toNatClampNeg) (MB y.toNatClampNeg).toInt.toNat).toInt = -1 ∧
      (∀ j k : Nat, j < k → (k : Int) < (MB y.toNatClampNeg).toInt → ¬ (SB (BB (4 * y.toNatClampNeg + j)).toNatClampNeg).toInt = (SB (BB (4 * y.toNatClampNeg + k)).toNatClampNeg).toInt))
theorem TYR.rng {n : Int} {SA IA NA SB AB MB BB : Nat → Int32} {p : Nat} {rm : Int} {d : Nat} {x y : Int32} (h : TYR n SA IA NA SB AB MB BB p rm d x y) : (0 ≤ x.toInt ∧ x.toInt < n) ∧ 0 ≤ y.toInt ∧ y.toInt < 400 := by
  cases d with
  | zero => exact h.elim
  | succ d => exact h.1
theorem TYR.mk {p lo hi : Nat} {n rm : Int} {σ b y : ST} (h400 : 400 ≤ lo) (h650 : hi ≤ 650) (hn : (hi : Int) + p + 1 - 400 ≤ n) (hR : RSD p lo hi rm σ b) (hX : RX (p + 1) lo hi σ b) (hy : ∀ q, 400 + q < hi → RW1 b y q ∧ ∀ w : Nat, (w : Int) < (b.1 4 (400 + q)).toInt → y.1 5 (4 * q + w) = mv (b.1 5 (4 * (400 + q) + w))) : ∀ (d : Nat) (t x : Int32), VD lo hi (b.1 2) (b.1 3) (b.1 4) (b.1 5) d t → x.toInt = t.toInt + p + 1 - 400 → TYR n (σ.1 31) (σ.1 32) (σ.1 33) (y.1 2) (y.1 3) (y.1 4) (y.1 5) p rm d x (mv t) := by
  intro d
  induction d with
  | zero => intro t x h; exact h.elim
  | succ d ih =>
    intro t x h hx
    obtain ⟨v1, v2, v3, v4⟩ := h
    have mp := mv_pos (x := t) (by omega)
    obtain ⟨q, eq⟩ : ∃ q : Nat, t.toInt = 400 + (q : Int) := ⟨(t.toInt - 400).toNat, by omega⟩
    have et : t.toNatClampNeg = 400 + q := nC (by omega)
    have em : (mv t).toNatClampNeg = q := nC (by omega)
    have ex : x.toNatClampNeg = 400 + q + (p + 1) - 400 := nC (by omega)
    rw [et] at v2 v3 v4
    obtain ⟨r1, r2, r3, r4⟩ := hR (400 + q) (by omega) (by omega)
    obtain ⟨x1, x2, x3⟩ := hX (400 + q) (by omega) (by omega)
    obtain ⟨⟨w1, w2, w3, w4⟩, w5⟩ := hy q (by omega)
    have z8 : (b.1 2 (400 + q)).toInt = 8 → ∀ k : Nat, (k : Int) < (b.1 4 (400 + q)).toInt → (chn (σ.1 33) (σ.1 32 (400 + q + (p + 1) - 400)) k).toInt = (b.1 5 (4 * (400 + q) + k)).toInt + p + 1 - 400 := by
      intro h8 k
      induction k with
      | zero =>
        intro hk
        have := r2 h8
        show (σ.1 32 (400 + q + (p + 1) - 400)).toInt = (b.1 5 (4 * (400 + q))).toInt + p + 1 - 400
        omega
      | succ k ik =>
        intro hk
        have i1 := ik (by omega)
        obtain ⟨⟨y1, y2⟩, y3, _⟩ := x3 h8 k (by omega)
        have n9 := nN_ (x := b.1 5 (4 * (400 + q) + k)) (by omega)
        have e9 : (chn (σ.1 33) (σ.1 32 (400 + q + (p + 1) - 400)) k).toNatClampNeg = (b.1 5 (4 * (400 + q) + k)).toNatClampNeg + (p + 1) - 400 := nC (by omega)
        show (σ.1 33 (chn (σ.1 33) (σ.1 32 (400 + q + (p + 1) - 400)) k).toNatClampNeg).toInt = _
        rw [e9, y3 (by omega)]
        show (b.1 5 (4 * (400 + q) + k + 1)).toInt + ((p + 1 : Nat) : Int) - 400 = (b.1 5 (4 * (400 + q) + k + 1)).toInt + p + 1 - 400
        omega
    have sub : ∀ {t' : Int32}, VD lo hi (b.1 2) (b.1 3) (b.1 4) (b.1 5) d t' → y.1 2 (mv t').toNatClampNeg = b.1 2 t'.toNatClampNeg := fun {t'} h => by
      have r := h.rng
      have mp := mv_pos (x := t') (by omega)
      obtain ⟨q', eq'⟩ : ∃ q : Nat, t'.toInt = 400 + (q : Int) := ⟨(t'.toInt - 400).toNat, by omega⟩
      have et' : t'.toNatClampNeg = 400 + q' := nC (by omega)
      have em' : (mv t').toNatClampNeg = q' := nC (by omega)
      rw [et', em']
      exact (hy q' (by omega)).1.1
    refine ⟨⟨by omega, by omega⟩, ?_, ?_, ?_, ?_, ?_, ?_⟩
    · rw [ex, em, w1]
      exact r1
    · rw [em, w1]
      exact v2
    · rw [em, ex, w1]
      intro h6
      rw [w2 h6]
      have := x1 h6
      exact ih _ _ (v3 h6) (by omega)
    · rw [em, ex, w1]
      intro h7
      rw [w3 (by omega)]
      exact r3 h7
    · rw [em, w1, w4]
      exact x2
    · rw [em, ex, w1]
      intro h8
      obtain ⟨u1, u2, u3⟩ := v4 h8
      rw [w4]
      refine ⟨u1, fun k hk => ⟨?_, ?_⟩, ?_, fun j k hjk hk => ?_⟩
      · rw [w5 k hk]
        exact ih _ _ (u2 k hk).1 (z8 h8 k hk)
      · rw [w5 k hk, sub (u2 k hk).1]
        exact (u2 k hk).2
      · obtain ⟨m, hm⟩ : ∃ m : Nat, (b.1 4 (400 + q)).toInt = (m : Int) + 1 := ⟨((b.1 4 (400 + q)).toInt - 1).toNat, by omega⟩
        have e1 : (b.1 4 (400 + q)).toInt.toNat = m + 1 := by omega
        have i1 := z8 h8 m (by omega)
        obtain ⟨⟨y1, y2⟩, _, y4⟩ := x3 h8 m (by omega)
        have n9 := nN_ (x := b.1 5 (4 * (400 + q) + m)) (by omega)
        have e9 : (chn (σ.1 33) (σ.1 32 (400 + q + (p + 1) - 400)) m).toNatClampNeg = (b.1 5 (4 * (400 + q) + m)).toNatClampNeg + (p + 1) - 400 := nC (by omega)
        rw [e1]
        show (σ.1 33 (chn (σ.1 33) (σ.1 32 (400 + q + (p + 1) - 400)) m).toNatClampNeg).toInt = _
        rw [e9]
        exact y4 (by omega)
      · rw [w5 j (by omega), w5 k hk, sub (u2 j (by omega)).1, sub (u2 k hk).1]
        exact u3 j k hjk hk
theorem TYR.ext {n n' : Int} {SA IA NA SB AB MB BB SA' IA' NA' SB' AB' MB' BB' : Nat → Int32} {p : Nat} {rm : Int} (hn : n ≤ n') (ha : ∀ i : Nat, (i : Int) < n → SA' i = SA i ∧ IA' i = IA i ∧ NA' i = NA i) (hb : ∀ q : Nat, q < 400 → SB' q = SB q ∧ AB' q = AB q ∧ MB' q = MB q ∧ ∀ w, w < 4 → BB' (4 * q + w) = BB (4 * q + w)) : ∀ (d : Nat) (x y : Int32), TYR n SA IA NA SB AB MB BB p rm d x y → TYR n' SA' IA' NA' SB' AB' MB' BB' p rm d x y := by
  intro d
  induction d with
  | zero => intro x y h; exact h.elim
  | succ d ih =>
    intro x y h
    obtain ⟨⟨h1, h2⟩, h3, h4, h5, h6, h7, h8⟩ := h
    have nx := nN_ h1.1
    have ny := nN_ h2.1
    obtain ⟨a1, a2, a3⟩ := ha x.toNatClampNeg (by omega)
    obtain ⟨b1, b2, b3, b4⟩ := hb y.toNatClampNeg (by omega)
    refine ⟨⟨by omega, h2⟩, by rw [a1, b1]; exact h3, by rw [b1]; exact h4, ?_, ?_, ?_, ?_⟩
    · rw [b1, a2, b2]
      exact fun e => ih _ _ (h5 e)
    · rw [b1, a2, b2]
      exact h6
    · rw [b1, b3]
      exact h7
    · rw [b1, a2, b3]
      intro e
      obtain ⟨u1, u2, u3, u4⟩ := h8 e
      have ch : ∀ k : Nat, (k : Int) ≤ (MB y.toNatClampNeg).toInt → chn NA' (IA x.toNatClampNeg) k = chn NA (IA x.toNatClampNeg) k := by
        intro k
        induction k with
        | zero => intro _; rfl
        | succ k ik =>
          intro hk
          have r := (u2 k (by omega)).1.rng
          have n9 := nN_ r.1.1
          show NA' (chn NA' (IA x.toNatClampNeg) k).toNatClampNeg = NA (chn NA (IA x.toNatClampNeg) k).toNatClampNeg
          rw [ik (by omega)]
          exact (ha _ (by omega)).2.2
      have sb : ∀ k : Nat, (k : Int) < (MB y.toNatClampNeg).toInt → BB' (4 * y.toNatClampNeg + k) = BB (4 * y.toNatClampNeg + k) ∧ SB' (BB (4 * y.toNatClampNeg + k)).toNatClampNeg = SB (BB (4 * y.toNatClampNeg + k)).toNatClampNeg := fun k hk => by
        have r := (u2 k hk).1.rng
        have n9 := nN_ r.2.1
        exact ⟨b4 k (by omega), (hb _ (by omega)).1⟩
      refine ⟨u1, fun k hk => ?_, ?_, fun j k hjk hk => ?_⟩
      · rw [ch k (by omega), (sb k hk).1, (sb k hk).2]
        exact ⟨ih _ _ (u2 k hk).1, (u2 k hk).2⟩
      · rw [ch _ (by omega)]
        exact u3
      · rw [(sb k hk).1, (sb k hk).2, (sb j (by omega)).1, (sb j (by omega)).2]
        exact u4 j k hjk hk
/-- one field that holds: of both, at N -/
def FLH (b p : Nat) (rm : Int) (N : Nat) (σ τ : ST) : Prop := (WL (σ.2.1 (b + 7) N) (τ.2.1 12 N) ∧ RLEN (σ.2.1 (b + 7) N) (τ.1 13 N)) ∧ FMR (σ.2.1 (b + 8) N) (τ.2.1 14 N) ∧ TYR (σ.1 b 1).toInt (σ.1 (b + 11)) (σ.1 (b + 12)) (σ.1 (b + 13)) (τ.1 2) (τ.1 3) (τ.1 4) (τ.1 5) p rm 4 (σ.1 (b + 9) N) (τ.1 15 N) ∧ ((τ.1 16 N).toInt = 0 ∨ (τ.1 16 N).toInt = 1 ∧ EWF (FCS (τ.1 2) (τ.1 5) (τ.1 15 N)) (σ.2.1 (b + 10) N) (τ.2.1 17 N) (τ.2.1 18 N) (τ.1 19 N))
/-- which fields of a record that holds have an else -/
def ELH (b r m : Nat) (σ τ : ST) : Prop := ∃ w : Nat, w < 512 ∧ σ.1 (b + 5) r = Int32.ofNat w ∧ ∀ i : Nat, i < 9 → (w.testBit i = true ↔ i < m ∧ (τ.1 16 (8 * r + i)).toInt = 1)
/-- a plan that holds, of both; the class's at b -/
def PHB (b p : Nat) (σ τ : ST) : Prop := (σ.1 (b + 1) p = τ.1 8 p ∧ (1 ≤ (τ.1 8 p).toInt ∧ (τ.1 8 p).toInt ≤ 6)) ∧ ((0 ≤ (σ.1 (b + 2) p).toInt ∧ (σ.1 (b + 2) p).toInt < (σ.1 b 1).toInt) ∧ (σ.1 (b + 11) (σ.1 (b + 2) p).toNatClampNeg).toInt = 7 ∧ (σ.1 (b + 12) (σ.1 (b + 2) p).toNatClampNeg).toInt = 6 * (p : Int)) ∧ (σ.1 b 1).toInt ≤ 262 ∧ ∀ i : Nat, (i : Int) < (τ.1 8 p).toInt → (WL (σ.2.1 (b + 4) (6 * p + i)) (τ.2.1 9 (6 * p + i)) ∧ DNM (σ.2.1 (b + 4)) (6 * p) i) ∧ RLEN (σ.2.1 (b + 4) (6 * p + i)) (τ.1 10 (6 * p + i)) ∧ (σ.1 (b + 3) (6 * p + i) = τ.1 11 (6 * p + i) ∧ bI (τ.1 11 (6 * p + i)) 0 8) ∧ ELH b (6 * p + i) (τ.1 11 (6 * p + i)).toInt.toNat σ τ ∧ ∀ j : Nat, (j : Int) < (τ.1 11 (6 * p + i)).toInt → FLH b p (τ.1 8 p).toInt (8 * (6 * p + i) + j) σ τ
theorem bool01 {v : Int32} : (v.toInt = 0 → (vp_nar .boolean v).toInt = 0) ∧ (v.toInt = 1 → (vp_nar .boolean v).toInt = 1) := by
  refine ⟨fun h => ?_, fun h => ?_⟩
  · have e : v = 0 := Int32.toInt_inj.mp (h.trans li_0.symm)
    rw [e]
    decide
  · have e : v = 1 := Int32.toInt_inj.mp (h.trans li_1.symm)
    rw [e]
    decide
theorem FCSmv {p lo hi : Nat} {rm : Int} {σ b y : ST} (h400 : 400 ≤ lo) (h650 : hi ≤ 650) (hy : ∀ q, 400 + q < hi → RW1 b y q ∧ ∀ w : Nat, (w : Int) < (b.1 4 (400 + q)).toInt → y.1 5 (4 * q + w) = mv (b.1 5 (4 * (400 + q) + w))) {t : Int32} {d : Nat} (h : VD lo hi (b.1 2) (b.1 3) (b.1 4) (b.1 5) d t) : FCS (y.1 2) (y.1 5) (mv t) = FCS (b.1 2) (b.1 5) t := by
  have rw_ : ∀ {t' : Int32}, lo ≤ t'.toInt ∧ t'.toInt < hi → y.1 2 (mv t').toNatClampNeg = b.1 2 t'.toNatClampNeg ∧ t'.toNatClampNeg = 400 + (mv t').toNatClampNeg ∧ 400 + (mv t').toNatClampNeg < hi := fun {t'} r => by
    have mp := mv_pos (x := t') (by omega)
    obtain ⟨q', eq'⟩ : ∃ q : Nat, t'.toInt = 400 + (q : Int) := ⟨(t'.toInt - 400).toNat, by omega⟩
    have et' : t'.toNatClampNeg = 400 + q' := nC (by omega)
    have em' : (mv t').toNatClampNeg = q' := nC (by omega)
    rw [et', em']
    exact ⟨(hy q' (by omega)).1.1, rfl, by omega⟩
  have r := h.rng
  obtain ⟨e1, e2, e3⟩ := rw_ r
  have hf := h.first
  have hM : (b.1 2 t.toNatClampNeg).toInt = 8 → 1 ≤ (b.1 4 t.toNatClampNeg).toInt := by
    cases d with
    | zero => exact h.elim
    | succ d =>
      intro h8
      exact (h.2.2.2 h8).1.1
  unfold FCS
  rw [e1]
  by_cases h8 : (b.1 2 t.toNatClampNeg).toInt = 8
  · rw [if_pos h8, if_pos h8]
    have r2 := hf h8
    have m1 := hM h8
    obtain ⟨y1, _, _⟩ := rw_ r2
    have w5 := (hy (mv t).toNatClampNeg e3).2 0 (by rw [← e2]; omega)
    rw [← e2] at w5
    have w5 : y.1 5 (4 * (mv t).toNatClampNeg) = mv (b.1 5 (4 * t.toNatClampNeg)) := w5
    rw [w5, y1]
  · rw [if_neg h8, if_neg h8]
theorem FPA.phb {p t t' : Nat} {σ b y : ST} (h : FPA p t σ b) (hp : p < 6) (hy : Y6 t' b y) (ht : t ≤ t') (hn : (t : Int) + p + 1 - 400 ≤ (σ.1 20 1).toInt) (hn2 : (σ.1 20 1).toInt ≤ 262) : PHB 20 p σ y := by
  obtain ⟨lo, hi, h1, ⟨h2, h3⟩, ⟨h4, h5, h6⟩, h7, h8, h9⟩ := h
  obtain ⟨y1, y2, y3, y4⟩ := hy
  have e8 := y1 p hp
  have yr : ∀ q, 400 + q < hi → RW1 b y q ∧ ∀ w : Nat, (w : Int) < (b.1 4 (400 + q)).toInt → y.1 5 (4 * q + w) = mv (b.1 5 (4 * (400 + q) + w)) := fun q hq => y4 q (by omega)
  have h2' : (σ.1 21 p).toInt = (b.1 8 (6 + p)).toInt := by rw [h2]
  have er : (σ.1 22 p).toNatClampNeg = lo + p - 400 := nC (by omega)
  refine ⟨⟨by rw [e8]; exact h2, by rw [e8]; omega⟩, ⟨by show 0 ≤ (σ.1 22 p).toInt ∧ (σ.1 22 p).toInt < (σ.1 20 1).toInt; omega, by show (σ.1 31 (σ.1 22 p).toNatClampNeg).toInt = 7; rw [er]; exact h5, by show (σ.1 32 (σ.1 22 p).toNatClampNeg).toInt = _; rw [er]; exact h6⟩, hn2, fun i hi9 => ?_⟩
  rw [e8] at hi9 ⊢
  obtain ⟨x1, x2, ⟨x3, x4⟩, x5, x6⟩ := h9 i (by omega)
  obtain ⟨z1, z2, z3⟩ := y2 (6 * p + i) (by omega)
  have x7 := x4.2
  rw [z1, z2, z3]
  refine ⟨x1, x2, ⟨x3, x4⟩, ?_, fun j hj => ?_⟩
  · obtain ⟨w, w1, w2, w3⟩ := x5.1
    refine ⟨w, w1, w2, fun q hq => ?_⟩
    rw [w3 q hq]
    constructor
    · rintro ⟨a1, a2⟩
      have y9 := (y3 (8 * (6 * p + i) + q) (by omega)).2.1
      have e9 : 288 + (8 * (6 * p + i) + q) = 8 * (36 + (6 * p + i)) + q := by omega
      rw [y9, e9]
      exact ⟨a1, bool01.2 a2⟩
    · rintro ⟨a1, a2⟩
      have y9 := (y3 (8 * (6 * p + i) + q) (by omega)).2.1
      have e9 : 288 + (8 * (6 * p + i) + q) = 8 * (36 + (6 * p + i)) + q := by omega
      rw [y9, e9] at a2
      rcases (x5.2 q a1).2.2.2 with h0 | h0
      · rw [bool01.1 h0] at a2
        omega
      · exact ⟨a1, h0.1⟩
  · obtain ⟨f1, f2, ⟨f3, f4, f5⟩, f6⟩ := x5.2 j (by omega)
    obtain ⟨g1, g2, g3, g4, g5, g6, g7, g8⟩ := y3 (8 * (6 * p + i) + j) (by omega)
    have e9 : 288 + (8 * (6 * p + i) + j) = 8 * (36 + (6 * p + i)) + j := by omega
    rw [e9] at g1 g2 g3 g4 g5 g6 g7 g8
    have hv := x6 j hj
    unfold FLH
    rw [g1, g2, g3, g4, g5, g6, g7, g8, FCSmv (p := p) (rm := 0) (σ := σ) h1.1 (by omega) yr hv, ← h2']
    refine ⟨f1, f2, TYR.mk h1.1 (by omega) (by omega) h7 h8 yr 4 _ _ hv (by show (σ.1 29 _).toInt = _; omega), ?_⟩
    rcases f6 with h0 | h0
    · exact .inl (bool01.1 h0)
    · exact .inr ⟨bool01.2 h0.1, h0.2⟩
theorem b_plans_62 (b : ST) (P t : Nat) (hI : IB b) (hP : 1 ≤ P ∧ P ≤ 6) (h33 : (b.1 0 33).toInt = P) (h34 : (b.1 0 34).toInt = t) (ht : 400 ≤ t ∧ t ≤ 650) (hD : ∀ p, p < P → PLD p t b) (hM : M4 t b) : OK (f_X11_plans_62 1 b) (fun y => y.2 = 0 ∧ IB y.1.2 ∧ y.1.2.1 1 = b.1 1 ∧ y.1.2.1 0 2 = b.1 0 2 ∧ (y.1.2.1 0 32).toInt = P ∧ Y6 t b y.1.2) := by
  unfold f_X11_plans_62 f_X11_takes
  have lu := FUi
  have l0 := li_0
  have lm := li_m1
  rw [if_neg (by decide)]
  obtain ⟨⟨p1, p2, p3⟩, h2, h3, h4, h5, h6, h7, h8, h9, h10⟩ := hI
  have s9 : (stI b 0 32 (b.1 0 33)).1 0 = upd (b.1 0) 32 (b.1 0 33) := rfl
  have s1 : ∀ c, c ≠ 0 → (stI b 0 32 (b.1 0 33)).1 c = b.1 c := fun c hc => stI_ne hc
  have sL : (stI b 0 32 (b.1 0 33)).2.1 = b.2.1 := rfl
  generalize stI b 0 32 (b.1 0 33) = s at s9 s1 sL ⊢
  have s34 : (s.1 0 34).toInt = t := by rw [s9, upd_no (by decide)]; exact h34
  have sM : M4 t s := by
    unfold M4
    rw [s1 4 (by decide)]
    exact hM
  refine OK.bnd (b_takes_10 s t ht s34 sM FU 0 0 s (by omega) (by omega) l0 ⟨fun _ _ => rfl, ⟨fun i hi => by omega, fun _ _ => rfl⟩, ⟨fun i hi => by omega, fun _ _ => ⟨rfl, rfl, rfl⟩⟩, ⟨fun i hi => by omega, fun _ _ => ⟨rfl, rfl, TF.rf⟩⟩, by rw [s1 19 (by decide)]; exact p3⟩ ⟨fun q hq => by omega, fun _ _ => ⟨rfl, rfl, rfl⟩, fun _ _ => rfl⟩) (fun z hz => ?_)
  obtain ⟨⟨z1, z2, z3, z4, z5⟩, zR, _⟩ := hz
  refine (b_plans_80 z FU 0 0 z (by omega) (by omega) l0 (fun _ _ => rfl) rfl (fun j hj => by omega)).mono (fun y hy => ?_)
  obtain ⟨y0, yL, y1, y2, y3, y4, y5⟩ := hy
  have e32 : (y.1.2.1 0 32).toInt = P := by
    rw [y2 32 (by decide), z1 0 (by decide), s9, upd_at]
    exact h33
  have e0 : ∀ i, i ∉ [32, 73, 81, 92, 93, 94] → y.1.2.1 0 i = b.1 0 i := fun i hi => by
    simp only [List.mem_cons, List.not_mem_nil, or_false, not_or] at hi
    rw [y2 i (by simp only [List.mem_cons, List.not_mem_nil, or_false, not_or]; exact hi.2), z1 0 (by decide), s9, upd_no hi.1]
  have e1 : ∀ c, c ∉ [0, 2, 3, 4, 5, 8, 10, 11, 13, 15, 16, 19, 32] → y.1.2.1 c = b.1 c := fun c hc => by
    simp only [List.mem_cons, List.not_mem_nil, or_false, not_or] at hc
    rw [y1 c (by simp only [List.mem_cons, List.not_mem_nil, or_false, not_or]; omega), z1 c (by simp only [List.mem_cons, List.not_mem_nil, or_false, not_or]; omega), s1 c hc.1]
  refine ⟨y0, ⟨⟨⟨by omega, by omega⟩, ?_, ?_⟩, ?_, ?_, ?_, ?_, ?_, ?_, ?_, ?_, ?_⟩, e1 1 (by decide), e0 2 (by decide), e32, ?_⟩
  · rw [e32, y1 2 (by decide), y1 3 (by decide), y1 4 (by decide), y1 5 (by decide), y1 8 (by decide), y1 11 (by decide), y1 15 (by decide)]
    intro p hp
    obtain ⟨lo, hi, d1, d2, d3, d4⟩ := hD p (by omega)
    rw [z2.1 p (by omega), s1 8 (by decide)]
    refine ⟨d2, fun k hk => ?_⟩
    rw [(z3.1 (6 * p + k) (by omega)).1, s1 11 (by decide)]
    obtain ⟨c1, c2⟩ := d3 k hk
    have c3 := c1.2
    refine ⟨c1, fun j hj => ?_⟩
    have ej : 288 + (8 * (6 * p + k) + j) = 8 * (36 + (6 * p + k)) + j := by omega
    rw [(z4.1 (8 * (6 * p + k) + j) (by omega)).1, s1 15 (by decide), ej]
    refine VT.wk (hi := (hi : Int) - 400) (by omega) ?_
    refine VDmv (lo := lo) (hi := hi) (by omega) (fun q hq1 hq2 => ?_) (fun q hq1 hq2 => d4 q (by omega) (by omega)) 4 _ (c2 j hj)
    obtain ⟨⟨r1, r2, r3, r4⟩, r5⟩ := zR q (by omega)
    rw [s1 2 (by decide), s1 3 (by decide)] at r2 r3
    rw [s1 2 (by decide)] at r1
    rw [s1 4 (by decide)] at r4 r5
    rw [s1 5 (by decide)] at r5
    exact ⟨r1, r2, r3, r4, r5⟩
  · rw [y1 19 (by decide)]
    exact z5
  · unfold PB
    rw [e1 35 (by decide)]
    exact h2
  · intro i hi
    rw [y3 i hi, e32, lm]
    omega
  · rw [e1 33 (by decide)]
    exact h4
  · rw [e1 38 (by decide)]
    exact h5
  · rw [e0 68 (by decide)]
    exact h6
  · rw [y4]
    unfold bI
    omega
  · rw [e0 83 (by decide)]
    exact h8
  · rw [y5]
    unfold bI
    omega
  · unfold TH
    rw [e1 45 (by decide)]
    exact h10
  · refine ⟨fun p hp => ?_, fun i hi => ?_, fun i hi => ?_, fun q hq => ?_⟩
    · rw [y1 8 (by decide), z2.1 p hp, s1 8 (by decide)]
    · have e := z3.1 i hi
      rw [y1 11 (by decide), y1 10 (by decide), yL, e.1, e.2.1, e.2.2, s1 11 (by decide), s1 10 (by decide), sL]
      exact ⟨rfl, rfl, rfl⟩
    · have e := z4.1 i hi
      unfold TF at e ⊢
      rw [s1 15 (by decide), s1 16 (by decide), s1 13 (by decide), s1 19 (by decide), sL] at e
      rw [y1 15 (by decide), y1 16 (by decide), y1 13 (by decide), y1 19 (by decide), yL]
      exact e
    · have e := zR q (by omega)
      unfold RW1 at e ⊢
      rw [s1 2 (by decide), s1 3 (by decide), s1 4 (by decide), s1 5 (by decide)] at e
      rw [y1 2 (by decide), y1 3 (by decide), y1 4 (by decide), y1 5 (by decide)]
      exact e
/-! plans: both take the same text -/
theorem ab_plans_loop (τ0 : ST) (hI : IB τ0) : ∀ (g k t : Nat) (σ0 τ : ST) (A : Option (Int32 × ST)) (v : Int32) (b : ST) (x : Nat), 8 < g + k → k ≤ 6 → FV 6 400 36 τ0 τ → (∀ p, p < k → PLD p t τ) → (∀ p, p < k → FPA p t σ0 τ) → M4 t τ → (τ.1 0 33).toInt = k → 400 ≤ t → PLO (k + 1) t k σ0 τ A ((v, b), x) → (v.toInt = 1 → k < 6 ∧ x + 40 * uT b ≤ 40 * uT τ) → OK (f_X11_plans_43 g v b) (fun y => x + y.2 ≤ 40 * uT τ + 30 ∧ IB y.1.2 ∧ y.1.2.1 1 = τ0.1 1 ∧ y.1.2.1 0 2 = τ0.1 0 2 ∧ OK A (fun qa => (qa.1.toInt = 0 ∧ y.1.2.1 0 32 = τ0.1 0 32 ∧ KR τ0 y.1.2) ∨ (qa.1.toInt = 1 ∧ (y.1.2.1 0 32).toInt = (qa.2.1 20 0).toInt ∧ ∀ p : Nat, (p : Int) < (qa.2.1 20 0).toInt → PHB 20 p qa.2 y.1.2))) := by
  intro g
  have l0 := li_0
  have l1 := li_1
  induction g with
  | zero => intro k t σ0 τ A v b x h1 h2; omega
  | succ g ih =>
    intro k t σ0 τ A v b x hg hk hF hD hE0 hM h33 ht hO hc
    obtain ⟨zF, hz⟩ := hO
    dsimp only at zF hz
    have zF0 : FV 6 400 36 τ0 b := hF.trans zF (by omega) ht (by omega)
    rw [f_X11_plans_43]
    rcases hz with ⟨z1, z2, z3⟩ | ⟨z1, ⟨t1, ⟨ht1, ht2⟩, hPk, h34, hMr, hE⟩, z33, z4⟩
    · refine OK.ieq (fun _ => ?_) (fun h => by omega)
      unfold f_X11_plans_62
      refine OK.ieq (fun _ => ?_) (fun h => by omega)
      exact OK.ret ⟨by show x + 0 ≤ _; omega, hI.fv zF0, zF0.1 1 (by decide), zF0.2.1 2 (by decide), z2.mono (fun qa h => .inl ⟨h, zF0.2.1 32 (by decide), zF0.kr⟩)⟩
    · obtain ⟨hk6, hc⟩ := hc z1
      refine OK.ieq (fun h => by omega) (fun _ => ?_)
      have e33 := il_addE (x := τ.1 0 33) (y := 1) (by omega) (by omega)
      have hz33 : (b.1 0 33).toInt = ((k + 1 : Nat) : Int) := by rw [z33]; omega
      have hD1 : ∀ p, p < k + 1 → PLD p t1 b := fun p hp => by
        by_cases e : p = k
        · rw [e]
          exact hPk
        · exact (hD p (by omega)).fv zF (Nat.le_refl _) ht1 (by omega) (by omega)
      have hM1 : M4 t1 b := fun q hq1 hq2 => by
        by_cases e : q < t
        · rw [(zF.2.2.1 q e).2.2]
          exact hM q hq1 e
        · exact hMr q (by omega) hq2
      rcases hE with ⟨h0, hA⟩ | ⟨n, xk, x2, σ, hW, eA, hX, hxk, hcA, hat, hx2, hn, hP0, hQ0⟩
      · refine OK.ieq (fun _ => ?_) (fun h => by omega)
        have ez : v = 1 := Int32.toInt_inj.mp (by omega)
        rw [ez]
        refine (b_plans_62 b (k + 1) t1 (hI.fv zF0) (by omega) hz33 h34 (by omega) hD1 hM1).mono (fun y hy => ?_)
        obtain ⟨y0, y1, y2, y3, y4, y5⟩ := hy
        refine ⟨by omega, y1, y2.trans (zF0.1 1 (by decide)), y3.trans (zF0.2.1 2 (by decide)), hA.mono (fun qa h => .inr ⟨h.1, by rw [y4, h.2.1], fun p hp => ?_⟩)⟩
        have hp9 : p < k + 1 := by have := h.2.1; omega
        have hf : FPA p t1 qa.2 b := by
          by_cases e : p = k
          · rw [e]
            exact h.2.2.2.2
          · exact (hE0 p (by omega)).keep (by omega) h.2.2.2.1 zF (Nat.le_refl _) ht1 (by omega)
        have h3 := h.2.2.1
        exact hf.phb (by omega) y5 (Nat.le_refl _) (by omega) (by omega)
      · have w1 := hW.1
        refine OK.ieq (fun h => by omega) (fun _ => ?_)
        have hpl := ab_plan (k + 1) t1 n xk x2 σ b hX hW (by omega) hz33 h34 (by omega) (by omega) hat (by omega) (by omega) hn
        rw [← eA] at hpl
        have hE1 : ∀ p, p < k + 1 → FPA p t1 σ b := fun p hp => by
          by_cases e : p = k
          · rw [e]
            exact hQ0
          · exact (hE0 p (by omega)).keep (by omega) hP0 zF (Nat.le_refl _) ht1 (by omega)
        refine OK.bnd hpl (fun z' hz' => ?_)
        obtain ⟨⟨v', b'⟩, x'⟩ := z'
        obtain ⟨p1, p2⟩ := hz'
        refine OK.kac ?_
        refine (ih (k + 1) t1 σ b A v' b' x' (by omega) (by omega) zF0 hD1 hE1 hM1 hz33 (by omega) p1 p2).mono (fun y hy => ?_)
        obtain ⟨y0, y1⟩ := hy
        exact ⟨by show x + (x' + y.2) ≤ _; omega, y1⟩
theorem a_resolve_m1 (σ : ST) (hc : (σ.1 20 1).toInt = 0) : f_X3_resolve (-1) σ = some (1, σ) := by
  have lm := li_m1
  have l0 := li_0
  have ef : FU = 99999 + 1 := rfl
  have ef2 : (99999 : Nat) = 99998 + 1 := rfl
  have ei : f_X5_isType 20 (-1) σ = some (0, σ) := by
    unfold f_X5_isType
    rw [if_pos (by decide)]
  have ea : (-1 : Int32) + 1 = 0 := by decide
  unfold f_X3_resolve f_X5_resolve f_X5_rootType
  rw [if_pos (by decide), sbnd, ef, f_X5_resolve_6, if_neg (by rw [Int32.le_iff_toInt_le]; show ¬ (σ.1 20 1).toInt ≤ (-1 : Int32).toInt; omega), ei, sbnd]
  dsimp only
  rw [if_pos rfl]
  unfold f_X5_resolve_62
  rw [ea, ef2, f_X5_resolve_6, if_pos (by rw [Int32.le_iff_toInt_le]; omega), sbnd]
  dsimp only
  rw [if_pos rfl]
  rfl
theorem a_parse_top (σ τ : ST) (hK : TK σ τ) (hc : (σ.1 20 1).toInt = 0) : (W_ τ v_plan → f_X3_parse_11 FU (-1) 0 σ = NX 99999 (-1) 0 σ) ∧ (¬ W_ τ v_plan → OK (f_X3_parse_11 FU (-1) 0 σ) (fun q => q.1.toInt = 0)) := by
  have ef : FU = 99999 + 1 := rfl
  have e1 : kwV 0 = v_plan := rfl
  have hk := a_isKw 0 σ τ hK (k := 0) (by omega) li_0
  rw [e1] at hk
  have er : f_X5_recordsOf 20 (-1) σ = some (0, σ) := by
    unfold f_X5_recordsOf
    rw [if_pos (by decide)]
  have e0 : f_X3_parse_11 FU (-1) 0 σ = f_X3_parse_90 (f_X3_parse_11 99999) (-1) 0 0 σ := by
    rw [ef, f_X3_parse_11, if_neg (by decide), er, sbnd]
    dsimp only
    rw [if_pos (by decide)]
    unfold f_X3_parse_33 f_X3_parse_60 f_X3_parse_78 f_X3_parse_79
    rw [if_pos rfl, if_pos rfl, if_pos rfl, if_pos rfl]
  have n1 : ¬ (1 : Int32) = 0 := by decide
  refine ⟨fun hW => ?_, fun hW => ?_⟩
  · rw [e0]
    unfold f_X3_parse_90
    rw [hk.1 hW, sbnd]
    dsimp only
    rw [if_neg n1]
    unfold f_X3_parse_106 f_X3_parse_127
    rw [if_pos rfl, if_neg n1, a_resolve_m1 σ hc, sbnd]
    dsimp only
    rw [if_neg n1, if_pos rfl]
    rfl
  · rw [e0]
    unfold f_X3_parse_90
    rw [hk.2 hW, sbnd]
    dsimp only
    rw [if_pos rfl]
    unfold f_X3_parse_105 f_X3_parse_106
    rw [if_pos rfl, if_pos rfl]
    refine OK.bnd (a_refuse _ _) (fun q hq => ?_)
    exact OK.grd (b01 (.inl hq)) (OK.ret hq)
theorem ab_plans (p0 : Int32) (σ τ : ST) (h1 : σ.1 1 = τ.1 1) (hT8 : ∀ i, bI (τ.1 1 i) (-128) 127) (hkw : σ.2.1 3 = kw0) (hI : IB τ) (hp : 0 ≤ p0.toInt ∧ p0.toInt ≤ 1000) (s1 : ST) (e1 : f_X6_begin p0 σ = some s1) (r : Int32) (s2 : ST) (e2 : f_X3_parse s1 = some (r, s2)) : OK ((f_X11_begins p0 τ).bind fun q3 => (f_X11_plan (stI (stI q3 0 33 0) 0 34 400)).bind fun q5 => ac q5.2 (f_X11_plans_43 FU q5.1.1 q5.1.2)) (fun y => (y.2 : Int) ≤ 40 * p0.toInt + 80 ∧ IB y.1.2 ∧ y.1.2.1 1 = τ.1 1 ∧ y.1.2.1 0 2 = 0 ∧ ((r.toInt = 0 ∧ y.1.2.1 0 32 = τ.1 0 32 ∧ KR τ y.1.2) ∨ (¬ r.toInt = 0 ∧ (y.1.2.1 0 32).toInt = (s2.1 20 0).toInt ∧ ∀ p : Nat, (p : Int) < (s2.1 20 0).toInt → PHB 20 p s2 y.1.2))) := by
  have l0 := li_0
  have l1 := li_1
  have lm := li_m1
  have lu := FUi
  refine OK.bnd (b_begins p0 τ hp) (fun t ht => ?_)
  obtain ⟨ct, tx, tu, t2, t3, t12, s, hsk, hTB⟩ := ht
  -- the class at its first token
  have cI : IB t := hI.ch ct (by decide) (by decide)
  have g9 : (stI (stI t 0 33 0) 0 34 400).1 0 = upd (upd (t.1 0) 33 0) 34 400 := rfl
  have g0 : ∀ i, i ∉ [33, 34] → (stI (stI t 0 33 0) 0 34 400).1 0 i = t.1 0 i := fun i hi => by
    simp only [List.mem_cons, List.not_mem_nil, or_false, not_or] at hi
    rw [g9, upd_no hi.2, upd_no hi.1]
  have g33 : (stI (stI t 0 33 0) 0 34 400).1 0 33 = 0 := by rw [g9, upd_no (by decide), upd_at]
  have g34 : (stI (stI t 0 33 0) 0 34 400).1 0 34 = 400 := by rw [g9, upd_at]
  have g1 : ∀ c, c ≠ 0 → (stI (stI t 0 33 0) 0 34 400).1 c = t.1 c := fun c hc => by rw [stI_ne hc, stI_ne hc]
  have g2 : (stI (stI t 0 33 0) 0 34 400).2.1 = t.2.1 := rfl
  have gC : CH [] [33, 34] t (stI (stI t 0 33 0) 0 34 400) := (CH.rf.o (by decide)).o (by decide)
  clear g9
  generalize stI (stI t 0 33 0) 0 34 400 = b at g0 g33 g34 g1 g2 gC ⊢
  have bI_ : IB b := cI.ch gC (by decide) (by decide)
  have ub : uT b = uT t := uT_eq (g0 3 (by decide)) (g0 5 (by decide)) (g0 6 (by decide))
  unfold f_X6_begin at e1
  have a9 : (stI (stI (stI (stI σ 2 2 p0) 2 3 0) 2 12 0) 2 13 0).1 2 = upd (upd (upd (upd (σ.1 2) 2 p0) 3 0) 12 0) 13 0 := rfl
  have a1 : ∀ c, c ≠ 2 → (stI (stI (stI (stI σ 2 2 p0) 2 3 0) 2 12 0) 2 13 0).1 c = σ.1 c := fun c hc => by rw [stI_ne hc, stI_ne hc, stI_ne hc, stI_ne hc]
  have a2 : (stI (stI (stI (stI σ 2 2 p0) 2 3 0) 2 12 0) 2 13 0).1 2 2 = p0 := by rw [a9, upd_no (by decide), upd_no (by decide), upd_no (by decide), upd_at]
  have a3 : (stI (stI (stI (stI σ 2 2 p0) 2 3 0) 2 12 0) 2 13 0).1 2 3 = 0 := by rw [a9, upd_no (by decide), upd_no (by decide), upd_at]
  have aL : (stI (stI (stI (stI σ 2 2 p0) 2 3 0) 2 12 0) 2 13 0).2.1 = σ.2.1 := rfl
  clear a9
  generalize stI (stI (stI (stI σ 2 2 p0) 2 3 0) 2 12 0) 2 13 0 = u at a1 a2 a3 aL e1
  obtain ⟨u9, eu, ca, s', hs', hTA⟩ := a_advance u 0 (by rw [a1 1 (by decide), h1]; exact hT8) (by rw [a2]; exact hp) (by rw [a3]; exact l0) (by omega)
  rw [eu, sbnd] at e1
  cases e1
  rw [a1 1 (by decide), a2, h1] at hs' hTA
  have es : s' = s := hs'.uniq hsk
  subst es
  have t1 : t.1 1 = τ.1 1 := ct.1 1 (by decide) (by decide)
  have hkw9 : s1.2.1 3 = kw0 := by rw [ca.2.2.1 3 (by decide), aL]; exact hkw
  have hK : TK s1 t := TK.mk hT8 hkw9 t1 (by rw [t3]) hTA hTB
  have hX : LX s1 t := by
    refine ⟨⟨?_, ?_, ?_, hkw9⟩, ?_, hK, 0, s', by omega, ?_, ?_⟩
    · rw [ca.1 1 (by decide), a1 1 (by decide), h1, t1]
    · rw [ca.2.1, a2, t3]
    · rw [t1]
      exact hT8
    · rw [t3]
      exact hp
    · rw [t1, t3]
      exact hsk
    · rw [t1, t3]
      exact hTB
  -- the class's draft is emptied
  unfold f_X3_parse f_X5_clear at e2
  rw [sbnd] at e2
  have c1 : ∀ c, c ≠ 20 → (stI (stI s1 20 0 0) 20 1 0).1 c = s1.1 c := fun c hc => by rw [stI_ne hc, stI_ne hc]
  have c20 : (stI (stI s1 20 0 0) 20 1 0).1 20 1 = 0 := by
    have e9 : (stI (stI s1 20 0 0) 20 1 0).1 20 = upd (upd (s1.1 20) 0 0) 1 0 := rfl
    rw [e9, upd_at]
  have cL : (stI (stI s1 20 0 0) 20 1 0).2.1 = s1.2.1 := rfl
  generalize stI (stI s1 20 0 0) 20 1 0 = a at c1 c20 cL e2
  have hXa : LX a b := hX.ext (c1 1 (by decide)) (c1 2 (by decide)) (by rw [cL]) (by rw [cL]) (g1 1 (by decide)) (fun i hi => g0 i (fun h9 => by
    simp only [List.mem_cons, List.not_mem_nil, or_false] at h9 hi
    omega)) (by rw [g2])
  have htop := a_parse_top a b hXa.2.2.1 (by rw [c20]; exact l0)
  have bc : ∀ c, c ≠ 0 → b.1 c = τ.1 c := fun c hc => (g1 c hc).trans (ct.1 c hc (by simp))
  have b1 : b.1 1 = τ.1 1 := (g1 1 (by decide)).trans t1
  have tL5 := ct.l5
  have bKR : KR τ b := KR.eq (fun c hc => bc c (fun e => by rw [e] at hc; revert hc; decide)) (fun c hc => by
    rw [g2]
    simp only [List.mem_cons, List.not_mem_nil, or_false] at hc
    rcases hc with e | e | e | e | e
    · rw [e]; exact tL5.1
    · rw [e]; exact tL5.2.1
    · rw [e]; exact tL5.2.2.1
    · rw [e]; exact tL5.2.2.2.1
    · rw [e]; exact tL5.2.2.2.2)
  have b32 : b.1 0 32 = τ.1 0 32 := (g0 32 (by decide)).trans (ct.2.1 32 (by decide))
  have b2 : b.1 0 2 = 0 := (g0 2 (by decide)).trans t2
  by_cases hW : W_ b v_plan
  · have eA := htop.1 hW
    have hat : (0 : Int) ≤ (b.1 0 4).toInt := by
      rw [g0 4 (by decide), hTB.1]
      omega
    refine OK.bnd (ab_plan 0 400 99999 (-1) 0 a b hXa hW (by omega) (by rw [g33]; exact l0) (by rw [g34]; exact li_400) (by omega) (by rw [c20, l0]; rfl) (by omega) (by rw [lm]; rfl) (by omega) (by omega)) (fun z hz => ?_)
    obtain ⟨⟨zv, zs⟩, zx⟩ := z
    refine OK.kac ?_
    refine (ab_plans_loop b bI_ FU 0 400 a b _ zv zs zx (by omega) (by omega) FV.rf (fun p hp => by omega) (fun p hp => by omega) (fun q h1 h2 => by omega) (by rw [g33]; exact l0) (by omega) hz.1 hz.2).mono (fun y hy => ?_)
    obtain ⟨y0, y1, y2, y3, qa, ea, y4⟩ := hy
    rw [← eA, e2] at ea
    cases ea
    refine ⟨by show ((zx + y.2 : Nat) : Int) ≤ _; omega, y1, y2.trans b1, y3.trans b2, ?_⟩
    rcases y4 with ⟨q1, q2, q3⟩ | ⟨q1, q2⟩
    · exact .inl ⟨q1, q2.trans b32, bKR.trans q3⟩
    · have q1 : r.toInt = 1 := q1
      exact .inr ⟨by omega, q2⟩
  · obtain ⟨qa, ea, hq⟩ := htop.2 hW
    rw [e2] at ea
    cases ea
    unfold f_X11_plan
    refine OK.bnd (Q := fun q => q.1.1.toInt = 0 ∧ CH [] [12] b q.1.2 ∧ q.2 ≤ 1) ?_ (fun z hz => ?_)
    · refine OK.bndK (b_isPlan b) (fun v x hv hx => ?_)
      refine OK.kac ?_
      dsimp only
      have hv0 : v.toInt = 0 := by
        rcases hv with hv | hv
        · exact hv.1
        · exact absurd hv.2 hW
      refine OK.ieq (fun _ => ?_) (fun h => by omega)
      refine OK.bndC (b_wrongHere 1 b) (fun v2 s9 c2 hv2 => ?_)
      refine OK.grd (b01 (.inl hv2)) ?_
      exact OK.ret ⟨hv2, c2, by show x + 0 ≤ 1; omega⟩
    · obtain ⟨⟨zv, zs⟩, zx⟩ := z
      obtain ⟨z1, z2, z3⟩ := hz
      dsimp only at z1 z2 z3
      refine OK.kac ?_
      have ef : FU = 99999 + 1 := rfl
      dsimp only
      rw [ef, f_X11_plans_43]
      refine OK.ieq (fun _ => ?_) (fun h => by omega)
      unfold f_X11_plans_62
      refine OK.ieq (fun _ => ?_) (fun h => by omega)
      refine OK.ret ⟨by show ((zx + 0 : Nat) : Int) ≤ _; omega, bI_.ch z2 (by decide) (by decide), (z2.1 1 (by decide) (by decide)).trans b1, (z2.2.1 2 (by decide)).trans b2, .inl ⟨hq, (z2.2.1 32 (by decide)).trans b32, bKR.trans (z2.fw (K := 6) (t0 := 400) (R := 36) (by decide)).fv.kr⟩⟩
/-! what a call leaves of the tables of the plans: the rules -/
theorem bnd_some {α β : Type} {o : Option α} {f : α → Option β} {z : β} (h : o.bind f = some z) : ∃ x, o = some x ∧ f x = some z := by
  cases o with
  | none => cases h
  | some x => exact ⟨x, rfl, h⟩
def PF {β : Type} (st : β → ST) (K : ST → Prop) (o : Option β) : Prop := ∀ q, o = some q → K (st q)
abbrev st0 : ST → ST := fun q => q
abbrev st1 {α : Type} : α × ST → ST := fun q => q.2
abbrev st2 {α : Type} : (α × ST) × Nat → ST := fun q => q.1.2
theorem PF.none {β : Type} {st : β → ST} {K : ST → Prop} : PF st K (none : Option β) := fun _ h => by cases h
theorem PF.ite {β : Type} {st : β → ST} {K : ST → Prop} {c : Prop} {i : Decidable c} {x y : Option β} (h1 : c → PF st K x) (h2 : ¬ c → PF st K y) : PF st K (@_root_.ite (Option β) c i x y) := by
  by_cases h : c
  · rw [if_pos h]; exact h1 h
  · rw [if_neg h]; exact h2 h
theorem PF.bnd {β γ : Type} {st : β → ST} {st' : γ → ST} {K : ST → Prop} {o : Option β} {f : β → Option γ} (h : PF st K o) (k : ∀ q, K (st q) → PF st' K (f q)) : PF st' K (o.bind f) := by
  cases o with
  | none => exact PF.none
  | some x => exact k x (h x rfl)
theorem PF.val {α β : Type} {st : β → ST} {K : ST → Prop} {e : α} {f : α → Option β} (h : PF st K (f e)) : PF st K ((some e).bind f) := h
theorem PF.ret0 {K : ST → Prop} {σ : ST} (h : K σ) : PF st0 K (some σ) := fun q e => by cases e; exact h
theorem PF.ret1 {α : Type} {K : ST → Prop} {σ : ST} {v : α} (h : K σ) : PF st1 K (some (v, σ)) := fun q e => by cases e; exact h
theorem PF.ret2 {α : Type} {K : ST → Prop} {σ : ST} {v : α} {x : Nat} (h : K σ) : PF st2 K (some ((v, σ), x)) := fun q e => by cases e; exact h
theorem PF.ac {α : Type} {K : ST → Prop} {k : Nat} {o : Option ((α × ST) × Nat)} (h : PF st2 K o) : PF st2 K (ac k o) := by
  intro q e
  cases o with
  | none => cases e
  | some x =>
    have e2 : (x.1, k + x.2) = q := Option.some.inj e
    rw [← e2]
    exact h x rfl
def KTB (s σ : ST) : Prop := (∀ c, c ∈ [4, 5, 8, 10, 11, 13, 15, 16, 19] → σ.1 c = s.1 c) ∧ (∀ i, i < 400 → σ.1 2 i = s.1 2 i ∧ σ.1 3 i = s.1 3 i) ∧ (∀ c, c ∈ [9, 12, 14, 17, 18] → σ.2.1 c = s.2.1 c)
theorem KTB.rf {s : ST} : KTB s s := ⟨fun _ _ => rfl, fun _ _ => ⟨rfl, rfl⟩, fun _ _ => rfl⟩
theorem KTB.i {s σ : ST} {c i : Nat} {v : Int32} (hc : c ∉ [2, 3, 4, 5, 8, 10, 11, 13, 15, 16, 19]) (h : KTB s σ) : KTB s (stI σ c i v) := by
  simp only [List.mem_cons, List.not_mem_nil, or_false, not_or] at hc
  refine ⟨fun d hd => ?_, fun j hj => ?_, h.2.2⟩
  · rw [stI_ne (fun e => by
      simp only [List.mem_cons, List.not_mem_nil, or_false] at hd
      omega)]
    exact h.1 d hd
  · rw [stI_ne (fun e => hc.1 e.symm), stI_ne (fun e => hc.2.1 e.symm)]
    exact h.2.1 j hj
theorem KTB.l {s σ : ST} {c i : Nat} {v : Int64} (hc : c ∉ [9, 12, 14, 17, 18]) (h : KTB s σ) : KTB s (stL σ c i v) := by
  simp only [List.mem_cons, List.not_mem_nil, or_false, not_or] at hc
  refine ⟨h.1, h.2.1, fun d hd => ?_⟩
  rw [stL_ne (fun e => by
    simp only [List.mem_cons, List.not_mem_nil, or_false] at hd
    omega)]
  exact h.2.2 d hd
theorem KTB.d {s σ : ST} {c i : Nat} {v : UInt64} (h : KTB s σ) : KTB s (stD σ c i v) := h
theorem KTB.t {s σ : ST} {v w : Int32} (h : KTB s σ) : KTB s (stI (stI σ 2 799 v) 3 799 w) := by
  refine ⟨fun d hd => ?_, fun j hj => ⟨?_, ?_⟩, h.2.2⟩
  · rw [stI_ne (fun e => by rw [e] at hd; revert hd; decide), stI_ne (fun e => by rw [e] at hd; revert hd; decide)]
    exact h.1 d hd
  · rw [stI_ne (by decide)]
    show upd (σ.1 2) 799 v j = _
    rw [upd_no (by omega)]
    exact (h.2.1 j hj).1
  · have e9 : (stI (stI σ 2 799 v) 3 799 w).1 3 = upd (σ.1 3) 799 w := rfl
    rw [e9, upd_no (by omega)]
    exact (h.2.1 j hj).2
theorem w_X11_rootType {s : ST} {σ : ST} (h : KTB s σ) : PF st1 (KTB s) (f_X11_rootType σ) := by
  unfold f_X11_rootType
  have n799 : (799 : Int32).toNatClampNeg = 799 := by decide
  rw [n799]
  exact PF.ret1 (KTB.t h)
theorem w_X11_spelt {s : ST} {p0 p1 p2 p3 p4 p5 : Int32} {σ : ST} (h : KTB s σ) : PF st2 (KTB s) (f_X11_spelt p0 p1 p2 p3 p4 p5 σ) := by
  unfold f_X11_spelt
  intro q e
  obtain ⟨r, e1, e2⟩ := bnd_some e
  cases e2
  exact h
def KTA (s σ : ST) : Prop := ∀ c, 4 ≤ c → c < 20 → σ.1 c = s.1 c ∧ σ.2.1 c = s.2.1 c
theorem KTA.rf {s : ST} : KTA s s := fun _ _ _ => ⟨rfl, rfl⟩
theorem KTA.i {s σ : ST} {c i : Nat} {v : Int32} (hc : c < 4 ∨ 20 ≤ c) (h : KTA s σ) : KTA s (stI σ c i v) := fun d h1 h2 => by
  rw [stI_ne (by omega)]
  exact h d h1 h2
theorem KTA.l {s σ : ST} {c i : Nat} {v : Int64} (hc : c < 4 ∨ 20 ≤ c) (h : KTA s σ) : KTA s (stL σ c i v) := fun d h1 h2 => by
  rw [stL_ne (by omega)]
  exact h d h1 h2
theorem stF_ne5 {σ : ST} {q c : Nat} {f : Nat → Int32} (h : c ≠ q) : (stF σ q f).1 c = σ.1 c := by
  have e : Nat.beq c q = false := by
    cases h9 : Nat.beq c q with
    | false => rfl
    | true => exact absurd (Nat.eq_of_beq_eq_true h9) h
  show (bif Nat.beq c q then f else σ.1 c) = _
  rw [e]
  rfl
theorem stFL_ne5 {σ : ST} {q c : Nat} {f : Nat → Int64} (h : c ≠ q) : (stFL σ q f).2.1 c = σ.2.1 c := by
  have e : Nat.beq c q = false := by
    cases h9 : Nat.beq c q with
    | false => rfl
    | true => exact absurd (Nat.eq_of_beq_eq_true h9) h
  show (bif Nat.beq c q then f else σ.2.1 c) = _
  rw [e]
  rfl
theorem KTA.f {s σ : ST} {c : Nat} {f : Nat → Int32} (hc : c < 4 ∨ 20 ≤ c) (h : KTA s σ) : KTA s (stF σ c f) := fun d h1 h2 => by
  rw [stF_ne5 (by omega)]
  exact h d h1 h2
theorem KTA.fl {s σ : ST} {c : Nat} {f : Nat → Int64} (hc : c < 4 ∨ 20 ≤ c) (h : KTA s σ) : KTA s (stFL σ c f) := fun d h1 h2 => by
  rw [stFL_ne5 (by omega)]
  exact h d h1 h2
theorem KTA.d {s σ : ST} {c i : Nat} {v : UInt64} (h : KTA s σ) : KTA s (stD σ c i v) := h
theorem KTA.r {s σ : ST} {c v : Nat} (h : KTA s σ) : KTA s (stR σ c v) := h
