/-! what holds after plans -/
theorem VDmv {lo hi : Int} {S A M B S' A' M' B' : Nat → Int32} {rm : Int} (h0 : 400 ≤ lo) (hr : ∀ q : Nat, lo ≤ (400 + q : Int) → (400 + q : Int) < hi → S' q = S (400 + q) ∧ ((S (400 + q)).toInt = 6 → A' q = mv (A (400 + q))) ∧ (¬ (S (400 + q)).toInt = 6 → A' q = A (400 + q)) ∧ M' q = M (400 + q) ∧ ∀ w : Nat, (w : Int) < (M (400 + q)).toInt → B' (4 * q + w) = mv (B (4 * (400 + q) + w))) (h7 : ∀ q : Nat, lo ≤ (q : Int) → (q : Int) < hi → (S q).toInt = 7 → 0 ≤ (A q).toInt ∧ (A q).toInt < rm) : ∀ (d : Nat) (t : Int32), VD lo hi S A M B d t → VT (hi - 400) S' A' M' B' rm d (mv t) := by
  have nrow : ∀ {d : Nat} {t : Int32}, VD lo hi S A M B d t → ∃ q : Nat, t.toInt = 400 + (q : Int) ∧ t.toNatClampNeg = 400 + q ∧ (mv t).toInt = q ∧ (mv t).toNatClampNeg = q ∧ S' q = S t.toNatClampNeg := fun {d t} h => by
    have v1 := h.rng
    have mp := mv_pos (x := t) (by omega)
    refine ⟨(t.toInt - 400).toNat, by omega, nC (by omega), by omega, nC (by omega), ?_⟩
    have e : t.toNatClampNeg = 400 + (t.toInt - 400).toNat := nC (by omega)
    rw [e]
    exact (hr _ (by omega) (by omega)).1
  intro d
  induction d with
  | zero => intro t h; exact h
  | succ d ih =>
    intro t h
    obtain ⟨q, e1, e2, e3, e4, _⟩ := nrow h
    obtain ⟨v1, v2, v3, v4⟩ := h
    obtain ⟨r1, r2, r3, r4, r5⟩ := hr q (by omega) (by omega)
    rw [e2] at v2 v3 v4
    refine ⟨by omega, ?_, ?_, ?_, ?_⟩
    · rw [e4, r1]
      exact v2
    · rw [e4, r1]
      intro h6
      rw [r2 h6]
      exact ih _ (v3 h6)
    · rw [e4, r1]
      intro h9
      rw [r3 (by omega)]
      exact h7 (400 + q) (by omega) (by omega) h9
    · rw [e4, r1]
      intro h8
      obtain ⟨w1, w2, w3⟩ := v4 h8
      rw [r4]
      have sub : ∀ k : Nat, (k : Int) < (M (400 + q)).toInt → S' (B' (4 * q + k)).toNatClampNeg = S (B (4 * (400 + q) + k)).toNatClampNeg := fun k hk => by
        obtain ⟨p, _, _, _, p4, p5⟩ := nrow (w2 k hk).1
        rw [r5 k hk, p4]
        exact p5
      refine ⟨w1, fun k hk => ⟨?_, ?_⟩, fun j k hjk hk => ?_⟩
      · rw [r5 k hk]
        exact ih _ (w2 k hk).1
      · rw [sub k hk]
        exact (w2 k hk).2
      · rw [sub j (by omega), sub k hk]
        exact w3 j k hjk hk
theorem VT.ex {hi : Int} {S A M B S' A' M' B' : Nat → Int32} {rm : Int} (hr : ∀ q : Nat, (q : Int) < hi → S' q = S q ∧ A' q = A q ∧ M' q = M q ∧ ∀ w : Nat, w < 4 → B' (4 * q + w) = B (4 * q + w)) : ∀ (d : Nat) (t : Int32), VT hi S A M B rm d t → VT hi S' A' M' B' rm d t := by
  have nrow : ∀ {d : Nat} {t : Int32}, VT hi S A M B rm d t → (t.toNatClampNeg : Int) < hi := fun {d t} h => by
    have v1 := h.rng
    have n1 := nN_ v1.1
    omega
  intro d
  induction d with
  | zero => intro t h; exact h
  | succ d ih =>
    intro t h
    obtain ⟨r1, r2, r3, r4⟩ := hr _ (nrow h)
    obtain ⟨v1, v2, v3, v4, v5⟩ := h
    refine ⟨v1, by rw [r1]; exact v2, ?_, ?_, ?_⟩
    · rw [r1, r2]
      exact fun h6 => ih _ (v3 h6)
    · rw [r1, r2]
      exact v4
    · rw [r1, r3]
      intro h8
      obtain ⟨w1, w2, w3⟩ := v5 h8
      have sub : ∀ k : Nat, (k : Int) < (M t.toNatClampNeg).toInt → S' (B (4 * t.toNatClampNeg + k)).toNatClampNeg = S (B (4 * t.toNatClampNeg + k)).toNatClampNeg := fun k hk => (hr _ (nrow (w2 k hk).1)).1
      refine ⟨w1, fun k hk => ?_, fun j k hjk hk => ?_⟩
      · rw [r4 k (by omega), sub k hk]
        exact ⟨ih _ (w2 k hk).1, (w2 k hk).2⟩
      · rw [r4 k (by omega), r4 j (by omega), sub k hk, sub j (by omega)]
        exact w3 j k hjk hk
theorem IB.fv {τ b : ST} (h : IB τ) (hF : FV 6 400 36 τ b) : IB b := by
  obtain ⟨⟨p1, p2, p3⟩, h2, h3, h4, h5, h6, h7, h8, h9, h10⟩ := h
  obtain ⟨f1, f2, f3, f4, f5, f6, f7, f8⟩ := hF
  have e32 := f2 32 (by decide)
  refine ⟨⟨by rw [e32]; exact p1, ?_, f8.1 p3⟩, ?_, ?_, ?_, ?_, ?_, ?_, ?_, ?_, ?_⟩
  · rw [e32]
    intro p hp
    have p6 := p1.2
    rw [f5 p (by omega)]
    obtain ⟨a1, a2⟩ := p2 p hp
    refine ⟨a1, fun k hk => ?_⟩
    rw [f6 (6 * p + k) (by omega)]
    obtain ⟨c1, c2⟩ := a2 k hk
    have c3 := c1.2
    refine ⟨c1, fun j hj => ?_⟩
    rw [f7 _ (by omega)]
    refine VT.ex (fun q hq => ?_) _ _ (c2 j hj)
    have e := f3 q (by omega)
    exact ⟨e.1, e.2.1, e.2.2, fun w hw => f4 _ (by omega)⟩
  · unfold PB
    rw [f1 35 (by decide)]
    exact h2
  · rw [f1 32 (by decide), e32]
    exact h3
  · rw [f1 33 (by decide)]
    exact h4
  · rw [f1 38 (by decide)]
    exact h5
  · rw [f2 68 (by decide)]
    exact h6
  · rw [f2 73 (by decide)]
    exact h7
  · rw [f2 83 (by decide)]
    exact h8
  · rw [f2 92 (by decide)]
    exact h9
  · unfold TH
    rw [f1 45 (by decide)]
    exact h10
/-- the messages are gone -/
def P80 (z y : ST) : Prop := (∀ c, c ∉ [0, 32] → y.1 c = z.1 c) ∧ (∀ i, i ∉ [73, 81, 92, 93, 94] → y.1 0 i = z.1 0 i) ∧ (∀ i, i < 4 → y.1 32 i = -1) ∧ (y.1 0 73 = 0 ∧ y.1 0 92 = 0)
theorem b_plans_80 (z : ST) : ∀ (f i : Nat) (x3 : Int32) (σ : ST), 4 < f + i → i ≤ 4 → x3.toInt = i → (∀ c, c ≠ 32 → σ.1 c = z.1 c) → (∀ j, j < i → σ.1 32 j = -1) → OK (f_X11_plans_80 f x3 σ) (fun y => y.2 = 0 ∧ P80 z y.1.2) := by
  intro f
  have l1 := li_1
  have l4 := li_4
  induction f with
  | zero => intro i x3 σ h1 h2; omega
  | succ f ih =>
    intro i x3 σ hf hi h3 hC hD
    rw [f_X11_plans_80]
    refine OK.ile (fun h => ?_) (fun h => ?_)
    · refine OK.ret ⟨rfl, fun c hc => ?_, fun j hj => ?_, fun j hj => ?_, rfl, rfl⟩
      · simp only [List.mem_cons, List.not_mem_nil, or_false, not_or] at hc
        show (stI (stI (stI (stI (stI σ 0 73 0) 0 81 0) 0 92 0) 0 93 0) 0 94 0).1 c = _
        rw [stI_ne hc.1, stI_ne hc.1, stI_ne hc.1, stI_ne hc.1, stI_ne hc.1]
        exact hC c hc.2
      · simp only [List.mem_cons, List.not_mem_nil, or_false, not_or] at hj
        show upd (upd (upd (upd (upd (σ.1 0) 73 0) 81 0) 92 0) 93 0) 94 0 j = _
        rw [upd_no hj.2.2.2.2, upd_no hj.2.2.2.1, upd_no hj.2.2.1, upd_no hj.2.1, upd_no hj.1, hC 0 (by decide)]
      · exact hD j (by omega)
    · have n3 : x3.toNatClampNeg = i := nC h3
      have ex := il_addE (x := x3) (y := 1) (by omega) (by omega)
      refine OK.grd ⟨by omega, by omega⟩ ?_
      rw [n3]
      refine ih (i + 1) (x3 + 1) _ (by omega) (by omega) (by omega) (fun c hc => by rw [stI_ne hc]; exact hC c hc) (fun j hj => ?_)
      have e9 : (stI σ 32 i (-1)).1 32 = upd (σ.1 32) i (-1) := rfl
      by_cases e : j = i
      · subst e
        rw [e9, upd_at]
      · rw [e9, upd_no e]
        exact hD j (by omega)
/-- what the reference takes over of its draft's records -/
def Y5 (b y : ST) : Prop := (∀ p, p < 6 → y.1 8 p = b.1 8 (6 + p)) ∧ ∀ i, i < 36 → y.1 11 i = b.1 11 (36 + i) ∧ y.1 10 i = b.1 10 (36 + i)
/-- the records that hold in the reference stay -/
def KR (s y : ST) : Prop := (∀ p, p < 6 → y.1 8 p = s.1 8 p) ∧ ∀ i, i < 36 → y.1 11 i = s.1 11 i ∧ y.1 10 i = s.1 10 i
/-- a plan of the class's draft beside one that holds in the reference -/
def PT5 (p : Nat) (σ τ : ST) : Prop := σ.1 21 p = τ.1 8 p ∧ (0 ≤ (σ.1 21 p).toInt ∧ (σ.1 21 p).toInt ≤ 6) ∧ ∀ i : Nat, (i : Int) < (σ.1 21 p).toInt → RLEN (σ.2.1 24 (6 * p + i)) (τ.1 10 (6 * p + i)) ∧ σ.1 23 (6 * p + i) = τ.1 11 (6 * p + i)
theorem FPA.pt5 {p : Nat} {σ b y : ST} (h : FPA p σ b) (hp : p < 6) (hy : Y5 b y) : PT5 p σ y := by
  obtain ⟨h1, h2, h3⟩ := h
  refine ⟨by rw [hy.1 p hp]; exact h1, h2, fun i hi => ?_⟩
  have e := hy.2 (6 * p + i) (by omega)
  rw [e.1, e.2]
  exact h3 i hi
theorem b_plans_62 (b : ST) (P t : Nat) (hI : IB b) (hP : 1 ≤ P ∧ P ≤ 6) (h33 : (b.1 0 33).toInt = P) (h34 : (b.1 0 34).toInt = t) (ht : 400 ≤ t ∧ t ≤ 650) (hD : ∀ p, p < P → PLD p t b) (hM : M4 t b) : OK (f_X11_plans_62 1 b) (fun y => y.2 = 0 ∧ IB y.1.2 ∧ y.1.2.1 1 = b.1 1 ∧ y.1.2.1 0 2 = b.1 0 2 ∧ (y.1.2.1 0 32).toInt = P ∧ Y5 b y.1.2) := by
  unfold f_X11_plans_62 f_X11_takes
  have lu := FUi
  have l0 := li_0
  have lm := li_m1
  rw [if_neg (by decide)]
  obtain ⟨⟨p1, p2, p3⟩, h2, h3, h4, h5, h6, h7, h8, h9, h10⟩ := hI
  have s9 : (stI b 0 32 (b.1 0 33)).1 0 = upd (b.1 0) 32 (b.1 0 33) := rfl
  have s1 : ∀ c, c ≠ 0 → (stI b 0 32 (b.1 0 33)).1 c = b.1 c := fun c hc => stI_ne hc
  generalize stI b 0 32 (b.1 0 33) = s at s9 s1 ⊢
  have s34 : (s.1 0 34).toInt = t := by rw [s9, upd_no (by decide)]; exact h34
  have sM : M4 t s := by
    unfold M4
    rw [s1 4 (by decide)]
    exact hM
  refine OK.bnd (b_takes_10 s t ht s34 sM FU 0 0 s (by omega) (by omega) l0 ⟨fun _ _ => rfl, ⟨fun i hi => by omega, fun _ _ => rfl⟩, ⟨fun i hi => by omega, fun _ _ => ⟨rfl, rfl⟩⟩, ⟨fun i hi => by omega, fun _ _ => rfl⟩, by rw [s1 19 (by decide)]; exact p3⟩ ⟨fun q hq => by omega, fun _ _ => ⟨rfl, rfl, rfl⟩, fun _ _ => rfl⟩) (fun z hz => ?_)
  obtain ⟨⟨z1, z2, z3, z4, z5⟩, zR, _⟩ := hz
  refine (b_plans_80 z FU 0 0 z (by omega) (by omega) l0 (fun _ _ => rfl) (fun j hj => by omega)).mono (fun y hy => ?_)
  obtain ⟨y0, y1, y2, y3, y4, y5⟩ := hy
  have e32 : (y.1.2.1 0 32).toInt = P := by
    rw [y2 32 (by decide), z1 0 (by decide), s9, upd_at]
    exact h33
  have e0 : ∀ i, i ∉ [32, 73, 81, 92, 93, 94] → y.1.2.1 0 i = b.1 0 i := fun i hi => by
    simp only [List.mem_cons, List.not_mem_nil, or_false, not_or] at hi
    rw [y2 i (by simp only [List.mem_cons, List.not_mem_nil, or_false, not_or]; exact hi.2), z1 0 (by decide), s9, upd_no hi.1]
  have e1 : ∀ c, c ∉ [0, 2, 3, 4, 5, 8, 10, 11, 13, 15, 16, 19, 32] → y.1.2.1 c = b.1 c := fun c hc => by
    simp only [List.mem_cons, List.not_mem_nil, or_false, not_or] at hc
    rw [y1 c (by simp only [List.mem_cons, List.not_mem_nil, or_false, not_or]; omega), z1 c (by simp only [List.mem_cons, List.not_mem_nil, or_false, not_or]; omega), s1 c hc.1]
  refine ⟨y0, ⟨⟨⟨by omega, by omega⟩, ?_, ?_⟩, ?_, ?_, ?_, ?_, ?_, ?_, ?_, ?_, ?_⟩, e1 1 (by decide), e0 2 (by decide), e32, ?_⟩
  · rw [e32, y1 2 (by decide), y1 3 (by decide), y1 4 (by decide), y1 5 (by decide), y1 8 (by decide), y1 11 (by decide), y1 15 (by decide)]
    intro p hp
    obtain ⟨lo, hi, d1, d2, d3, d4⟩ := hD p (by omega)
    rw [z2.1 p (by omega), s1 8 (by decide)]
    refine ⟨d2, fun k hk => ?_⟩
    rw [(z3.1 (6 * p + k) (by omega)).1, s1 11 (by decide)]
    obtain ⟨c1, c2⟩ := d3 k hk
    have c3 := c1.2
    refine ⟨c1, fun j hj => ?_⟩
    have ej : 288 + (8 * (6 * p + k) + j) = 8 * (36 + (6 * p + k)) + j := by omega
    rw [z4.1 (8 * (6 * p + k) + j) (by omega), s1 15 (by decide), ej]
    refine VT.wk (hi := (hi : Int) - 400) (by omega) ?_
    refine VDmv (lo := lo) (hi := hi) (by omega) (fun q hq1 hq2 => ?_) (fun q hq1 hq2 => d4 q (by omega) (by omega)) 4 _ (c2 j hj)
    obtain ⟨⟨r1, r2, r3, r4⟩, r5⟩ := zR q (by omega)
    rw [s1 2 (by decide), s1 3 (by decide)] at r2 r3
    rw [s1 2 (by decide)] at r1
    rw [s1 4 (by decide)] at r4 r5
    rw [s1 5 (by decide)] at r5
    exact ⟨r1, r2, r3, r4, r5⟩
  · rw [y1 19 (by decide)]
    exact z5
  · unfold PB
    rw [e1 35 (by decide)]
    exact h2
  · intro i hi
    rw [y3 i hi, e32, lm]
    omega
  · rw [e1 33 (by decide)]
    exact h4
  · rw [e1 38 (by decide)]
    exact h5
  · rw [e0 68 (by decide)]
    exact h6
  · rw [y4]
    unfold bI
    omega
  · rw [e0 83 (by decide)]
    exact h8
  · rw [y5]
    unfold bI
    omega
  · unfold TH
    rw [e1 45 (by decide)]
    exact h10
  · refine ⟨fun p hp => ?_, fun i hi => ?_⟩
    · rw [y1 8 (by decide), z2.1 p hp, s1 8 (by decide)]
    · have e := z3.1 i hi
      rw [y1 11 (by decide), y1 10 (by decide), e.1, e.2, s1 11 (by decide), s1 10 (by decide)]
      exact ⟨rfl, rfl⟩
