/-! what holds after plans -/
theorem VDmv {lo hi : Int} {S A M B S' A' M' B' : Nat → Int32} {rm : Int} (h0 : 400 ≤ lo) (hr : ∀ q : Nat, lo ≤ (400 + q : Int) → (400 + q : Int) < hi → S' q = S (400 + q) ∧ ((S (400 + q)).toInt = 6 → A' q = mv (A (400 + q))) ∧ (¬ (S (400 + q)).toInt = 6 → A' q = A (400 + q)) ∧ M' q = M (400 + q) ∧ ∀ w : Nat, (w : Int) < (M (400 + q)).toInt → B' (4 * q + w) = mv (B (4 * (400 + q) + w))) (h7 : ∀ q : Nat, lo ≤ (q : Int) → (q : Int) < hi → (S q).toInt = 7 → 0 ≤ (A q).toInt ∧ (A q).toInt < rm) : ∀ (d : Nat) (t : Int32), VD lo hi S A M B d t → VT (hi - 400) S' A' M' B' rm d (mv t) := by
  have nrow : ∀ {d : Nat} {t : Int32}, VD lo hi S A M B d t → ∃ q : Nat, t.toInt = 400 + (q : Int) ∧ t.toNatClampNeg = 400 + q ∧ (mv t).toInt = q ∧ (mv t).toNatClampNeg = q ∧ S' q = S t.toNatClampNeg := fun {d t} h => by
    have v1 := h.rng
    have mp := mv_pos (x := t) (by omega)
    refine ⟨(t.toInt - 400).toNat, by omega, nC (by omega), by omega, nC (by omega), ?_⟩
    have e : t.toNatClampNeg = 400 + (t.toInt - 400).toNat := nC (by omega)
    rw [e]
    exact (hr _ (by omega) (by omega)).1
  intro d
  induction d with
  | zero => intro t h; exact h
  | succ d ih =>
    intro t h
    obtain ⟨q, e1, e2, e3, e4, _⟩ := nrow h
    obtain ⟨v1, v2, v3, v4⟩ := h
    obtain ⟨r1, r2, r3, r4, r5⟩ := hr q (by omega) (by omega)
    rw [e2] at v2 v3 v4
    refine ⟨by omega, ?_, ?_, ?_, ?_⟩
    · rw [e4, r1]
      exact v2
    · rw [e4, r1]
      intro h6
      rw [r2 h6]
      exact ih _ (v3 h6)
    · rw [e4, r1]
      intro h9
      rw [r3 (by omega)]
      exact h7 (400 + q) (by omega) (by omega) h9
    · rw [e4, r1]
      intro h8
      obtain ⟨w1, w2, w3⟩ := v4 h8
      rw [r4]
      have sub : ∀ k : Nat, (k : Int) < (M (400 + q)).toInt → S' (B' (4 * q + k)).toNatClampNeg = S (B (4 * (400 + q) + k)).toNatClampNeg := fun k hk => by
        obtain ⟨p, _, _, _, p4, p5⟩ := nrow (w2 k hk).1
        rw [r5 k hk, p4]
        exact p5
      refine ⟨w1, fun k hk => ⟨?_, ?_⟩, fun j k hjk hk => ?_⟩
      · rw [r5 k hk]
        exact ih _ (w2 k hk).1
      · rw [sub k hk]
        exact (w2 k hk).2
      · rw [sub j (by omega), sub k hk]
        exact w3 j k hjk hk
theorem VT.ex {hi : Int} {S A M B S' A' M' B' : Nat → Int32} {rm : Int} (hr : ∀ q : Nat, (q : Int) < hi → S' q = S q ∧ A' q = A q ∧ M' q = M q ∧ ∀ w : Nat, w < 4 → B' (4 * q + w) = B (4 * q + w)) : ∀ (d : Nat) (t : Int32), VT hi S A M B rm d t → VT hi S' A' M' B' rm d t := by
  have nrow : ∀ {d : Nat} {t : Int32}, VT hi S A M B rm d t → (t.toNatClampNeg : Int) < hi := fun {d t} h => by
    have v1 := h.rng
    have n1 := nN_ v1.1
    omega
  intro d
  induction d with
  | zero => intro t h; exact h
  | succ d ih =>
    intro t h
    obtain ⟨r1, r2, r3, r4⟩ := hr _ (nrow h)
    obtain ⟨v1, v2, v3, v4, v5⟩ := h
    refine ⟨v1, by rw [r1]; exact v2, ?_, ?_, ?_⟩
    · rw [r1, r2]
      exact fun h6 => ih _ (v3 h6)
    · rw [r1, r2]
      exact v4
    · rw [r1, r3]
      intro h8
      obtain ⟨w1, w2, w3⟩ := v5 h8
      have sub : ∀ k : Nat, (k : Int) < (M t.toNatClampNeg).toInt → S' (B (4 * t.toNatClampNeg + k)).toNatClampNeg = S (B (4 * t.toNatClampNeg + k)).toNatClampNeg := fun k hk => (hr _ (nrow (w2 k hk).1)).1
      refine ⟨w1, fun k hk => ?_, fun j k hjk hk => ?_⟩
      · rw [r4 k (by omega), sub k hk]
        exact ⟨ih _ (w2 k hk).1, (w2 k hk).2⟩
      · rw [r4 k (by omega), r4 j (by omega), sub k hk, sub j (by omega)]
        exact w3 j k hjk hk
theorem IB.fv {τ b : ST} (h : IB τ) (hF : FV 6 400 36 τ b) : IB b := by
  obtain ⟨⟨p1, p2, p3⟩, h2, h3, h4, h5, h6, h7, h8, h9, h10⟩ := h
  obtain ⟨f1, f2, f3, f4, f5, f6, f7, f8⟩ := hF
  have e32 := f2 32 (by decide)
  refine ⟨⟨by rw [e32]; exact p1, ?_, f8.1 p3⟩, ?_, ?_, ?_, ?_, ?_, ?_, ?_, ?_, ?_⟩
  · rw [e32]
    intro p hp
    have p6 := p1.2
    rw [f5 p (by omega)]
    obtain ⟨a1, a2⟩ := p2 p hp
    refine ⟨a1, fun k hk => ?_⟩
    rw [f6 (6 * p + k) (by omega)]
    obtain ⟨c1, c2⟩ := a2 k hk
    have c3 := c1.2
    refine ⟨c1, fun j hj => ?_⟩
    rw [(f7 _ (by omega)).1]
    refine VT.ex (fun q hq => ?_) _ _ (c2 j hj)
    have e := f3 q (by omega)
    exact ⟨e.1, e.2.1, e.2.2, fun w hw => f4 _ (by omega)⟩
  · unfold PB
    rw [f1 35 (by decide)]
    exact h2
  · rw [f1 32 (by decide), e32]
    exact h3
  · rw [f1 33 (by decide)]
    exact h4
  · rw [f1 38 (by decide)]
    exact h5
  · rw [f2 68 (by decide)]
    exact h6
  · rw [f2 73 (by decide)]
    exact h7
  · rw [f2 83 (by decide)]
    exact h8
  · rw [f2 92 (by decide)]
    exact h9
  · unfold TH
    rw [f1 45 (by decide)]
    exact h10
/-- the messages are gone -/
def P80 (z y : ST) : Prop := y.2.1 = z.2.1 ∧ (∀ c, c ∉ [0, 32] → y.1 c = z.1 c) ∧ (∀ i, i ∉ [73, 81, 92, 93, 94] → y.1 0 i = z.1 0 i) ∧ (∀ i, i < 4 → y.1 32 i = -1) ∧ (y.1 0 73 = 0 ∧ y.1 0 92 = 0)
theorem b_plans_80 (z : ST) : ∀ (f i : Nat) (x3 : Int32) (σ : ST), 4 < f + i → i ≤ 4 → x3.toInt = i → (∀ c, c ≠ 32 → σ.1 c = z.1 c) → σ.2.1 = z.2.1 → (∀ j, j < i → σ.1 32 j = -1) → OK (f_X11_plans_80 f x3 σ) (fun y => y.2 = 0 ∧ P80 z y.1.2) := by
  intro f
  have l1 := li_1
  have l4 := li_4
  induction f with
  | zero => intro i x3 σ h1 h2; omega
  | succ f ih =>
    intro i x3 σ hf hi h3 hC hL hD
    rw [f_X11_plans_80]
    refine OK.ile (fun h => ?_) (fun h => ?_)
    · refine OK.ret ⟨rfl, hL, fun c hc => ?_, fun j hj => ?_, fun j hj => ?_, rfl, rfl⟩
      · simp only [List.mem_cons, List.not_mem_nil, or_false, not_or] at hc
        show (stI (stI (stI (stI (stI σ 0 73 0) 0 81 0) 0 92 0) 0 93 0) 0 94 0).1 c = _
        rw [stI_ne hc.1, stI_ne hc.1, stI_ne hc.1, stI_ne hc.1, stI_ne hc.1]
        exact hC c hc.2
      · simp only [List.mem_cons, List.not_mem_nil, or_false, not_or] at hj
        show upd (upd (upd (upd (upd (σ.1 0) 73 0) 81 0) 92 0) 93 0) 94 0 j = _
        rw [upd_no hj.2.2.2.2, upd_no hj.2.2.2.1, upd_no hj.2.2.1, upd_no hj.2.1, upd_no hj.1, hC 0 (by decide)]
      · exact hD j (by omega)
    · have n3 : x3.toNatClampNeg = i := nC h3
      have ex := il_addE (x := x3) (y := 1) (by omega) (by omega)
      refine OK.grd ⟨by omega, by omega⟩ ?_
      rw [n3]
      refine ih (i + 1) (x3 + 1) _ (by omega) (by omega) (by omega) (fun c hc => by rw [stI_ne hc]; exact hC c hc) hL (fun j hj => ?_)
      have e9 : (stI σ 32 i (-1)).1 32 = upd (σ.1 32) i (-1) := rfl
      by_cases e : j = i
      · subst e
        rw [e9, upd_at]
      · rw [e9, upd_no e]
        exact hD j (by omega)
/-- what the reference takes over of its draft -/
def Y6 (t : Nat) (b y : ST) : Prop := (∀ p, p < 6 → y.1 8 p = b.1 8 (6 + p)) ∧ (∀ i, i < 36 → y.1 11 i = b.1 11 (36 + i) ∧ y.1 10 i = b.1 10 (36 + i) ∧ y.2.1 9 i = b.2.1 9 (36 + i)) ∧ (∀ i, i < 288 → y.1 15 i = mv (b.1 15 (288 + i)) ∧ y.1 16 i = vp_nar .boolean (b.1 16 (288 + i)) ∧ TF b y i (288 + i)) ∧ ∀ q, 400 + q < t → RW1 b y q ∧ ∀ w : Nat, (w : Int) < (b.1 4 (400 + q)).toInt → y.1 5 (4 * q + w) = mv (b.1 5 (4 * (400 + q) + w))
/-- what holds in the reference stays -/
def KR (s y : ST) : Prop := (∀ p, p < 6 → y.1 8 p = s.1 8 p) ∧ (∀ i, i < 36 → y.1 11 i = s.1 11 i ∧ y.1 10 i = s.1 10 i ∧ y.2.1 9 i = s.2.1 9 i) ∧ (∀ i, i < 288 → y.1 15 i = s.1 15 i ∧ y.1 16 i = s.1 16 i ∧ TF s y i i) ∧ (∀ q, q < 400 → y.1 2 q = s.1 2 q ∧ y.1 3 q = s.1 3 q ∧ y.1 4 q = s.1 4 q) ∧ ∀ q, q < 1600 → y.1 5 q = s.1 5 q
theorem TF.rf {s : ST} {i : Nat} : TF s s i i := ⟨rfl, rfl, rfl, rfl, rfl, rfl⟩
theorem TF.trans {s a b : ST} {i j : Nat} (h : TF s a j j) (k : TF a b i j) : TF s b i j := ⟨k.1.trans h.1, k.2.1.trans h.2.1, k.2.2.1.trans h.2.2.1, k.2.2.2.1.trans h.2.2.2.1, k.2.2.2.2.1.trans h.2.2.2.2.1, k.2.2.2.2.2.trans h.2.2.2.2.2⟩
theorem KR.rf {s : ST} : KR s s := ⟨fun _ _ => rfl, fun _ _ => ⟨rfl, rfl, rfl⟩, fun _ _ => ⟨rfl, rfl, TF.rf⟩, fun _ _ => ⟨rfl, rfl, rfl⟩, fun _ _ => rfl⟩
theorem KR.trans {s a b : ST} (h : KR s a) (k : KR a b) : KR s b := ⟨fun p hp => (k.1 p hp).trans (h.1 p hp), fun i hi => by
  have x := h.2.1 i hi
  have y := k.2.1 i hi
  exact ⟨y.1.trans x.1, y.2.1.trans x.2.1, y.2.2.trans x.2.2⟩, fun i hi => by
  have x := h.2.2.1 i hi
  have y := k.2.2.1 i hi
  exact ⟨y.1.trans x.1, y.2.1.trans x.2.1, x.2.2.trans y.2.2⟩, fun i hi => by
  have x := h.2.2.2.1 i hi
  have y := k.2.2.2.1 i hi
  exact ⟨y.1.trans x.1, y.2.1.trans x.2.1, y.2.2.trans x.2.2⟩, fun i hi => (k.2.2.2.2 i hi).trans (h.2.2.2.2 i hi)⟩
theorem FV.kr {τ b : ST} (h : FV 6 400 36 τ b) : KR τ b := by
  obtain ⟨f1, f2, f3, f4, f5, f6, f7, f8, f9, f10⟩ := h
  exact ⟨fun p hp => f5 p hp, fun i hi => ⟨f6 i hi, f9 i hi, f10.1 i hi⟩, fun i hi => by
    have x := f7 i (by omega)
    have y := f10.2 i (by omega)
    exact ⟨x.1, x.2.2.1, x.2.1, x.2.2.2, y.1, y.2.1, y.2.2.1, y.2.2.2⟩, fun q hq => f3 q hq, fun q hq => f4 q (by omega)⟩
theorem KR.eq {s y : ST} (h1 : ∀ c, c ∈ [2, 3, 4, 5, 8, 10, 11, 13, 15, 16, 19] → y.1 c = s.1 c) (h2 : ∀ c, c ∈ [9, 12, 14, 17, 18] → y.2.1 c = s.2.1 c) : KR s y := by
  unfold KR TF
  rw [h1 2 (by decide), h1 3 (by decide), h1 4 (by decide), h1 5 (by decide), h1 8 (by decide), h1 10 (by decide), h1 11 (by decide), h1 13 (by decide), h1 15 (by decide), h1 16 (by decide), h1 19 (by decide), h2 9 (by decide), h2 12 (by decide), h2 14 (by decide), h2 17 (by decide), h2 18 (by decide)]
  exact ⟨fun _ _ => rfl, fun _ _ => ⟨rfl, rfl, rfl⟩, fun _ _ => ⟨rfl, rfl, rfl, rfl, rfl, rfl, rfl, rfl⟩, fun _ _ => ⟨rfl, rfl, rfl⟩, fun _ _ => rfl⟩
/-- along the branches of an either, the class's -/
def chn (N : Nat → Int32) (x : Int32) : Nat → Int32
  | 0 => x
  | k + 1 => N (chn N x k).toNatClampNeg
/-- one type: the class's x, the reference's y -/
def TYR (n : Int) (SA IA NA SB AB MB BB : Nat → Int32) (p : Nat) (rm : Int) : Nat → Int32 → Int32 → Prop
  | 0, _, _ => False
  | d + 1, x, y => ((0 ≤ x.toInt ∧ x.toInt < n) ∧ (0 ≤ y.toInt ∧ y.toInt < 400)) ∧ SA x.toNatClampNeg = SB y.toNatClampNeg ∧ (0 ≤ (SB y.toNatClampNeg).toInt ∧ (SB y.toNatClampNeg).toInt ≤ 8) ∧
    ((SB y.toNatClampNeg).toInt = 6 → TYR n SA IA NA SB AB MB BB p rm d (IA x.toNatClampNeg) (AB y.toNatClampNeg)) ∧
    ((SB y.toNatClampNeg).toInt = 7 → (0 ≤ (AB y.toNatClampNeg).toInt ∧ (AB y.toNatClampNeg).toInt < rm) ∧ (IA x.toNatClampNeg).toInt = 6 * (p : Int) + (AB y.toNatClampNeg).toInt) ∧
    (¬ (SB y.toNatClampNeg).toInt = 8 → (MB y.toNatClampNeg).toInt = 0) ∧
    ((SB y.toNatClampNeg).toInt = 8 → (1 ≤ (MB y.toNatClampNeg).toInt ∧ (MB y.toNatClampNeg).toInt ≤ 4) ∧
      (∀ k : Nat, (k : Int) < (MB y.toNatClampNeg).toInt → TYR n SA IA NA SB AB MB BB p rm d (chn NA (IA x.toNatClampNeg) k) (BB (4 * y.toNatClampNeg + k)) ∧ ¬ (SB (BB (4 * y.toNatClampNeg + k)).toNatClampNeg).toInt = 8) ∧
      (chn NA (IA x.toNatClampNeg) (MB y.toNatClampNeg).toInt.toNat).toInt = -1 ∧
      (∀ j k : Nat, j < k → (k : Int) < (MB y.toNatClampNeg).toInt → ¬ (SB (BB (4 * y.toNatClampNeg + j)).toNatClampNeg).toInt = (SB (BB (4 * y.toNatClampNeg + k)).toNatClampNeg).toInt))
theorem TYR.rng {n : Int} {SA IA NA SB AB MB BB : Nat → Int32} {p : Nat} {rm : Int} {d : Nat} {x y : Int32} (h : TYR n SA IA NA SB AB MB BB p rm d x y) : (0 ≤ x.toInt ∧ x.toInt < n) ∧ 0 ≤ y.toInt ∧ y.toInt < 400 := by
  cases d with
  | zero => exact h.elim
  | succ d => exact h.1
theorem TYR.mk {p lo hi : Nat} {n rm : Int} {σ b y : ST} (h400 : 400 ≤ lo) (h650 : hi ≤ 650) (hn : (hi : Int) + p + 1 - 400 ≤ n) (hR : RSD p lo hi rm σ b) (hX : RX (p + 1) lo hi σ b) (hy : ∀ q, 400 + q < hi → RW1 b y q ∧ ∀ w : Nat, (w : Int) < (b.1 4 (400 + q)).toInt → y.1 5 (4 * q + w) = mv (b.1 5 (4 * (400 + q) + w))) : ∀ (d : Nat) (t x : Int32), VD lo hi (b.1 2) (b.1 3) (b.1 4) (b.1 5) d t → x.toInt = t.toInt + p + 1 - 400 → TYR n (σ.1 31) (σ.1 32) (σ.1 33) (y.1 2) (y.1 3) (y.1 4) (y.1 5) p rm d x (mv t) := by
  intro d
  induction d with
  | zero => intro t x h; exact h.elim
  | succ d ih =>
    intro t x h hx
    obtain ⟨v1, v2, v3, v4⟩ := h
    have mp := mv_pos (x := t) (by omega)
    obtain ⟨q, eq⟩ : ∃ q : Nat, t.toInt = 400 + (q : Int) := ⟨(t.toInt - 400).toNat, by omega⟩
    have et : t.toNatClampNeg = 400 + q := nC (by omega)
    have em : (mv t).toNatClampNeg = q := nC (by omega)
    have ex : x.toNatClampNeg = 400 + q + (p + 1) - 400 := nC (by omega)
    rw [et] at v2 v3 v4
    obtain ⟨r1, r2, r3, r4⟩ := hR (400 + q) (by omega) (by omega)
    obtain ⟨x1, x2, x3⟩ := hX (400 + q) (by omega) (by omega)
    obtain ⟨⟨w1, w2, w3, w4⟩, w5⟩ := hy q (by omega)
    have z8 : (b.1 2 (400 + q)).toInt = 8 → ∀ k : Nat, (k : Int) < (b.1 4 (400 + q)).toInt → (chn (σ.1 33) (σ.1 32 (400 + q + (p + 1) - 400)) k).toInt = (b.1 5 (4 * (400 + q) + k)).toInt + p + 1 - 400 := by
      intro h8 k
      induction k with
      | zero =>
        intro hk
        have := r2 h8
        show (σ.1 32 (400 + q + (p + 1) - 400)).toInt = (b.1 5 (4 * (400 + q))).toInt + p + 1 - 400
        omega
      | succ k ik =>
        intro hk
        have i1 := ik (by omega)
        obtain ⟨⟨y1, y2⟩, y3, _⟩ := x3 h8 k (by omega)
        have n9 := nN_ (x := b.1 5 (4 * (400 + q) + k)) (by omega)
        have e9 : (chn (σ.1 33) (σ.1 32 (400 + q + (p + 1) - 400)) k).toNatClampNeg = (b.1 5 (4 * (400 + q) + k)).toNatClampNeg + (p + 1) - 400 := nC (by omega)
        show (σ.1 33 (chn (σ.1 33) (σ.1 32 (400 + q + (p + 1) - 400)) k).toNatClampNeg).toInt = _
        rw [e9, y3 (by omega)]
        show (b.1 5 (4 * (400 + q) + k + 1)).toInt + ((p + 1 : Nat) : Int) - 400 = (b.1 5 (4 * (400 + q) + k + 1)).toInt + p + 1 - 400
        omega
    have sub : ∀ {t' : Int32}, VD lo hi (b.1 2) (b.1 3) (b.1 4) (b.1 5) d t' → y.1 2 (mv t').toNatClampNeg = b.1 2 t'.toNatClampNeg := fun {t'} h => by
      have r := h.rng
      have mp := mv_pos (x := t') (by omega)
      obtain ⟨q', eq'⟩ : ∃ q : Nat, t'.toInt = 400 + (q : Int) := ⟨(t'.toInt - 400).toNat, by omega⟩
      have et' : t'.toNatClampNeg = 400 + q' := nC (by omega)
      have em' : (mv t').toNatClampNeg = q' := nC (by omega)
      rw [et', em']
      exact (hy q' (by omega)).1.1
    refine ⟨⟨by omega, by omega⟩, ?_, ?_, ?_, ?_, ?_, ?_⟩
    · rw [ex, em, w1]
      exact r1
    · rw [em, w1]
      exact v2
    · rw [em, ex, w1]
      intro h6
      rw [w2 h6]
      have := x1 h6
      exact ih _ _ (v3 h6) (by omega)
    · rw [em, ex, w1]
      intro h7
      rw [w3 (by omega)]
      exact r3 h7
    · rw [em, w1, w4]
      exact x2
    · rw [em, ex, w1]
      intro h8
      obtain ⟨u1, u2, u3⟩ := v4 h8
      rw [w4]
      refine ⟨u1, fun k hk => ⟨?_, ?_⟩, ?_, fun j k hjk hk => ?_⟩
      · rw [w5 k hk]
        exact ih _ _ (u2 k hk).1 (z8 h8 k hk)
      · rw [w5 k hk, sub (u2 k hk).1]
        exact (u2 k hk).2
      · obtain ⟨m, hm⟩ : ∃ m : Nat, (b.1 4 (400 + q)).toInt = (m : Int) + 1 := ⟨((b.1 4 (400 + q)).toInt - 1).toNat, by omega⟩
        have e1 : (b.1 4 (400 + q)).toInt.toNat = m + 1 := by omega
        have i1 := z8 h8 m (by omega)
        obtain ⟨⟨y1, y2⟩, _, y4⟩ := x3 h8 m (by omega)
        have n9 := nN_ (x := b.1 5 (4 * (400 + q) + m)) (by omega)
        have e9 : (chn (σ.1 33) (σ.1 32 (400 + q + (p + 1) - 400)) m).toNatClampNeg = (b.1 5 (4 * (400 + q) + m)).toNatClampNeg + (p + 1) - 400 := nC (by omega)
        rw [e1]
        show (σ.1 33 (chn (σ.1 33) (σ.1 32 (400 + q + (p + 1) - 400)) m).toNatClampNeg).toInt = _
        rw [e9]
        exact y4 (by omega)
      · rw [w5 j (by omega), w5 k hk, sub (u2 j (by omega)).1, sub (u2 k hk).1]
        exact u3 j k hjk hk
theorem TYR.ext {n n' : Int} {SA IA NA SB AB MB BB SA' IA' NA' SB' AB' MB' BB' : Nat → Int32} {p : Nat} {rm : Int} (hn : n ≤ n') (ha : ∀ i : Nat, (i : Int) < n → SA' i = SA i ∧ IA' i = IA i ∧ NA' i = NA i) (hb : ∀ q : Nat, q < 400 → SB' q = SB q ∧ AB' q = AB q ∧ MB' q = MB q ∧ ∀ w, w < 4 → BB' (4 * q + w) = BB (4 * q + w)) : ∀ (d : Nat) (x y : Int32), TYR n SA IA NA SB AB MB BB p rm d x y → TYR n' SA' IA' NA' SB' AB' MB' BB' p rm d x y := by
  intro d
  induction d with
  | zero => intro x y h; exact h.elim
  | succ d ih =>
    intro x y h
    obtain ⟨⟨h1, h2⟩, h3, h4, h5, h6, h7, h8⟩ := h
    have nx := nN_ h1.1
    have ny := nN_ h2.1
    obtain ⟨a1, a2, a3⟩ := ha x.toNatClampNeg (by omega)
    obtain ⟨b1, b2, b3, b4⟩ := hb y.toNatClampNeg (by omega)
    refine ⟨⟨by omega, h2⟩, by rw [a1, b1]; exact h3, by rw [b1]; exact h4, ?_, ?_, ?_, ?_⟩
    · rw [b1, a2, b2]
      exact fun e => ih _ _ (h5 e)
    · rw [b1, a2, b2]
      exact h6
    · rw [b1, b3]
      exact h7
    · rw [b1, a2, b3]
      intro e
      obtain ⟨u1, u2, u3, u4⟩ := h8 e
      have ch : ∀ k : Nat, (k : Int) ≤ (MB y.toNatClampNeg).toInt → chn NA' (IA x.toNatClampNeg) k = chn NA (IA x.toNatClampNeg) k := by
        intro k
        induction k with
        | zero => intro _; rfl
        | succ k ik =>
          intro hk
          have r := (u2 k (by omega)).1.rng
          have n9 := nN_ r.1.1
          show NA' (chn NA' (IA x.toNatClampNeg) k).toNatClampNeg = NA (chn NA (IA x.toNatClampNeg) k).toNatClampNeg
          rw [ik (by omega)]
          exact (ha _ (by omega)).2.2
      have sb : ∀ k : Nat, (k : Int) < (MB y.toNatClampNeg).toInt → BB' (4 * y.toNatClampNeg + k) = BB (4 * y.toNatClampNeg + k) ∧ SB' (BB (4 * y.toNatClampNeg + k)).toNatClampNeg = SB (BB (4 * y.toNatClampNeg + k)).toNatClampNeg := fun k hk => by
        have r := (u2 k hk).1.rng
        have n9 := nN_ r.2.1
        exact ⟨b4 k (by omega), (hb _ (by omega)).1⟩
      refine ⟨u1, fun k hk => ?_, ?_, fun j k hjk hk => ?_⟩
      · rw [ch k (by omega), (sb k hk).1, (sb k hk).2]
        exact ⟨ih _ _ (u2 k hk).1, (u2 k hk).2⟩
      · rw [ch _ (by omega)]
        exact u3
      · rw [(sb k hk).1, (sb k hk).2, (sb j (by omega)).1, (sb j (by omega)).2]
        exact u4 j k hjk hk
/-- one field that holds: of both, at N -/
def FLH (b p : Nat) (rm : Int) (N : Nat) (σ τ : ST) : Prop := (WL (σ.2.1 (b + 7) N) (τ.2.1 12 N) ∧ RLEN (σ.2.1 (b + 7) N) (τ.1 13 N)) ∧ FMR (σ.2.1 (b + 8) N) (τ.2.1 14 N) ∧ TYR (σ.1 b 1).toInt (σ.1 (b + 11)) (σ.1 (b + 12)) (σ.1 (b + 13)) (τ.1 2) (τ.1 3) (τ.1 4) (τ.1 5) p rm 4 (σ.1 (b + 9) N) (τ.1 15 N) ∧ ((τ.1 16 N).toInt = 0 ∨ (τ.1 16 N).toInt = 1 ∧ EWF (FCS (τ.1 2) (τ.1 5) (τ.1 15 N)) (σ.2.1 (b + 10) N) (τ.2.1 17 N) (τ.2.1 18 N) (τ.1 19 N))
/-- which fields of a record that holds have an else -/
def ELH (b r m : Nat) (σ τ : ST) : Prop := ∃ w : Nat, w < 512 ∧ σ.1 (b + 5) r = Int32.ofNat w ∧ ∀ i : Nat, i < 9 → (w.testBit i = true ↔ i < m ∧ (τ.1 16 (8 * r + i)).toInt = 1)
/-- a plan that holds, of both; the class's at b -/
def PHB (b p : Nat) (σ τ : ST) : Prop := (σ.1 (b + 1) p = τ.1 8 p ∧ (1 ≤ (τ.1 8 p).toInt ∧ (τ.1 8 p).toInt ≤ 6)) ∧ ((0 ≤ (σ.1 (b + 2) p).toInt ∧ (σ.1 (b + 2) p).toInt < (σ.1 b 1).toInt) ∧ (σ.1 (b + 11) (σ.1 (b + 2) p).toNatClampNeg).toInt = 7 ∧ (σ.1 (b + 12) (σ.1 (b + 2) p).toNatClampNeg).toInt = 6 * (p : Int)) ∧ (σ.1 b 1).toInt ≤ 262 ∧ ∀ i : Nat, (i : Int) < (τ.1 8 p).toInt → (WL (σ.2.1 (b + 4) (6 * p + i)) (τ.2.1 9 (6 * p + i)) ∧ DNM (σ.2.1 (b + 4)) (6 * p) i) ∧ RLEN (σ.2.1 (b + 4) (6 * p + i)) (τ.1 10 (6 * p + i)) ∧ (σ.1 (b + 3) (6 * p + i) = τ.1 11 (6 * p + i) ∧ bI (τ.1 11 (6 * p + i)) 0 8) ∧ ELH b (6 * p + i) (τ.1 11 (6 * p + i)).toInt.toNat σ τ ∧ ∀ j : Nat, (j : Int) < (τ.1 11 (6 * p + i)).toInt → FLH b p (τ.1 8 p).toInt (8 * (6 * p + i) + j) σ τ
theorem bool01 {v : Int32} : (v.toInt = 0 → (vp_nar .boolean v).toInt = 0) ∧ (v.toInt = 1 → (vp_nar .boolean v).toInt = 1) := by
  refine ⟨fun h => ?_, fun h => ?_⟩
  · have e : v = 0 := Int32.toInt_inj.mp (h.trans li_0.symm)
    rw [e]
    decide
  · have e : v = 1 := Int32.toInt_inj.mp (h.trans li_1.symm)
    rw [e]
    decide
theorem FCSmv {p lo hi : Nat} {rm : Int} {σ b y : ST} (h400 : 400 ≤ lo) (h650 : hi ≤ 650) (hy : ∀ q, 400 + q < hi → RW1 b y q ∧ ∀ w : Nat, (w : Int) < (b.1 4 (400 + q)).toInt → y.1 5 (4 * q + w) = mv (b.1 5 (4 * (400 + q) + w))) {t : Int32} {d : Nat} (h : VD lo hi (b.1 2) (b.1 3) (b.1 4) (b.1 5) d t) : FCS (y.1 2) (y.1 5) (mv t) = FCS (b.1 2) (b.1 5) t := by
  have rw_ : ∀ {t' : Int32}, lo ≤ t'.toInt ∧ t'.toInt < hi → y.1 2 (mv t').toNatClampNeg = b.1 2 t'.toNatClampNeg ∧ t'.toNatClampNeg = 400 + (mv t').toNatClampNeg ∧ 400 + (mv t').toNatClampNeg < hi := fun {t'} r => by
    have mp := mv_pos (x := t') (by omega)
    obtain ⟨q', eq'⟩ : ∃ q : Nat, t'.toInt = 400 + (q : Int) := ⟨(t'.toInt - 400).toNat, by omega⟩
    have et' : t'.toNatClampNeg = 400 + q' := nC (by omega)
    have em' : (mv t').toNatClampNeg = q' := nC (by omega)
    rw [et', em']
    exact ⟨(hy q' (by omega)).1.1, rfl, by omega⟩
  have r := h.rng
  obtain ⟨e1, e2, e3⟩ := rw_ r
  have hf := h.first
  have hM : (b.1 2 t.toNatClampNeg).toInt = 8 → 1 ≤ (b.1 4 t.toNatClampNeg).toInt := by
    cases d with
    | zero => exact h.elim
    | succ d =>
      intro h8
      exact (h.2.2.2 h8).1.1
  unfold FCS
  rw [e1]
  by_cases h8 : (b.1 2 t.toNatClampNeg).toInt = 8
  · rw [if_pos h8, if_pos h8]
    have r2 := hf h8
    have m1 := hM h8
    obtain ⟨y1, _, _⟩ := rw_ r2
    have w5 := (hy (mv t).toNatClampNeg e3).2 0 (by rw [← e2]; omega)
    rw [← e2] at w5
    have w5 : y.1 5 (4 * (mv t).toNatClampNeg) = mv (b.1 5 (4 * t.toNatClampNeg)) := w5
    rw [w5, y1]
  · rw [if_neg h8, if_neg h8]
theorem FPA.phb {p t t' : Nat} {σ b y : ST} (h : FPA p t σ b) (hp : p < 6) (hy : Y6 t' b y) (ht : t ≤ t') (hn : (t : Int) + p + 1 - 400 ≤ (σ.1 20 1).toInt) (hn2 : (σ.1 20 1).toInt ≤ 262) : PHB 20 p σ y := by
  obtain ⟨lo, hi, h1, ⟨h2, h3⟩, ⟨h4, h5, h6⟩, h7, h8, h9⟩ := h
  obtain ⟨y1, y2, y3, y4⟩ := hy
  have e8 := y1 p hp
  have yr : ∀ q, 400 + q < hi → RW1 b y q ∧ ∀ w : Nat, (w : Int) < (b.1 4 (400 + q)).toInt → y.1 5 (4 * q + w) = mv (b.1 5 (4 * (400 + q) + w)) := fun q hq => y4 q (by omega)
  have h2' : (σ.1 21 p).toInt = (b.1 8 (6 + p)).toInt := by rw [h2]
  have er : (σ.1 22 p).toNatClampNeg = lo + p - 400 := nC (by omega)
  refine ⟨⟨by rw [e8]; exact h2, by rw [e8]; omega⟩, ⟨by show 0 ≤ (σ.1 22 p).toInt ∧ (σ.1 22 p).toInt < (σ.1 20 1).toInt; omega, by show (σ.1 31 (σ.1 22 p).toNatClampNeg).toInt = 7; rw [er]; exact h5, by show (σ.1 32 (σ.1 22 p).toNatClampNeg).toInt = _; rw [er]; exact h6⟩, hn2, fun i hi9 => ?_⟩
  rw [e8] at hi9 ⊢
  obtain ⟨x1, x2, ⟨x3, x4⟩, x5, x6⟩ := h9 i (by omega)
  obtain ⟨z1, z2, z3⟩ := y2 (6 * p + i) (by omega)
  have x7 := x4.2
  rw [z1, z2, z3]
  refine ⟨x1, x2, ⟨x3, x4⟩, ?_, fun j hj => ?_⟩
  · obtain ⟨w, w1, w2, w3⟩ := x5.1
    refine ⟨w, w1, w2, fun q hq => ?_⟩
    rw [w3 q hq]
    constructor
    · rintro ⟨a1, a2⟩
      have y9 := (y3 (8 * (6 * p + i) + q) (by omega)).2.1
      have e9 : 288 + (8 * (6 * p + i) + q) = 8 * (36 + (6 * p + i)) + q := by omega
      rw [y9, e9]
      exact ⟨a1, bool01.2 a2⟩
    · rintro ⟨a1, a2⟩
      have y9 := (y3 (8 * (6 * p + i) + q) (by omega)).2.1
      have e9 : 288 + (8 * (6 * p + i) + q) = 8 * (36 + (6 * p + i)) + q := by omega
      rw [y9, e9] at a2
      rcases (x5.2 q a1).2.2.2 with h0 | h0
      · rw [bool01.1 h0] at a2
        omega
      · exact ⟨a1, h0.1⟩
  · obtain ⟨f1, f2, ⟨f3, f4, f5⟩, f6⟩ := x5.2 j (by omega)
    obtain ⟨g1, g2, g3, g4, g5, g6, g7, g8⟩ := y3 (8 * (6 * p + i) + j) (by omega)
    have e9 : 288 + (8 * (6 * p + i) + j) = 8 * (36 + (6 * p + i)) + j := by omega
    rw [e9] at g1 g2 g3 g4 g5 g6 g7 g8
    have hv := x6 j hj
    unfold FLH
    rw [g1, g2, g3, g4, g5, g6, g7, g8, FCSmv (p := p) (rm := 0) (σ := σ) h1.1 (by omega) yr hv, ← h2']
    refine ⟨f1, f2, TYR.mk h1.1 (by omega) (by omega) h7 h8 yr 4 _ _ hv (by show (σ.1 29 _).toInt = _; omega), ?_⟩
    rcases f6 with h0 | h0
    · exact .inl (bool01.1 h0)
    · exact .inr ⟨bool01.2 h0.1, h0.2⟩
theorem b_plans_62 (b : ST) (P t : Nat) (hI : IB b) (hP : 1 ≤ P ∧ P ≤ 6) (h33 : (b.1 0 33).toInt = P) (h34 : (b.1 0 34).toInt = t) (ht : 400 ≤ t ∧ t ≤ 650) (hD : ∀ p, p < P → PLD p t b) (hM : M4 t b) : OK (f_X11_plans_62 1 b) (fun y => y.2 = 0 ∧ IB y.1.2 ∧ y.1.2.1 1 = b.1 1 ∧ y.1.2.1 0 2 = b.1 0 2 ∧ (y.1.2.1 0 32).toInt = P ∧ Y6 t b y.1.2) := by
  unfold f_X11_plans_62 f_X11_takes
  have lu := FUi
  have l0 := li_0
  have lm := li_m1
  rw [if_neg (by decide)]
  obtain ⟨⟨p1, p2, p3⟩, h2, h3, h4, h5, h6, h7, h8, h9, h10⟩ := hI
  have s9 : (stI b 0 32 (b.1 0 33)).1 0 = upd (b.1 0) 32 (b.1 0 33) := rfl
  have s1 : ∀ c, c ≠ 0 → (stI b 0 32 (b.1 0 33)).1 c = b.1 c := fun c hc => stI_ne hc
  have sL : (stI b 0 32 (b.1 0 33)).2.1 = b.2.1 := rfl
  generalize stI b 0 32 (b.1 0 33) = s at s9 s1 sL ⊢
  have s34 : (s.1 0 34).toInt = t := by rw [s9, upd_no (by decide)]; exact h34
  have sM : M4 t s := by
    unfold M4
    rw [s1 4 (by decide)]
    exact hM
  refine OK.bnd (b_takes_10 s t ht s34 sM FU 0 0 s (by omega) (by omega) l0 ⟨fun _ _ => rfl, ⟨fun i hi => by omega, fun _ _ => rfl⟩, ⟨fun i hi => by omega, fun _ _ => ⟨rfl, rfl, rfl⟩⟩, ⟨fun i hi => by omega, fun _ _ => ⟨rfl, rfl, TF.rf⟩⟩, by rw [s1 19 (by decide)]; exact p3⟩ ⟨fun q hq => by omega, fun _ _ => ⟨rfl, rfl, rfl⟩, fun _ _ => rfl⟩) (fun z hz => ?_)
  obtain ⟨⟨z1, z2, z3, z4, z5⟩, zR, _⟩ := hz
  refine (b_plans_80 z FU 0 0 z (by omega) (by omega) l0 (fun _ _ => rfl) rfl (fun j hj => by omega)).mono (fun y hy => ?_)
  obtain ⟨y0, yL, y1, y2, y3, y4, y5⟩ := hy
  have e32 : (y.1.2.1 0 32).toInt = P := by
    rw [y2 32 (by decide), z1 0 (by decide), s9, upd_at]
    exact h33
  have e0 : ∀ i, i ∉ [32, 73, 81, 92, 93, 94] → y.1.2.1 0 i = b.1 0 i := fun i hi => by
    simp only [List.mem_cons, List.not_mem_nil, or_false, not_or] at hi
    rw [y2 i (by simp only [List.mem_cons, List.not_mem_nil, or_false, not_or]; exact hi.2), z1 0 (by decide), s9, upd_no hi.1]
  have e1 : ∀ c, c ∉ [0, 2, 3, 4, 5, 8, 10, 11, 13, 15, 16, 19, 32] → y.1.2.1 c = b.1 c := fun c hc => by
    simp only [List.mem_cons, List.not_mem_nil, or_false, not_or] at hc
    rw [y1 c (by simp only [List.mem_cons, List.not_mem_nil, or_false, not_or]; omega), z1 c (by simp only [List.mem_cons, List.not_mem_nil, or_false, not_or]; omega), s1 c hc.1]
  refine ⟨y0, ⟨⟨⟨by omega, by omega⟩, ?_, ?_⟩, ?_, ?_, ?_, ?_, ?_, ?_, ?_, ?_, ?_⟩, e1 1 (by decide), e0 2 (by decide), e32, ?_⟩
  · rw [e32, y1 2 (by decide), y1 3 (by decide), y1 4 (by decide), y1 5 (by decide), y1 8 (by decide), y1 11 (by decide), y1 15 (by decide)]
    intro p hp
    obtain ⟨lo, hi, d1, d2, d3, d4⟩ := hD p (by omega)
    rw [z2.1 p (by omega), s1 8 (by decide)]
    refine ⟨d2, fun k hk => ?_⟩
    rw [(z3.1 (6 * p + k) (by omega)).1, s1 11 (by decide)]
    obtain ⟨c1, c2⟩ := d3 k hk
    have c3 := c1.2
    refine ⟨c1, fun j hj => ?_⟩
    have ej : 288 + (8 * (6 * p + k) + j) = 8 * (36 + (6 * p + k)) + j := by omega
    rw [(z4.1 (8 * (6 * p + k) + j) (by omega)).1, s1 15 (by decide), ej]
    refine VT.wk (hi := (hi : Int) - 400) (by omega) ?_
    refine VDmv (lo := lo) (hi := hi) (by omega) (fun q hq1 hq2 => ?_) (fun q hq1 hq2 => d4 q (by omega) (by omega)) 4 _ (c2 j hj)
    obtain ⟨⟨r1, r2, r3, r4⟩, r5⟩ := zR q (by omega)
    rw [s1 2 (by decide), s1 3 (by decide)] at r2 r3
    rw [s1 2 (by decide)] at r1
    rw [s1 4 (by decide)] at r4 r5
    rw [s1 5 (by decide)] at r5
    exact ⟨r1, r2, r3, r4, r5⟩
  · rw [y1 19 (by decide)]
    exact z5
  · unfold PB
    rw [e1 35 (by decide)]
    exact h2
  · intro i hi
    rw [y3 i hi, e32, lm]
    omega
  · rw [e1 33 (by decide)]
    exact h4
  · rw [e1 38 (by decide)]
    exact h5
  · rw [e0 68 (by decide)]
    exact h6
  · rw [y4]
    unfold bI
    omega
  · rw [e0 83 (by decide)]
    exact h8
  · rw [y5]
    unfold bI
    omega
  · unfold TH
    rw [e1 45 (by decide)]
    exact h10
  · refine ⟨fun p hp => ?_, fun i hi => ?_, fun i hi => ?_, fun q hq => ?_⟩
    · rw [y1 8 (by decide), z2.1 p hp, s1 8 (by decide)]
    · have e := z3.1 i hi
      rw [y1 11 (by decide), y1 10 (by decide), yL, e.1, e.2.1, e.2.2, s1 11 (by decide), s1 10 (by decide), sL]
      exact ⟨rfl, rfl, rfl⟩
    · have e := z4.1 i hi
      unfold TF at e ⊢
      rw [s1 15 (by decide), s1 16 (by decide), s1 13 (by decide), s1 19 (by decide), sL] at e
      rw [y1 15 (by decide), y1 16 (by decide), y1 13 (by decide), y1 19 (by decide), yL]
      exact e
    · have e := zR q (by omega)
      unfold RW1 at e ⊢
      rw [s1 2 (by decide), s1 3 (by decide), s1 4 (by decide), s1 5 (by decide)] at e
      rw [y1 2 (by decide), y1 3 (by decide), y1 4 (by decide), y1 5 (by decide)]
      exact e
