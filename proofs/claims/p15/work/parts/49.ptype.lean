/-! a type begins: both take it, or both refuse it -/
/-- a type of a draft, no higher than so -/
def VD (lo hi : Int) (S A M B : Nat → Int32) : Nat → Int32 → Prop
  | 0, _ => False
  | d + 1, t => (lo ≤ t.toInt ∧ t.toInt < hi) ∧ (0 ≤ (S t.toNatClampNeg).toInt ∧ (S t.toNatClampNeg).toInt ≤ 8) ∧
    ((S t.toNatClampNeg).toInt = 6 → VD lo hi S A M B d (A t.toNatClampNeg)) ∧
    ((S t.toNatClampNeg).toInt = 8 → (1 ≤ (M t.toNatClampNeg).toInt ∧ (M t.toNatClampNeg).toInt ≤ 4) ∧
      (∀ k : Nat, (k : Int) < (M t.toNatClampNeg).toInt → VD lo hi S A M B d (B (4 * t.toNatClampNeg + k)) ∧ ¬ (S (B (4 * t.toNatClampNeg + k)).toNatClampNeg).toInt = 8) ∧
      (∀ j k : Nat, j < k → (k : Int) < (M t.toNatClampNeg).toInt → ¬ (S (B (4 * t.toNatClampNeg + j)).toNatClampNeg).toInt = (S (B (4 * t.toNatClampNeg + k)).toNatClampNeg).toInt))
theorem VD.rng {lo hi : Int} {S A M B : Nat → Int32} {d : Nat} {t : Int32} (h : VD lo hi S A M B d t) : lo ≤ t.toInt ∧ t.toInt < hi := by
  cases d with
  | zero => exact h.elim
  | succ d => exact h.1
/-- the same rows in another state, and wider -/
theorem VD.ext {lo hi lo' hi' : Int} {S A M B S' A' M' B' : Nat → Int32} (h0 : 0 ≤ lo') (hl : lo' ≤ lo) (hh : hi ≤ hi') (hr : ∀ j : Nat, lo ≤ (j : Int) → (j : Int) < hi → S' j = S j ∧ ((S j).toInt = 6 → A' j = A j) ∧ M' j = M j ∧ ∀ k : Nat, k < 4 → B' (4 * j + k) = B (4 * j + k)) : ∀ (d : Nat) (t : Int32), VD lo hi S A M B d t → VD lo' hi' S' A' M' B' d t := by
  intro d
  induction d with
  | zero => intro t h; exact h.elim
  | succ d ih =>
    intro t h
    obtain ⟨h1, h2, h3, h5⟩ := h
    have n1 := nN_ (x := t) (by omega)
    obtain ⟨e1, e2, e3, e4⟩ := hr t.toNatClampNeg (by omega) (by omega)
    refine ⟨by omega, ?_, ?_, ?_⟩
    · rw [e1]; exact h2
    · rw [e1]
      intro hs
      rw [e2 hs]
      exact ih _ (h3 hs)
    · rw [e1, e3]
      intro hs
      obtain ⟨a1, a2, a3⟩ := h5 hs
      have eb : ∀ k : Nat, (k : Int) < (M t.toNatClampNeg).toInt → B' (4 * t.toNatClampNeg + k) = B (4 * t.toNatClampNeg + k) ∧ S' (B (4 * t.toNatClampNeg + k)).toNatClampNeg = S (B (4 * t.toNatClampNeg + k)).toNatClampNeg := fun k hk => by
        have r := (a2 k hk).1.rng
        have n2 := nN_ (x := B (4 * t.toNatClampNeg + k)) (by omega)
        exact ⟨e4 k (by omega), (hr _ (by omega) (by omega)).1⟩
      refine ⟨a1, fun k hk => ?_, fun j k hjk hk => ?_⟩
      · rw [(eb k hk).1, (eb k hk).2]
        exact ⟨ih _ (a2 k hk).1, (a2 k hk).2⟩
      · rw [(eb k hk).1, (eb k hk).2, (eb j (by omega)).1, (eb j (by omega)).2]
        exact a3 j k hjk hk
/-- once the records asked for are there, it is a type of the plan -/
theorem VD.vt {lo hi : Int} {S A M B : Nat → Int32} {rm : Int} (h0 : 0 ≤ lo) (hr : ∀ j : Nat, lo ≤ (j : Int) → (j : Int) < hi → (S j).toInt = 7 → 0 ≤ (A j).toInt ∧ (A j).toInt < rm) : ∀ (d : Nat) (t : Int32), VD lo hi S A M B d t → VT hi S A M B rm d t := by
  intro d
  induction d with
  | zero => intro t h; exact h.elim
  | succ d ih =>
    intro t h
    obtain ⟨h1, h2, h3, h5⟩ := h
    have n1 := nN_ (x := t) (by omega)
    refine ⟨by omega, h2, fun hs => ih _ (h3 hs), fun hs => hr _ (by omega) (by omega) hs, fun hs => ?_⟩
    obtain ⟨a1, a2, a3⟩ := h5 hs
    exact ⟨a1, fun k hk => ⟨ih _ (a2 k hk).1, (a2 k hk).2⟩, a3⟩
theorem VD.up {lo hi : Int} {S A M B : Nat → Int32} : ∀ {d : Nat} {t : Int32}, VD lo hi S A M B d t → VD lo hi S A M B (d + 1) t := by
  intro d
  induction d with
  | zero => intro t h; exact h.elim
  | succ d ih =>
    intro t h
    obtain ⟨h1, h2, h3, h5⟩ := h
    refine ⟨h1, h2, fun hs => ih (h3 hs), fun hs => ?_⟩
    obtain ⟨a1, a2, a3⟩ := h5 hs
    exact ⟨a1, fun k hk => ⟨ih (a2 k hk).1, (a2 k hk).2⟩, a3⟩
/-- what the class leaves as it is while a type is read: all rows before -/
def FA (c0 : Nat) (σ a : ST) : Prop := (∀ c, c ∉ [2, 20, 31, 32, 33, 35] → a.1 c = σ.1 c) ∧ (∀ i, i ≠ 1 → a.1 20 i = σ.1 20 i) ∧ (∀ c, c ∉ [2, 34] → a.2.1 c = σ.2.1 c) ∧ (∀ i, i < c0 → a.1 31 i = σ.1 31 i ∧ a.1 32 i = σ.1 32 i ∧ a.2.1 34 i = σ.2.1 34 i ∧ a.1 33 i = σ.1 33 i)
theorem FA.rf {c0 : Nat} {σ : ST} : FA c0 σ σ := ⟨fun _ _ => rfl, fun _ _ => rfl, fun _ _ => rfl, fun _ _ => ⟨rfl, rfl, rfl, rfl⟩⟩
theorem FA.trans {c0 c1 : Nat} {σ a b : ST} (h : FA c0 σ a) (k : FA c1 a b) (hc : c0 ≤ c1) : FA c0 σ b := ⟨fun c hc => (k.1 c hc).trans (h.1 c hc), fun i hi => (k.2.1 i hi).trans (h.2.1 i hi), fun c hc => (k.2.2.1 c hc).trans (h.2.2.1 c hc), fun i hi => by
  obtain ⟨a1, a2, a3, a4⟩ := h.2.2.2 i hi
  obtain ⟨b1, b2, b3, b4⟩ := k.2.2.2 i (by omega)
  exact ⟨b1.trans a1, b2.trans a2, b3.trans a3, b4.trans a4⟩⟩
theorem CA.fa {c0 : Nat} {σ a : ST} (h : CA σ a) : FA c0 σ a := by
  have z : ∀ c, c ≠ 2 → a.1 c = σ.1 c := h.1
  have y : ∀ c, c ≠ 2 → a.2.1 c = σ.2.1 c := h.2.2.1
  exact ⟨fun c hc => z c (fun e => hc (by rw [e]; decide)), fun i _ => by rw [z 20 (by decide)], fun c hc => y c (fun e => hc (by rw [e]; decide)), fun i _ => ⟨by rw [z 31 (by decide)], by rw [z 32 (by decide)], by rw [y 34 (by decide)], by rw [z 33 (by decide)]⟩⟩
/-- what the reference leaves as it is meanwhile -/
def L5 (τ b : ST) : Prop := b.2.1 9 = τ.2.1 9 ∧ b.2.1 12 = τ.2.1 12 ∧ b.2.1 14 = τ.2.1 14 ∧ b.2.1 17 = τ.2.1 17 ∧ b.2.1 18 = τ.2.1 18
theorem L5.rf {τ : ST} : L5 τ τ := ⟨rfl, rfl, rfl, rfl, rfl⟩
theorem L5.trans {τ b w : ST} (h : L5 τ b) (k : L5 b w) : L5 τ w := ⟨k.1.trans h.1, k.2.1.trans h.2.1, k.2.2.1.trans h.2.2.1, k.2.2.2.1.trans h.2.2.2.1, k.2.2.2.2.trans h.2.2.2.2⟩
theorem CH.l5 {C I : List Nat} {τ b : ST} (h : CH C I τ b) : L5 τ b := h.2.2
theorem L5.eq {τ b : ST} (h : b.2.1 = τ.2.1) : L5 τ b := by
  unfold L5
  rw [h]
  exact ⟨rfl, rfl, rfl, rfl, rfl⟩
def FG (t0 : Nat) (τ b : ST) : Prop := (∀ c, c ∉ [0, 2, 3, 4, 5, 7] → b.1 c = τ.1 c) ∧ (∀ i, i ∉ [4, 5, 6, 8, 10, 12, 13, 34] → b.1 0 i = τ.1 0 i) ∧ (∀ j, j < t0 → b.1 2 j = τ.1 2 j ∧ b.1 3 j = τ.1 3 j ∧ b.1 4 j = τ.1 4 j) ∧ (∀ j, j < 4 * t0 → b.1 5 j = τ.1 5 j) ∧ L5 τ b
theorem FG.rf {t0 : Nat} {τ : ST} : FG t0 τ τ := ⟨fun _ _ => rfl, fun _ _ => rfl, fun _ _ => ⟨rfl, rfl, rfl⟩, fun _ _ => rfl, L5.rf⟩
theorem FG.trans {c0 c1 : Nat} {σ a b : ST} (h : FG c0 σ a) (k : FG c1 a b) (hc : c0 ≤ c1) : FG c0 σ b := ⟨fun c hc => (k.1 c hc).trans (h.1 c hc), fun i hi => (k.2.1 i hi).trans (h.2.1 i hi), fun i hi => by
  obtain ⟨a1, a2, a3⟩ := h.2.2.1 i hi
  obtain ⟨b1, b2, b3⟩ := k.2.2.1 i (by omega)
  exact ⟨b1.trans a1, b2.trans a2, b3.trans a3⟩, fun j hj => (k.2.2.2.1 j (by omega)).trans (h.2.2.2.1 j hj), h.2.2.2.2.trans k.2.2.2.2⟩
theorem CH.fg {t0 : Nat} {I : List Nat} {τ b : ST} (hI : ∀ i, i ∈ I → i ∈ [4, 5, 6, 8, 10, 12, 13, 34]) (h : CH [] I τ b) : FG t0 τ b := by
  have z : ∀ c, c ≠ 0 → b.1 c = τ.1 c := fun c hc => h.1 c hc (by simp)
  exact ⟨fun c hc => z c (fun e => hc (by rw [e]; decide)), fun i hi => h.2.1 i (fun h9 => hi (hI i h9)), fun j _ => ⟨by rw [z 2 (by decide)], by rw [z 3 (by decide)], by rw [z 4 (by decide)]⟩, fun j _ => by rw [z 5 (by decide)], h.l5⟩
/-- the branches that there are, as the sorts taken -/
def MK (w : Nat) (pB : Int32) (t0 : Nat) (τ : ST) : Prop := w < 512 ∧ ((pB.toInt < 0 ∧ w = 0) ∨ ((0 ≤ pB.toInt ∧ pB.toInt < (t0 : Int)) ∧ w.testBit 8 = true ∧ ∃ m : Nat, (τ.1 4 pB.toNatClampNeg).toInt = m ∧ m ≤ 4 ∧ pc w = m + 1 ∧ (∀ k : Nat, k < m → 0 ≤ (τ.1 5 (4 * pB.toNatClampNeg + k)).toInt ∧ (τ.1 5 (4 * pB.toNatClampNeg + k)).toInt < 800) ∧ ∀ s : Nat, s < 8 → (w.testBit s = true ↔ ∃ k : Nat, k < m ∧ (τ.1 2 (τ.1 5 (4 * pB.toNatClampNeg + k)).toNatClampNeg).toInt = s)))
theorem b_isAsked_5 (x1 x2 : Int32) (τ : ST) (m : Nat) (h1 : 0 ≤ x1.toInt ∧ x1.toInt < 800) (hm : (τ.1 4 x1.toNatClampNeg).toInt = m) (hm4 : m ≤ 4) (hb : ∀ k : Nat, k < m → 0 ≤ (τ.1 5 (4 * x1.toNatClampNeg + k)).toInt ∧ (τ.1 5 (4 * x1.toNatClampNeg + k)).toInt < 800) : ∀ (f k : Nat) (x3 x4 : Int32), x4.toInt = k → k ≤ m → m < f + k → (x3.toInt = 0 ∧ (∀ i : Nat, i < k → ¬ (τ.1 2 (τ.1 5 (4 * x1.toNatClampNeg + i)).toNatClampNeg).toInt = x2.toInt) ∨ x3.toInt = 1 ∧ ∃ i : Nat, i < k ∧ (τ.1 2 (τ.1 5 (4 * x1.toNatClampNeg + i)).toNatClampNeg).toInt = x2.toInt) → OK (f_X11_isAsked_5 f x1 x2 x3 x4 τ) (RO τ fun v => v.toInt = 0 ∧ (∀ i : Nat, i < m → ¬ (τ.1 2 (τ.1 5 (4 * x1.toNatClampNeg + i)).toNatClampNeg).toInt = x2.toInt) ∨ v.toInt = 1 ∧ ∃ i : Nat, i < m ∧ (τ.1 2 (τ.1 5 (4 * x1.toNatClampNeg + i)).toNatClampNeg).toInt = x2.toInt) := by
  intro f
  induction f with
  | zero => intro k x3 x4 h2 h3 h4 h5; omega
  | succ f ih =>
    intro k x3 x4 hk hkm hf hx
    rw [f_X11_isAsked_5]
    unfold f_X11_isAsked_40 f_X11_isAsked_45
    have l0 := li_0
    have l1 := li_1
    have l4 : (4 : Int32).toInt = 4 := li_4
    have n1 := nN_ h1.1
    have e4 := mlE (k := 4) (y := x1) 4 l4 (by omega) (by omega)
    have e5 := il_addE (x := 4 * x1) (y := x4) (by omega) (by omega)
    have e6 := il_addE (x := x4) (y := 1) (by omega) (by omega)
    have np : (4 * x1 + x4).toNatClampNeg = 4 * x1.toNatClampNeg + k := nC (by omega)
    refine OK.grd h1 ?_
    refine OK.ile (fun h => ?_) (fun h => ?_)
    · have e : k = m := by clear hx; omega
      subst e
      refine OK.grd (b01 (hx.elim (fun h => .inl h.1) (fun h => .inr h.1))) (OK.roret hx)
    have hlt : k < m := by clear hx; omega
    have yes : (τ.1 2 (τ.1 5 (4 * x1.toNatClampNeg + k)).toNatClampNeg).toInt = x2.toInt ∨ (∃ i : Nat, i < k ∧ (τ.1 2 (τ.1 5 (4 * x1.toNatClampNeg + i)).toNatClampNeg).toInt = x2.toInt) → OK (f_X11_isAsked_5 f x1 x2 1 (x4 + 1) τ) (RO τ fun v => v.toInt = 0 ∧ (∀ i : Nat, i < m → ¬ (τ.1 2 (τ.1 5 (4 * x1.toNatClampNeg + i)).toNatClampNeg).toInt = x2.toInt) ∨ v.toInt = 1 ∧ ∃ i : Nat, i < m ∧ (τ.1 2 (τ.1 5 (4 * x1.toNatClampNeg + i)).toNatClampNeg).toInt = x2.toInt) := fun hy => by
      refine ih (k + 1) 1 (x4 + 1) (by clear hx hy; omega) hlt (by clear hx hy; omega) (.inr ⟨l1, ?_⟩)
      rcases hy with hy | ⟨i, hi, hy⟩
      · exact ⟨k, by omega, hy⟩
      · exact ⟨i, by omega, hy⟩
    refine OK.ieq (fun h0 => ?_) (fun h0 => yes (.inr ?_))
    · refine OK.grd ⟨by clear hx yes; omega, by clear hx yes; omega⟩ ?_
      rw [np]
      refine OK.grd (hb k hlt) ?_
      refine OK.ieq (fun h9 => yes (.inl h9)) (fun h9 => ?_)
      refine ih (k + 1) 0 (x4 + 1) (by clear hx yes; omega) hlt (by clear hx yes; omega) (.inl ⟨l0, fun i hi => ?_⟩)
      by_cases e : i = k
      · rw [e]; exact h9
      · rcases hx with hx | hx
        · exact hx.2 i (by omega)
        · have := hx.1; clear hx yes; omega
    · rcases hx with hx | hx
      · have := hx.1; clear hx yes; omega
      · exact hx.2
/-- the type is taken -/
def GD (w : Nat) (lev : Int) (σ : ST) : Prop := 0 ≤ SV σ ∧ lev ≤ 3 ∧ pc w ≤ 4 ∧ w.testBit (SV σ).toNat = false
theorem sv_rng {σ τ : ST} (h : TK σ τ) : -1 ≤ SV σ ∧ SV σ ≤ 8 := by
  by_cases h3 : (σ.1 2 4).toInt = 3
  · rw [sv_3 h3]; omega
  · by_cases h2 : (σ.1 2 4).toInt = 2
    · have hk : ∃ k : Nat, k < 15 ∧ (σ.1 2 6).toInt = k := by
        obtain ⟨_, h | h | h | h | h | h⟩ := h
        · omega
        · omega
        · rcases h.2.2.2.2 with ⟨_, k, a, b, _⟩ | ⟨a, _⟩
          · exact ⟨k, a, b⟩
          · omega
        · omega
        · omega
        · omega
      obtain ⟨k, hk, ek⟩ := hk
      rw [sv_2 h2 ek]
      by_cases a4 : k = 4
      · rw [a4, sk_4]; omega
      · by_cases a5 : k = 5
        · rw [a5, sk_5]; omega
        · by_cases a7 : 7 ≤ k ∧ k ≤ 12
          · rw [sk_s a7]; omega
          · rw [sk_n ⟨a4, a5, a7⟩]; omega
    · rw [sv_n h3 h2]; omega
/-- the reference takes the type or refuses it -/
theorem b_typeHead {rb rt : Int32 → Int32 → ST → Option ((Int32 × ST) × Nat)} (lev pB : Int32) (σ τ : ST) (w t0 : Nat) (hK : TK σ τ) (hM : MK w pB t0 τ) (ht : t0 ≤ 800) (P : (Int32 × ST) × Nat → Prop)
    (good : GD w lev.toInt σ → ∀ (y : Int32) (x : Nat), y.toInt = SV σ → x ≤ 23 → OK (f_X11_type_78 rb rt lev y 0 τ) (fun z => P (z.1, x + z.2)))
    (bad : ¬ GD w lev.toInt σ → ∀ q : (Int32 × ST) × Nat, CH [] [12] τ q.1.2 → q.1.1.toInt = -1 → q.2 ≤ 23 → P q) : OK (f_X11_type rb rt lev pB τ) P := by
  have lm := li_m1
  have l0 := li_0
  have l1 := li_1
  have l4 := li_4
  have l5 := li_5
  have l7 := li_7
  have l8 := li_8
  have rng := sv_rng hK
  have no : ∀ (y x4 : Int32) (x : Nat), 0 < x4.toInt → x ≤ 23 → ¬ GD w lev.toInt σ → OK (f_X11_type_78 rb rt lev y x4 τ) (fun z => P (z.1, x + z.2)) := fun y x4 x h4 hx hb => by
    unfold f_X11_type_78
    refine OK.ile (fun h => by omega) (fun _ => ?_)
    refine OK.bndC (b_wrongHere x4 τ) (fun v t c hv => ?_)
    exact ⟨_, rfl, bad hb ((-1, t), x + 0) c lm hx⟩
  have k16 : ∀ (y : Int32) (x : Nat), y.toInt = SV σ → x ≤ 23 → OK (f_X11_type_16 rb rt lev pB y τ) (fun z => P (z.1, x + z.2)) := fun y x hy hx => by
    unfold f_X11_type_16 f_X11_type_44 f_X11_type_48 f_X11_type_49 f_X11_type_75
    have n4 : ∀ y : Int32, ¬ GD w lev.toInt σ → OK (if (4 : Int32) = 0 then if pB < 0 then f_X11_type_78 rb rt lev y 4 τ else if y = 8 then f_X11_type_78 rb rt lev y 5 τ else (f_X11_isAsked pB y τ).bind fun q1 => if q1.1 = 0 then f_X11_type_78 rb rt lev y 4 q1.2 else f_X11_type_78 rb rt lev y 5 q1.2 else f_X11_type_78 rb rt lev y 4 τ) (fun z => P (z.1, x + z.2)) := fun y hb => OK.ieq (fun h => by omega) (fun _ => no y 4 x (by omega) hx hb)
    obtain ⟨hw, hM⟩ := hM
    refine OK.ile (fun h0 => ?_) (fun h0 => ?_)
    · refine OK.ile (fun hl => n4 y (fun g => by have := g.2.1; omega)) (fun hl => ?_)
      refine OK.ilt (fun hp => ?_) (fun hp => ?_)
      · rcases hM with ⟨_, e⟩ | ⟨h9, _⟩
        · subst e
          refine OK.ieq (fun _ => ?_) (fun h => absurd rfl h)
          refine OK.ilt (fun _ => good ⟨by omega, by omega, by decide, Nat.zero_testBit _⟩ y x hy hx) (fun h => by omega)
        · omega
      · rcases hM with ⟨h9, _⟩ | ⟨hp1, h8, m, hm, hm4, hpc, hb, hbit⟩
        · omega
        refine OK.grd ⟨by omega, by omega⟩ ?_
        refine OK.ieq (fun h4 => n4 y (fun g => by have := g.2.2.1; omega)) (fun h4 => ?_)
        refine OK.ieq (fun _ => ?_) (fun h => absurd rfl h)
        refine OK.ilt (fun h => by omega) (fun _ => ?_)
        refine OK.ieq (fun h8' => no y 5 x (by omega) hx (fun g => ?_)) (fun h8' => ?_)
        · have g4 := g.2.2.2
          have e8 : (SV σ).toNat = 8 := by omega
          rw [e8, h8] at g4
          cases g4
        have lu := FUi
        have e7 : (SV σ).toNat < 8 := by omega
        have eS : ((SV σ).toNat : Int) = y.toInt := by omega
        refine OK.bndR (b_isAsked_5 pB y τ m ⟨by omega, by omega⟩ hm hm4 hb FU 0 0 0 l0 (by omega) (by omega) (.inl ⟨l0, fun i hi => by omega⟩)) (fun v hv => ?_)
        dsimp only
        have hq := hbit (SV σ).toNat e7
        rw [eS] at hq
        refine OK.ieq (fun hv0 => good ⟨by omega, by omega, by omega, ?_⟩ y x hy hx) (fun hv1 => no y 5 x (by omega) hx (fun g => ?_))
        · cases hb9 : w.testBit (SV σ).toNat with
          | false => rfl
          | true =>
            obtain ⟨k, hk, ek⟩ := hq.mp hb9
            rcases hv with hv | hv
            · exact absurd ek (hv.2 k hk)
            · have := hv.1; clear hv hq; omega
        · have g4 := g.2.2.2
          rcases hv with hv | hv
          · have := hv.1; clear hv hq; omega
          · rw [hq.mpr hv.2] at g4
            cases g4
    · refine OK.ieq (fun h => by omega) (fun _ => no y 1 x (by omega) hx (fun g => by have := g.1; omega))
  unfold f_X11_type
  refine OK.bndK (b_isName τ) (fun v x hv hx => ?_)
  refine OK.kac ?_
  dsimp only
  refine OK.ieq (fun h => ?_) (fun h => ?_)
  · have hn : ¬ NM τ := by
      rcases hv with hv | hv
      · exact hv.2
      · omega
    refine OK.bndK (b_sortHere τ) (fun u z hu hz => ?_)
    refine OK.kac ?_
    dsimp only
    refine (k16 u (x + z) (sv_sh hK hn hu) (by omega)).mono (fun q hq => ?_)
    have e : x + (z + q.2) = x + z + q.2 := by omega
    show P (q.1, x + (z + q.2))
    rw [e]
    exact hq
  · have hn : NM τ := by
      rcases hv with hv | hv
      · omega
      · exact hv.2
    exact k16 7 x (by rw [sv_nm hK hn]; exact l7) (by omega)
