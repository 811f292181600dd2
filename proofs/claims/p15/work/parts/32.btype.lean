/-! the reference: types, as high as they are, and when one matches another -/
/-- a type of a plan with so many records, no higher than so -/
def VT (hi : Int) (S A M B : Nat → Int32) (rm : Int) : Nat → Int32 → Prop
  | 0, _ => False
  | d + 1, t => (0 ≤ t.toInt ∧ t.toInt < hi) ∧ (0 ≤ (S t.toNatClampNeg).toInt ∧ (S t.toNatClampNeg).toInt ≤ 8) ∧
    ((S t.toNatClampNeg).toInt = 6 → VT hi S A M B rm d (A t.toNatClampNeg)) ∧
    ((S t.toNatClampNeg).toInt = 7 → 0 ≤ (A t.toNatClampNeg).toInt ∧ (A t.toNatClampNeg).toInt < rm) ∧
    ((S t.toNatClampNeg).toInt = 8 → (1 ≤ (M t.toNatClampNeg).toInt ∧ (M t.toNatClampNeg).toInt ≤ 4) ∧
      (∀ k : Nat, (k : Int) < (M t.toNatClampNeg).toInt → VT hi S A M B rm d (B (4 * t.toNatClampNeg + k)) ∧ ¬ (S (B (4 * t.toNatClampNeg + k)).toNatClampNeg).toInt = 8) ∧
      (∀ j k : Nat, j < k → (k : Int) < (M t.toNatClampNeg).toInt → ¬ (S (B (4 * t.toNatClampNeg + j)).toNatClampNeg).toInt = (S (B (4 * t.toNatClampNeg + k)).toNatClampNeg).toInt))
theorem VT.rng {hi : Int} {S A M B : Nat → Int32} {rm : Int} {d : Nat} {t : Int32} (h : VT hi S A M B rm d t) : 0 ≤ t.toInt ∧ t.toInt < hi := by
  cases d with
  | zero => exact h.elim
  | succ d => exact h.1
theorem VT.srt {hi : Int} {S A M B : Nat → Int32} {rm : Int} {d : Nat} {t : Int32} (h : VT hi S A M B rm d t) : 0 ≤ (S t.toNatClampNeg).toInt ∧ (S t.toNatClampNeg).toInt ≤ 8 := by
  cases d with
  | zero => exact h.elim
  | succ d => exact h.2.1
theorem VT.lst {hi : Int} {S A M B : Nat → Int32} {rm : Int} {d : Nat} {t : Int32} (h : VT hi S A M B rm d t) (hs : (S t.toNatClampNeg).toInt = 6) : 1 ≤ d ∧ VT hi S A M B rm (d - 1) (A t.toNatClampNeg) := by
  cases d with
  | zero => exact h.elim
  | succ d => exact ⟨by omega, h.2.2.1 hs⟩
theorem VT.rcd {hi : Int} {S A M B : Nat → Int32} {rm : Int} {d : Nat} {t : Int32} (h : VT hi S A M B rm d t) (hs : (S t.toNatClampNeg).toInt = 7) : 0 ≤ (A t.toNatClampNeg).toInt ∧ (A t.toNatClampNeg).toInt < rm := by
  cases d with
  | zero => exact h.elim
  | succ d => exact h.2.2.2.1 hs
theorem VT.eit {hi : Int} {S A M B : Nat → Int32} {rm : Int} {d : Nat} {t : Int32} (h : VT hi S A M B rm d t) (hs : (S t.toNatClampNeg).toInt = 8) : 1 ≤ d ∧ (1 ≤ (M t.toNatClampNeg).toInt ∧ (M t.toNatClampNeg).toInt ≤ 4) ∧ (∀ k : Nat, (k : Int) < (M t.toNatClampNeg).toInt → VT hi S A M B rm (d - 1) (B (4 * t.toNatClampNeg + k)) ∧ ¬ (S (B (4 * t.toNatClampNeg + k)).toNatClampNeg).toInt = 8) ∧ (∀ j k : Nat, j < k → (k : Int) < (M t.toNatClampNeg).toInt → ¬ (S (B (4 * t.toNatClampNeg + j)).toNatClampNeg).toInt = (S (B (4 * t.toNatClampNeg + k)).toNatClampNeg).toInt) := by
  cases d with
  | zero => exact h.elim
  | succ d => exact ⟨by omega, h.2.2.2.2 hs⟩
theorem VT.up {hi : Int} {S A M B : Nat → Int32} {rm : Int} : ∀ {d : Nat} {t : Int32}, VT hi S A M B rm d t → VT hi S A M B rm (d + 1) t := by
  intro d
  induction d with
  | zero => intro t h; exact h.elim
  | succ d ih =>
    intro t h
    obtain ⟨h1, h2, h3, h4, h5⟩ := h
    refine ⟨h1, h2, fun hs => ih (h3 hs), h4, fun hs => ?_⟩
    obtain ⟨a1, a2, a3⟩ := h5 hs
    exact ⟨a1, fun k hk => ⟨ih (a2 k hk).1, (a2 k hk).2⟩, a3⟩
theorem VT.wk {hi hi' : Int} {S A M B : Nat → Int32} {rm : Int} (hh : hi ≤ hi') : ∀ {d : Nat} {t : Int32}, VT hi S A M B rm d t → VT hi' S A M B rm d t := by
  intro d
  induction d with
  | zero => intro t h; exact h.elim
  | succ d ih =>
    intro t h
    obtain ⟨h1, h2, h3, h4, h5⟩ := h
    refine ⟨⟨h1.1, by omega⟩, h2, fun hs => ih (h3 hs), h4, fun hs => ?_⟩
    obtain ⟨a1, a2, a3⟩ := h5 hs
    exact ⟨a1, fun k hk => ⟨ih (a2 k hk).1, (a2 k hk).2⟩, a3⟩
/-- a place that no type has may be another one -/
theorem VT.put {hi : Int} {S A M B : Nat → Int32} {rm : Int} {i : Nat} {x y : Int32} (hh : hi ≤ (i : Int)) : ∀ {d : Nat} {t : Int32}, VT hi S A M B rm d t → VT hi (upd S i x) (upd A i y) M B rm d t := by
  intro d
  induction d with
  | zero => intro t h; exact h.elim
  | succ d ih =>
    intro t h
    obtain ⟨h1, h2, h3, h4, h5⟩ := h
    have n1 := nN_ h1.1
    have e1 : upd S i x t.toNatClampNeg = S t.toNatClampNeg := upd_no (by omega)
    have e2 : upd A i y t.toNatClampNeg = A t.toNatClampNeg := upd_no (by omega)
    refine ⟨h1, ?_, ?_, ?_, ?_⟩
    · rw [e1]; exact h2
    · rw [e1, e2]; exact fun hs => ih (h3 hs)
    · rw [e1, e2]; exact h4
    · rw [e1]
      intro hs
      obtain ⟨a1, a2, a3⟩ := h5 hs
      have eb : ∀ k : Nat, (k : Int) < (M t.toNatClampNeg).toInt → upd S i x (B (4 * t.toNatClampNeg + k)).toNatClampNeg = S (B (4 * t.toNatClampNeg + k)).toNatClampNeg := fun k hk => by
        have r := (a2 k hk).1.rng
        have n2 := nN_ r.1
        exact upd_no (by omega)
      refine ⟨a1, fun k hk => ⟨ih (a2 k hk).1, by rw [eb k hk]; exact (a2 k hk).2⟩, fun j k hjk hk => ?_⟩
      rw [eb k hk, eb j (by omega)]
      exact a3 j k hjk hk
/-- a type of one plan matches that of another, by what is said of those below -/
def mB (S A M B PR : Nat → Int32) (q : Int32 → Int32 → Prop) (w r : Int32) : Prop := ((S w.toNatClampNeg).toInt = 8 ∧ ∃ k : Nat, (k : Int) < (M w.toNatClampNeg).toInt ∧ q (B (4 * w.toNatClampNeg + k)) r) ∨
    (¬ (S w.toNatClampNeg).toInt = 8 ∧ (S r.toNatClampNeg).toInt = 8 ∧ ∃ k : Nat, (k : Int) < (M r.toNatClampNeg).toInt ∧ q w (B (4 * r.toNatClampNeg + k))) ∨
    (¬ (S w.toNatClampNeg).toInt = 8 ∧ ¬ (S r.toNatClampNeg).toInt = 8 ∧
      (((S w.toNatClampNeg).toInt = 6 ∧ (S r.toNatClampNeg).toInt = 6 ∧ q (A w.toNatClampNeg) (A r.toNatClampNeg)) ∨
       ((S w.toNatClampNeg).toInt = 7 ∧ (S r.toNatClampNeg).toInt = 7 ∧ ¬ PR (6 * (A w.toNatClampNeg).toNatClampNeg + (A r.toNatClampNeg).toNatClampNeg) = 0) ∨
       (¬ ((S w.toNatClampNeg).toInt = 6 ∧ (S r.toNatClampNeg).toInt = 6) ∧ ¬ ((S w.toNatClampNeg).toInt = 7 ∧ (S r.toNatClampNeg).toInt = 7) ∧ ((S w.toNatClampNeg).toInt = (S r.toNatClampNeg).toInt ∨ (S w.toNatClampNeg).toInt = 2 ∧ ((S r.toNatClampNeg).toInt = 3 ∨ (S r.toNatClampNeg).toInt = 4) ∨ (S w.toNatClampNeg).toInt = 3 ∧ (S r.toNatClampNeg).toInt = 4))))
def mt (S A M B PR : Nat → Int32) : Nat → Int32 → Int32 → Prop
  | 0, _, _ => False
  | n + 1, w, r => mB S A M B PR (mt S A M B PR n) w r
def MT (S A M B PR : Nat → Int32) (w r : Int32) : Prop := ∃ n, mt S A M B PR n w r
theorem MT.iff {S A M B PR : Nat → Int32} {w r : Int32} : MT S A M B PR w r ↔ mB S A M B PR (MT S A M B PR) w r := by
  constructor
  · intro h
    obtain ⟨n, h⟩ := h
    cases n with
    | zero => exact h.elim
    | succ n =>
      rcases h with ⟨h1, k, hk, h2⟩ | ⟨h1, h2, k, hk, h3⟩ | ⟨h1, h2, ⟨h3, h4, h5⟩ | h | h⟩
      · exact .inl ⟨h1, k, hk, n, h2⟩
      · exact .inr (.inl ⟨h1, h2, k, hk, n, h3⟩)
      · exact .inr (.inr ⟨h1, h2, .inl ⟨h3, h4, n, h5⟩⟩)
      · exact .inr (.inr ⟨h1, h2, .inr (.inl h)⟩)
      · exact .inr (.inr ⟨h1, h2, .inr (.inr h)⟩)
  · intro h
    rcases h with ⟨h1, k, hk, n, h2⟩ | ⟨h1, h2, k, hk, n, h3⟩ | ⟨h1, h2, ⟨h3, h4, n, h5⟩ | h | h⟩
    · exact ⟨n + 1, .inl ⟨h1, k, hk, h2⟩⟩
    · exact ⟨n + 1, .inr (.inl ⟨h1, h2, k, hk, h3⟩)⟩
    · exact ⟨n + 1, .inr (.inr ⟨h1, h2, .inl ⟨h3, h4, h5⟩⟩)⟩
    · exact ⟨1, .inr (.inr ⟨h1, h2, .inr (.inl h)⟩)⟩
    · exact ⟨1, .inr (.inr ⟨h1, h2, .inr (.inr h)⟩)⟩
theorem MT.iffW {S A M B PR : Nat → Int32} {w r : Int32} (hw : (S w.toNatClampNeg).toInt = 8) : MT S A M B PR w r ↔ ∃ k : Nat, (k : Int) < (M w.toNatClampNeg).toInt ∧ MT S A M B PR (B (4 * w.toNatClampNeg + k)) r := by
  rw [MT.iff]
  constructor
  · intro h
    rcases h with h | h | h
    · exact h.2
    · exact absurd hw h.1
    · exact absurd hw h.1
  · intro h
    exact .inl ⟨hw, h⟩
theorem MT.iffR {S A M B PR : Nat → Int32} {w r : Int32} (hw : ¬ (S w.toNatClampNeg).toInt = 8) (hr : (S r.toNatClampNeg).toInt = 8) : MT S A M B PR w r ↔ ∃ k : Nat, (k : Int) < (M r.toNatClampNeg).toInt ∧ MT S A M B PR w (B (4 * r.toNatClampNeg + k)) := by
  rw [MT.iff]
  constructor
  · intro h
    rcases h with h | h | h
    · exact absurd h.1 hw
    · exact h.2.2
    · exact absurd hr h.2.1
  · intro h
    exact .inr (.inl ⟨hw, hr, h⟩)
theorem MT.iffL {S A M B PR : Nat → Int32} {w r : Int32} (hw : (S w.toNatClampNeg).toInt = 6) (hr : (S r.toNatClampNeg).toInt = 6) : MT S A M B PR w r ↔ MT S A M B PR (A w.toNatClampNeg) (A r.toNatClampNeg) := by
  rw [MT.iff]
  constructor
  · intro h
    rcases h with h | h | ⟨_, _, h | h | h⟩
    · omega
    · omega
    · exact h.2.2
    · omega
    · omega
  · intro h
    exact .inr (.inr ⟨by omega, by omega, .inl ⟨hw, hr, h⟩⟩)
theorem MT.iffP {S A M B PR : Nat → Int32} {w r : Int32} (hw : (S w.toNatClampNeg).toInt = 7) (hr : (S r.toNatClampNeg).toInt = 7) : MT S A M B PR w r ↔ ¬ PR (6 * (A w.toNatClampNeg).toNatClampNeg + (A r.toNatClampNeg).toNatClampNeg) = 0 := by
  rw [MT.iff]
  constructor
  · intro h
    rcases h with h | h | ⟨_, _, h | h | h⟩
    · omega
    · omega
    · omega
    · exact h.2.2
    · omega
  · intro h
    exact .inr (.inr ⟨by omega, by omega, .inr (.inl ⟨hw, hr, h⟩)⟩)
theorem MT.iffE {S A M B PR : Nat → Int32} {w r : Int32} (hw8 : ¬ (S w.toNatClampNeg).toInt = 8) (hr : ¬ (S r.toNatClampNeg).toInt = 8) (h6 : ¬ ((S w.toNatClampNeg).toInt = 6 ∧ (S r.toNatClampNeg).toInt = 6)) (h7 : ¬ ((S w.toNatClampNeg).toInt = 7 ∧ (S r.toNatClampNeg).toInt = 7)) : MT S A M B PR w r ↔ ((S w.toNatClampNeg).toInt = (S r.toNatClampNeg).toInt ∨ (S w.toNatClampNeg).toInt = 2 ∧ ((S r.toNatClampNeg).toInt = 3 ∨ (S r.toNatClampNeg).toInt = 4) ∨ (S w.toNatClampNeg).toInt = 3 ∧ (S r.toNatClampNeg).toInt = 4) := by
  rw [MT.iff]
  constructor
  · intro h
    rcases h with h | h | ⟨_, _, h | h | h⟩
    · omega
    · omega
    · omega
    · omega
    · exact h.2.2
  · intro h
    exact .inr (.inr ⟨hw8, hr, .inr (.inr ⟨h6, h7, h⟩)⟩)
theorem MT.lst {S A M B PR : Nat → Int32} {w r : Int32} (h : MT S A M B PR w r) (hr : ¬ (S r.toNatClampNeg).toInt = 8) (hw : (S w.toNatClampNeg).toInt = 6) : (S r.toNatClampNeg).toInt = 6 ∧ MT S A M B PR (A w.toNatClampNeg) (A r.toNatClampNeg) := by
  by_cases h6 : (S r.toNatClampNeg).toInt = 6
  · exact ⟨h6, (MT.iffL hw h6).mp h⟩
  · have := (MT.iffE (by omega) hr (by omega) (by omega)).mp h
    omega
theorem MT.rcd {S A M B PR : Nat → Int32} {w r : Int32} (h : MT S A M B PR w r) (hr : ¬ (S r.toNatClampNeg).toInt = 8) (hw : (S w.toNatClampNeg).toInt = 7) : (S r.toNatClampNeg).toInt = 7 ∧ ¬ PR (6 * (A w.toNatClampNeg).toNatClampNeg + (A r.toNatClampNeg).toNatClampNeg) = 0 := by
  by_cases h7 : (S r.toNatClampNeg).toInt = 7
  · exact ⟨h7, (MT.iffP hw h7).mp h⟩
  · have := (MT.iffE (by omega) hr (by omega) (by omega)).mp h
    omega
theorem MT.put {hi : Int} {S A M B PR : Nat → Int32} {a b : Int} {i : Nat} {x y : Int32} (hh : hi ≤ (i : Int)) : ∀ {n d e : Nat} {w r : Int32}, VT hi S A M B a d w → VT hi S A M B b e r → mt S A M B PR n w r → mt (upd S i x) (upd A i y) M B PR n w r := by
  intro n
  induction n with
  | zero => intro d e w r hw hr h; exact h.elim
  | succ n ih =>
    intro d e w r hw hr h
    have g1 := hw.rng
    have g2 := hr.rng
    have n1 := nN_ g1.1
    have n2 := nN_ g2.1
    have e1 : upd S i x w.toNatClampNeg = S w.toNatClampNeg := upd_no (by omega)
    have e2 : upd S i x r.toNatClampNeg = S r.toNatClampNeg := upd_no (by omega)
    have e3 : upd A i y w.toNatClampNeg = A w.toNatClampNeg := upd_no (by omega)
    have e4 : upd A i y r.toNatClampNeg = A r.toNatClampNeg := upd_no (by omega)
    show mB _ _ _ _ _ _ _ _
    unfold mB
    rw [e1, e2, e3, e4]
    rcases h with ⟨h1, k, hk, h2⟩ | ⟨h1, h2, k, hk, h3⟩ | ⟨h1, h2, ⟨h3, h4, h5⟩ | h | h⟩
    · exact .inl ⟨h1, k, hk, ih ((hw.eit h1).2.2.1 k hk).1 hr h2⟩
    · exact .inr (.inl ⟨h1, h2, k, hk, ih hw ((hr.eit h2).2.2.1 k hk).1 h3⟩)
    · exact .inr (.inr ⟨h1, h2, .inl ⟨h3, h4, ih (hw.lst h3).2 (hr.lst h4).2 h5⟩⟩)
    · exact .inr (.inr ⟨h1, h2, .inr (.inl h)⟩)
    · exact .inr (.inr ⟨h1, h2, .inr (.inr h)⟩)
/-- the plans: each record's fields have types, four high at most -/
def PL (S A M B RM FM FT : Nat → Int32) (pm : Int) : Prop := ∀ p : Nat, (p : Int) < pm → (1 ≤ (RM p).toInt ∧ (RM p).toInt ≤ 6) ∧ ∀ k : Nat, (k : Int) < (RM p).toInt → bI (FM (6 * p + k)) 0 8 ∧ ∀ j : Nat, (j : Int) < (FM (6 * p + k)).toInt → VT 400 S A M B (RM p).toInt 4 (FT (8 * (6 * p + k) + j))
def PLs (σ : ST) : Prop := bI (σ.1 0 32) 0 6 ∧ PL (σ.1 2) (σ.1 3) (σ.1 4) (σ.1 5) (σ.1 8) (σ.1 11) (σ.1 15) (σ.1 0 32).toInt ∧ ∀ i, bI (σ.1 19 i) 0 12
theorem PLs.of {σ τ : ST} (h : PLs σ) (e0 : τ.1 0 32 = σ.1 0 32) (e2 : τ.1 2 = σ.1 2) (e3 : τ.1 3 = σ.1 3) (e4 : τ.1 4 = σ.1 4) (e5 : τ.1 5 = σ.1 5) (e8 : τ.1 8 = σ.1 8) (e11 : τ.1 11 = σ.1 11) (e15 : τ.1 15 = σ.1 15) (e19 : τ.1 19 = σ.1 19) : PLs τ := by
  unfold PLs
  rw [e0, e2, e3, e4, e5, e8, e11, e15, e19]
  exact h
theorem PLs.ch {C I : List Nat} {σ τ : ST} (h : PLs σ) (c : CH C I σ τ) (h0 : 32 ∉ I) (hC : ∀ c, c ∈ [2, 3, 4, 5, 8, 11, 15, 19] → c ∉ C) : PLs τ := h.of (c.2.1 32 h0) (c.1 2 (by decide) (hC 2 (by decide))) (c.1 3 (by decide) (hC 3 (by decide))) (c.1 4 (by decide) (hC 4 (by decide))) (c.1 5 (by decide) (hC 5 (by decide))) (c.1 8 (by decide) (hC 8 (by decide))) (c.1 11 (by decide) (hC 11 (by decide))) (c.1 15 (by decide) (hC 15 (by decide))) (c.1 19 (by decide) (hC 19 (by decide)))
/-- the pairs' booleans -/
def PB (σ : ST) : Prop := ∀ k, (σ.1 35 k).toInt = 0 ∨ (σ.1 35 k).toInt = 1
/-- writer and reader -/
def WR2 (σ : ST) : Prop := (0 ≤ (σ.1 0 53).toInt ∧ (σ.1 0 53).toInt < (σ.1 0 32).toInt) ∧ 0 ≤ (σ.1 0 54).toInt ∧ (σ.1 0 54).toInt < (σ.1 0 32).toInt
abbrev VS (σ : ST) (rm : Int) (d : Nat) (t : Int32) : Prop := VT 800 (σ.1 2) (σ.1 3) (σ.1 4) (σ.1 5) rm d t
abbrev VC (σ : ST) (rm : Int) (d : Nat) (t : Int32) : Prop := VT 400 (σ.1 2) (σ.1 3) (σ.1 4) (σ.1 5) rm d t
abbrev MS (σ : ST) (w r : Int32) : Prop := MT (σ.1 2) (σ.1 3) (σ.1 4) (σ.1 5) (σ.1 35) w r
def cMatch (N : Nat) (rm : Int32 → Int32 → ST → Option (Int32 × ST)) : Prop := ∀ (w r : Int32) (σ : ST) (a b : Int) (d e : Nat), a ≤ 6 → b ≤ 6 → PB σ → VS σ a d w → VS σ b e r → 2 * d + 2 * e ≤ N → OK (rm w r σ) (RO σ fun v => v.toInt = 0 ∧ ¬ MS σ w r ∨ v.toInt = 1 ∧ MS σ w r)
def cChosen (N : Nat) (rc : Int32 → Int32 → ST → Option (Int32 × ST)) : Prop := ∀ (w r : Int32) (σ : ST) (a b : Int) (d e : Nat), a ≤ 6 → b ≤ 6 → PB σ → VS σ a d w → VS σ b e r → 2 * d + 2 * e ≤ N + 1 → (σ.1 2 r.toNatClampNeg).toInt = 8 → OK (rc w r σ) (RO σ fun v => v.toInt = -1 ∧ (∀ k : Nat, (k : Int) < (σ.1 4 r.toNatClampNeg).toInt → ¬ MS σ w (σ.1 5 (4 * r.toNatClampNeg + k))) ∨ (0 ≤ v.toInt ∧ v.toInt < (σ.1 4 r.toNatClampNeg).toInt) ∧ MS σ w (σ.1 5 (4 * r.toNatClampNeg + v.toNatClampNeg)))
theorem b_chosen_5 {N : Nat} {rc rm : Int32 → Int32 → ST → Option (Int32 × ST)} (hm : cMatch N rm) : ∀ (n : Nat) (w r x3 x4 : Int32) (σ : ST) (a b : Int) (d e : Nat), a ≤ 6 → b ≤ 6 → PB σ → VS σ a d w → VS σ b e r → 2 * d + 2 * e ≤ N + 2 → (σ.1 2 r.toNatClampNeg).toInt = 8 → (0 ≤ x4.toInt ∧ x4.toInt ≤ 4 ∧ (4 : Int) - x4.toInt < n) → (x3.toInt = -1 ∧ (∀ k : Nat, (k : Int) < x4.toInt → ¬ MS σ w (σ.1 5 (4 * r.toNatClampNeg + k))) ∨ (0 ≤ x3.toInt ∧ x3.toInt < (σ.1 4 r.toNatClampNeg).toInt) ∧ MS σ w (σ.1 5 (4 * r.toNatClampNeg + x3.toNatClampNeg))) → OK (f_X11_chosen_5 rc rm n w r x3 x4 σ) (RO σ fun v => v.toInt = -1 ∧ (∀ k : Nat, (k : Int) < (σ.1 4 r.toNatClampNeg).toInt → ¬ MS σ w (σ.1 5 (4 * r.toNatClampNeg + k))) ∨ (0 ≤ v.toInt ∧ v.toInt < (σ.1 4 r.toNatClampNeg).toInt) ∧ MS σ w (σ.1 5 (4 * r.toNatClampNeg + v.toNatClampNeg))) := by
  intro n
  induction n with
  | zero => intro w r x3 x4 σ a b d e h1 h2 h3 h4 h5 h6 h7 h8; omega
  | succ n ih =>
    intro w r x3 x4 σ a b d e ha hb hP hw hr hN hs h8 h9
    rw [f_X11_chosen_5]
    have lt_0 := li_0
    have lt_1 := li_1
    have lt_4 := li_4
    obtain ⟨g1, g2, g3, g4⟩ := hr.eit hs
    have gr := hr.rng
    have gw := hw.rng
    have e1 := mlE (k := 4) (y := r) 4 li_4 (by omega) (by omega)
    have e2 := il_addE (x := 4 * r) (y := x4) (by omega) (by omega)
    have e3 := il_addE (x := x4) (y := 1) (by omega) (by omega)
    have n1 := nN_ gr.1
    have n2 := nN_ h8.1
    have e4 : (4 * r + x4).toNatClampNeg = 4 * r.toNatClampNeg + x4.toNatClampNeg := nC (by omega)
    refine OK.grd gr ?_
    refine OK.ile (fun hh => OK.roret ?_) (fun h => ?_)
    · rcases h9 with h9 | h9
      · exact .inl ⟨h9.1, fun k hk => h9.2 k (by omega)⟩
      · exact .inr h9
    refine OK.grd ⟨by omega, by omega⟩ ?_
    rw [e4]
    have hk : ((x4.toNatClampNeg : Nat) : Int) < (σ.1 4 r.toNatClampNeg).toInt := by omega
    have hB := (g3 _ hk).1
    refine OK.bndR (hm w _ σ a b d (e - 1) ha hb hP hw hB (by omega)) (fun v hv => ?_)
    dsimp only
    unfold f_X11_chosen_69 f_X11_chosen_68
    refine OK.ieq (fun h0 => ih _ _ _ _ _ _ _ _ _ ha hb hP hw hr hN hs (by omega) ?_) (fun h0 => ?_)
    · rcases h9 with h9 | h9
      · refine .inl ⟨h9.1, fun k hk => ?_⟩
        by_cases e : (k : Int) < x4.toInt
        · exact h9.2 k e
        · have ek : k = x4.toNatClampNeg := by omega
          rw [ek]
          rcases hv with hv | hv
          · exact hv.2
          · omega
      · exact .inr h9
    have hv1 : MS σ w (σ.1 5 (4 * r.toNatClampNeg + x4.toNatClampNeg)) := by
      rcases hv with hv | hv
      · omega
      · exact hv.2
    refine OK.grd hB.rng ?_
    refine OK.grd gw ?_
    refine OK.ieq (fun _ => OK.roret (.inr ⟨⟨h8.1, by omega⟩, hv1⟩)) (fun _ => ?_)
    refine OK.ile (fun h30 => ?_) (fun _ => ?_)
    · refine ih _ _ _ _ _ _ _ _ _ ha hb hP hw hr hN hs (by omega) ?_
      rcases h9 with h9 | h9
      · omega
      · exact .inr h9
    · exact ih _ _ _ _ _ _ _ _ _ ha hb hP hw hr hN hs (by omega) (.inr ⟨⟨h8.1, by omega⟩, hv1⟩)
theorem b_match_16 {N : Nat} {rc rm : Int32 → Int32 → ST → Option (Int32 × ST)} (hm : cMatch N rm) : ∀ (n : Nat) (w r x3 x4 : Int32) (σ : ST) (a b : Int) (d e : Nat), a ≤ 6 → b ≤ 6 → PB σ → VS σ a d w → VS σ b e r → 2 * d + 2 * e ≤ N + 2 → (σ.1 2 w.toNatClampNeg).toInt = 8 → (0 ≤ x4.toInt ∧ x4.toInt ≤ 4 ∧ (4 : Int) - x4.toInt < n) → (x3.toInt = 0 ∧ (∀ k : Nat, (k : Int) < x4.toInt → ¬ MS σ (σ.1 5 (4 * w.toNatClampNeg + k)) r) ∨ x3.toInt = 1 ∧ MS σ w r) → OK (f_X11_match_16 rc rm n w r x3 x4 σ) (RO σ fun v => v.toInt = 0 ∧ ¬ MS σ w r ∨ v.toInt = 1 ∧ MS σ w r) := by
  intro n
  induction n with
  | zero => intro w r x3 x4 σ a b d e h1 h2 h3 h4 h5 h6 h7 h8; omega
  | succ n ih =>
    intro w r x3 x4 σ a b d e ha hb hP hw hr hN hs h8 h9
    rw [f_X11_match_16]
    have lt_0 := li_0
    have lt_1 := li_1
    have lt_4 := li_4
    obtain ⟨g1, g2, g3, g4⟩ := hw.eit hs
    have gw := hw.rng
    have e1 := mlE (k := 4) (y := w) 4 li_4 (by omega) (by omega)
    have e2 := il_addE (x := 4 * w) (y := x4) (by omega) (by omega)
    have e3 := il_addE (x := x4) (y := 1) (by omega) (by omega)
    have n1 := nN_ gw.1
    have n2 := nN_ h8.1
    have e4 : (4 * w + x4).toNatClampNeg = 4 * w.toNatClampNeg + x4.toNatClampNeg := nC (by omega)
    refine OK.grd gw ?_
    refine OK.ile (fun hh => OK.grd (b01 (by omega)) (OK.roret ?_)) (fun h => ?_)
    · rcases h9 with h9 | h9
      · refine .inl ⟨h9.1, fun h => ?_⟩
        obtain ⟨k, k1, k2⟩ := (MT.iffW hs).mp h
        exact h9.2 k (by omega) k2
      · exact .inr h9
    unfold f_X11_match_50 f_X11_match_55
    refine OK.ieq (fun _ => ?_) (fun h0 => ?_)
    · refine OK.grd ⟨by omega, by omega⟩ ?_
      rw [e4]
      have hk : ((x4.toNatClampNeg : Nat) : Int) < (σ.1 4 w.toNatClampNeg).toInt := by omega
      have hB := (g3 _ hk).1
      refine OK.bndR (hm _ r σ a b (d - 1) e ha hb hP hB hr (by omega)) (fun v hv => ?_)
      dsimp only
      refine OK.ieq (fun h0 => ih _ _ _ _ _ _ _ _ _ ha hb hP hw hr hN hs (by omega) (.inl ⟨by omega, fun k hk2 => ?_⟩)) (fun h0 => ?_)
      · by_cases e : (k : Int) < x4.toInt
        · rcases h9 with h9 | h9
          · exact h9.2 k e
          · omega
        · have ek : k = x4.toNatClampNeg := by omega
          rw [ek]
          rcases hv with hv | hv
          · exact hv.2
          · omega
      have hv1 : MS σ w r := by
        rcases hv with hv | hv
        · omega
        · exact (MT.iffW hs).mpr ⟨_, hk, hv.2⟩
      exact ih _ _ _ _ _ _ _ _ _ ha hb hP hw hr hN hs (by omega) (.inr ⟨by omega, hv1⟩)
    · refine ih _ _ _ _ _ _ _ _ _ ha hb hP hw hr hN hs (by omega) (.inr ⟨by omega, ?_⟩)
      rcases h9 with h9 | h9
      · omega
      · exact h9.2
theorem b_match_135 {rc rm : Int32 → Int32 → ST → Option (Int32 × ST)} (w r x3 x4 : Int32) (σ : ST) (a b : Int) (d e : Nat) (ha : a ≤ 6) (hb : b ≤ 6) (hP : PB σ) (hw : VS σ a d w) (hr : VS σ b e r) (h3 : x3 = σ.1 2 w.toNatClampNeg) (h4 : x4 = σ.1 2 r.toNatClampNeg) (h8 : ¬ (σ.1 2 w.toNatClampNeg).toInt = 8) (h9 : ¬ (σ.1 2 r.toNatClampNeg).toInt = 8) (h6 : ¬ ((σ.1 2 w.toNatClampNeg).toInt = 6 ∧ (σ.1 2 r.toNatClampNeg).toInt = 6)) : OK (f_X11_match_135 rc rm w r x3 x4 σ) (RO σ fun v => v.toInt = 0 ∧ ¬ MS σ w r ∨ v.toInt = 1 ∧ MS σ w r) := by
  have lt_0 := li_0
  have lt_1 := li_1
  have lt_2 := li_2
  have lt_3 := li_3
  have lt_4 := li_4
  have lt_6 := li_6
  have lt_7 := li_7
  have e3 : x3.toInt = (σ.1 2 w.toNatClampNeg).toInt := by rw [h3]
  have e4 : x4.toInt = (σ.1 2 r.toNatClampNeg).toInt := by rw [h4]
  have k170 : ¬ (x3.toInt = 7 ∧ x4.toInt = 7) → OK (f_X11_match_170 rc rm x3 x4 σ) (RO σ fun v => v.toInt = 0 ∧ ¬ MS σ w r ∨ v.toInt = 1 ∧ MS σ w r) := fun h7 => by
    have it := MT.iffE (S := σ.1 2) (A := σ.1 3) (M := σ.1 4) (B := σ.1 5) (PR := σ.1 35) (w := w) (r := r) h8 h9 h6 (by omega)
    have y : (x3.toInt = x4.toInt ∨ x3.toInt = 2 ∧ (x4.toInt = 3 ∨ x4.toInt = 4) ∨ x3.toInt = 3 ∧ x4.toInt = 4) → OK (some ((1 : Int32), σ)) (RO σ fun v => v.toInt = 0 ∧ ¬ MS σ w r ∨ v.toInt = 1 ∧ MS σ w r) := fun a1 => OK.roret (.inr ⟨by omega, it.mpr (by omega)⟩)
    have no : ¬ (x3.toInt = x4.toInt ∨ x3.toInt = 2 ∧ (x4.toInt = 3 ∨ x4.toInt = 4) ∨ x3.toInt = 3 ∧ x4.toInt = 4) → OK (some ((0 : Int32), σ)) (RO σ fun v => v.toInt = 0 ∧ ¬ MS σ w r ∨ v.toInt = 1 ∧ MS σ w r) := fun a1 => OK.roret (.inl ⟨by omega, fun h => by have := it.mp h; omega⟩)
    unfold f_X11_match_170 f_X11_match_193 f_X11_match_204
    refine OK.ieq (fun _ => y (by omega)) (fun _ => ?_)
    refine OK.ieq (fun _ => ?_) (fun _ => ?_)
    · refine OK.ieq (fun _ => y (by omega)) (fun _ => ?_)
      refine OK.ieq (fun _ => y (by omega)) (fun _ => ?_)
      refine OK.ieq (fun _ => ?_) (fun _ => no (by omega))
      exact OK.ieq (fun _ => y (by omega)) (fun _ => no (by omega))
    · refine OK.ieq (fun _ => ?_) (fun _ => no (by omega))
      exact OK.ieq (fun _ => y (by omega)) (fun _ => no (by omega))
  unfold f_X11_match_135
  refine OK.ieq (fun h7 => ?_) (fun _ => k170 (by omega))
  refine OK.ieq (fun h7' => ?_) (fun _ => k170 (by omega))
  have rw_ := hw.rcd (by omega)
  have rr_ := hr.rcd (by omega)
  refine OK.grd hw.rng ?_
  refine OK.grd hr.rng ?_
  have e1 := mlE (k := 6) (y := σ.1 3 w.toNatClampNeg) 6 li_6 (by omega) (by omega)
  have e2 := il_addE (x := 6 * σ.1 3 w.toNatClampNeg) (y := σ.1 3 r.toNatClampNeg) (by omega) (by omega)
  have n1 := nN_ rw_.1
  have n2 := nN_ rr_.1
  have e5 : (6 * σ.1 3 w.toNatClampNeg + σ.1 3 r.toNatClampNeg).toNatClampNeg = 6 * (σ.1 3 w.toNatClampNeg).toNatClampNeg + (σ.1 3 r.toNatClampNeg).toNatClampNeg := nC (by omega)
  refine OK.grd ⟨by omega, by omega⟩ ?_
  rw [e5]
  have hb := hP (6 * (σ.1 3 w.toNatClampNeg).toNatClampNeg + (σ.1 3 r.toNatClampNeg).toNatClampNeg)
  refine OK.grd (b01 hb) ?_
  refine OK.roret ?_
  rcases hb with hb | hb
  · exact .inl ⟨hb, fun h => (MT.iffP (by omega) (by omega)).mp h (Int32.toInt_inj.mp (by omega))⟩
  · exact .inr ⟨hb, (MT.iffP (by omega) (by omega)).mpr (fun h0 => by rw [h0] at hb; omega)⟩
theorem b_match_top {N : Nat} {rc rm : Int32 → Int32 → ST → Option (Int32 × ST)} (hm : cMatch N rm) (hc : cChosen N rc) : cMatch (N + 1) (f_X11_match rc rm) := by
  intro w r σ a b d e ha hb hP hw hr hN
  unfold f_X11_match
  have lt_0 := li_0
  have lt_1 := li_1
  have lt_6 := li_6
  have lt_8 := li_8
  have lu := FUi
  refine OK.grd hw.rng ?_
  refine OK.ieq (fun h8 => ?_) (fun h8 => ?_)
  · have := (hw.eit (by omega)).1
    exact b_match_16 hm FU w r 0 0 σ a b d e ha hb hP hw hr (by omega) (by omega) (by omega) (.inl ⟨by omega, fun k hk => by omega⟩)
  refine OK.grd hr.rng ?_
  refine OK.ieq (fun h9 => ?_) (fun h9 => ?_)
  · refine OK.bndR (hc w r σ a b d e ha hb hP hw hr (by omega) (by omega)) (fun v hv => ?_)
    dsimp only
    have it := MT.iffR (S := σ.1 2) (A := σ.1 3) (M := σ.1 4) (B := σ.1 5) (PR := σ.1 35) (w := w) (r := r) (by omega) (by omega)
    refine OK.ilt (fun _ => OK.roret (.inl ⟨by omega, fun h => ?_⟩)) (fun _ => ?_)
    · obtain ⟨k, k1, k2⟩ := it.mp h
      rcases hv with hv | ⟨hv, hv2⟩
      · exact hv.2 k k1 k2
      · omega
    rcases hv with hv | ⟨hv, hv2⟩
    · omega
    · have n1 := nN_ hv.1
      exact OK.roret (.inr ⟨by omega, it.mpr ⟨v.toNatClampNeg, by omega, hv2⟩⟩)
  · have z := fun h6 => b_match_135 (rc := rc) (rm := rm) w r _ _ σ a b d e ha hb hP hw hr rfl rfl (by omega) (by omega) h6
    refine OK.ieq (fun h6 => ?_) (fun h6 => z (by omega))
    refine OK.ieq (fun h7 => ?_) (fun h7 => z (by omega))
    have a1 := hw.lst (by omega)
    have a2 := hr.lst (by omega)
    refine OK.bndR (hm _ _ σ a b (d - 1) (e - 1) ha hb hP a1.2 a2.2 (by omega)) (fun v hv => ?_)
    dsimp only
    refine OK.grd (b01 (by omega)) ?_
    refine OK.roret ?_
    rcases hv with hv | hv
    · exact .inl ⟨hv.1, fun h => hv.2 ((MT.iffL (by omega) (by omega)).mp h)⟩
    · exact .inr ⟨hv.1, (MT.iffL (by omega) (by omega)).mpr hv.2⟩
theorem b_chosen_top {N : Nat} {rc rm : Int32 → Int32 → ST → Option (Int32 × ST)} (hm : cMatch N rm) : cChosen (N + 1) (f_X11_chosen rc rm) := by
  intro w r σ a b d e ha hb hP hw hr hN hs
  unfold f_X11_chosen
  have lt_0 := li_0
  have lt_m := li_m1
  have lu := FUi
  have := (hr.eit hs).1
  exact b_chosen_5 hm FU w r (-1) 0 σ a b d e ha hb hP hw hr (by omega) hs (by omega) (.inl ⟨by omega, fun k hk => by omega⟩)
theorem b_RM : ∀ N : Nat, cChosen N (R_X11_chosen N).1 ∧ cMatch N (R_X11_chosen N).2 := by
  intro N
  induction N with
  | zero =>
    refine ⟨?_, ?_⟩
    · intro w r σ a b d e ha hb hP hw hr hN hs
      have := (hr.eit hs).1
      cases d with
      | zero => exact hw.elim
      | succ d => omega
    · intro w r σ a b d e ha hb hP hw hr hN
      cases d with
      | zero => exact hw.elim
      | succ d => omega
  | succ N ih => exact ⟨b_chosen_top ih.2, b_match_top ih.2 ih.1⟩
theorem bT_match (w r : Int32) (σ : ST) {a b : Int} {d e : Nat} (ha : a ≤ 6) (hb : b ≤ 6) (hP : PB σ) (hw : VS σ a d w) (hr : VS σ b e r) (hd : d ≤ 8) (he : e ≤ 8) : OK (f_T_X11_match w r σ) (RO σ fun v => v.toInt = 0 ∧ ¬ MS σ w r ∨ v.toInt = 1 ∧ MS σ w r) := (b_RM FRB).2 w r σ a b d e ha hb hP hw hr (by have := FRi; omega)
theorem bT_chosen (w r : Int32) (σ : ST) {a b : Int} {d e : Nat} (ha : a ≤ 6) (hb : b ≤ 6) (hP : PB σ) (hw : VS σ a d w) (hr : VS σ b e r) (hd : d ≤ 8) (he : e ≤ 8) (hs : (σ.1 2 r.toNatClampNeg).toInt = 8) : OK (f_T_X11_chosen w r σ) (RO σ fun v => v.toInt = -1 ∧ (∀ k : Nat, (k : Int) < (σ.1 4 r.toNatClampNeg).toInt → ¬ MS σ w (σ.1 5 (4 * r.toNatClampNeg + k))) ∨ (0 ≤ v.toInt ∧ v.toInt < (σ.1 4 r.toNatClampNeg).toInt) ∧ MS σ w (σ.1 5 (4 * r.toNatClampNeg + v.toNatClampNeg))) := (b_RM FRB).1 w r σ a b d e ha hb hP hw hr (by have := FRi; omega) hs
