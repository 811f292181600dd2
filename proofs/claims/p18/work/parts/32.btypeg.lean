/-! the reference: types, as high as they are, and when one matches another -/
/-- a type of a plan with so many records, no higher than so -/
def VT (hi : Int) (S A M B : Nat → Int32) (rm : Int) : Nat → Int32 → Prop
  | 0, _ => False
  | d + 1, t => (0 ≤ t.toInt ∧ t.toInt < hi) ∧ (0 ≤ (S t.toNatClampNeg).toInt ∧ (S t.toNatClampNeg).toInt ≤ 8) ∧
    ((S t.toNatClampNeg).toInt = 6 → VT hi S A M B rm d (A t.toNatClampNeg)) ∧
    ((S t.toNatClampNeg).toInt = 7 → 0 ≤ (A t.toNatClampNeg).toInt ∧ (A t.toNatClampNeg).toInt < rm) ∧
    ((S t.toNatClampNeg).toInt = 8 → (1 ≤ (M t.toNatClampNeg).toInt ∧ (M t.toNatClampNeg).toInt ≤ 4) ∧
      (∀ k : Nat, (k : Int) < (M t.toNatClampNeg).toInt → VT hi S A M B rm d (B (4 * t.toNatClampNeg + k)) ∧ ¬ (S (B (4 * t.toNatClampNeg + k)).toNatClampNeg).toInt = 8) ∧
      (∀ j k : Nat, j < k → (k : Int) < (M t.toNatClampNeg).toInt → ¬ (S (B (4 * t.toNatClampNeg + j)).toNatClampNeg).toInt = (S (B (4 * t.toNatClampNeg + k)).toNatClampNeg).toInt))
theorem VT.rng {hi : Int} {S A M B : Nat → Int32} {rm : Int} {d : Nat} {t : Int32} (h : VT hi S A M B rm d t) : 0 ≤ t.toInt ∧ t.toInt < hi := by
  cases d with
  | zero => exact h.elim
  | succ d => exact h.1
theorem VT.srt {hi : Int} {S A M B : Nat → Int32} {rm : Int} {d : Nat} {t : Int32} (h : VT hi S A M B rm d t) : 0 ≤ (S t.toNatClampNeg).toInt ∧ (S t.toNatClampNeg).toInt ≤ 8 := by
  cases d with
  | zero => exact h.elim
  | succ d => exact h.2.1
theorem VT.lst {hi : Int} {S A M B : Nat → Int32} {rm : Int} {d : Nat} {t : Int32} (h : VT hi S A M B rm d t) (hs : (S t.toNatClampNeg).toInt = 6) : 1 ≤ d ∧ VT hi S A M B rm (d - 1) (A t.toNatClampNeg) := by
  cases d with
  | zero => exact h.elim
  | succ d => exact ⟨by omega, h.2.2.1 hs⟩
theorem VT.rcd {hi : Int} {S A M B : Nat → Int32} {rm : Int} {d : Nat} {t : Int32} (h : VT hi S A M B rm d t) (hs : (S t.toNatClampNeg).toInt = 7) : 0 ≤ (A t.toNatClampNeg).toInt ∧ (A t.toNatClampNeg).toInt < rm := by
  cases d with
  | zero => exact h.elim
  | succ d => exact h.2.2.2.1 hs
theorem VT.eit {hi : Int} {S A M B : Nat → Int32} {rm : Int} {d : Nat} {t : Int32} (h : VT hi S A M B rm d t) (hs : (S t.toNatClampNeg).toInt = 8) : 1 ≤ d ∧ (1 ≤ (M t.toNatClampNeg).toInt ∧ (M t.toNatClampNeg).toInt ≤ 4) ∧ (∀ k : Nat, (k : Int) < (M t.toNatClampNeg).toInt → VT hi S A M B rm (d - 1) (B (4 * t.toNatClampNeg + k)) ∧ ¬ (S (B (4 * t.toNatClampNeg + k)).toNatClampNeg).toInt = 8) ∧ (∀ j k : Nat, j < k → (k : Int) < (M t.toNatClampNeg).toInt → ¬ (S (B (4 * t.toNatClampNeg + j)).toNatClampNeg).toInt = (S (B (4 * t.toNatClampNeg + k)).toNatClampNeg).toInt) := by
  cases d with
  | zero => exact h.elim
  | succ d => exact ⟨by omega, h.2.2.2.2 hs⟩
theorem VT.up {hi : Int} {S A M B : Nat → Int32} {rm : Int} : ∀ {d : Nat} {t : Int32}, VT hi S A M B rm d t → VT hi S A M B rm (d + 1) t := by
  intro d
  induction d with
  | zero => intro t h; exact h.elim
  | succ d ih =>
    intro t h
    obtain ⟨h1, h2, h3, h4, h5⟩ := h
    refine ⟨h1, h2, fun hs => ih (h3 hs), h4, fun hs => ?_⟩
    obtain ⟨a1, a2, a3⟩ := h5 hs
    exact ⟨a1, fun k hk => ⟨ih (a2 k hk).1, (a2 k hk).2⟩, a3⟩
theorem VT.wk {hi hi' : Int} {S A M B : Nat → Int32} {rm : Int} (hh : hi ≤ hi') : ∀ {d : Nat} {t : Int32}, VT hi S A M B rm d t → VT hi' S A M B rm d t := by
  intro d
  induction d with
  | zero => intro t h; exact h.elim
  | succ d ih =>
    intro t h
    obtain ⟨h1, h2, h3, h4, h5⟩ := h
    refine ⟨⟨h1.1, by omega⟩, h2, fun hs => ih (h3 hs), h4, fun hs => ?_⟩
    obtain ⟨a1, a2, a3⟩ := h5 hs
    exact ⟨a1, fun k hk => ⟨ih (a2 k hk).1, (a2 k hk).2⟩, a3⟩
/-- a place that no type has may be another one -/
theorem VT.put {hi : Int} {S A M B : Nat → Int32} {rm : Int} {i : Nat} {x y : Int32} (hh : hi ≤ (i : Int)) : ∀ {d : Nat} {t : Int32}, VT hi S A M B rm d t → VT hi (upd S i x) (upd A i y) M B rm d t := by
  intro d
  induction d with
  | zero => intro t h; exact h.elim
  | succ d ih =>
    intro t h
    obtain ⟨h1, h2, h3, h4, h5⟩ := h
    have n1 := nN_ h1.1
    have e1 : upd S i x t.toNatClampNeg = S t.toNatClampNeg := upd_no (by omega)
    have e2 : upd A i y t.toNatClampNeg = A t.toNatClampNeg := upd_no (by omega)
    refine ⟨h1, ?_, ?_, ?_, ?_⟩
    · rw [e1]; exact h2
    · rw [e1, e2]; exact fun hs => ih (h3 hs)
    · rw [e1, e2]; exact h4
    · rw [e1]
      intro hs
      obtain ⟨a1, a2, a3⟩ := h5 hs
      have eb : ∀ k : Nat, (k : Int) < (M t.toNatClampNeg).toInt → upd S i x (B (4 * t.toNatClampNeg + k)).toNatClampNeg = S (B (4 * t.toNatClampNeg + k)).toNatClampNeg := fun k hk => by
        have r := (a2 k hk).1.rng
        have n2 := nN_ r.1
        exact upd_no (by omega)
      refine ⟨a1, fun k hk => ⟨ih (a2 k hk).1, by rw [eb k hk]; exact (a2 k hk).2⟩, fun j k hjk hk => ?_⟩
      rw [eb k hk, eb j (by omega)]
      exact a3 j k hjk hk
/-- a type of one plan matches that of another, by what is said of those below -/
def mB (S A M B PR : Nat → Int32) (q : Int32 → Int32 → Prop) (w r : Int32) : Prop := ((S w.toNatClampNeg).toInt = 8 ∧ ∃ k : Nat, (k : Int) < (M w.toNatClampNeg).toInt ∧ q (B (4 * w.toNatClampNeg + k)) r) ∨
    (¬ (S w.toNatClampNeg).toInt = 8 ∧ (S r.toNatClampNeg).toInt = 8 ∧ ∃ k : Nat, (k : Int) < (M r.toNatClampNeg).toInt ∧ q w (B (4 * r.toNatClampNeg + k))) ∨
    (¬ (S w.toNatClampNeg).toInt = 8 ∧ ¬ (S r.toNatClampNeg).toInt = 8 ∧
      (((S w.toNatClampNeg).toInt = 6 ∧ (S r.toNatClampNeg).toInt = 6 ∧ q (A w.toNatClampNeg) (A r.toNatClampNeg)) ∨
       ((S w.toNatClampNeg).toInt = 7 ∧ (S r.toNatClampNeg).toInt = 7 ∧ ¬ PR (6 * (A w.toNatClampNeg).toNatClampNeg + (A r.toNatClampNeg).toNatClampNeg) = 0) ∨
       (¬ ((S w.toNatClampNeg).toInt = 6 ∧ (S r.toNatClampNeg).toInt = 6) ∧ ¬ ((S w.toNatClampNeg).toInt = 7 ∧ (S r.toNatClampNeg).toInt = 7) ∧ ((S w.toNatClampNeg).toInt = (S r.toNatClampNeg).toInt ∨ (S w.toNatClampNeg).toInt = 2 ∧ ((S r.toNatClampNeg).toInt = 3 ∨ (S r.toNatClampNeg).toInt = 4) ∨ (S w.toNatClampNeg).toInt = 3 ∧ (S r.toNatClampNeg).toInt = 4))))
def mt (S A M B PR : Nat → Int32) : Nat → Int32 → Int32 → Prop
  | 0, _, _ => False
  | n + 1, w, r => mB S A M B PR (mt S A M B PR n) w r
def MT (S A M B PR : Nat → Int32) (w r : Int32) : Prop := ∃ n, mt S A M B PR n w r
theorem MT.iff {S A M B PR : Nat → Int32} {w r : Int32} : MT S A M B PR w r ↔ mB S A M B PR (MT S A M B PR) w r := by
  constructor
  · intro h
    obtain ⟨n, h⟩ := h
    cases n with
    | zero => exact h.elim
    | succ n =>
      rcases h with ⟨h1, k, hk, h2⟩ | ⟨h1, h2, k, hk, h3⟩ | ⟨h1, h2, ⟨h3, h4, h5⟩ | h | h⟩
      · exact .inl ⟨h1, k, hk, n, h2⟩
      · exact .inr (.inl ⟨h1, h2, k, hk, n, h3⟩)
      · exact .inr (.inr ⟨h1, h2, .inl ⟨h3, h4, n, h5⟩⟩)
      · exact .inr (.inr ⟨h1, h2, .inr (.inl h)⟩)
      · exact .inr (.inr ⟨h1, h2, .inr (.inr h)⟩)
  · intro h
    rcases h with ⟨h1, k, hk, n, h2⟩ | ⟨h1, h2, k, hk, n, h3⟩ | ⟨h1, h2, ⟨h3, h4, n, h5⟩ | h | h⟩
    · exact ⟨n + 1, .inl ⟨h1, k, hk, h2⟩⟩
    · exact ⟨n + 1, .inr (.inl ⟨h1, h2, k, hk, h3⟩)⟩
    · exact ⟨n + 1, .inr (.inr ⟨h1, h2, .inl ⟨h3, h4, h5⟩⟩)⟩
    · exact ⟨1, .inr (.inr ⟨h1, h2, .inr (.inl h)⟩)⟩
    · exact ⟨1, .inr (.inr ⟨h1, h2, .inr (.inr h)⟩)⟩
theorem MT.iffW {S A M B PR : Nat → Int32} {w r : Int32} (hw : (S w.toNatClampNeg).toInt = 8) : MT S A M B PR w r ↔ ∃ k : Nat, (k : Int) < (M w.toNatClampNeg).toInt ∧ MT S A M B PR (B (4 * w.toNatClampNeg + k)) r := by
  rw [MT.iff]
  constructor
  · intro h
    rcases h with h | h | h
    · exact h.2
    · exact absurd hw h.1
    · exact absurd hw h.1
  · intro h
    exact .inl ⟨hw, h⟩
theorem MT.iffR {S A M B PR : Nat → Int32} {w r : Int32} (hw : ¬ (S w.toNatClampNeg).toInt = 8) (hr : (S r.toNatClampNeg).toInt = 8) : MT S A M B PR w r ↔ ∃ k : Nat, (k : Int) < (M r.toNatClampNeg).toInt ∧ MT S A M B PR w (B (4 * r.toNatClampNeg + k)) := by
  rw [MT.iff]
  constructor
  · intro h
    rcases h with h | h | h
    · exact absurd h.1 hw
    · exact h.2.2
    · exact absurd hr h.2.1
  · intro h
    exact .inr (.inl ⟨hw, hr, h⟩)
theorem MT.iffL {S A M B PR : Nat → Int32} {w r : Int32} (hw : (S w.toNatClampNeg).toInt = 6) (hr : (S r.toNatClampNeg).toInt = 6) : MT S A M B PR w r ↔ MT S A M B PR (A w.toNatClampNeg) (A r.toNatClampNeg) := by
  rw [MT.iff]
  constructor
  · intro h
    rcases h with h | h | ⟨_, _, h | h | h⟩
    · omega
    · omega
    · exact h.2.2
    · omega
    · omega
  · intro h
    exact .inr (.inr ⟨by omega, by omega, .inl ⟨hw, hr, h⟩⟩)
theorem MT.iffP {S A M B PR : Nat → Int32} {w r : Int32} (hw : (S w.toNatClampNeg).toInt = 7) (hr : (S r.toNatClampNeg).toInt = 7) : MT S A M B PR w r ↔ ¬ PR (6 * (A w.toNatClampNeg).toNatClampNeg + (A r.toNatClampNeg).toNatClampNeg) = 0 := by
  rw [MT.iff]
  constructor
  · intro h
    rcases h with h | h | ⟨_, _, h | h | h⟩
    · omega
    · omega
    · omega
    · exact h.2.2
    · omega
  · intro h
    exact .inr (.inr ⟨by omega, by omega, .inr (.inl ⟨hw, hr, h⟩)⟩)
theorem MT.iffE {S A M B PR : Nat → Int32} {w r : Int32} (hw8 : ¬ (S w.toNatClampNeg).toInt = 8) (hr : ¬ (S r.toNatClampNeg).toInt = 8) (h6 : ¬ ((S w.toNatClampNeg).toInt = 6 ∧ (S r.toNatClampNeg).toInt = 6)) (h7 : ¬ ((S w.toNatClampNeg).toInt = 7 ∧ (S r.toNatClampNeg).toInt = 7)) : MT S A M B PR w r ↔ ((S w.toNatClampNeg).toInt = (S r.toNatClampNeg).toInt ∨ (S w.toNatClampNeg).toInt = 2 ∧ ((S r.toNatClampNeg).toInt = 3 ∨ (S r.toNatClampNeg).toInt = 4) ∨ (S w.toNatClampNeg).toInt = 3 ∧ (S r.toNatClampNeg).toInt = 4) := by
  rw [MT.iff]
  constructor
  · intro h
    rcases h with h | h | ⟨_, _, h | h | h⟩
    · omega
    · omega
    · omega
    · omega
    · exact h.2.2
  · intro h
    exact .inr (.inr ⟨hw8, hr, .inr (.inr ⟨h6, h7, h⟩)⟩)
theorem MT.lst {S A M B PR : Nat → Int32} {w r : Int32} (h : MT S A M B PR w r) (hr : ¬ (S r.toNatClampNeg).toInt = 8) (hw : (S w.toNatClampNeg).toInt = 6) : (S r.toNatClampNeg).toInt = 6 ∧ MT S A M B PR (A w.toNatClampNeg) (A r.toNatClampNeg) := by
  by_cases h6 : (S r.toNatClampNeg).toInt = 6
  · exact ⟨h6, (MT.iffL hw h6).mp h⟩
  · have := (MT.iffE (by omega) hr (by omega) (by omega)).mp h
    omega
theorem MT.rcd {S A M B PR : Nat → Int32} {w r : Int32} (h : MT S A M B PR w r) (hr : ¬ (S r.toNatClampNeg).toInt = 8) (hw : (S w.toNatClampNeg).toInt = 7) : (S r.toNatClampNeg).toInt = 7 ∧ ¬ PR (6 * (A w.toNatClampNeg).toNatClampNeg + (A r.toNatClampNeg).toNatClampNeg) = 0 := by
  by_cases h7 : (S r.toNatClampNeg).toInt = 7
  · exact ⟨h7, (MT.iffP hw h7).mp h⟩
  · have := (MT.iffE (by omega) hr (by omega) (by omega)).mp h
    omega
theorem MT.put {hi : Int} {S A M B PR : Nat → Int32} {a b : Int} {i : Nat} {x y : Int32} (hh : hi ≤ (i : Int)) : ∀ {n d e : Nat} {w r : Int32}, VT hi S A M B a d w → VT hi S A M B b e r → mt S A M B PR n w r → mt (upd S i x) (upd A i y) M B PR n w r := by
  intro n
  induction n with
  | zero => intro d e w r hw hr h; exact h.elim
  | succ n ih =>
    intro d e w r hw hr h
    have g1 := hw.rng
    have g2 := hr.rng
    have n1 := nN_ g1.1
    have n2 := nN_ g2.1
    have e1 : upd S i x w.toNatClampNeg = S w.toNatClampNeg := upd_no (by omega)
    have e2 : upd S i x r.toNatClampNeg = S r.toNatClampNeg := upd_no (by omega)
    have e3 : upd A i y w.toNatClampNeg = A w.toNatClampNeg := upd_no (by omega)
    have e4 : upd A i y r.toNatClampNeg = A r.toNatClampNeg := upd_no (by omega)
    show mB _ _ _ _ _ _ _ _
    unfold mB
    rw [e1, e2, e3, e4]
    rcases h with ⟨h1, k, hk, h2⟩ | ⟨h1, h2, k, hk, h3⟩ | ⟨h1, h2, ⟨h3, h4, h5⟩ | h | h⟩
    · exact .inl ⟨h1, k, hk, ih ((hw.eit h1).2.2.1 k hk).1 hr h2⟩
    · exact .inr (.inl ⟨h1, h2, k, hk, ih hw ((hr.eit h2).2.2.1 k hk).1 h3⟩)
    · exact .inr (.inr ⟨h1, h2, .inl ⟨h3, h4, ih (hw.lst h3).2 (hr.lst h4).2 h5⟩⟩)
    · exact .inr (.inr ⟨h1, h2, .inr (.inl h)⟩)
    · exact .inr (.inr ⟨h1, h2, .inr (.inr h)⟩)
/-- the plans: each record's fields have types, four high at most -/
def PL (S A M B RM FM FT : Nat → Int32) (pm : Int) : Prop := ∀ p : Nat, (p : Int) < pm → (1 ≤ (RM p).toInt ∧ (RM p).toInt ≤ 6) ∧ ∀ k : Nat, (k : Int) < (RM p).toInt → bI (FM (6 * p + k)) 0 8 ∧ ∀ j : Nat, (j : Int) < (FM (6 * p + k)).toInt → VT 400 S A M B (RM p).toInt 4 (FT (8 * (6 * p + k) + j))
def PLs (σ : ST) : Prop := bI (σ.1 0 32) 0 6 ∧ PL (σ.1 2) (σ.1 3) (σ.1 4) (σ.1 5) (σ.1 8) (σ.1 11) (σ.1 15) (σ.1 0 32).toInt ∧ ∀ i, bI (σ.1 19 i) 0 12
theorem PLs.of {σ τ : ST} (h : PLs σ) (e0 : τ.1 0 32 = σ.1 0 32) (e2 : τ.1 2 = σ.1 2) (e3 : τ.1 3 = σ.1 3) (e4 : τ.1 4 = σ.1 4) (e5 : τ.1 5 = σ.1 5) (e8 : τ.1 8 = σ.1 8) (e11 : τ.1 11 = σ.1 11) (e15 : τ.1 15 = σ.1 15) (e19 : τ.1 19 = σ.1 19) : PLs τ := by
  unfold PLs
  rw [e0, e2, e3, e4, e5, e8, e11, e15, e19]
  exact h
theorem PLs.ch {C I : List Nat} {σ τ : ST} (h : PLs σ) (c : CH C I σ τ) (h0 : 32 ∉ I) (hC : ∀ c, c ∈ [2, 3, 4, 5, 8, 11, 15, 19] → c ∉ C) : PLs τ := h.of (c.2.1 32 h0) (c.1 2 (by decide) (hC 2 (by decide))) (c.1 3 (by decide) (hC 3 (by decide))) (c.1 4 (by decide) (hC 4 (by decide))) (c.1 5 (by decide) (hC 5 (by decide))) (c.1 8 (by decide) (hC 8 (by decide))) (c.1 11 (by decide) (hC 11 (by decide))) (c.1 15 (by decide) (hC 15 (by decide))) (c.1 19 (by decide) (hC 19 (by decide)))
/-- the pairs' booleans -/
def PB (σ : ST) : Prop := ∀ k, (σ.1 35 k).toInt = 0 ∨ (σ.1 35 k).toInt = 1
/-- writer and reader -/
def WR2 (σ : ST) : Prop := (0 ≤ (σ.1 0 53).toInt ∧ (σ.1 0 53).toInt < (σ.1 0 32).toInt) ∧ 0 ≤ (σ.1 0 54).toInt ∧ (σ.1 0 54).toInt < (σ.1 0 32).toInt
abbrev VS (σ : ST) (rm : Int) (d : Nat) (t : Int32) : Prop := VT 800 (σ.1 2) (σ.1 3) (σ.1 4) (σ.1 5) rm d t
abbrev VC (σ : ST) (rm : Int) (d : Nat) (t : Int32) : Prop := VT 400 (σ.1 2) (σ.1 3) (σ.1 4) (σ.1 5) rm d t
abbrev MS (σ : ST) (w r : Int32) : Prop := MT (σ.1 2) (σ.1 3) (σ.1 4) (σ.1 5) (σ.1 35) w r
def cMatch (N : Nat) (rm : Int32 → Int32 → ST → Option (Int32 × ST)) : Prop := ∀ (w r : Int32) (σ : ST) (a b : Int) (d e : Nat), a ≤ 6 → b ≤ 6 → PB σ → VS σ a d w → VS σ b e r → 2 * d + 2 * e ≤ N → OK (rm w r σ) (RO σ fun v => v.toInt = 0 ∧ ¬ MS σ w r ∨ v.toInt = 1 ∧ MS σ w r)
def cChosen (N : Nat) (rc : Int32 → Int32 → ST → Option (Int32 × ST)) : Prop := ∀ (w r : Int32) (σ : ST) (a b : Int) (d e : Nat), a ≤ 6 → b ≤ 6 → PB σ → VS σ a d w → VS σ b e r → 2 * d + 2 * e ≤ N + 1 → (σ.1 2 r.toNatClampNeg).toInt = 8 → OK (rc w r σ) (RO σ fun v => v.toInt = -1 ∧ (∀ k : Nat, (k : Int) < (σ.1 4 r.toNatClampNeg).toInt → ¬ MS σ w (σ.1 5 (4 * r.toNatClampNeg + k))) ∨ (0 ≤ v.toInt ∧ v.toInt < (σ.1 4 r.toNatClampNeg).toInt) ∧ MS σ w (σ.1 5 (4 * r.toNatClampNeg + v.toNatClampNeg)))
theorem b_chosen_5 {N : Nat} {rc rm : Int32 → Int32 → ST → Option (Int32 × ST)} (hm : cMatch N rm) : ∀ (n : Nat) (w r x3 x4 : Int32) (σ : ST) (a b : Int) (d e : Nat), a ≤ 6 → b ≤ 6 → PB σ → VS σ a d w → VS σ b e r → 2 * d + 2 * e ≤ N + 2 → (σ.1 2 r.toNatClampNeg).toInt = 8 → (0 ≤ x4.toInt ∧ x4.toInt ≤ 4 ∧ (4 : Int) - x4.toInt < n) → (x3.toInt = -1 ∧ (∀ k : Nat, (k : Int) < x4.toInt → ¬ MS σ w (σ.1 5 (4 * r.toNatClampNeg + k))) ∨ (0 ≤ x3.toInt ∧ x3.toInt < (σ.1 4 r.toNatClampNeg).toInt) ∧ MS σ w (σ.1 5 (4 * r.toNatClampNeg + x3.toNatClampNeg))) → OK (f_X11_chosen_5 rc rm n w r x3 x4 σ) (RO σ fun v => v.toInt = -1 ∧ (∀ k : Nat, (k : Int) < (σ.1 4 r.toNatClampNeg).toInt → ¬ MS σ w (σ.1 5 (4 * r.toNatClampNeg + k))) ∨ (0 ≤ v.toInt ∧ v.toInt < (σ.1 4 r.toNatClampNeg).toInt) ∧ MS σ w (σ.1 5 (4 * r.toNatClampNeg + v.toNatClampNeg))) := by
  intro n
  induction n with
  | zero => intro w r x3 x4 σ a b d e h1 h2 h3 h4 h5 h6 h7 h8; omega
  | succ n ih =>
    intro w r x3 x4 σ a b d e ha hb hP hw hr hN hs h8 h9
    rw [f_X11_chosen_5]
    have lt_0 := li_0
    have lt_1 := li_1
    have lt_4 := li_4
    obtain ⟨g1, g2, g3, g4⟩ := hr.eit hs
    have gr := hr.rng
    have gw := hw.rng
    have e1 := mlE (k := 4) (y := r) 4 li_4 (by omega) (by omega)
    have e2 := il_addE (x := 4 * r) (y := x4) (by omega) (by omega)
    have e3 := il_addE (x := x4) (y := 1) (by omega) (by omega)
    have n1 := nN_ gr.1
    have n2 := nN_ h8.1
    have e4 : (4 * r + x4).toNatClampNeg = 4 * r.toNatClampNeg + x4.toNatClampNeg := nC (by omega)
    refine OK.grd gr ?_
    refine OK.ile (fun hh => OK.roret ?_) (fun h => ?_)
    · rcases h9 with h9 | h9
      · exact .inl ⟨h9.1, fun k hk => h9.2 k (by omega)⟩
      · exact .inr h9
    refine OK.grd ⟨by omega, by omega⟩ ?_
    rw [e4]
    have hk : ((x4.toNatClampNeg : Nat) : Int) < (σ.1 4 r.toNatClampNeg).toInt := by omega
    have hB := (g3 _ hk).1
    refine OK.bndR (hm w _ σ a b d (e - 1) ha hb hP hw hB (by omega)) (fun v hv => ?_)
    dsimp only
    unfold f_X11_chosen_69 f_X11_chosen_68
    refine OK.ieq (fun h0 => ih _ _ _ _ _ _ _ _ _ ha hb hP hw hr hN hs (by omega) ?_) (fun h0 => ?_)
    · rcases h9 with h9 | h9
      · refine .inl ⟨h9.1, fun k hk => ?_⟩
        by_cases e : (k : Int) < x4.toInt
        · exact h9.2 k e
        · have ek : k = x4.toNatClampNeg := by omega
          rw [ek]
          rcases hv with hv | hv
          · exact hv.2
          · omega
      · exact .inr h9
    have hv1 : MS σ w (σ.1 5 (4 * r.toNatClampNeg + x4.toNatClampNeg)) := by
      rcases hv with hv | hv
      · omega
      · exact hv.2
    refine OK.grd hB.rng ?_
    refine OK.grd gw ?_
    refine OK.ieq (fun _ => OK.roret (.inr ⟨⟨h8.1, by omega⟩, hv1⟩)) (fun _ => ?_)
    refine OK.ile (fun h30 => ?_) (fun _ => ?_)
    · refine ih _ _ _ _ _ _ _ _ _ ha hb hP hw hr hN hs (by omega) ?_
      rcases h9 with h9 | h9
      · omega
      · exact .inr h9
    · exact ih _ _ _ _ _ _ _ _ _ ha hb hP hw hr hN hs (by omega) (.inr ⟨⟨h8.1, by omega⟩, hv1⟩)
theorem b_match_16 {N : Nat} {rc rm : Int32 → Int32 → ST → Option (Int32 × ST)} (hm : cMatch N rm) : ∀ (n : Nat) (w r x3 x4 : Int32) (σ : ST) (a b : Int) (d e : Nat), a ≤ 6 → b ≤ 6 → PB σ → VS σ a d w → VS σ b e r → 2 * d + 2 * e ≤ N + 2 → (σ.1 2 w.toNatClampNeg).toInt = 8 → (0 ≤ x4.toInt ∧ x4.toInt ≤ 4 ∧ (4 : Int) - x4.toInt < n) → (x3.toInt = 0 ∧ (∀ k : Nat, (k : Int) < x4.toInt → ¬ MS σ (σ.1 5 (4 * w.toNatClampNeg + k)) r) ∨ x3.toInt = 1 ∧ MS σ w r) → OK (f_X11_match_16 rc rm n w r x3 x4 σ) (RO σ fun v => v.toInt = 0 ∧ ¬ MS σ w r ∨ v.toInt = 1 ∧ MS σ w r) := by
  intro n
  induction n with
  | zero => intro w r x3 x4 σ a b d e h1 h2 h3 h4 h5 h6 h7 h8; omega
  | succ n ih =>
    intro w r x3 x4 σ a b d e ha hb hP hw hr hN hs h8 h9
    rw [f_X11_match_16]
    have lt_0 := li_0
    have lt_1 := li_1
    have lt_4 := li_4
    obtain ⟨g1, g2, g3, g4⟩ := hw.eit hs
    have gw := hw.rng
    have e1 := mlE (k := 4) (y := w) 4 li_4 (by omega) (by omega)
    have e2 := il_addE (x := 4 * w) (y := x4) (by omega) (by omega)
    have e3 := il_addE (x := x4) (y := 1) (by omega) (by omega)
    have n1 := nN_ gw.1
    have n2 := nN_ h8.1
    have e4 : (4 * w + x4).toNatClampNeg = 4 * w.toNatClampNeg + x4.toNatClampNeg := nC (by omega)
    refine OK.grd gw ?_
    refine OK.ile (fun hh => OK.grd (b01 (by omega)) (OK.roret ?_)) (fun h => ?_)
    · rcases h9 with h9 | h9
      · refine .inl ⟨h9.1, fun h => ?_⟩
        obtain ⟨k, k1, k2⟩ := (MT.iffW hs).mp h
        exact h9.2 k (by omega) k2
      · exact .inr h9
    unfold f_X11_match_50 f_X11_match_55
    refine OK.ieq (fun _ => ?_) (fun h0 => ?_)
    · refine OK.grd ⟨by omega, by omega⟩ ?_
      rw [e4]
      have hk : ((x4.toNatClampNeg : Nat) : Int) < (σ.1 4 w.toNatClampNeg).toInt := by omega
      have hB := (g3 _ hk).1
      refine OK.bndR (hm _ r σ a b (d - 1) e ha hb hP hB hr (by omega)) (fun v hv => ?_)
      dsimp only
      refine OK.ieq (fun h0 => ih _ _ _ _ _ _ _ _ _ ha hb hP hw hr hN hs (by omega) (.inl ⟨by omega, fun k hk2 => ?_⟩)) (fun h0 => ?_)
      · by_cases e : (k : Int) < x4.toInt
        · rcases h9 with h9 | h9
          · exact h9.2 k e
          · omega
        · have ek : k = x4.toNatClampNeg := by omega
          rw [ek]
          rcases hv with hv | hv
          · exact hv.2
          · omega
      have hv1 : MS σ w r := by
        rcases hv with hv | hv
        · omega
        · exact (MT.iffW hs).mpr ⟨_, hk, hv.2⟩
      exact ih _ _ _ _ _ _ _ _ _ ha hb hP hw hr hN hs (by omega) (.inr ⟨by omega, hv1⟩)
    · refine ih _ _ _ _ _ _ _ _ _ ha hb hP hw hr hN hs (by omega) (.inr ⟨by omega, ?_⟩)
      rcases h9 with h9 | h9
      · omega
      · exact h9.2
theorem b_match_135 {rc rm : Int32 → Int32 → ST → Option (Int32 × ST)} (w r x3 x4 : Int32) (σ : ST) (a b : Int) (d e : Nat) (ha : a ≤ 6) (hb : b ≤ 6) (hP : PB σ) (hw : VS σ a d w) (hr : VS σ b e r) (h3 : x3 = σ.1 2 w.toNatClampNeg) (h4 : x4 = σ.1 2 r.toNatClampNeg) (h8 : ¬ (σ.1 2 w.toNatClampNeg).toInt = 8) (h9 : ¬ (σ.1 2 r.toNatClampNeg).toInt = 8) (h6 : ¬ ((σ.1 2 w.toNatClampNeg).toInt = 6 ∧ (σ.1 2 r.toNatClampNeg).toInt = 6)) : OK (f_X11_match_135 rc rm w r x3 x4 σ) (RO σ fun v => v.toInt = 0 ∧ ¬ MS σ w r ∨ v.toInt = 1 ∧ MS σ w r) := by
  have lt_0 := li_0
  have lt_1 := li_1
  have lt_2 := li_2
  have lt_3 := li_3
  have lt_4 := li_4
  have lt_6 := li_6
  have lt_7 := li_7
  have e3 : x3.toInt = (σ.1 2 w.toNatClampNeg).toInt := by rw [h3]
  have e4 : x4.toInt = (σ.1 2 r.toNatClampNeg).toInt := by rw [h4]
  have k170 : ¬ (x3.toInt = 7 ∧ x4.toInt = 7) → OK (f_X11_match_170 rc rm x3 x4 σ) (RO σ fun v => v.toInt = 0 ∧ ¬ MS σ w r ∨ v.toInt = 1 ∧ MS σ w r) := fun h7 => by
    have it := MT.iffE (S := σ.1 2) (A := σ.1 3) (M := σ.1 4) (B := σ.1 5) (PR := σ.1 35) (w := w) (r := r) h8 h9 h6 (by omega)
    have y : (x3.toInt = x4.toInt ∨ x3.toInt = 2 ∧ (x4.toInt = 3 ∨ x4.toInt = 4) ∨ x3.toInt = 3 ∧ x4.toInt = 4) → OK (some ((1 : Int32), σ)) (RO σ fun v => v.toInt = 0 ∧ ¬ MS σ w r ∨ v.toInt = 1 ∧ MS σ w r) := fun a1 => OK.roret (.inr ⟨by omega, it.mpr (by omega)⟩)
    have no : ¬ (x3.toInt = x4.toInt ∨ x3.toInt = 2 ∧ (x4.toInt = 3 ∨ x4.toInt = 4) ∨ x3.toInt = 3 ∧ x4.toInt = 4) → OK (some ((0 : Int32), σ)) (RO σ fun v => v.toInt = 0 ∧ ¬ MS σ w r ∨ v.toInt = 1 ∧ MS σ w r) := fun a1 => OK.roret (.inl ⟨by omega, fun h => by have := it.mp h; omega⟩)
    unfold f_X11_match_170 f_X11_match_193 f_X11_match_204
    refine OK.ieq (fun _ => y (by omega)) (fun _ => ?_)
    refine OK.ieq (fun _ => ?_) (fun _ => ?_)
    · refine OK.ieq (fun _ => y (by omega)) (fun _ => ?_)
      refine OK.ieq (fun _ => y (by omega)) (fun _ => ?_)
      refine OK.ieq (fun _ => ?_) (fun _ => no (by omega))
      exact OK.ieq (fun _ => y (by omega)) (fun _ => no (by omega))
    · refine OK.ieq (fun _ => ?_) (fun _ => no (by omega))
      exact OK.ieq (fun _ => y (by omega)) (fun _ => no (by omega))
  unfold f_X11_match_135
  refine OK.ieq (fun h7 => ?_) (fun _ => k170 (by omega))
  refine OK.ieq (fun h7' => ?_) (fun _ => k170 (by omega))
  have rw_ := hw.rcd (by omega)
  have rr_ := hr.rcd (by omega)
  refine OK.grd hw.rng ?_
  refine OK.grd hr.rng ?_
  have e1 := mlE (k := 6) (y := σ.1 3 w.toNatClampNeg) 6 li_6 (by omega) (by omega)
  have e2 := il_addE (x := 6 * σ.1 3 w.toNatClampNeg) (y := σ.1 3 r.toNatClampNeg) (by omega) (by omega)
  have n1 := nN_ rw_.1
  have n2 := nN_ rr_.1
  have e5 : (6 * σ.1 3 w.toNatClampNeg + σ.1 3 r.toNatClampNeg).toNatClampNeg = 6 * (σ.1 3 w.toNatClampNeg).toNatClampNeg + (σ.1 3 r.toNatClampNeg).toNatClampNeg := nC (by omega)
  refine OK.grd ⟨by omega, by omega⟩ ?_
  rw [e5]
  have hb := hP (6 * (σ.1 3 w.toNatClampNeg).toNatClampNeg + (σ.1 3 r.toNatClampNeg).toNatClampNeg)
  refine OK.grd (b01 hb) ?_
  refine OK.roret ?_
  rcases hb with hb | hb
  · exact .inl ⟨hb, fun h => (MT.iffP (by omega) (by omega)).mp h (Int32.toInt_inj.mp (by omega))⟩
  · exact .inr ⟨hb, (MT.iffP (by omega) (by omega)).mpr (fun h0 => by rw [h0] at hb; omega)⟩
theorem b_match_top {N : Nat} {rc rm : Int32 → Int32 → ST → Option (Int32 × ST)} (hm : cMatch N rm) (hc : cChosen N rc) : cMatch (N + 1) (f_X11_match rc rm) := by
  intro w r σ a b d e ha hb hP hw hr hN
  unfold f_X11_match
  have lt_0 := li_0
  have lt_1 := li_1
  have lt_6 := li_6
  have lt_8 := li_8
  have lu := FUi
  refine OK.grd hw.rng ?_
  refine OK.ieq (fun h8 => ?_) (fun h8 => ?_)
  · have := (hw.eit (by omega)).1
    exact b_match_16 hm FU w r 0 0 σ a b d e ha hb hP hw hr (by omega) (by omega) (by omega) (.inl ⟨by omega, fun k hk => by omega⟩)
  refine OK.grd hr.rng ?_
  refine OK.ieq (fun h9 => ?_) (fun h9 => ?_)
  · refine OK.bndR (hc w r σ a b d e ha hb hP hw hr (by omega) (by omega)) (fun v hv => ?_)
    dsimp only
    have it := MT.iffR (S := σ.1 2) (A := σ.1 3) (M := σ.1 4) (B := σ.1 5) (PR := σ.1 35) (w := w) (r := r) (by omega) (by omega)
    refine OK.ilt (fun _ => OK.roret (.inl ⟨by omega, fun h => ?_⟩)) (fun _ => ?_)
    · obtain ⟨k, k1, k2⟩ := it.mp h
      rcases hv with hv | ⟨hv, hv2⟩
      · exact hv.2 k k1 k2
      · omega
    rcases hv with hv | ⟨hv, hv2⟩
    · omega
    · have n1 := nN_ hv.1
      exact OK.roret (.inr ⟨by omega, it.mpr ⟨v.toNatClampNeg, by omega, hv2⟩⟩)
  · have z := fun h6 => b_match_135 (rc := rc) (rm := rm) w r _ _ σ a b d e ha hb hP hw hr rfl rfl (by omega) (by omega) h6
    refine OK.ieq (fun h6 => ?_) (fun h6 => z (by omega))
    refine OK.ieq (fun h7 => ?_) (fun h7 => z (by omega))
    have a1 := hw.lst (by omega)
    have a2 := hr.lst (by omega)
    refine OK.bndR (hm _ _ σ a b (d - 1) (e - 1) ha hb hP a1.2 a2.2 (by omega)) (fun v hv => ?_)
    dsimp only
    refine OK.grd (b01 (by omega)) ?_
    refine OK.roret ?_
    rcases hv with hv | hv
    · exact .inl ⟨hv.1, fun h => hv.2 ((MT.iffL (by omega) (by omega)).mp h)⟩
    · exact .inr ⟨hv.1, (MT.iffL (by omega) (by omega)).mpr hv.2⟩
theorem b_chosen_top {N : Nat} {rc rm : Int32 → Int32 → ST → Option (Int32 × ST)} (hm : cMatch N rm) : cChosen (N + 1) (f_X11_chosen rc rm) := by
  intro w r σ a b d e ha hb hP hw hr hN hs
  unfold f_X11_chosen
  have lt_0 := li_0
  have lt_m := li_m1
  have lu := FUi
  have := (hr.eit hs).1
  exact b_chosen_5 hm FU w r (-1) 0 σ a b d e ha hb hP hw hr (by omega) hs (by omega) (.inl ⟨by omega, fun k hk => by omega⟩)
theorem b_RM : ∀ N : Nat, cChosen N (R_X11_chosen N).1 ∧ cMatch N (R_X11_chosen N).2 := by
  intro N
  induction N with
  | zero =>
    refine ⟨?_, ?_⟩
    · intro w r σ a b d e ha hb hP hw hr hN hs
      have := (hr.eit hs).1
      cases d with
      | zero => exact hw.elim
      | succ d => omega
    · intro w r σ a b d e ha hb hP hw hr hN
      cases d with
      | zero => exact hw.elim
      | succ d => omega
  | succ N ih => exact ⟨b_chosen_top ih.2, b_match_top ih.2 ih.1⟩
theorem bT_match (w r : Int32) (σ : ST) {a b : Int} {d e : Nat} (ha : a ≤ 6) (hb : b ≤ 6) (hP : PB σ) (hw : VS σ a d w) (hr : VS σ b e r) (hd : d ≤ 8) (he : e ≤ 8) : OK (f_T_X11_match w r σ) (RO σ fun v => v.toInt = 0 ∧ ¬ MS σ w r ∨ v.toInt = 1 ∧ MS σ w r) := (b_RM FRB).2 w r σ a b d e ha hb hP hw hr (by have := FRi; omega)
theorem bT_chosen (w r : Int32) (σ : ST) {a b : Int} {d e : Nat} (ha : a ≤ 6) (hb : b ≤ 6) (hP : PB σ) (hw : VS σ a d w) (hr : VS σ b e r) (hd : d ≤ 8) (he : e ≤ 8) (hs : (σ.1 2 r.toNatClampNeg).toInt = 8) : OK (f_T_X11_chosen w r σ) (RO σ fun v => v.toInt = -1 ∧ (∀ k : Nat, (k : Int) < (σ.1 4 r.toNatClampNeg).toInt → ¬ MS σ w (σ.1 5 (4 * r.toNatClampNeg + k))) ∨ (0 ≤ v.toInt ∧ v.toInt < (σ.1 4 r.toNatClampNeg).toInt) ∧ MS σ w (σ.1 5 (4 * r.toNatClampNeg + v.toNatClampNeg))) := (b_RM FRB).1 w r σ a b d e ha hb hP hw hr (by have := FRi; omega) hs
/-! the reference: pairs of records, misses -/
def ME (σ : ST) : Prop := PLs σ ∧ WR2 σ ∧ PB σ
theorem ME.ch {C I : List Nat} {σ τ : ST} (h : ME σ) (c : CH C I σ τ) (hC : ∀ c, c ∈ [2, 3, 4, 5, 8, 11, 15, 19, 35] → c ∉ C) (hI : ∀ i, i ∈ [32, 53, 54] → i ∉ I) : ME τ := by
  refine ⟨h.1.ch c (hI 32 (by decide)) (fun x hx => hC x ?_), ?_, ?_⟩
  · exact (by decide : ∀ x, x ∈ [2, 3, 4, 5, 8, 11, 15, 19] → x ∈ [2, 3, 4, 5, 8, 11, 15, 19, 35]) x hx
  · unfold WR2
    rw [c.2.1 32 (hI 32 (by decide)), c.2.1 53 (hI 53 (by decide)), c.2.1 54 (hI 54 (by decide))]
    exact h.2.1
  · unfold PB
    rw [c.1 35 (by decide) (hC 35 (by decide))]
    exact h.2.2
/-- a record of the writer, of the reader -/
def wrec (σ : ST) (w : Int32) : Prop := 0 ≤ w.toInt ∧ w.toInt < (σ.1 8 (σ.1 0 53).toNatClampNeg).toInt
def rrec (σ : ST) (r : Int32) : Prop := 0 ≤ r.toInt ∧ r.toInt < (σ.1 8 (σ.1 0 54).toNatClampNeg).toInt
def rmW (σ : ST) : Int := (σ.1 8 (σ.1 0 53).toNatClampNeg).toInt
def rmR (σ : ST) : Int := (σ.1 8 (σ.1 0 54).toNatClampNeg).toInt
theorem wrec_i {σ : ST} {w : Int32} (h0 : 0 ≤ w.toInt) (h : w.toInt < rmW σ) : wrec σ w := ⟨h0, h⟩
theorem rrec_i {σ : ST} {w : Int32} (h0 : 0 ≤ w.toInt) (h : w.toInt < rmR σ) : rrec σ w := ⟨h0, h⟩
theorem ME.w {σ : ST} (h : ME σ) : bI (σ.1 0 53) 0 5 ∧ bI (σ.1 0 54) 0 5 ∧ (1 ≤ rmW σ ∧ rmW σ ≤ 6) ∧ 1 ≤ rmR σ ∧ rmR σ ≤ 6 := by
  obtain ⟨⟨⟨p1, p2⟩, hp, _⟩, ⟨⟨w1, w2⟩, r1, r2⟩, _⟩ := h
  have n1 := nN_ w1
  have n2 := nN_ r1
  have a := (hp (σ.1 0 53).toNatClampNeg (by omega)).1
  have b := (hp (σ.1 0 54).toNatClampNeg (by omega)).1
  exact ⟨⟨by omega, by omega⟩, ⟨by omega, by omega⟩, a, b⟩
/-- the fields of a writer's record -/
theorem ME.wf4 {σ : ST} (h : ME σ) {w : Int32} (hw : wrec σ w) : bI (σ.1 11 (6 * (σ.1 0 53).toNatClampNeg + w.toNatClampNeg)) 0 8 ∧ ∀ j : Nat, (j : Int) < (σ.1 11 (6 * (σ.1 0 53).toNatClampNeg + w.toNatClampNeg)).toInt → VC σ (rmW σ) 4 (σ.1 15 (8 * (6 * (σ.1 0 53).toNatClampNeg + w.toNatClampNeg) + j)) := by
  obtain ⟨⟨⟨p1, p2⟩, hp, _⟩, ⟨⟨w1, w2⟩, r1, r2⟩, _⟩ := h
  have n1 := nN_ w1
  have n2 := nN_ hw.1
  have n3 := hw.2
  exact (hp (σ.1 0 53).toNatClampNeg (by omega)).2 w.toNatClampNeg (by omega)
theorem ME.wf {σ : ST} (h : ME σ) {w : Int32} (hw : wrec σ w) : bI (σ.1 11 (6 * (σ.1 0 53).toNatClampNeg + w.toNatClampNeg)) 0 8 ∧ ∀ j : Nat, (j : Int) < (σ.1 11 (6 * (σ.1 0 53).toNatClampNeg + w.toNatClampNeg)).toInt → VS σ (rmW σ) 4 (σ.1 15 (8 * (6 * (σ.1 0 53).toNatClampNeg + w.toNatClampNeg) + j)) := ⟨(h.wf4 hw).1, fun j hj => ((h.wf4 hw).2 j hj).wk (by decide)⟩
theorem ME.rf4 {σ : ST} (h : ME σ) {r : Int32} (hr : rrec σ r) : bI (σ.1 11 (6 * (σ.1 0 54).toNatClampNeg + r.toNatClampNeg)) 0 8 ∧ ∀ j : Nat, (j : Int) < (σ.1 11 (6 * (σ.1 0 54).toNatClampNeg + r.toNatClampNeg)).toInt → VC σ (rmR σ) 4 (σ.1 15 (8 * (6 * (σ.1 0 54).toNatClampNeg + r.toNatClampNeg) + j)) := by
  obtain ⟨⟨⟨p1, p2⟩, hp, _⟩, ⟨⟨w1, w2⟩, r1, r2⟩, _⟩ := h
  have n1 := nN_ r1
  have n2 := nN_ hr.1
  have n3 := hr.2
  exact (hp (σ.1 0 54).toNatClampNeg (by omega)).2 r.toNatClampNeg (by omega)
theorem ME.rf {σ : ST} (h : ME σ) {r : Int32} (hr : rrec σ r) : bI (σ.1 11 (6 * (σ.1 0 54).toNatClampNeg + r.toNatClampNeg)) 0 8 ∧ ∀ j : Nat, (j : Int) < (σ.1 11 (6 * (σ.1 0 54).toNatClampNeg + r.toNatClampNeg)).toInt → VS σ (rmR σ) 4 (σ.1 15 (8 * (6 * (σ.1 0 54).toNatClampNeg + r.toNatClampNeg) + j)) := ⟨(h.rf4 hr).1, fun j hj => ((h.rf4 hr).2 j hj).wk (by decide)⟩
/-- the writer's field for a reader's one: none, or one with a type -/
theorem ME.ff4 {σ : ST} (h : ME σ) {w f : Int32} (hw : wrec σ w) (hf : 0 ≤ f.toInt ∧ f.toInt < 576) : OK (f_X11_fieldFor w f σ) (RO σ fun v => v.toInt = -1 ∨ (0 ≤ v.toInt ∧ v.toInt < 576) ∧ VC σ (rmW σ) 4 (σ.1 15 v.toNatClampNeg)) := by
  obtain ⟨b1, b2, b3, b4⟩ := h.w
  have w1 := hw.1
  have w2 : w.toInt < rmW σ := hw.2
  obtain ⟨c1, c2⟩ := h.wf4 hw
  have n1 := nN_ b1.1
  have n2 := nN_ w1
  have b11 := b1.1
  have b12 := b1.2
  have c12 := c1.2
  refine (b_fieldFor w f σ hf (by omega) b1 c1).roq (fun v hv => ?_)
  rcases hv with hv | ⟨j, j1, j2⟩
  · exact .inl hv
  · have e : v.toNatClampNeg = 8 * (6 * (σ.1 0 53).toNatClampNeg + w.toNatClampNeg) + j := nC (by omega)
    exact .inr ⟨by omega, by rw [e]; exact c2 j j1⟩
theorem ME.ff {σ : ST} (h : ME σ) {w f : Int32} (hw : wrec σ w) (hf : 0 ≤ f.toInt ∧ f.toInt < 576) : OK (f_X11_fieldFor w f σ) (RO σ fun v => v.toInt = -1 ∨ (0 ≤ v.toInt ∧ v.toInt < 576) ∧ VS σ (rmW σ) 4 (σ.1 15 v.toNatClampNeg)) := (h.ff4 hw hf).roq (fun v hv => by
  rcases hv with hv | hv
  · exact .inl hv
  · exact .inr ⟨hv.1, hv.2.wk (by decide)⟩)
theorem fo3_tr {σ τ : ST} (e11 : τ.1 11 = σ.1 11) (e12 : τ.2.1 12 = σ.2.1 12) : ∀ (n : Nat) (x1 : Int32) (x2 : Int64) (x4 : Int32), f_X11_fieldOf_3 n x1 x2 x4 τ = (f_X11_fieldOf_3 n x1 x2 x4 σ).map (fun q => (q.1, τ)) := by
  intro n
  induction n with
  | zero => intro x1 x2 x4; rfl
  | succ n ih =>
    intro x1 x2 x4
    rw [f_X11_fieldOf_3, f_X11_fieldOf_3, e11, e12]
    split
    · split
      · rfl
      · split
        · split
          · rfl
          · exact ih _ _ _
        · rfl
    · rfl
theorem ff_tr {σ τ : ST} (e53 : τ.1 0 53 = σ.1 0 53) (e11 : τ.1 11 = σ.1 11) (e12 : τ.2.1 12 = σ.2.1 12) (e14 : τ.2.1 14 = σ.2.1 14) (w f v : Int32) (h : f_X11_fieldFor w f σ = some (v, σ)) : f_X11_fieldFor w f τ = some (v, τ) := by
  unfold f_X11_fieldFor f_X11_fieldOf at h ⊢
  rw [fo3_tr e11 e12, e53, e12]
  split at h
  · rename_i h0
    rw [if_pos h0]
    obtain ⟨⟨q, s⟩, hq, h⟩ := ib h
    rw [hq]
    dsimp only [Option.map_some, Option.bind_some] at h ⊢
    have hs : s = σ := by
      have := fo3_tr (σ := σ) (τ := σ) rfl rfl FU (6 * σ.1 0 53 + w) (σ.2.1 12 f.toNatClampNeg) 0
      rw [hq] at this
      dsimp only [Option.map_some] at this
      exact (Prod.mk.inj (Option.some.inj this)).2
    subst hs
    split at h
    · rename_i h1
      rw [if_pos h1]
      have := (Prod.mk.inj (Option.some.inj h)).1
      rw [this]
    · rename_i h1
      rw [if_neg h1, e14]
      split at h
      · rename_i h2
        rw [if_pos h2]
        have := (Prod.mk.inj (Option.some.inj h)).1
        rw [this]
      · rename_i h2
        rw [if_neg h2, fo3_tr e11 e12, e53]
        obtain ⟨⟨q2, s2⟩, hq2, h⟩ := ib h
        rw [hq2]
        dsimp only [Option.map_some, Option.bind_some] at h ⊢
        have := (Prod.mk.inj (Option.some.inj h)).1
        rw [this]
  · cases h
/-- all that the reader's record asks for matches -/
def HO (σ : ST) (w r : Int32) : Prop := ∀ (k : Nat) (f v : Int32), (k : Int) < (σ.1 11 (6 * (σ.1 0 54).toNatClampNeg + r.toNatClampNeg)).toInt → f.toInt = 8 * (6 * (σ.1 0 54).toInt + r.toInt) + k → f_X11_fieldFor w f σ = some (v, σ) → 0 ≤ v.toInt → MS σ (σ.1 15 v.toNatClampNeg) (σ.1 15 f.toNatClampNeg)
theorem b_holds_24 (w r x3 : Int32) (σ : ST) (hM : ME σ) (hw : wrec σ w) (hr : rrec σ r) (h3 : x3.toInt = 6 * (σ.1 0 54).toInt + r.toInt) : ∀ (n : Nat) (x4 : Int32), (0 ≤ x4.toInt ∧ x4.toInt ≤ 8 ∧ (8 : Int) - x4.toInt < n) → (∀ (k : Nat) (f v : Int32), (k : Int) < x4.toInt → f.toInt = 8 * (6 * (σ.1 0 54).toInt + r.toInt) + k → f_X11_fieldFor w f σ = some (v, σ) → 0 ≤ v.toInt → MS σ (σ.1 15 v.toNatClampNeg) (σ.1 15 f.toNatClampNeg)) → OK (f_X11_holds_24 n w x3 x4 σ) (RO σ fun v => v.toInt = 0 ∨ v.toInt = 1 ∧ HO σ w r) := by
  intro n
  obtain ⟨b1, b2, b3, b4⟩ := hM.w
  have r1 := hr.1
  have r2 : r.toInt < rmR σ := hr.2
  obtain ⟨c1, c2⟩ := hM.rf hr
  have n1 := nN_ b2.1
  have n2 := nN_ r1
  have b11 := b2.1
  have b12 := b2.2
  have c11 := c1.1
  have c12 := c1.2
  have e3 : x3.toNatClampNeg = 6 * (σ.1 0 54).toNatClampNeg + r.toNatClampNeg := nC (by omega)
  have lt_0 := li_0
  have lt_1 := li_1
  have lt_8 := li_8
  induction n with
  | zero => intro x4 h; omega
  | succ n ih =>
    intro x4 h4 hk
    rw [f_X11_holds_24]
    unfold f_X11_holds_94
    have a1 := mlE (k := 8) (y := x3) 8 li_8 (by omega) (by omega)
    have a2 := il_addE (x := 8 * x3) (y := x4) (by omega) (by omega)
    have a3 := il_addE (x := x4) (y := 1) (by omega) (by omega)
    have n4 := nN_ h4.1
    have e5 : (8 * x3 + x4).toNatClampNeg = 8 * (6 * (σ.1 0 54).toNatClampNeg + r.toNatClampNeg) + x4.toNatClampNeg := nC (by omega)
    refine OK.grd ⟨by omega, by omega⟩ ?_
    rw [e3]
    refine OK.ile (fun h => OK.roret (.inr ⟨by omega, ?_⟩)) (fun h => ?_)
    · intro k f v k1 k2 k3 k4
      exact hk k f v (by omega) k2 k3 k4
    have hf := hM.ff hw (f := 8 * x3 + x4) (by omega)
    obtain ⟨⟨v, s⟩, ef, es, hv⟩ := hf
    have es : s = σ := es
    subst es
    rw [ef]
    show OK (if (0 : Int32) ≤ v then _ else _) _
    have next : (0 ≤ v.toInt → MS s (s.1 15 v.toNatClampNeg) (s.1 15 (8 * x3 + x4).toNatClampNeg)) → OK (f_X11_holds_24 n w x3 (x4 + 1) s) (RO s fun v => v.toInt = 0 ∨ v.toInt = 1 ∧ HO s w r) := fun hm => by
      refine ih (x4 + 1) (by omega) (fun k f u k1 k2 k3 k4 => ?_)
      by_cases e : (k : Int) < x4.toInt
      · exact hk k f u e k2 k3 k4
      · have ef2 : f = 8 * x3 + x4 := Int32.toInt_inj.mp (by omega)
        rw [ef2] at k3 ⊢
        rw [ef] at k3
        have ev : v = u := (Prod.mk.inj (Option.some.inj k3)).1
        rw [← ev] at k4 ⊢
        exact hm k4
    refine OK.ile (fun h0 => ?_) (fun h0 => ?_)
    · have hv' : (0 ≤ v.toInt ∧ v.toInt < 576) ∧ VS s (rmW s) 4 (s.1 15 v.toNatClampNeg) := by
        rcases hv with hv | hv
        · have hv : v.toInt = -1 := hv
          omega
        · exact hv
      refine OK.grd hv'.1 ?_
      refine OK.grd ⟨by omega, by omega⟩ ?_
      have hc := c2 x4.toNatClampNeg (by omega)
      rw [← e5] at hc
      refine OK.bndR (bT_match _ _ s (by omega) (by omega) hM.2.2 hv'.2 hc (by omega) (by omega)) (fun u hu => ?_)
      dsimp only
      refine OK.ieq (fun _ => OK.roret (.inl (by omega))) (fun _ => next (fun _ => ?_))
      rcases hu with hu | hu
      · omega
      · exact hu.2
    · refine OK.grd ⟨by omega, by omega⟩ ?_
      exact OK.ieq (fun _ => OK.roret (.inl (by omega))) (fun _ => next (fun h9 => by omega))
theorem b_holds (w r : Int32) (σ : ST) (hM : ME σ) (hw : wrec σ w) (hr : rrec σ r) : OK (f_X11_holds w r σ) (RO σ fun v => v.toInt = 0 ∨ v.toInt = 1 ∧ HO σ w r) := by
  unfold f_X11_holds
  obtain ⟨b1, b2, b3, b4⟩ := hM.w
  have w1 := hw.1
  have w2 : w.toInt < rmW σ := hw.2
  have r1 := hr.1
  have r2 : r.toInt < rmR σ := hr.2
  have b21 := b2.1
  have b22 := b2.2
  have lt_0 := li_0
  have lt_6 := li_6
  have lu := FUi
  have a1 := mlE (k := 6) (y := σ.1 0 54) 6 li_6 (by omega) (by omega)
  have a2 := il_addE (x := 6 * σ.1 0 54) (y := r) (by omega) (by omega)
  refine OK.bndR (b_namesMay w r σ (by omega) (by omega) b1 b2) (fun v hv => ?_)
  dsimp only
  refine OK.ieq (fun _ => OK.roret (.inl (by omega))) (fun _ => ?_)
  exact b_holds_24 w r _ σ hM hw hr (by omega) FU 0 (by omega) (fun k f v k1 => by omega)
theorem d6 {x : Int32} (h0 : 0 ≤ x.toInt) (h : x.toInt < 36) : (x / 6).toInt = x.toInt / 6 ∧ (x - x / 6 * 6).toInt = x.toInt % 6 := by
  have key : ∀ n : Nat, n < 36 → ((Int32.ofNat n) / 6).toInt = ((n : Int) / 6) ∧ ((Int32.ofNat n) - (Int32.ofNat n) / 6 * 6).toInt = ((n : Int) % 6) ∧ (Int32.ofNat n).toInt = (n : Int) := by decide
  have e : x = Int32.ofNat x.toInt.toNat := Int32.toInt_inj.mp (by rw [(key x.toInt.toNat (by omega)).2.2]; omega)
  have k := key x.toInt.toNat (by omega)
  rw [← e] at k
  refine ⟨k.1.trans ?_, k.2.1.trans ?_⟩
  · congr 1; omega
  · congr 1; omega
/-- the pairs that stand are of records that are there -/
def PC (σ : ST) (m : Int) : Prop := ∀ k : Nat, (k : Int) < m → ¬ σ.1 35 k = 0 → ((k : Int) / 6) < rmW σ ∧ ((k : Int) % 6) < rmR σ
theorem PB.up {σ : ST} (h : PB σ) {i : Nat} {v : Int32} (hv : v.toInt = 0 ∨ v.toInt = 1) : PB (stI σ 35 i v) := by
  intro k
  show (upd (σ.1 35) i v k).toInt = 0 ∨ (upd (σ.1 35) i v k).toInt = 1
  unfold upd
  split
  · exact hv
  · exact h k
/-- what laying the pairs ends with -/
def PP (σ : ST) : Prop := ME σ ∧ PC σ 36 ∧ ∀ (w r : Int32), 0 ≤ w.toInt → w.toInt < 6 → 0 ≤ r.toInt → r.toInt < 6 → ¬ σ.1 35 (6 * w.toNatClampNeg + r.toNatClampNeg) = 0 → HO σ w r
def cnt36 (σ : ST) : Nat := cntZ (fun k => ¬ σ.1 35 k = 0) 36
theorem b_lp_72 {k63 : Int32 → ST → Option ST} {P : ST → Prop} (c0 : Nat) : ∀ (n : Nat) (x3 x4 : Int32) (σ : ST), ME σ → PC σ 36 → (0 ≤ x4.toInt ∧ x4.toInt ≤ 36 ∧ (36 : Int) - x4.toInt < n) → (x3.toInt = 0 ∨ x3.toInt = 1) → cnt36 σ ≤ c0 → (x3.toInt = 1 → cnt36 σ + 1 ≤ c0) → (x3.toInt = 0 → ∀ (w r : Int32), 0 ≤ w.toInt → w.toInt < 6 → 0 ≤ r.toInt → r.toInt < 6 → 6 * w.toInt + r.toInt < x4.toInt → ¬ σ.1 35 (6 * w.toNatClampNeg + r.toNatClampNeg) = 0 → HO σ w r) → (∀ (x3 : Int32) (t : ST), CH [35] [] σ t → ME t → PC t 36 → (x3.toInt = 0 ∧ PP t ∨ x3.toInt = 1 ∧ cnt36 t + 1 ≤ c0) → OK (k63 x3 t) P) → OK (f_X11_laysPairs_72 k63 n x3 x4 σ) P := by
  intro n
  induction n with
  | zero => intro x3 x4 σ hM hC h4; omega
  | succ n ih =>
    intro x3 x4 σ hM hC h4 h3 hc hc1 hh hk
    rw [f_X11_laysPairs_72]
    unfold f_X11_laysPairs_116
    have lt_0 := li_0
    have lt_1 := li_1
    have lt_36 := li_36
    refine OK.ile (fun h => ?_) (fun h => ?_)
    · refine hk x3 σ CH.rf hM hC ?_
      rcases h3 with h3 | h3
      · exact .inl ⟨h3, hM, hC, fun w r a1 a2 a3 a4 a5 => hh h3 w r a1 a2 a3 a4 (by omega) a5⟩
      · exact .inr ⟨h3, hc1 h3⟩
    have a3 := il_addE (x := x4) (y := 1) (by omega) (by omega)
    obtain ⟨d1, d2⟩ := d6 (x := x4) h4.1 (by omega)
    have n4 := nN_ h4.1
    have n5 := nN_ (x := x4 / 6) (by omega)
    have n6 := nN_ (x := x4 - x4 / 6 * 6) (by omega)
    have same : ∀ w r : Int32, 0 ≤ w.toInt → w.toInt < 6 → 0 ≤ r.toInt → r.toInt < 6 → 6 * w.toInt + r.toInt = x4.toInt → w = x4 / 6 ∧ r = x4 - x4 / 6 * 6 := fun w r a1 a2 a3 a4 a5 => ⟨Int32.toInt_inj.mp (by omega), Int32.toInt_inj.mp (by omega)⟩
    have e66 : 6 * (x4 / 6).toNatClampNeg + (x4 - x4 / 6 * 6).toNatClampNeg = x4.toNatClampNeg := by omega
    refine OK.grd ⟨by omega, by omega⟩ ?_
    refine OK.ite (fun h0 => ?_) (fun h0 => ?_)
    · refine ih _ _ _ hM hC (by omega) h3 hc hc1 (fun h30 w r a1 a2 a3 a4 a5 a6 => ?_) hk
      by_cases e : 6 * w.toInt + r.toInt = x4.toInt
      · obtain ⟨rfl, rfl⟩ := same w r a1 a2 a3 a4 e
        rw [e66] at a6
        exact absurd h0 a6
      · exact hh h30 w r a1 a2 a3 a4 (by omega) a6
    · have hp := hC x4.toNatClampNeg (by omega) h0
      have hw : wrec σ (x4 / 6) := wrec_i (by omega) (by omega)
      have hr : rrec σ (x4 - x4 / 6 * 6) := rrec_i (by omega) (by omega)
      refine OK.bndR (b_holds _ _ σ hM hw hr) (fun v hv => ?_)
      dsimp only
      refine OK.ieq (fun hv0 => ?_) (fun hv0 => ?_)
      · have v0 : (vp_nar .boolean (0 : Int32)) = 0 := rfl
        rw [v0]
        have ch : CH [35] [] σ (stI σ 35 x4.toNatClampNeg 0) := CH.rf.i (by decide) (by decide)
        have hM1 : ME (stI σ 35 x4.toNatClampNeg 0) := ⟨hM.1, hM.2.1, hM.2.2.up (by omega)⟩
        have mono : ∀ k, ¬ (stI σ 35 x4.toNatClampNeg 0).1 35 k = 0 → ¬ σ.1 35 k = 0 := fun k hk => by
          have hk : ¬ upd (σ.1 35) x4.toNatClampNeg 0 k = 0 := hk
          unfold upd at hk
          split at hk
          · exact absurd rfl hk
          · exact hk
        have hlt : cnt36 (stI σ 35 x4.toNatClampNeg 0) + 1 ≤ cnt36 σ := cntZ_lt (p := fun k => ¬ (stI σ 35 x4.toNatClampNeg 0).1 35 k = 0) (q := fun k => ¬ σ.1 35 k = 0) mono (c := x4.toNatClampNeg) (fun h9 => h9 (show upd (σ.1 35) x4.toNatClampNeg 0 x4.toNatClampNeg = 0 from upd_at)) h0 36 (by omega)
        refine ih 1 _ _ hM1 (fun k k1 k2 => hC k k1 (mono k k2)) (by omega) (by omega) (by omega) (fun _ => by omega) (fun h9 => by omega) (fun y t ct => ?_)
        exact hk y t (ch.trans ct)
      · have hH : HO σ (x4 / 6) (x4 - x4 / 6 * 6) := by
          rcases hv with hv | hv
          · omega
          · exact hv.2
        refine ih _ _ _ hM hC (by omega) h3 hc hc1 (fun h30 w r a1 a2 a3 a4 a5 a6 => ?_) hk
        by_cases e : 6 * w.toInt + r.toInt = x4.toInt
        · obtain ⟨rfl, rfl⟩ := same w r a1 a2 a3 a4 e
          exact hH
        · exact hh h30 w r a1 a2 a3 a4 (by omega) a6
theorem b_lp_63 : ∀ (n : Nat) (x3 : Int32) (σ : ST), ME σ → PC σ 36 → (x3.toInt = 0 ∧ PP σ ∨ x3.toInt = 1 ∧ cnt36 σ + 1 < n) → 0 < n → OK (f_X11_laysPairs_63 n x3 σ) (RZ [35] [] σ PP) := by
  intro n
  induction n with
  | zero => intro x3 σ hM hC h h0; omega
  | succ n ih =>
    intro x3 σ hM hC h h0
    rw [f_X11_laysPairs_63]
    have lt_0 := li_0
    have lu := FUi
    refine OK.ieq (fun h3 => ?_) (fun h3 => ?_)
    · rcases h with h | h
      · exact OK.zret CH.rf h.2
      · omega
    · have h1 : cnt36 σ + 1 < n + 1 := by omega
      refine b_lp_72 (cnt36 σ) FU 0 0 σ hM hC (by omega) (by omega) (Nat.le_refl _) (fun h9 => by omega) (fun _ w r a1 a2 a3 a4 a5 => by omega) (fun y t ct hMt hCt hy => ?_)
      refine OK.trZ (ih y t hMt hCt ?_ (by omega)) ct (fun _ h => h) (fun _ h => h) (fun _ _ h => h)
      rcases hy with hy | hy
      · exact .inl hy
      · exact .inr ⟨hy.1, by omega⟩
theorem b_lp_12 (x1 x2 : Int32) : ∀ (n : Nat) (x3 : Int32) (σ : ST), ME σ → x1 = σ.1 0 53 → x2 = σ.1 0 54 → PC σ x3.toInt → (0 ≤ x3.toInt ∧ x3.toInt ≤ 36 ∧ (36 : Int) - x3.toInt < n) → OK (f_X11_laysPairs_12 n x1 x2 x3 σ) (RZ [35] [] σ PP) := by
  intro n
  induction n with
  | zero => intro x3 σ hM h1 h2 hC h3; omega
  | succ n ih =>
    intro x3 σ hM h1 h2 hC h3
    rw [f_X11_laysPairs_12]
    unfold f_X11_laysPairs_53
    have lt_0 := li_0
    have lt_1 := li_1
    have lt_36 := li_36
    have lu := FUi
    obtain ⟨⟨b11, b12⟩, ⟨b21, b22⟩, b3, b4⟩ := hM.w
    refine OK.ile (fun h => ?_) (fun h => ?_)
    · have e : x3.toInt = 36 := by omega
      rw [e] at hC
      have := cntZ_le (p := fun k => ¬ σ.1 35 k = 0) 36
      have e2 : cnt36 σ = cntZ (fun k => ¬ σ.1 35 k = 0) 36 := rfl
      exact b_lp_63 FU 1 σ hM hC (.inr ⟨by omega, by omega⟩) (by omega)
    have a3 := il_addE (x := x3) (y := 1) (by omega) (by omega)
    obtain ⟨d1, d2⟩ := d6 (x := x3) h3.1 (by omega)
    have n3 := nN_ h3.1
    have e53 : rmW σ = (σ.1 8 x1.toNatClampNeg).toInt := by rw [h1]; rfl
    have e54 : rmR σ = (σ.1 8 x2.toNatClampNeg).toInt := by rw [h2]; rfl
    have hx1 : x1.toInt = (σ.1 0 53).toInt := by rw [h1]
    have hx2 : x2.toInt = (σ.1 0 54).toInt := by rw [h2]
    have k54 : ∀ y0 : Int32, (y0 = 0 ∨ y0 = 1 ∧ (x3.toInt / 6) < rmW σ ∧ (x3.toInt % 6) < rmR σ) → OK (f_X11_laysPairs_54 (f_X11_laysPairs_12 n) x1 x2 x3 y0 x3 σ) (RZ [35] [] σ PP) := fun y0 hy => by
      unfold f_X11_laysPairs_54
      have v0 : vp_nar .boolean y0 = y0 := by
        rcases hy with hy | hy
        · rw [hy]; rfl
        · rw [hy.1]; rfl
      rw [v0]
      refine OK.grd ⟨by omega, by omega⟩ ?_
      have ch : CH [35] [] σ (stI σ 35 x3.toNatClampNeg y0) := CH.rf.i (by decide) (by decide)
      have yb : y0.toInt = 0 ∨ y0.toInt = 1 := by
        rcases hy with hy | hy
        · rw [hy]; omega
        · rw [hy.1]; omega
      refine OK.trZ (ih (x3 + 1) (stI σ 35 x3.toNatClampNeg y0) ⟨hM.1, hM.2.1, hM.2.2.up yb⟩ h1 h2 (fun k k1 k2 => ?_) (by omega)) ch (fun _ h => h) (fun _ h => h) (fun _ _ h => h)
      have k2 : ¬ upd (σ.1 35) x3.toNatClampNeg y0 k = 0 := k2
      show ((k : Int) / 6) < rmW σ ∧ ((k : Int) % 6) < rmR σ
      unfold upd at k2
      split at k2
      · rename_i e
        rcases hy with hy | hy
        · exact absurd hy k2
        · have : (k : Int) = x3.toInt := by omega
          rw [this]; exact hy.2
      · rename_i e
        exact hC k (by omega) k2
    refine OK.grd ⟨by omega, by omega⟩ ?_
    refine OK.ile (fun _ => k54 0 (.inl rfl)) (fun g1 => ?_)
    refine OK.grd ⟨by omega, by omega⟩ ?_
    refine OK.ile (fun _ => k54 0 (.inl rfl)) (fun g2 => ?_)
    exact k54 1 (.inr ⟨rfl, by omega, by omega⟩)
theorem b_laysPairs (p0 p1 : Int32) (σ : ST) (hP : PLs σ) (hB : PB σ) (h0 : 0 ≤ p0.toInt ∧ p0.toInt < (σ.1 0 32).toInt) (h1 : 0 ≤ p1.toInt ∧ p1.toInt < (σ.1 0 32).toInt) : OK (f_X11_laysPairs p0 p1 σ) (RZ [35] [53, 54] σ fun t => PP t ∧ t.1 0 53 = p0 ∧ t.1 0 54 = p1) := by
  unfold f_X11_laysPairs
  have lt_0 := li_0
  have lu := FUi
  have hM : ME (stI (stI σ 0 53 p0) 0 54 p1) := ⟨hP.of rfl rfl rfl rfl rfl rfl rfl rfl rfl, ⟨h0, h1⟩, hB⟩
  refine OK.trZ (b_lp_12 p0 p1 FU 0 (stI (stI σ 0 53 p0) 0 54 p1) hM rfl rfl (fun k k1 => by omega) (by omega)) ((CH.rf.o (by decide)).o (by decide)) (fun _ h => h) (fun _ h => by cases h) (fun t ct hPP => ⟨hPP, ?_, ?_⟩)
  · rw [ct.2.1 53 (by decide)]; rfl
  · rw [ct.2.1 54 (by decide)]; rfl
/-! the reference: misses -/
theorem VT.tr {C I : List Nat} {σ t : ST} {a : Int} {d : Nat} {x : Int32} (h : VS σ a d x) (c : CH C I σ t) (hC : ∀ c, c ∈ [2, 3, 4, 5] → c ∉ C) : VS t a d x := by
  unfold VS
  rw [c.1 2 (by decide) (hC 2 (by decide)), c.1 3 (by decide) (hC 3 (by decide)), c.1 4 (by decide) (hC 4 (by decide)), c.1 5 (by decide) (hC 5 (by decide))]
  exact h
theorem rm_ch {C I : List Nat} {σ t : ST} (c : CH C I σ t) (hC : 8 ∉ C) (h53 : 53 ∉ I) (h54 : 54 ∉ I) : rmW t = rmW σ ∧ rmR t = rmR σ := by
  unfold rmW rmR
  rw [c.1 8 (by decide) hC, c.2.1 53 h53, c.2.1 54 h54]
  exact ⟨rfl, rfl⟩
def MI (σ : ST) : Prop := bI (σ.1 0 61) 0 20 ∧ ∀ i, bI (σ.1 38 i) 0 256
theorem b_misses_35 : ∀ (n : Nat) (x2 : Int32) (σ : ST), (0 ≤ (σ.1 0 61).toInt ∧ (σ.1 0 61).toInt < 20) → bI (σ.1 0 57) 0 256 → (0 ≤ x2.toInt ∧ x2.toInt ≤ 256 ∧ (256 : Int) - x2.toInt < n) → OK (f_X11_misses_35 n x2 σ) (RZ [39] [61] σ fun t => (t.1 0 61).toInt = (σ.1 0 61).toInt + 1) := by
  intro n
  induction n with
  | zero => intro x2 σ h1 h2 h3; omega
  | succ n ih =>
    intro x2 σ h1 h2 h3
    rw [f_X11_misses_35]
    have h2' := h2
    obtain ⟨a1, a2⟩ := h2
    have lt_1 := li_1
    have lt_256 := li_256
    have e1 := il_addE (x := σ.1 0 61) (y := 1) (by omega) (by omega)
    have e2 := il_addE (x := x2) (y := 1) (by omega) (by omega)
    have e3 := mlE (k := 256) (y := σ.1 0 61) 256 li_256 (by omega) (by omega)
    have e4 := il_addE (x := 256 * σ.1 0 61) (y := x2) (by omega) (by omega)
    refine OK.ile (fun h => OK.zret (CH.rf.o (by decide)) (show (σ.1 0 61 + 1).toInt = _ by omega)) (fun h => ?_)
    refine OK.grd ⟨by omega, by omega⟩ ?_
    refine OK.grd ⟨by omega, by omega⟩ ?_
    exact OK.trZ (ih (x2 + 1) (stI σ 39 (256 * σ.1 0 61 + x2).toNatClampNeg (σ.1 36 x2.toNatClampNeg)) h1 h2' (by omega)) (CH.rf.i (by decide) (by decide)) (fun _ h => h) (fun _ h => h) (fun _ _ h => h)
theorem b_misses (p0 : Int32) (σ : ST) (hm : MI σ) (hs : bI (σ.1 0 57) 0 256) : OK (f_X11_misses p0 σ) (RZ [37, 38, 39] [61] σ MI) := by
  unfold f_X11_misses
  have lt_0 := li_0
  have lt_20 := li_20
  have lu := FUi
  have hm' := hm
  obtain ⟨⟨m1, m2⟩, m3⟩ := hm
  refine OK.ieq (fun _ => OK.zret CH.rf hm') (fun h => ?_)
  refine OK.grd ⟨by omega, by omega⟩ ?_
  refine OK.grd (show 0 ≤ (σ.1 0 61).toInt ∧ (σ.1 0 61).toInt < 20 from ⟨by omega, by omega⟩) ?_
  refine OK.lt (fun z hz => ?_)
  have c : CH [37, 38, 39] [61] σ z := by rw [hz]; exact (CH.rf.i (by decide) (by decide)).i (by decide) (by decide)
  have e61 : z.1 0 61 = σ.1 0 61 := by rw [hz]; rfl
  have e57 : z.1 0 57 = σ.1 0 57 := by rw [hz]; rfl
  have e38 : ∀ i, bI (z.1 38 i) 0 256 := by
    rw [hz]
    exact upd_all (P := fun x => bI x 0 256) m3 hs
  refine OK.trZ (b_misses_35 FU 0 z (by rw [e61]; omega) (by rw [e57]; exact hs) (by omega)) c (by decide) (fun _ h => h) (fun t ct ht => ⟨⟨?_, ?_⟩, ?_⟩)
  · rw [ht, e61]; omega
  · rw [ht, e61]; omega
  · rw [ct.1 38 (by decide) (by decide)]; exact e38
def uN (σ : ST) : Nat := cntZ (fun k => σ.1 40 k = 0) 36
def LQ (σ t : ST) : Prop := MI t ∧ (t.1 0 57).toInt = (σ.1 0 57).toInt ∧ ∀ k, t.1 40 k = 0 → σ.1 40 k = 0
theorem LQ.trans {σ s t : ST} (h : LQ σ s) (k : LQ s t) : LQ σ t := ⟨k.1, k.2.1.trans h.2.1, fun x hx => h.2.2 x (k.2.2 x hx)⟩
theorem uN_le {σ t : ST} (h : ∀ k, t.1 40 k = 0 → σ.1 40 k = 0) : uN t ≤ uN σ := cntZ_mono (p := fun k => t.1 40 k = 0) (q := fun k => σ.1 40 k = 0) h 36
abbrev LC : List Nat := [36, 37, 38, 39, 40]
abbrev LI : List Nat := [57, 61]
theorem LQ.lv {σ s : ST} (c : CH LC LI σ s) (h0 : 0 ≤ (σ.1 0 57).toInt ∧ (σ.1 0 57).toInt ≤ 255) (hm : MI s) (hs : (s.1 0 57).toInt = (σ.1 0 57).toInt + 1) (hl : ∀ k, s.1 40 k = 0 → σ.1 40 k = 0) : CH LC LI σ (stI s 0 57 (s.1 0 57 - 1)) ∧ LQ σ (stI s 0 57 (s.1 0 57 - 1)) := by
  have lt_1 := li_1
  have e1 := il_subE (x := s.1 0 57) (y := 1) (by omega) (by omega)
  refine ⟨c.o (by decide), hm, ?_, hl⟩
  show (s.1 0 57 - 1).toInt = _
  omega
def cLook (N : Nat) (rl : Int32 → Int32 → ST → Option ST) : Prop := ∀ (w r : Int32) (σ : ST) (d e : Nat), ME σ → MI σ → VS σ (rmW σ) d w → VS σ (rmR σ) e r → d ≤ 4 → e ≤ 4 → 0 ≤ (σ.1 0 57).toInt → (σ.1 0 57).toInt + d + 5 * (uN σ : Nat) ≤ 180 → d + e + 8 * uN σ ≤ N → OK (rl w r σ) (RZ LC LI σ (LQ σ))
def cLookR (N : Nat) (rr : Int32 → Int32 → ST → Option ST) : Prop := ∀ (w r : Int32) (σ : ST), ME σ → MI σ → wrec σ w → rrec σ r → 0 ≤ (σ.1 0 57).toInt → (σ.1 0 57).toInt + 5 * (uN σ : Nat) ≤ 180 → 8 * uN σ + 1 ≤ N → OK (rr w r σ) (RZ LC LI σ (LQ σ))
theorem b_look_13 {N : Nat} {rl rr : Int32 → Int32 → ST → Option ST} (hl : cLook N rl) : ∀ (n : Nat) (w r x3 : Int32) (σ : ST) (d e : Nat), ME σ → MI σ → VS σ (rmW σ) d w → VS σ (rmR σ) e r → d ≤ 4 → e ≤ 4 → 0 ≤ (σ.1 0 57).toInt → (σ.1 0 57).toInt + d + 5 * (uN σ : Nat) ≤ 180 → d + e + 8 * uN σ ≤ N + 1 → (σ.1 2 w.toNatClampNeg).toInt = 8 → (0 ≤ x3.toInt ∧ x3.toInt ≤ 4 ∧ (4 : Int) - x3.toInt < n) → OK (f_X11_looksAt_13 rl rr n w r x3 σ) (RZ LC LI σ (LQ σ)) := by
  intro n
  induction n with
  | zero => intro w r x3 σ d e h1 h2 h3 h4 h5 h6 h7 h8 h9 hs h; omega
  | succ n ih =>
    intro w r x3 σ d e hM hI hw hr hd he h0 hS hN hs h3
    rw [f_X11_looksAt_13]
    have lt_0 := li_0
    have lt_1 := li_1
    have lt_4 := li_4
    obtain ⟨g1, g2, g3, g4⟩ := hw.eit hs
    obtain ⟨_, _, b3, b4⟩ := hM.w
    have gw := hw.rng
    have e1 := mlE (k := 4) (y := w) 4 li_4 (by omega) (by omega)
    have e2 := il_addE (x := 4 * w) (y := x3) (by omega) (by omega)
    have e3 := il_addE (x := x3) (y := 1) (by omega) (by omega)
    have n1 := nN_ gw.1
    have n2 := nN_ h3.1
    have e4 : (4 * w + x3).toNatClampNeg = 4 * w.toNatClampNeg + x3.toNatClampNeg := nC (by omega)
    refine OK.grd gw ?_
    refine OK.ile (fun _ => OK.zret CH.rf ⟨hI, rfl, fun _ h => h⟩) (fun h => ?_)
    have hk : ((x3.toNatClampNeg : Nat) : Int) < (σ.1 4 w.toNatClampNeg).toInt := by omega
    refine OK.bndZ (b_enters _ σ ⟨h0, by omega⟩) (fun q2 c2 s2 => ?_)
    have c2' : CH LC LI σ q2 := c2.mono (by decide) (by decide)
    have M2 : ME q2 := hM.ch c2 (by decide) (by decide)
    have I2 : MI q2 := by
      unfold MI
      rw [c2.2.1 61 (by decide), c2.1 38 (by decide) (by decide)]
      exact hI
    have l2 : ∀ k, q2.1 40 k = 0 → σ.1 40 k = 0 := fun k hk => by rw [c2.1 40 (by decide) (by decide)] at hk; exact hk
    obtain ⟨rm1, rm2⟩ := rm_ch c2 (by decide) (by decide) (by decide)
    have w2 := hw.tr c2 (by decide)
    have r2 : VS q2 (rmR q2) e r := by rw [rm2]; exact hr.tr c2 (by decide)
    refine OK.grd ⟨by omega, by omega⟩ ?_
    have hB : VS q2 (rmW q2) (d - 1) (q2.1 5 (4 * w + x3).toNatClampNeg) := by
      rw [rm1, e4, c2.1 5 (by decide) (by decide)]
      exact (g3 _ hk).1.tr c2 (by decide)
    have u2 := uN_le l2
    refine OK.bndR (bT_match _ _ q2 (by omega) (by omega) M2.2.2 hB r2 (by omega) (by omega)) (fun v hv => ?_)
    dsimp only
    unfold f_X11_looksAt_69
    have fin : ∀ s : ST, CH LC LI σ s → MI s → (s.1 0 57).toInt = (σ.1 0 57).toInt + 1 → (∀ k, s.1 40 k = 0 → σ.1 40 k = 0) → OK (f_X11_looksAt_13 rl rr n w r (x3 + 1) (stI s 0 57 (s.1 0 57 - 1))) (RZ LC LI σ (LQ σ)) := fun s cs ms ss ls => by
      obtain ⟨c9, q9⟩ := LQ.lv cs ⟨h0, by omega⟩ ms ss ls
      obtain ⟨rm3, rm4⟩ := rm_ch c9 (by decide) (by decide) (by decide)
      have u9 := uN_le q9.2.2
      have s9 := q9.2.1
      generalize stI s 0 57 (s.1 0 57 - 1) = y at c9 q9 rm3 rm4 u9 s9 ⊢
      refine OK.trZ (ih w r (x3 + 1) y d e (hM.ch c9 (by decide) (by decide)) q9.1 (by rw [rm3]; exact hw.tr c9 (by decide)) (by rw [rm4]; exact hr.tr c9 (by decide)) hd he (by omega) (by omega) (by omega) (by rw [c9.1 2 (by decide) (by decide)]; exact hs) (by omega)) c9 (fun _ h => h) (fun _ h => h) (fun t _ ht => q9.trans ht)
    refine OK.ieq (fun _ => ?_) (fun _ => ?_)
    · refine OK.bndZ (b_misses 4 q2 I2 ⟨by omega, by omega⟩) (fun q7 c7 m7 => ?_)
      refine fin q7 (c2'.trans (c7.mono (by decide) (by decide))) m7 (by rw [c7.2.1 57 (by decide)]; exact s2) (fun k hk => l2 k (by rw [c7.1 40 (by decide) (by decide)] at hk; exact hk))
    · refine OK.bndZ (hl _ r q2 (d - 1) e M2 I2 hB r2 (by omega) he (by omega) (by omega) (by omega)) (fun q9 c9 m9 => ?_)
      exact fin q9 (c2'.trans c9) m9.1 (m9.2.1.trans s2) (fun k hk => l2 k (m9.2.2 k hk))
theorem b_look_top {N : Nat} {rl rr : Int32 → Int32 → ST → Option ST} (hl : cLook N rl) (hr_ : cLookR N rr) : cLook (N + 1) (f_X11_looksAt rl rr) := by
  intro w r σ d e hM hI hw hr hd he h0 hS hN
  unfold f_X11_looksAt
  have lt_0 := li_0
  have lt_1 := li_1
  have lt_4 := li_4
  have lt_6 := li_6
  have lt_7 := li_7
  have lt_8 := li_8
  have lu := FUi
  have gw := hw.rng
  have gr := hr.rng
  obtain ⟨b1, b2, b3, b4⟩ := hM.w
  have hd1 : 1 ≤ d := by
    cases d with
    | zero => exact hw.elim
    | succ d => omega
  have he1 : 1 ≤ e := by
    cases e with
    | zero => exact hr.elim
    | succ e => omega
  have k253 : OK (f_X11_looksAt_253 rl rr w r σ) (RZ LC LI σ (LQ σ)) := by
    unfold f_X11_looksAt_253
    refine OK.bndR (bT_match w r σ (by omega) (by omega) hM.2.2 hw hr (by omega) (by omega)) (fun v hv => ?_)
    dsimp only
    refine OK.ieq (fun _ => ?_) (fun _ => OK.zret CH.rf ⟨hI, rfl, fun _ h => h⟩)
    refine OK.bndZ (b_misses 2 σ hI ⟨by omega, by omega⟩) (fun q7 c7 m7 => ?_)
    exact OK.zret (c7.mono (by decide) (by decide)) ⟨m7, by rw [c7.2.1 57 (by decide)], fun k hk => by rw [c7.1 40 (by decide) (by decide)] at hk; exact hk⟩
  have k196 : OK (f_X11_looksAt_196 rl rr w r σ) (RZ LC LI σ (LQ σ)) := by
    unfold f_X11_looksAt_196
    refine OK.grd gw ?_
    refine OK.ieq (fun h6 => ?_) (fun _ => k253)
    refine OK.grd gr ?_
    refine OK.ieq (fun h6' => ?_) (fun _ => k253)
    refine OK.bndZ (b_enters _ σ ⟨h0, by omega⟩) (fun q2 c2 s2 => ?_)
    have c2' : CH LC LI σ q2 := c2.mono (by decide) (by decide)
    have M2 : ME q2 := hM.ch c2 (by decide) (by decide)
    have I2 : MI q2 := by
      unfold MI
      rw [c2.2.1 61 (by decide), c2.1 38 (by decide) (by decide)]
      exact hI
    have l2 : ∀ k, q2.1 40 k = 0 → σ.1 40 k = 0 := fun k hk => by rw [c2.1 40 (by decide) (by decide)] at hk; exact hk
    obtain ⟨rm1, rm2⟩ := rm_ch c2 (by decide) (by decide) (by decide)
    have u2 := uN_le l2
    have a1 := hw.lst (by omega)
    have a2 := hr.lst (by omega)
    refine OK.bndZ (hl _ _ q2 (d - 1) (e - 1) M2 I2 (by rw [rm1, c2.1 3 (by decide) (by decide)]; exact a1.2.tr c2 (by decide)) (by rw [rm2, c2.1 3 (by decide) (by decide)]; exact a2.2.tr c2 (by decide)) (by omega) (by omega) (by omega) (by omega) (by omega)) (fun q9 c9 m9 => ?_)
    obtain ⟨cf, qf⟩ := LQ.lv (c2'.trans c9) ⟨h0, by omega⟩ m9.1 (m9.2.1.trans s2) (fun k hk => l2 k (m9.2.2 k hk))
    exact OK.zret cf qf
  refine OK.grd gw ?_
  refine OK.ieq (fun h8 => ?_) (fun h8 => ?_)
  · exact b_look_13 hl FU w r 0 σ d e hM hI hw hr hd he h0 hS (by omega) (by omega) (by omega)
  refine OK.grd gr ?_
  refine OK.ieq (fun h9 => ?_) (fun h9 => ?_)
  · obtain ⟨g1, g2, g3, g4⟩ := hr.eit (by omega)
    refine OK.bndR (bT_chosen w r σ (by omega) (by omega) hM.2.2 hw hr (by omega) (by omega) (by omega)) (fun v hv => ?_)
    dsimp only
    refine OK.ile (fun hv0 => ?_) (fun _ => ?_)
    · have hv' : 0 ≤ v.toInt ∧ v.toInt < (σ.1 4 r.toNatClampNeg).toInt := by
        rcases hv with hv | hv
        · omega
        · exact hv.1
      have e1 := mlE (k := 4) (y := r) 4 li_4 (by omega) (by omega)
      have e2 := il_addE (x := 4 * r) (y := v) (by omega) (by omega)
      have n1 := nN_ gr.1
      have n2 := nN_ hv'.1
      have e4 : (4 * r + v).toNatClampNeg = 4 * r.toNatClampNeg + v.toNatClampNeg := nC (by omega)
      refine OK.grd ⟨by omega, by omega⟩ ?_
      rw [e4]
      refine OK.bndZ (hl w _ σ d (e - 1) hM hI hw (g3 _ (by omega)).1 hd (by omega) h0 hS (by omega)) (fun q9 c9 m9 => ?_)
      exact OK.zret c9 m9
    · refine OK.bndZ (b_misses 3 σ hI ⟨by omega, by omega⟩) (fun q7 c7 m7 => ?_)
      exact OK.zret (c7.mono (by decide) (by decide)) ⟨m7, by rw [c7.2.1 57 (by decide)], fun k hk => by rw [c7.1 40 (by decide) (by decide)] at hk; exact hk⟩
  refine OK.ieq (fun h7 => ?_) (fun _ => k196)
  refine OK.ieq (fun h7' => ?_) (fun _ => k196)
  have rw_ := hw.rcd (by omega)
  have rr_ := hr.rcd (by omega)
  refine OK.bndR (b_namesMay _ _ σ (by omega) (by omega) b1 b2) (fun v hv => ?_)
  dsimp only
  refine OK.ieq (fun _ => k196) (fun _ => ?_)
  refine OK.bndZ (hr_ _ _ σ hM hI rw_ rr_ h0 (by omega) (by omega)) (fun q9 c9 m9 => ?_)
  exact OK.zret c9 m9
theorem b_lookr_40 {N : Nat} {rl rr : Int32 → Int32 → ST → Option ST} (hl : cLook N rl) : ∀ (n : Nat) (w r x3 x4 : Int32) (σ : ST), ME σ → MI σ → wrec σ w → rrec σ r → x3.toInt = 6 * (σ.1 0 54).toInt + r.toInt → 0 ≤ (σ.1 0 57).toInt → (σ.1 0 57).toInt + 5 * (uN σ : Nat) ≤ 175 → 8 * uN σ + 8 ≤ N → (0 ≤ x4.toInt ∧ x4.toInt ≤ 8 ∧ (8 : Int) - x4.toInt < n) → OK (f_X11_looksAtRecords_40 rl rr n w x3 x4 σ) (RZ LC LI σ (LQ σ)) := by
  intro n
  induction n with
  | zero => intro w r x3 x4 σ h1 h2 h3 h4 h5 h6 h7 h8 h; omega
  | succ n ih =>
    intro w r x3 x4 σ hM hI hw hr hx3 h0 hS hN h4
    rw [f_X11_looksAtRecords_40]
    have lt_0 := li_0
    have lt_1 := li_1
    have lt_8 := li_8
    obtain ⟨b1, b2, b3, b4⟩ := hM.w
    have b21 := b2.1
    have b22 := b2.2
    have r1 := hr.1
    have r2 : r.toInt < rmR σ := hr.2
    obtain ⟨f1, f2⟩ := hM.rf hr
    have f11 := f1.1
    have f12 := f1.2
    have a1 := mlE (k := 8) (y := x3) 8 li_8 (by omega) (by omega)
    have a2 := il_addE (x := 8 * x3) (y := x4) (by omega) (by omega)
    have a3 := il_addE (x := x4) (y := 1) (by omega) (by omega)
    have n1 := nN_ b21
    have n2 := nN_ r1
    have n4 := nN_ h4.1
    have e3 : x3.toNatClampNeg = 6 * (σ.1 0 54).toNatClampNeg + r.toNatClampNeg := nC (by omega)
    have e5 : (8 * x3 + x4).toNatClampNeg = 8 * (6 * (σ.1 0 54).toNatClampNeg + r.toNatClampNeg) + x4.toNatClampNeg := nC (by omega)
    refine OK.grd ⟨by omega, by omega⟩ ?_
    rw [e3]
    refine OK.ile (fun _ => OK.zret CH.rf ⟨hI, rfl, fun _ h => h⟩) (fun h => ?_)
    have hc := f2 x4.toNatClampNeg (by omega)
    rw [← e5] at hc
    refine OK.bndR (hM.ff hw (by omega)) (fun v hv => ?_)
    dsimp only
    refine OK.bndZ (b_enters _ σ ⟨h0, by omega⟩) (fun q2 c2 s2 => ?_)
    have c2' : CH LC LI σ q2 := c2.mono (by decide) (by decide)
    have M2 : ME q2 := hM.ch c2 (by decide) (by decide)
    have I2 : MI q2 := by
      unfold MI
      rw [c2.2.1 61 (by decide), c2.1 38 (by decide) (by decide)]
      exact hI
    have l2 : ∀ k, q2.1 40 k = 0 → σ.1 40 k = 0 := fun k hk => by rw [c2.1 40 (by decide) (by decide)] at hk; exact hk
    obtain ⟨rm1, rm2⟩ := rm_ch c2 (by decide) (by decide) (by decide)
    have u2 := uN_le l2
    unfold f_X11_looksAtRecords_116
    have fin : ∀ s : ST, CH LC LI σ s → MI s → (s.1 0 57).toInt = (σ.1 0 57).toInt + 1 → (∀ k, s.1 40 k = 0 → σ.1 40 k = 0) → OK (f_X11_looksAtRecords_40 rl rr n w x3 (x4 + 1) (stI s 0 57 (s.1 0 57 - 1))) (RZ LC LI σ (LQ σ)) := fun s cs ms ss ls => by
      obtain ⟨c9, q9⟩ := LQ.lv cs ⟨h0, by omega⟩ ms ss ls
      obtain ⟨rm3, rm4⟩ := rm_ch c9 (by decide) (by decide) (by decide)
      have u9 := uN_le q9.2.2
      have s9 := q9.2.1
      generalize stI s 0 57 (s.1 0 57 - 1) = y at c9 q9 rm3 rm4 u9 s9 ⊢
      have w9 : wrec y w := ⟨hw.1, by show w.toInt < rmW y; rw [rm3]; exact hw.2⟩
      have r9 : rrec y r := ⟨hr.1, by show r.toInt < rmR y; rw [rm4]; exact hr.2⟩
      refine OK.trZ (ih w r x3 (x4 + 1) y (hM.ch c9 (by decide) (by decide)) q9.1 w9 r9 (by rw [c9.2.1 54 (by decide)]; exact hx3) (by omega) (by omega) (by omega) (by omega)) c9 (fun _ h => h) (fun _ h => h) (fun t _ ht => q9.trans ht)
    refine OK.ilt (fun _ => ?_) (fun hv0 => ?_)
    · refine OK.grd ⟨by omega, by omega⟩ ?_
      refine OK.ieq (fun _ => ?_) (fun _ => ?_)
      · refine OK.bndZ (b_misses 1 q2 I2 ⟨by omega, by omega⟩) (fun q7 c7 m7 => ?_)
        exact fin q7 (c2'.trans (c7.mono (by decide) (by decide))) m7 (by rw [c7.2.1 57 (by decide)]; exact s2) (fun k hk => l2 k (by rw [c7.1 40 (by decide) (by decide)] at hk; exact hk))
      · exact fin q2 c2' I2 s2 l2
    · have hv' : (0 ≤ v.toInt ∧ v.toInt < 576) ∧ VS σ (rmW σ) 4 (σ.1 15 v.toNatClampNeg) := by
        rcases hv with hv | hv
        · omega
        · exact hv
      refine OK.grd hv'.1 ?_
      refine OK.grd ⟨by omega, by omega⟩ ?_
      refine OK.bndZ (hl _ _ q2 4 4 M2 I2 (by rw [rm1, c2.1 15 (by decide) (by decide)]; exact hv'.2.tr c2 (by decide)) (by rw [rm2, c2.1 15 (by decide) (by decide)]; exact hc.tr c2 (by decide)) (by omega) (by omega) (by omega) (by omega) (by omega)) (fun q9 c9 m9 => ?_)
      exact fin q9 (c2'.trans c9) m9.1 (m9.2.1.trans s2) (fun k hk => l2 k (m9.2.2 k hk))
theorem b_lookr_top {N : Nat} {rl rr : Int32 → Int32 → ST → Option ST} (hl : cLook N rl) : cLookR (N + 1) (f_X11_looksAtRecords rl rr) := by
  intro w r σ hM hI hw hr h0 hS hN
  unfold f_X11_looksAtRecords
  have lt_0 := li_0
  have lt_6 := li_6
  have lu := FUi
  obtain ⟨b1, b2, b3, b4⟩ := hM.w
  have b21 := b2.1
  have b22 := b2.2
  have w1 := hw.1
  have w2 : w.toInt < rmW σ := hw.2
  have r1 := hr.1
  have r2 : r.toInt < rmR σ := hr.2
  have a1 := mlE (k := 6) (y := w) 6 li_6 (by omega) (by omega)
  have a2 := il_addE (x := 6 * w) (y := r) (by omega) (by omega)
  have n1 := nN_ (x := 6 * w + r) (by omega)
  refine OK.grd ⟨by omega, by omega⟩ ?_
  refine OK.ite (fun hz => ?_) (fun _ => OK.zret CH.rf ⟨hI, rfl, fun _ h => h⟩)
  have v1 : (vp_nar .boolean (1 : Int32)) = 1 := rfl
  rw [v1]
  have c : CH LC LI σ (stI σ 40 (6 * w + r).toNatClampNeg 1) := CH.rf.i (by decide) (by decide)
  have hM1 : ME (stI σ 40 (6 * w + r).toNatClampNeg 1) := hM.ch c (by decide) (by decide)
  have mono : ∀ k, (stI σ 40 (6 * w + r).toNatClampNeg 1).1 40 k = 0 → σ.1 40 k = 0 := fun k hk => by
    have hk : upd (σ.1 40) (6 * w + r).toNatClampNeg 1 k = 0 := hk
    unfold upd at hk
    split at hk
    · exact absurd hk (by decide)
    · exact hk
  have hlt : uN (stI σ 40 (6 * w + r).toNatClampNeg 1) + 1 ≤ uN σ := cntZ_lt (p := fun k => (stI σ 40 (6 * w + r).toNatClampNeg 1).1 40 k = 0) (q := fun k => σ.1 40 k = 0) mono (c := (6 * w + r).toNatClampNeg) (fun h9 => by
    have h9 : upd (σ.1 40) (6 * w + r).toNatClampNeg 1 (6 * w + r).toNatClampNeg = 0 := h9
    rw [upd_at] at h9
    exact absurd h9 (by decide)) hz 36 (by omega)
  refine OK.lt (fun x2 hx2 => ?_)
  have e1 : ((stI σ 40 (6 * w + r).toNatClampNeg 1).1 0 54) = σ.1 0 54 := rfl
  rw [e1] at hx2
  have a3 := mlE (k := 6) (y := σ.1 0 54) 6 li_6 (by omega) (by omega)
  have a4 := il_addE (x := 6 * σ.1 0 54) (y := r) (by omega) (by omega)
  refine OK.trZ (b_lookr_40 hl FU w r x2 0 (stI σ 40 (6 * w + r).toNatClampNeg 1) hM1 hI hw hr (by rw [hx2]; show _ = 6 * (σ.1 0 54).toInt + _; omega) h0 (by show (σ.1 0 57).toInt + _ ≤ _; omega) (by omega) (by omega)) c (fun _ h => h) (fun _ h => h) (fun t _ ht => ⟨ht.1, ht.2.1, fun k hk => mono k (ht.2.2 k hk)⟩)
theorem b_RL : ∀ N : Nat, cLook N (R_X11_looksAt N).1 ∧ cLookR N (R_X11_looksAt N).2 := by
  intro N
  induction N with
  | zero =>
    refine ⟨?_, ?_⟩
    · intro w r σ d e hM hI hw hr hd he h0 hS hN
      cases d with
      | zero => exact hw.elim
      | succ d => omega
    · intro w r σ hM hI hw hr h0 hS hN
      omega
  | succ N ih => exact ⟨b_look_top ih.1 ih.2, b_lookr_top ih.1⟩
theorem b_lm_18 : ∀ (n : Nat) (x3 : Int32) (σ : ST), ME σ → MI σ → σ.1 0 57 = 0 → (0 ≤ x3.toInt ∧ x3.toInt ≤ 36 ∧ (36 : Int) - x3.toInt < n) → OK (f_X11_laysMisses_18 n x3 σ) (RZ LC LI σ MI) := by
  intro n
  induction n with
  | zero => intro x3 σ h1 h2 h3 h4; omega
  | succ n ih =>
    intro x3 σ hM hI hs h3
    rw [f_X11_laysMisses_18]
    have lt_0 := li_0
    have lt_1 := li_1
    have lt_36 := li_36
    have lr := FRi
    obtain ⟨b1, b2, b3, b4⟩ := hM.w
    refine OK.ile (fun _ => ?_) (fun h => ?_)
    · have u := cntZ_le (p := fun k => σ.1 40 k = 0) 36
      have eu : uN σ = cntZ (fun k => σ.1 40 k = 0) 36 := rfl
      have es : (σ.1 0 57).toInt = 0 := by rw [hs]; exact li_0
      refine OK.bndZ ((b_RL FRB).2 0 0 σ hM hI (wrec_i (by omega) (by omega)) (rrec_i (by omega) (by omega)) (by omega) (by omega) (by omega)) (fun q9 c9 m9 => ?_)
      exact OK.zret c9 m9.1
    · have a3 := il_addE (x := x3) (y := 1) (by omega) (by omega)
      refine OK.grd ⟨by omega, by omega⟩ ?_
      have c : CH LC LI σ (stI σ 40 x3.toNatClampNeg (vp_nar .boolean 0)) := CH.rf.i (by decide) (by decide)
      exact OK.trZ (ih (x3 + 1) _ (hM.ch c (by decide) (by decide)) hI hs (by omega)) c (fun _ h => h) (fun _ h => h) (fun _ _ h => h)
theorem b_laysMisses (p0 p1 : Int32) (σ : ST) (hP : PLs σ) (hB : PB σ) (hm : ∀ i, bI (σ.1 38 i) 0 256) (h0 : 0 ≤ p0.toInt ∧ p0.toInt < (σ.1 0 32).toInt) (h1 : 0 ≤ p1.toInt ∧ p1.toInt < (σ.1 0 32).toInt) : OK (f_X11_laysMisses p0 p1 σ) (RZ [35, 36, 37, 38, 39, 40] [53, 54, 57, 61] σ fun t => MI t ∧ PB t) := by
  unfold f_X11_laysMisses
  have lt_0 := li_0
  have lu := FUi
  refine OK.bndZ (b_laysPairs p0 p1 σ hP hB h0 h1) (fun t c ht => ?_)
  have c1 : CH LC LI t (stI (stI t 0 61 0) 0 57 0) := (CH.rf.o (by decide)).o (by decide)
  have hM : ME (stI (stI t 0 61 0) 0 57 0) := ht.1.1.ch c1 (by decide) (by decide)
  have hI : MI (stI (stI t 0 61 0) 0 57 0) := by
    refine ⟨bz (by decide) (by decide), ?_⟩
    show ∀ i, bI (t.1 38 i) 0 256
    rw [c.1 38 (by decide) (by decide)]
    exact hm
  have c2 : CH [35, 36, 37, 38, 39, 40] [53, 54, 57, 61] σ (stI (stI t 0 61 0) 0 57 0) := (c.mono (by decide) (by decide)).trans (c1.mono (by decide) (by decide))
  refine OK.trZ (b_lm_18 FU 0 _ hM hI rfl (by omega)) c2 (by decide) (by decide) (fun u cu hu => ⟨hu, ?_⟩)
  unfold PB
  rw [cu.1 35 (by decide) (by decide)]
  exact hM.2.2
/-! the reference: its tree -/
def tP (σ : ST) : Nat → Int := fun r => (σ.1 24 r).toInt
def tC (σ : ST) : Nat → Int := fun r => (σ.1 25 r).toInt
def tF (σ : ST) : Nat → Int := fun r => (σ.1 28 r).toInt
def tL (σ : ST) : Nat → Int := fun r => (σ.1 29 r).toInt
def tN (σ : ST) : Nat → Int := fun r => (σ.1 30 r).toInt
/-- how many stand at a child's place or behind it -/
def ms (S : Nat) (C : Nat → Int) (k : Nat) : Nat := cntZ (fun c => C k < C c ∨ C c = C k ∧ c ≤ k) S
theorem ms_le {S : Nat} {C : Nat → Int} {k : Nat} : ms S C k ≤ S := cntZ_le _
theorem ms_step {S : Nat} {C : Nat → Int} {k m : Nat} (hk : k < S) (h : C k < C m ∨ C k = C m ∧ m < k) : ms S C m + 1 ≤ ms S C k := cntZ_lt (p := fun c => C m < C c ∨ C c = C m ∧ c ≤ m) (q := fun c => C k < C c ∨ C c = C k ∧ c ≤ k) (fun r hr => by omega) (c := k) (by omega) (by omega) S hk
/-- a child of that row, or none -/
def isC (σ : ST) (p : Nat) (x : Int32) : Prop := x.toInt = -1 ∨ (0 ≤ x.toInt ∧ x.toInt < (σ.1 0 46).toInt) ∧ tP σ x.toNatClampNeg = p
def msx (σ : ST) (x : Int32) : Nat := if x.toInt = -1 then 0 else ms (σ.1 0 46).toInt.toNat (tC σ) x.toNatClampNeg
/-- the tree's order -/
def TO (σ : ST) : Prop := bI (σ.1 0 46) 0 4096 ∧ TRf (σ.1 0 46).toInt (tP σ) (tC σ) (tF σ) (tL σ) (tN σ) ∧ ∀ r : Nat, (r : Int) < (σ.1 0 46).toInt → tF σ r = -1 → tL σ r = -1
theorem TO.first {σ : ST} (h : TO σ) {p : Nat} (hp : (p : Int) < (σ.1 0 46).toInt) : isC σ p (σ.1 28 p) := by
  rcases (h.2.1 p hp).1 with a | ⟨a1, a2, a3⟩
  · exact .inl a
  · exact .inr ⟨⟨a1, a2⟩, a3⟩
theorem TO.next {σ : ST} (h : TO σ) {p : Nat} {x : Int32} (hx : isC σ p x) (h0 : ¬ x.toInt = -1) : isC σ p (σ.1 30 x.toNatClampNeg) ∧ msx σ (σ.1 30 x.toNatClampNeg) + 1 ≤ msx σ x := by
  rcases hx with hx | ⟨⟨x1, x2⟩, x3⟩
  · exact absurd hx h0
  have n1 := nN_ x1
  have n2 : ((((σ.1 0 46).toInt.toNat : Nat)) : Int) = (σ.1 0 46).toInt := Int.toNat_of_nonneg (by omega)
  have e0 : msx σ x = ms (σ.1 0 46).toInt.toNat (tC σ) x.toNatClampNeg := if_neg h0
  rcases (h.2.1 x.toNatClampNeg (by omega)).2.2 with a | ⟨a1, a2, a3, a4⟩
  · have a : (σ.1 30 x.toNatClampNeg).toInt = -1 := a
    have e1 : msx σ (σ.1 30 x.toNatClampNeg) = 0 := if_pos a
    refine ⟨.inl a, ?_⟩
    have h9 := cntZ_lt (p := fun _ => False) (q := fun c => tC σ x.toNatClampNeg < tC σ c ∨ tC σ c = tC σ x.toNatClampNeg ∧ c ≤ x.toNatClampNeg) (fun _ h => h.elim) (c := x.toNatClampNeg) (fun h => h) (by omega) (σ.1 0 46).toInt.toNat (by omega)
    rw [e1, e0]
    unfold ms
    omega
  · have a1 : 0 ≤ (σ.1 30 x.toNatClampNeg).toInt := a1
    have a2 : (σ.1 30 x.toNatClampNeg).toInt < (σ.1 0 46).toInt := a2
    have a3 : tP σ (σ.1 30 x.toNatClampNeg).toInt.toNat = tP σ x.toNatClampNeg := a3
    have a4 : tC σ x.toNatClampNeg < tC σ (σ.1 30 x.toNatClampNeg).toInt.toNat ∨ tC σ x.toNatClampNeg = tC σ (σ.1 30 x.toNatClampNeg).toInt.toNat ∧ (σ.1 30 x.toNatClampNeg).toInt < x.toNatClampNeg := a4
    have e1 : msx σ (σ.1 30 x.toNatClampNeg) = ms (σ.1 0 46).toInt.toNat (tC σ) (σ.1 30 x.toNatClampNeg).toNatClampNeg := if_neg (by omega)
    have n3 := nN_ a1
    refine ⟨.inr ⟨⟨a1, a2⟩, a3.trans x3⟩, ?_⟩
    rw [e0, e1]
    have a4' : tC σ x.toNatClampNeg < tC σ (σ.1 30 x.toNatClampNeg).toNatClampNeg ∨ tC σ x.toNatClampNeg = tC σ (σ.1 30 x.toNatClampNeg).toNatClampNeg ∧ (σ.1 30 x.toNatClampNeg).toInt < x.toNatClampNeg := a4
    exact ms_step (by omega) (by omega)
theorem msx_le {σ : ST} (h : TO σ) {x : Int32} : msx σ x ≤ 4096 := by
  unfold msx
  split
  · omega
  · have := ms_le (S := (σ.1 0 46).toInt.toNat) (C := tC σ) (k := x.toNatClampNeg)
    have := h.1.2
    omega
theorem b_hasChild_10 : ∀ (n : Nat) (p : Nat) (x2 x3 x4 : Int32) (σ : ST), TO σ → isC σ p x4 → (x3.toInt = 0 ∨ x3.toInt = 1) → msx σ x4 < n → OK (f_X11_hasChild_10 n x2 x3 x4 σ) (RO σ fun v => v.toInt = 0 ∨ v.toInt = 1) := by
  intro n
  induction n with
  | zero => intro p x2 x3 x4 σ h1 h2 h3 h4; omega
  | succ n ih =>
    intro p x2 x3 x4 σ hT hx h3 hn
    rw [f_X11_hasChild_10]
    unfold f_X11_hasChild_30 f_X11_hasChild_35
    have lt_0 := li_0
    have lt_1 := li_1
    refine OK.ilt (fun _ => OK.grd (b01 h3) (OK.roret h3)) (fun h => ?_)
    obtain ⟨a1, a2⟩ := hT.next hx (by omega)
    have hr : 0 ≤ x4.toInt ∧ x4.toInt < 4096 := by
      have := hT.1.2
      rcases hx with hx | hx
      · omega
      · omega
    refine OK.ieq (fun _ => ?_) (fun _ => OK.grd hr (ih p _ _ _ _ hT a1 (by omega) (by omega)))
    refine OK.grd hr ?_
    exact OK.ieq (fun _ => OK.grd hr (ih p _ _ _ _ hT a1 (by omega) (by omega))) (fun _ => OK.grd hr (ih p _ _ _ _ hT a1 (by omega) (by omega)))
theorem b_hasChild (p0 p1 : Int32) (σ : ST) (hT : TO σ) (h : 0 ≤ p0.toInt ∧ p0.toInt < (σ.1 0 46).toInt) : OK (f_X11_hasChild p0 p1 σ) (RO σ fun v => v.toInt = 0 ∨ v.toInt = 1) := by
  unfold f_X11_hasChild
  have lt_0 := li_0
  have lu := FUi
  have h46 := hT.1.2
  have n1 := nN_ h.1
  have := msx_le hT (x := σ.1 28 p0.toNatClampNeg)
  refine OK.grd ⟨by omega, by omega⟩ ?_
  exact b_hasChild_10 FU p0.toNatClampNeg _ _ _ _ hT (hT.first (by omega)) (by omega) (by omega)
/-- the newest row is to be linked -/
def JP (σ : ST) (p v : Int32) : Prop := TO σ ∧ v.toInt = (σ.1 0 46).toInt - 1 ∧ (0 ≤ p.toInt ∧ p.toInt < v.toInt) ∧ tP σ v.toNatClampNeg = p.toInt ∧ ∀ r : Nat, (r : Int) < (σ.1 0 46).toInt → tF σ r < v.toInt ∧ tL σ r < v.toInt ∧ tN σ r < v.toInt
theorem b_joins_147 (p v : Int32) (σ s : ST) (hJ : JP σ p v) (c : CH [28, 29, 30] [] σ s) (e29 : s.1 29 = σ.1 29) (hT : TRf (σ.1 0 46).toInt (tP σ) (tC σ) (tF s) (if (s.1 30 v.toNatClampNeg).toInt = -1 then updZ (tL σ) p.toNatClampNeg ((v.toNatClampNeg : Nat) : Int) else tL σ) (tN s)) (hF : ∀ r : Nat, (r : Int) < (σ.1 0 46).toInt → tF s r = -1 → (if (s.1 30 v.toNatClampNeg).toInt = -1 then updZ (tL σ) p.toNatClampNeg ((v.toNatClampNeg : Nat) : Int) else tL σ) r = -1) (hn : (s.1 30 v.toNatClampNeg).toInt = -1 ∨ 0 ≤ (s.1 30 v.toNatClampNeg).toInt) : OK (f_X11_joins_147 p v s) (RZ [28, 29, 30] [] σ TO) := by
  obtain ⟨⟨h46, _, _⟩, j1, j2, j3, j4⟩ := hJ
  have lt_0 := li_0
  have h461 := h46.1
  have h462 := h46.2
  have n2 := nN_ (x := v) (by omega)
  have e46 : s.1 0 46 = σ.1 0 46 := c.2.1 46 (by decide)
  have e24 : s.1 24 = σ.1 24 := c.1 24 (by decide) (by decide)
  have e25 : s.1 25 = σ.1 25 := c.1 25 (by decide) (by decide)
  have pP : tP s = tP σ := by unfold tP; rw [e24]
  have pC : tC s = tC σ := by unfold tC; rw [e25]
  have pL : tL s = tL σ := by unfold tL; rw [e29]
  unfold f_X11_joins_147
  refine OK.grd ⟨by omega, by omega⟩ ?_
  refine OK.ile (fun h => ?_) (fun h => ?_)
  · have hne : ¬ (s.1 30 v.toNatClampNeg).toInt = -1 := by omega
    rw [if_neg hne] at hT
    refine OK.zret c ⟨by rw [e46]; exact h46, ?_, fun r hr h9 => ?_⟩
    · rw [pP, pC, pL, e46]; exact hT
    · rw [e46] at hr
      have := hF r hr h9
      rw [if_neg hne] at this
      rw [pL]; exact this
  · have he : (s.1 30 v.toNatClampNeg).toInt = -1 := by omega
    rw [if_pos he] at hT
    refine OK.grd ⟨by omega, by omega⟩ ?_
    have cu : CH [28, 29, 30] [] σ (stI s 29 p.toNatClampNeg v) := c.i (by decide) (by decide)
    have u46 : (stI s 29 p.toNatClampNeg v).1 0 46 = s.1 0 46 := rfl
    have uP : tP (stI s 29 p.toNatClampNeg v) = tP s := rfl
    have uC : tC (stI s 29 p.toNatClampNeg v) = tC s := rfl
    have uF : tF (stI s 29 p.toNatClampNeg v) = tF s := rfl
    have uN : tN (stI s 29 p.toNatClampNeg v) = tN s := rfl
    have uL : tL (stI s 29 p.toNatClampNeg v) = updZ (tL s) p.toNatClampNeg v.toInt := vw_upd
    generalize stI s 29 p.toNatClampNeg v = u at cu u46 uP uC uF uN uL ⊢
    have ev : v.toInt = ((v.toNatClampNeg : Nat) : Int) := n2.symm
    refine OK.zret cu ⟨by rw [u46, e46]; exact h46, ?_, fun r hr h9 => ?_⟩
    · rw [uP, uC, uF, uN, uL, pP, pC, pL, u46, e46, ev]; exact hT
    · rw [u46, e46] at hr
      rw [uF] at h9
      have := hF r hr h9
      rw [if_pos he] at this
      rw [uL, pL, ev]; exact this
theorem b_joins_101 (p v x3 : Int32) (σ : ST) (hJ : JP σ p v) (hx : (x3.toInt = -1 ∧ (tF σ p.toNatClampNeg = -1 ∨ tC σ v.toNatClampNeg ≤ tC σ (tF σ p.toNatClampNeg).toNat)) ∨ ((0 ≤ x3.toInt ∧ x3.toInt < v.toInt) ∧ tP σ x3.toNatClampNeg = p.toInt ∧ tC σ x3.toNatClampNeg < tC σ v.toNatClampNeg ∧ (tN σ x3.toNatClampNeg = -1 ∨ tC σ v.toNatClampNeg ≤ tC σ (tN σ x3.toNatClampNeg).toNat) ∧ ¬ tF σ p.toNatClampNeg = -1)) : OK (f_X11_joins_101 p v x3 σ) (RZ [28, 29, 30] [] σ TO) := by
  have hJ' := hJ
  obtain ⟨⟨h46, hT, hFL⟩, j1, j2, j3, j4⟩ := hJ
  have lt_0 := li_0
  have lm := li_m1
  have h461 := h46.1
  have h462 := h46.2
  have n1 := nN_ j2.1
  have n2 := nN_ (x := v) (by omega)
  have gp : 0 ≤ p.toInt ∧ p.toInt < 4096 := by omega
  have gv : 0 ≤ v.toInt ∧ v.toInt < 4096 := by omega
  have hvr : ((v.toNatClampNeg : Nat) : Int) = (σ.1 0 46).toInt - 1 := by omega
  have j3' : tP σ v.toNatClampNeg = ((p.toNatClampNeg : Nat) : Int) := by omega
  have fresh : ∀ r : Nat, (r : Int) < (σ.1 0 46).toInt → tF σ r < ((v.toNatClampNeg : Nat) : Int) ∧ tL σ r < ((v.toNatClampNeg : Nat) : Int) ∧ tN σ r < ((v.toNatClampNeg : Nat) : Int) := fun r hr => by
    have := j4 r hr
    omega
  have ev : v.toInt = ((v.toNatClampNeg : Nat) : Int) := n2.symm
  unfold f_X11_joins_101 f_X11_joins_125
  rcases hx with ⟨x1, x2⟩ | ⟨x1, x2, x3', x4, x5⟩
  · refine OK.ile (fun h => by omega) (fun _ => ?_)
    refine OK.grd gp ?_
    refine OK.grd gv ?_
    refine OK.ile (fun h => by omega) (fun _ => ?_)
    refine OK.grd gp ?_
    have hF := TRf.first hT (row := v.toNatClampNeg) (p := p.toNatClampNeg) hvr (by omega) j3' fresh x2
    have hFr := (hT p.toNatClampNeg (by omega)).1
    have cs : CH [28, 29, 30] [] σ (stI (stI σ 30 v.toNatClampNeg (σ.1 28 p.toNatClampNeg)) 28 p.toNatClampNeg v) := (CH.rf.i (by decide) (by decide)).i (by decide) (by decide)
    have e28 : (stI (stI σ 30 v.toNatClampNeg (σ.1 28 p.toNatClampNeg)) 28 p.toNatClampNeg v).1 28 = upd (σ.1 28) p.toNatClampNeg v := rfl
    have e30 : (stI (stI σ 30 v.toNatClampNeg (σ.1 28 p.toNatClampNeg)) 28 p.toNatClampNeg v).1 30 = upd (σ.1 30) v.toNatClampNeg (σ.1 28 p.toNatClampNeg) := rfl
    have e29 : (stI (stI σ 30 v.toNatClampNeg (σ.1 28 p.toNatClampNeg)) 28 p.toNatClampNeg v).1 29 = σ.1 29 := rfl
    generalize stI (stI σ 30 v.toNatClampNeg (σ.1 28 p.toNatClampNeg)) 28 p.toNatClampNeg v = s at cs e28 e30 e29 ⊢
    have sF : tF s = updZ (tF σ) p.toNatClampNeg ((v.toNatClampNeg : Nat) : Int) := by
      unfold tF
      rw [e28, ← ev]
      exact vw_upd
    have sN : tN s = updZ (tN σ) v.toNatClampNeg (tF σ p.toNatClampNeg) := by
      unfold tN
      rw [e30]
      exact vw_upd
    have rd : (s.1 30 v.toNatClampNeg).toInt = tF σ p.toNatClampNeg := by rw [e30, upd_at]; rfl
    refine b_joins_147 p v σ s hJ' cs e29 ?_ ?_ ?_
    · rw [rd, sF, sN]; exact hF
    · intro r hr h9
      rw [sF] at h9
      rw [rd]
      unfold updZ at h9
      split at h9
      · omega
      · rename_i e
        split
        · unfold updZ
          rw [if_neg e]
          exact hFL r hr h9
        · exact hFL r hr h9
    · rw [rd]
      rcases hFr with h9 | h9
      · exact .inl h9
      · exact .inr h9.1
  · have n3 := nN_ x1.1
    refine OK.ile (fun _ => ?_) (fun h => by omega)
    refine OK.grd ⟨by omega, by omega⟩ ?_
    refine OK.grd gv ?_
    refine OK.ile (fun _ => ?_) (fun h => by omega)
    refine OK.grd ⟨by omega, by omega⟩ ?_
    have hqv : ¬ v.toNatClampNeg = x3.toNatClampNeg := by omega
    have hA := TRf.after hT (row := v.toNatClampNeg) (p := p.toNatClampNeg) (q := x3.toNatClampNeg) hvr j3' fresh (by omega) (by omega) x3' x4
    have hNr := (hT x3.toNatClampNeg (by omega)).2.2
    have cs : CH [28, 29, 30] [] σ (stI (stI σ 30 v.toNatClampNeg (σ.1 30 x3.toNatClampNeg)) 30 x3.toNatClampNeg v) := (CH.rf.i (by decide) (by decide)).i (by decide) (by decide)
    have e28 : (stI (stI σ 30 v.toNatClampNeg (σ.1 30 x3.toNatClampNeg)) 30 x3.toNatClampNeg v).1 28 = σ.1 28 := rfl
    have e29 : (stI (stI σ 30 v.toNatClampNeg (σ.1 30 x3.toNatClampNeg)) 30 x3.toNatClampNeg v).1 29 = σ.1 29 := rfl
    have e30 : (stI (stI σ 30 v.toNatClampNeg (σ.1 30 x3.toNatClampNeg)) 30 x3.toNatClampNeg v).1 30 = upd (upd (σ.1 30) v.toNatClampNeg (σ.1 30 x3.toNatClampNeg)) x3.toNatClampNeg v := rfl
    generalize stI (stI σ 30 v.toNatClampNeg (σ.1 30 x3.toNatClampNeg)) 30 x3.toNatClampNeg v = s at cs e28 e29 e30 ⊢
    have sF : tF s = tF σ := by unfold tF; rw [e28]
    have sN : tN s = updZ (updZ (tN σ) v.toNatClampNeg (tN σ x3.toNatClampNeg)) x3.toNatClampNeg ((v.toNatClampNeg : Nat) : Int) := by
      have b : (fun r => (upd (σ.1 30) v.toNatClampNeg (σ.1 30 x3.toNatClampNeg) r).toInt) = updZ (tN σ) v.toNatClampNeg (tN σ x3.toNatClampNeg) := vw_upd
      have a : tN s = updZ (fun r => (upd (σ.1 30) v.toNatClampNeg (σ.1 30 x3.toNatClampNeg) r).toInt) x3.toNatClampNeg v.toInt := by
        unfold tN
        rw [e30]
        exact vw_upd
      rw [a, b, ev]
    have rd : (s.1 30 v.toNatClampNeg).toInt = tN σ x3.toNatClampNeg := by rw [e30, upd_no hqv, upd_at]; rfl
    refine b_joins_147 p v σ s hJ' cs e29 ?_ ?_ ?_
    · rw [rd, sF, sN]; exact hA
    · intro r hr h9
      rw [sF] at h9
      rw [rd]
      split
      · unfold updZ
        split
        · rename_i e
          rw [e] at h9
          exact absurd h9 x5
        · exact hFL r hr h9
      · exact hFL r hr h9
    · rw [rd]
      rcases hNr with h9 | h9
      · exact .inl h9
      · exact .inr h9.1
theorem b_joins_65 : ∀ (n : Nat) (p v x3 x4 : Int32) (σ : ST), JP σ p v → isC σ p.toNatClampNeg x4 → (x4.toInt = -1 ∨ x4.toInt < v.toInt) → ((x3.toInt = -1 ∧ x4 = σ.1 28 p.toNatClampNeg) ∨ ((0 ≤ x3.toInt ∧ x3.toInt < v.toInt) ∧ tP σ x3.toNatClampNeg = p.toInt ∧ tC σ x3.toNatClampNeg < tC σ v.toNatClampNeg ∧ ¬ tF σ p.toNatClampNeg = -1 ∧ (x4 = σ.1 30 x3.toNatClampNeg))) → msx σ x4 < n → OK (f_X11_joins_65 n p v x3 x4 σ) (RZ [28, 29, 30] [] σ TO) := by
  intro n
  induction n with
  | zero => intro p v x3 x4 σ h1 h2 h3 h4 h5; omega
  | succ n ih =>
    intro p v x3 x4 σ hJ hc hv hx hn
    rw [f_X11_joins_65]
    have lt_0 := li_0
    have hJ' := hJ
    obtain ⟨⟨h46, hT, hFL⟩, j1, j2, j3, j4⟩ := hJ
    have h461 := h46.1
    have h462 := h46.2
    have fin : (x4.toInt = -1 ∨ 0 ≤ x4.toInt ∧ tC σ v.toNatClampNeg ≤ tC σ x4.toNatClampNeg) → OK (f_X11_joins_101 p v x3 σ) (RZ [28, 29, 30] [] σ TO) := fun h => by
      refine b_joins_101 p v x3 σ hJ' ?_
      rcases hx with ⟨a1, a2⟩ | ⟨a1, a2, a3, a4, a5⟩
      · refine .inl ⟨a1, ?_⟩
        show (σ.1 28 p.toNatClampNeg).toInt = -1 ∨ tC σ v.toNatClampNeg ≤ tC σ (σ.1 28 p.toNatClampNeg).toInt.toNat
        rw [← a2]
        rcases h with h | h
        · exact .inl h
        · exact .inr h.2
      · refine .inr ⟨a1, a2, a3, ?_, a4⟩
        show (σ.1 30 x3.toNatClampNeg).toInt = -1 ∨ tC σ v.toNatClampNeg ≤ tC σ (σ.1 30 x3.toNatClampNeg).toInt.toNat
        rw [← a5]
        rcases h with h | h
        · exact .inl h
        · exact .inr h.2
    refine OK.ilt (fun h => fin ?_) (fun h => ?_)
    · rcases hc with hc | hc
      · exact .inl hc
      · omega
    have hc' : (0 ≤ x4.toInt ∧ x4.toInt < (σ.1 0 46).toInt) ∧ tP σ x4.toNatClampNeg = p.toNatClampNeg := by
      rcases hc with hc | hc
      · omega
      · exact hc
    have n1 := nN_ j2.1
    have n4 := nN_ hc'.1.1
    refine OK.grd ⟨by omega, by omega⟩ ?_
    refine OK.grd ⟨by omega, by omega⟩ ?_
    refine OK.ile (fun h2 => fin (.inr ⟨by omega, h2⟩)) (fun h2 => ?_)
    have h2 : tC σ x4.toNatClampNeg < tC σ v.toNatClampNeg := h2
    obtain ⟨a1, a2⟩ := TO.next ⟨h46, hT, hFL⟩ hc (by omega)
    have j4' := (j4 x4.toNatClampNeg (by omega)).2.2
    have j4' : (σ.1 30 x4.toNatClampNeg).toInt < v.toInt := j4'
    refine ih p v x4 _ σ hJ' a1 (.inr j4') (.inr ⟨by omega, by omega, h2, ?_, rfl⟩) (by omega)
    rcases hx with ⟨b1, b2⟩ | ⟨_, _, _, b4, _⟩
    · intro h9
      have h9 : (σ.1 28 p.toNatClampNeg).toInt = -1 := h9
      rw [← b2] at h9
      omega
    · exact b4
theorem JP.st {σ : ST} {p v : Int32} {i : Nat} {y : Int32} (h : JP σ p v) : JP (stI σ 23 i y) p v := h
theorem b_joins (p v : Int32) (σ : ST) (hJ : JP σ p v) : OK (f_X11_joins p v σ) (RZ [23, 28, 29, 30] [] σ fun t => TO t ∧ t.1 23 = upd (σ.1 23) p.toNatClampNeg (σ.1 23 p.toNatClampNeg + 1)) := by
  unfold f_X11_joins
  have lt_0 := li_0
  have lm := li_m1
  have lu := FUi
  have hJ1 := hJ.st (i := p.toNatClampNeg) (y := σ.1 23 p.toNatClampNeg + 1)
  obtain ⟨⟨h46, hT, hFL⟩, j1, j2, j3, j4⟩ := hJ
  have h461 := h46.1
  have h462 := h46.2
  have n1 := nN_ j2.1
  have n2 := nN_ (x := v) (by omega)
  have gp : 0 ≤ p.toInt ∧ p.toInt < 4096 := by omega
  have gv : 0 ≤ v.toInt ∧ v.toInt < 4096 := by omega
  have c : CH [23, 28, 29, 30] [] σ (stI σ 23 p.toNatClampNeg (σ.1 23 p.toNatClampNeg + 1)) := CH.rf.i (by decide) (by decide)
  have e23 : (stI σ 23 p.toNatClampNeg (σ.1 23 p.toNatClampNeg + 1)).1 23 = upd (σ.1 23) p.toNatClampNeg (σ.1 23 p.toNatClampNeg + 1) := rfl
  have eC : tC (stI σ 23 p.toNatClampNeg (σ.1 23 p.toNatClampNeg + 1)) = tC σ := rfl
  have eF : tF (stI σ 23 p.toNatClampNeg (σ.1 23 p.toNatClampNeg + 1)) = tF σ := rfl
  have eL : tL (stI σ 23 p.toNatClampNeg (σ.1 23 p.toNatClampNeg + 1)) = tL σ := rfl
  have eP : tP (stI σ 23 p.toNatClampNeg (σ.1 23 p.toNatClampNeg + 1)) = tP σ := rfl
  have e46 : (stI σ 23 p.toNatClampNeg (σ.1 23 p.toNatClampNeg + 1)).1 0 46 = σ.1 0 46 := rfl
  generalize stI σ 23 p.toNatClampNeg (σ.1 23 p.toNatClampNeg + 1) = s at hJ1 c e23 eC eF eL eP e46 ⊢
  have hT1 := hJ1.1
  have tr : ∀ o : Option ST, OK o (RZ [28, 29, 30] [] s TO) → OK o (RZ [23, 28, 29, 30] [] σ fun t => TO t ∧ t.1 23 = upd (σ.1 23) p.toNatClampNeg (σ.1 23 p.toNatClampNeg + 1)) := fun o ho => OK.trZ ho c (by decide) (fun _ h => h) (fun t ct ht => ⟨ht, by rw [ct.1 23 (by decide) (by decide)]; exact e23⟩)
  have hF1 : isC s p.toNatClampNeg (s.1 28 p.toNatClampNeg) := hT1.first (by rw [e46]; omega)
  have jp := hJ1.2.2.2.2 p.toNatClampNeg (by rw [e46]; omega)
  have jp1 : (s.1 28 p.toNatClampNeg).toInt < v.toInt := jp.1
  have jp2 : (s.1 29 p.toNatClampNeg).toInt < v.toInt := jp.2.1
  have hL1 := (hT1.2.1 p.toNatClampNeg (by rw [e46]; omega)).2.1
  have m1 := msx_le hT1 (x := s.1 28 p.toNatClampNeg)
  have mm : msx s (-1) = 0 := if_pos (by decide)
  have k45 : ((s.1 29 p.toNatClampNeg).toInt < 0 ∨ tC s v.toNatClampNeg ≤ tC s (s.1 29 p.toNatClampNeg).toNatClampNeg) → OK (f_X11_joins_45 p v (-1) s) (RZ [28, 29, 30] [] s TO) := fun hh => by
    unfold f_X11_joins_45 f_X11_joins_51
    refine OK.grd gp ?_
    refine OK.ile (fun h => ?_) (fun h => ?_)
    · exact b_joins_65 FU p v _ _ s hJ1 hF1 (.inr jp1) (.inl ⟨by omega, rfl⟩) (by omega)
    · refine OK.grd gp ?_
      have h1 : (s.1 28 p.toNatClampNeg).toInt = -1 := by
        rcases hF1 with h9 | h9
        · exact h9
        · omega
      have h2 : (s.1 29 p.toNatClampNeg).toInt = -1 := hT1.2.2 p.toNatClampNeg (by rw [e46]; omega) h1
      exact b_joins_65 FU p v _ _ s hJ1 hF1 (.inr jp1) (.inl ⟨h2, rfl⟩) (by omega)
  refine OK.grd gp ?_
  refine OK.ilt (fun h => tr _ (k45 (.inl (by omega)))) (fun h => ?_)
  have hl : 0 ≤ (s.1 29 p.toNatClampNeg).toInt ∧ (s.1 29 p.toNatClampNeg).toInt < (s.1 0 46).toInt ∧ tP s (s.1 29 p.toNatClampNeg).toNatClampNeg = p.toNatClampNeg ∧ tN s (s.1 29 p.toNatClampNeg).toNatClampNeg = -1 := by
    rcases hL1 with h9 | h9
    · have h9 : (s.1 29 p.toNatClampNeg).toInt = -1 := h9
      omega
    · exact h9
  have e46' : (s.1 0 46).toInt = (σ.1 0 46).toInt := by rw [e46]
  refine OK.grd ⟨by omega, by omega⟩ ?_
  refine OK.grd gv ?_
  refine OK.ile (fun h2 => tr _ (k45 (.inr h2))) (fun h2 => tr _ ?_)
  have h2 : tC s (s.1 29 p.toNatClampNeg).toNatClampNeg < tC s v.toNatClampNeg := h2
  unfold f_X11_joins_51
  refine OK.ile (fun h9 => by omega) (fun _ => ?_)
  refine OK.grd gp ?_
  have hfn : ¬ tF s p.toNatClampNeg = -1 := fun h9 => by
    have := hT1.2.2 p.toNatClampNeg (by rw [e46]; omega) h9
    have : (s.1 29 p.toNatClampNeg).toInt = -1 := this
    omega
  refine b_joins_65 FU p v _ _ s hJ1 (.inl (by omega)) (.inl (by omega)) (.inr ⟨⟨hl.1, jp2⟩, by omega, h2, hfn, ?_⟩) (by omega)
  refine Int32.toInt_inj.mp ?_
  have h9 : (s.1 30 (s.1 29 p.toNatClampNeg).toNatClampNeg).toInt = -1 := hl.2.2.2
  omega
/-! the reference: a node laid -/
def NL (LV : Nat → Nat) (σ : ST) : Prop := TO σ ∧ (∀ r : Nat, (r : Int) < (σ.1 0 46).toInt → LV r ≤ 31 ∧ (tP σ r = -1 ∧ LV r = 0 ∨ (0 ≤ tP σ r ∧ tP σ r < r) ∧ LV r = LV (tP σ r).toNat + 1)) ∧ ∀ r : Nat, (r : Int) < (σ.1 0 46).toInt → bI (σ.1 23 r) 0 ((σ.1 0 46).toInt + 12) ∧ ((σ.1 20 r).toInt = 5 → (σ.1 23 r).toInt ≤ 12)
theorem TO.of {σ t : ST} (h : TO σ) (e46 : t.1 0 46 = σ.1 0 46) (e24 : t.1 24 = σ.1 24) (e25 : t.1 25 = σ.1 25) (e28 : t.1 28 = σ.1 28) (e29 : t.1 29 = σ.1 29) (e30 : t.1 30 = σ.1 30) : TO t := by
  unfold TO tP tC tF tL tN at h ⊢
  rw [e46, e24, e25, e28, e29, e30]
  exact h
theorem NL.of {LV : Nat → Nat} {σ t : ST} (h : NL LV σ) (e46 : t.1 0 46 = σ.1 0 46) (e20 : t.1 20 = σ.1 20) (e23 : t.1 23 = σ.1 23) (e24 : t.1 24 = σ.1 24) (e25 : t.1 25 = σ.1 25) (e28 : t.1 28 = σ.1 28) (e29 : t.1 29 = σ.1 29) (e30 : t.1 30 = σ.1 30) : NL LV t := by
  refine ⟨h.1.of e46 e24 e25 e28 e29 e30, ?_, ?_⟩
  · unfold tP
    rw [e46, e24]
    exact h.2.1
  · rw [e46, e20, e23]
    exact h.2.2
theorem NL.ch {C I : List Nat} {LV : Nat → Nat} {σ t : ST} (h : NL LV σ) (c : CH C I σ t) (hC : ∀ c, c ∈ [20, 23, 24, 25, 28, 29, 30] → c ∉ C) (hI : 46 ∉ I) : NL LV t := h.of (c.2.1 46 hI) (c.1 20 (by decide) (hC 20 (by decide))) (c.1 23 (by decide) (hC 23 (by decide))) (c.1 24 (by decide) (hC 24 (by decide))) (c.1 25 (by decide) (hC 25 (by decide))) (c.1 28 (by decide) (hC 28 (by decide))) (c.1 29 (by decide) (hC 29 (by decide))) (c.1 30 (by decide) (hC 30 (by decide)))
theorem NL.has {LV : Nat → Nat} {σ : ST} (h : NL LV σ) {v : Nat} {y : Int32} (hy : bI y 0 12) (h0 : 0 ≤ (σ.1 0 46).toInt) : NL LV (stI σ 23 v y) := by
  refine ⟨h.1, h.2.1, fun r hr => ?_⟩
  show bI (upd (σ.1 23) v y r) 0 ((σ.1 0 46).toInt + 12) ∧ ((σ.1 20 r).toInt = 5 → (upd (σ.1 23) v y r).toInt ≤ 12)
  obtain ⟨y1, y2⟩ := hy
  unfold upd
  split
  · exact ⟨⟨y1, by omega⟩, fun _ => y2⟩
  · exact h.2.2 r hr
def upL (LV : Nat → Nat) (v l : Nat) : Nat → Nat := fun r => if r = v then l else LV r
theorem upL_at {LV : Nat → Nat} {v l : Nat} : upL LV v l v = l := if_pos rfl
theorem upL_no {LV : Nat → Nat} {v l r : Nat} (h : ¬ r = v) : upL LV v l r = LV r := if_neg h
abbrev NC : List Nat := [20, 23, 24, 25, 26, 27, 28, 29, 30]
theorem b_laysNode (p0 p1 p2 p3 : Int32) (σ : ST) (LV : Nat → Nat) (hN : NL LV σ) (hS : (σ.1 0 46).toInt < 4096) (l : Nat) (hl : l ≤ 31) (hp : p1.toInt = -1 ∧ l = 0 ∨ (0 ≤ p1.toInt ∧ p1.toInt < (σ.1 0 46).toInt) ∧ l = LV p1.toNatClampNeg + 1 ∧ ¬ (σ.1 20 p1.toNatClampNeg).toInt = 5) : OK (f_X11_laysNode p0 p1 p2 p3 σ) (RC NC [46] σ fun v t => v = σ.1 0 46 ∧ (t.1 0 46).toInt = (σ.1 0 46).toInt + 1 ∧ NL (upL LV (σ.1 0 46).toNatClampNeg l) t ∧ t.1 20 = upd (σ.1 20) (σ.1 0 46).toNatClampNeg p0) := by
  unfold f_X11_laysNode
  have lt_0 := li_0
  have lt_1 := li_1
  have lm := li_m1
  obtain ⟨⟨h46, hT, hFL⟩, hLV, hH⟩ := hN
  have h461 := h46.1
  have e1 := il_addE (x := σ.1 0 46) (y := 1) (by omega) (by omega)
  have nv := nN_ h461
  refine OK.grd ⟨by omega, by omega⟩ ?_
  refine OK.lt (fun z2 h2 => ?_)
  refine OK.lt (fun z3 h3 => ?_)
  refine OK.lt (fun z4 h4 => ?_)
  refine OK.lt (fun z5 h5 => ?_)
  have c : CH NC [46] σ z5 := by
    rw [h5, h4, h3, h2]
    exact (((((((((((CH.rf.o (by decide)).i (by decide) (by decide)).l (by decide) (by decide) (by decide) (by decide) (by decide)).l (by decide) (by decide) (by decide) (by decide) (by decide)).i (by decide) (by decide)).i (by decide) (by decide)).i (by decide) (by decide)).i (by decide) (by decide)).i (by decide) (by decide)).i (by decide) (by decide)).i (by decide) (by decide)).i (by decide) (by decide)
  have e46 : z5.1 0 46 = σ.1 0 46 + 1 := by rw [h5, h4, h3, h2]; rfl
  have e20 : z5.1 20 = upd (σ.1 20) (σ.1 0 46).toNatClampNeg p0 := by rw [h5, h4, h3, h2]; rfl
  have e23 : z5.1 23 = upd (σ.1 23) (σ.1 0 46).toNatClampNeg 0 := by rw [h5, h4, h3, h2]; rfl
  have e24 : z5.1 24 = upd (σ.1 24) (σ.1 0 46).toNatClampNeg p1 := by rw [h5, h4, h3, h2]; rfl
  have e25 : z5.1 25 = upd (σ.1 25) (σ.1 0 46).toNatClampNeg p2 := by rw [h5, h4, h3, h2]; rfl
  have e28 : z5.1 28 = upd (σ.1 28) (σ.1 0 46).toNatClampNeg (-1) := by rw [h5, h4, h3, h2]; rfl
  have e29 : z5.1 29 = upd (σ.1 29) (σ.1 0 46).toNatClampNeg (-1) := by rw [h5, h4, h3, h2]; rfl
  have e30 : z5.1 30 = upd (σ.1 30) (σ.1 0 46).toNatClampNeg (-1) := by rw [h5, h4, h3, h2]; rfl
  clear h5 h4 h3 h2
  have e46' : (z5.1 0 46).toInt = (σ.1 0 46).toInt + 1 := by rw [e46]; omega
  have sP : tP z5 = updZ (tP σ) (σ.1 0 46).toNatClampNeg p1.toInt := by unfold tP; rw [e24]; exact vw_upd
  have sC : tC z5 = updZ (tC σ) (σ.1 0 46).toNatClampNeg p2.toInt := by unfold tC; rw [e25]; exact vw_upd
  have sF : tF z5 = updZ (tF σ) (σ.1 0 46).toNatClampNeg (-1) := by unfold tF; rw [e28]; exact vw_upd
  have sL : tL z5 = updZ (tL σ) (σ.1 0 46).toNatClampNeg (-1) := by unfold tL; rw [e29]; exact vw_upd
  have sN : tN z5 = updZ (tN σ) (σ.1 0 46).toNatClampNeg (-1) := by unfold tN; rw [e30]; exact vw_upd
  have hTO : TO z5 := by
    refine ⟨⟨by omega, by omega⟩, ?_, fun r hr => ?_⟩
    · rw [sP, sC, sF, sL, sN, e46']
      exact TRf.grow hT nv _ _
    · rw [sF, sL]
      unfold updZ
      split
      · intro _; rfl
      · exact hFL r (by omega)
  have hLV5 : ∀ r : Nat, (r : Int) < (z5.1 0 46).toInt → upL LV (σ.1 0 46).toNatClampNeg l r ≤ 31 ∧ (tP z5 r = -1 ∧ upL LV (σ.1 0 46).toNatClampNeg l r = 0 ∨ (0 ≤ tP z5 r ∧ tP z5 r < r) ∧ upL LV (σ.1 0 46).toNatClampNeg l r = upL LV (σ.1 0 46).toNatClampNeg l (tP z5 r).toNat + 1) := by
    intro r hr
    by_cases e : r = (σ.1 0 46).toNatClampNeg
    · have ep : tP z5 r = p1.toInt := by rw [sP]; unfold updZ; rw [if_pos e]
      have el : upL LV (σ.1 0 46).toNatClampNeg l r = l := if_pos e
      rw [ep, el]
      refine ⟨hl, ?_⟩
      rcases hp with hp | ⟨hp1, hp2, _⟩
      · exact .inl hp
      · have n1 := nN_ hp1.1
        have e2 : p1.toInt.toNat = p1.toNatClampNeg := rfl
        rw [e2, upL_no (by omega)]
        exact .inr ⟨⟨hp1.1, by omega⟩, hp2⟩
    · have ep : tP z5 r = tP σ r := by rw [sP]; unfold updZ; rw [if_neg e]
      rw [ep, upL_no e]
      obtain ⟨a1, a2⟩ := hLV r (by omega)
      refine ⟨a1, ?_⟩
      rcases a2 with a2 | a2
      · exact .inl a2
      · refine .inr ⟨a2.1, ?_⟩
        rw [upL_no (by omega)]
        exact a2.2
  refine OK.ilt (fun h => ?_) (fun h => ?_)
  · refine OK.cret c ⟨rfl, e46', ⟨hTO, hLV5, fun r hr => ?_⟩, e20⟩
    rw [e46', e20, e23]
    unfold upd
    split
    · exact ⟨⟨by omega, by omega⟩, fun _ => by omega⟩
    · obtain ⟨⟨a1, a2⟩, a3⟩ := hH r (by omega)
      exact ⟨⟨a1, by omega⟩, a3⟩
  · have hp' : (0 ≤ p1.toInt ∧ p1.toInt < (σ.1 0 46).toInt) ∧ l = LV p1.toNatClampNeg + 1 ∧ ¬ (σ.1 20 p1.toNatClampNeg).toInt = 5 := by
      rcases hp with hp | hp
      · omega
      · exact hp
    have n1 := nN_ hp'.1.1
    have pv : ¬ p1.toNatClampNeg = (σ.1 0 46).toNatClampNeg := by omega
    have hJ : JP z5 p1 (σ.1 0 46) := by
      refine ⟨hTO, by omega, hp'.1, ?_, fun r hr => ?_⟩
      · rw [sP]; unfold updZ; rw [if_pos rfl]
      · rw [sF, sL, sN]
        by_cases e : r = (σ.1 0 46).toNatClampNeg
        · unfold updZ
          rw [if_pos e, if_pos e, if_pos e]
          omega
        · unfold updZ
          rw [if_neg e, if_neg e, if_neg e]
          obtain ⟨f1, f2, f3⟩ := hT r (by omega)
          omega
    refine OK.bndZ (b_joins p1 (σ.1 0 46) z5 hJ) (fun t ct ht => ?_)
    have et46 : (t.1 0 46).toInt = (σ.1 0 46).toInt + 1 := by rw [ct.2.1 46 (by decide)]; exact e46'
    have et20 : t.1 20 = z5.1 20 := ct.1 20 (by decide) (by decide)
    have et24 : t.1 24 = z5.1 24 := ct.1 24 (by decide) (by decide)
    obtain ⟨⟨b1, b2⟩, _⟩ := hH p1.toNatClampNeg (by omega)
    have hz23 : z5.1 23 p1.toNatClampNeg = σ.1 23 p1.toNatClampNeg := by rw [e23]; exact upd_no pv
    have e9 := il_addE (x := σ.1 23 p1.toNatClampNeg) (y := 1) (by omega) (by omega)
    refine OK.cret (c.trans (ct.mono (by decide) (by decide))) ⟨rfl, et46, ⟨ht.1, ?_, fun r hr => ?_⟩, et20.trans e20⟩
    · unfold tP
      rw [et24, ct.2.1 46 (by decide)]
      exact hLV5
    · rw [et46, et20, ht.2, hz23, e20, e23]
      by_cases e : r = p1.toNatClampNeg
      · rw [e, upd_at, upd_no pv]
        refine ⟨⟨by omega, by omega⟩, fun h5 => absurd h5 hp'.2.2⟩
      · rw [upd_no e]
        by_cases e2 : r = (σ.1 0 46).toNatClampNeg
        · rw [e2, upd_at]
          exact ⟨⟨by omega, by omega⟩, fun _ => by omega⟩
        · rw [upd_no e2, upd_no e2]
          obtain ⟨⟨a1, a2⟩, a3⟩ := hH r (by omega)
          exact ⟨⟨a1, by omega⟩, a3⟩
theorem b_firstOf (p0 : Int32) (σ : ST) {a : Int} {d : Nat} (h : VS σ a d p0) : OK (f_X11_firstOf p0 σ) (RO σ fun v => VS σ a d v ∧ ¬ (σ.1 2 v.toNatClampNeg).toInt = 8) := by
  unfold f_X11_firstOf
  have lt_4 := li_4
  have lt_8 := li_8
  have g := h.rng
  have e1 := mlE (k := 4) (y := p0) 4 li_4 (by omega) (by omega)
  have n1 := nN_ g.1
  have e4 : (4 * p0).toNatClampNeg = 4 * p0.toNatClampNeg + 0 := nC (by omega)
  refine OK.grd g ?_
  refine OK.ieq (fun h8 => ?_) (fun h8 => OK.roret ⟨h, by omega⟩)
  obtain ⟨g1, g2, g3, g4⟩ := h.eit (by omega)
  refine OK.grd ⟨by omega, by omega⟩ ?_
  rw [e4]
  have g5 := g3 0 (by omega)
  have g6 := g5.1.up
  have e5 : d - 1 + 1 = d := by omega
  rw [e5] at g6
  exact OK.roret ⟨g6, g5.2⟩
theorem b_fills (p0 p1 p2 : Int32) (σ : ST) (LV : Nat → Nat) (hN : NL LV σ) (hS : (σ.1 0 46).toInt < 4096) (h19 : ∀ i, bI (σ.1 19 i) 0 12) (hf : 0 ≤ p0.toInt ∧ p0.toInt < 576) {a : Int} (hv : VS σ a 4 (σ.1 15 p0.toNatClampNeg)) (l : Nat) (hl : l ≤ 31) (hp : (0 ≤ p1.toInt ∧ p1.toInt < (σ.1 0 46).toInt) ∧ l = LV p1.toNatClampNeg + 1 ∧ ¬ (σ.1 20 p1.toNatClampNeg).toInt = 5) : OK (f_X11_fills p0 p1 p2 σ) (RZ NC [46] σ fun t => (t.1 0 46).toInt = (σ.1 0 46).toInt + 1 ∧ NL (upL LV (σ.1 0 46).toNatClampNeg l) t ∧ ∀ r : Nat, (r : Int) < (σ.1 0 46).toInt → t.1 20 r = σ.1 20 r) := by
  have lt_0 := li_0
  have h461 := hN.1.1.1
  have nv := nN_ h461
  have key : ∀ (u y0 : Int32), VS σ a 4 u → OK (f_X11_fills_45 p0 u y0 p2 p1 (σ.1 2 u.toNatClampNeg) σ) (RZ NC [46] σ fun t => (t.1 0 46).toInt = (σ.1 0 46).toInt + 1 ∧ NL (upL LV (σ.1 0 46).toNatClampNeg l) t ∧ ∀ r : Nat, (r : Int) < (σ.1 0 46).toInt → t.1 20 r = σ.1 20 r) := fun u y0 hu => by
    unfold f_X11_fills_45
    refine OK.bndC (b_laysNode _ p1 p2 y0 σ LV hN hS l hl (.inr hp)) (fun v t c ht => ?_)
    obtain ⟨t1, t2, t3, t4⟩ := ht
    dsimp only
    subst t1
    have gv : 0 ≤ (σ.1 0 46).toInt ∧ (σ.1 0 46).toInt < 4096 := ⟨by omega, hS⟩
    have h20 : ∀ r : Nat, (r : Int) < (σ.1 0 46).toInt → t.1 20 r = σ.1 20 r := fun r hr => by rw [t4]; exact upd_no (by omega)
    refine OK.grd hf ?_
    refine OK.grd gv ?_
    refine OK.lt (fun z hz => ?_)
    have cz : CH NC [46] σ z := by rw [hz]; exact (c.l (by decide) (by decide) (by decide) (by decide) (by decide)).l (by decide) (by decide) (by decide) (by decide) (by decide)
    have ez : z.1 = t.1 := by rw [hz]; rfl
    have Nz : NL (upL LV (σ.1 0 46).toNatClampNeg l) z := t3.of (by rw [ez]) (by rw [ez]) (by rw [ez]) (by rw [ez]) (by rw [ez]) (by rw [ez]) (by rw [ez]) (by rw [ez])
    have e46 : (z.1 0 46).toInt = (σ.1 0 46).toInt + 1 := by rw [ez]; exact t2
    have k103 : ∀ y : Int32, bI y 0 12 → OK (f_X11_fills_103 (σ.1 0 46) y (σ.1 0 46) z) (RZ NC [46] σ fun t => (t.1 0 46).toInt = (σ.1 0 46).toInt + 1 ∧ NL (upL LV (σ.1 0 46).toNatClampNeg l) t ∧ ∀ r : Nat, (r : Int) < (σ.1 0 46).toInt → t.1 20 r = σ.1 20 r) := fun y hy => by
      unfold f_X11_fills_103
      refine OK.grd gv ?_
      refine OK.grd gv ?_
      refine OK.zret ((cz.i (by decide) (by decide)).i (by decide) (by decide)) ⟨e46, (Nz.has hy (by omega)).of rfl rfl rfl rfl rfl rfl rfl rfl, fun r hr => ?_⟩
      show z.1 20 r = σ.1 20 r
      rw [ez]
      exact h20 r hr
    refine OK.grd hu.rng ?_
    refine OK.ieq (fun _ => k103 _ ?_) (fun _ => k103 _ (bz (by decide) (by decide)))
    rw [cz.1 19 (by decide) (by decide)]
    exact h19 _
  unfold f_X11_fills
  refine OK.grd hf ?_
  refine OK.bndR (b_firstOf _ σ hv) (fun v h => ?_)
  dsimp only
  refine OK.grd h.1.rng ?_
  exact OK.ite (fun _ => key _ _ h.1) (fun _ => key _ _ h.1)
