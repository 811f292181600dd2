/-! the class: tokens -/
/-- what is another one at most: the tokens' own numbers -/
def CA (σ t : ST) : Prop := (∀ c, c ≠ 2 → t.1 c = σ.1 c) ∧ t.1 2 2 = σ.1 2 2 ∧ (∀ c, c ≠ 2 → t.2.1 c = σ.2.1 c) ∧ t.2.2 = σ.2.2
theorem CA.rf {σ : ST} : CA σ σ := ⟨fun _ _ => rfl, rfl, fun _ _ => rfl, rfl⟩
theorem CA.trans {σ τ υ : ST} (h : CA σ τ) (k : CA τ υ) : CA σ υ := ⟨fun c hc => (k.1 c hc).trans (h.1 c hc), k.2.1.trans h.2.1, fun c hc => (k.2.2.1 c hc).trans (h.2.2.1 c hc), k.2.2.2.trans h.2.2.2⟩
theorem CA.i {σ τ : ST} (h : CA σ τ) {i : Nat} {v : Int32} (hi : i ≠ 2) : CA σ (stI τ 2 i v) := ⟨fun c hc => by rw [stI_ne hc]; exact h.1 c hc, by
  show upd (τ.1 2) i v 2 = _
  rw [upd_no (fun e => hi e.symm)]
  exact h.2.1, h.2.2⟩
theorem CA.l {σ τ : ST} (h : CA σ τ) {i : Nat} {v : Int64} : CA σ (stL τ 2 i v) := ⟨h.1, h.2.1, fun c hc => by rw [stL_ne hc]; exact h.2.2.1 c hc, h.2.2.2⟩
def sg (T : Nat → Int32) (n : Int) (k : Nat) : Int := if bt T n k < 0 then 0 else bt T n k
theorem sg_eq {T : Nat → Int32} {n : Int} {k : Nat} : sg T n k = bt T n k ∨ sg T n k = 0 ∧ bt T n k = -1 := by
  have := bt_rng (T := T) (n := n) (k := k)
  unfold sg
  split
  · exact .inr ⟨rfl, by omega⟩
  · exact .inl rfl
theorem a_signAt (p0 : Int32) (σ : ST) (h0 : 0 ≤ p0.toInt) (hn : bI (σ.1 2 2) 0 1000) : OK (f_X6_signAt p0 σ) (RO σ fun v => v.toInt = sg (σ.1 1) (σ.1 2 2).toInt p0.toNatClampNeg ∧ ((p0.toNatClampNeg : Int) < (σ.1 2 2).toInt → v = (σ.1 1 p0.toNatClampNeg &&& 255))) := by
  unfold f_X6_signAt
  obtain ⟨n1, n2⟩ := hn
  have np := nN_ h0
  have lt_0 := li_0
  have l1000 := li_1000
  refine OK.ilt (fun h => by omega) (fun _ => ?_)
  have z : ¬ (p0.toNatClampNeg : Int) < (σ.1 2 2).toInt → (0 : Int32).toInt = sg (σ.1 1) (σ.1 2 2).toInt p0.toNatClampNeg := fun h => by
    unfold sg bt
    rw [if_neg h, if_pos (by decide)]
    exact lt_0
  refine OK.ile (fun h => OK.roret ⟨z (by omega), fun h9 => by omega⟩) (fun h => ?_)
  refine OK.ile (fun h9 => by omega) (fun _ => ?_)
  refine OK.grd ⟨by omega, by omega⟩ ?_
  refine OK.roret ⟨?_, fun _ => rfl⟩
  have eb : bt (σ.1 1) (σ.1 2 2).toInt p0.toNatClampNeg = (σ.1 1 p0.toNatClampNeg).toInt % 256 := by
    unfold bt
    rw [if_pos (by omega)]
  unfold sg
  rw [eb, if_neg (by omega)]
  exact and255 _
theorem a_isLetter (p0 : Int32) (σ : ST) : OK (f_X6_isLetter p0 σ) (RO σ fun v => v.toInt = 0 ∧ ¬ isL p0.toInt ∨ v.toInt = 1 ∧ isL p0.toInt) := by
  unfold f_X6_isLetter isL
  have lt_0 := li_0
  have lt_1 := li_1
  have l97 := li_97
  have l122 := li_122
  refine OK.ilt (fun _ => OK.roret (by omega)) (fun _ => ?_)
  exact OK.ilt (fun _ => OK.roret (by omega)) (fun _ => OK.roret (by omega))
theorem a_isDigit (p0 : Int32) (σ : ST) : OK (f_X6_isDigit p0 σ) (RO σ fun v => v.toInt = 0 ∧ ¬ isD p0.toInt ∨ v.toInt = 1 ∧ isD p0.toInt) := by
  unfold f_X6_isDigit isD
  have lt_0 := li_0
  have lt_1 := li_1
  have l48 := li_48
  have l57 := li_57
  refine OK.ilt (fun _ => OK.roret (by omega)) (fun _ => ?_)
  exact OK.ilt (fun _ => OK.roret (by omega)) (fun _ => OK.roret (by omega))
theorem sgD {T : Nat → Int32} {n : Int} {k : Nat} : isD (sg T n k) ↔ isD (bt T n k) := by
  rcases sg_eq (T := T) (n := n) (k := k) with h | h
  · rw [h]
  · rw [h.1, h.2]; unfold isD; omega
theorem sgL {T : Nat → Int32} {n : Int} {k : Nat} : isL (sg T n k) ↔ isL (bt T n k) := by
  rcases sg_eq (T := T) (n := n) (k := k) with h | h
  · rw [h]
  · rw [h.1, h.2]; unfold isL; omega
/-- the letters' number, the first one lowest, five bits each -/
def w5 (T : Nat → Int32) (s : Nat) : Nat → Int64
  | 0 => 0
  | k + 1 => w5 T s k ||| (((T (s + k) - 97) + 1).toInt64 <<< ((5 * Int32.ofNat k).toInt64 &&& 63))
theorem ofNat_i {x : Int32} {k : Nat} (h : x.toInt = (k : Int)) (hk : k ≤ 100) : x = Int32.ofNat k := by
  refine Int32.toInt_inj.mp ?_
  rw [h]
  have e : ∀ k : Nat, k ≤ 100 → (Int32.ofNat k).toInt = (k : Int) := by
    intro k hk
    exact Int32.toInt_ofNat_of_lt (by omega)
  exact (e k hk).symm
theorem a_takeLetters_7 (x1 x2 : Int32) (T : Nat → Int32) (n : Int) (s : Nat) (hT8 : ∀ i, bI (T i) (-128) 127) (hx1 : x1.toInt = s) (hs : s ≤ 1001) (hx2 : 0 ≤ x2.toInt ∧ x2.toInt ≤ 12) (hn2 : 0 ≤ n ∧ n ≤ 1000) : ∀ (f k : Nat) (x3 : Int32) (σ : ST), σ.1 1 = T → (σ.1 2 2).toInt = n → x3.toInt = k → (k : Int) ≤ x2.toInt + 1 → σ.2.1 2 7 = w5 T s (min k x2.toInt.toNat) → (∀ i, i < k → isL (bt T n (s + i))) → 13 < f + k → OK (f_X6_takeLetters_7 f x1 x2 x3 σ) (fun q => (q.2.1 = σ.1 ∧ CA σ q.2) ∧ ((∃ m, RUN isL T n s m ∧ (m : Int) ≤ x2.toInt ∧ q.1.toInt = m ∧ q.2.2.1 2 7 = w5 T s m) ∨ (∀ i : Nat, (i : Int) ≤ x2.toInt → isL (bt T n (s + i))) ∧ q.1.toInt = x2.toInt + 1)) := by
  intro f
  induction f with
  | zero => intro k x3 σ h1 h2 h3 h4 h5 h6 h7; omega
  | succ f ih =>
    intro k x3 σ hT hn hx3 hk hw hl hf
    rw [f_X6_takeLetters_7]
    have lt_0 := li_0
    have lt_1 := li_1
    have l97 := li_97
    have l26 : (26 : Int32).toInt = 26 := by decide
    have l1000 := li_1000
    have e2 := il_addE (x := x2) (y := 1) (by omega) (by omega)
    have e13 := il_addE (x := x1) (y := x3) (by omega) (by omega)
    have e3 := il_addE (x := x3) (y := 1) (by omega) (by omega)
    have np : (x1 + x3).toNatClampNeg = s + k := nC (by omega)
    have nk : x3 = Int32.ofNat k := ofNat_i hx3 (by omega)
    refine OK.ilt (fun h => ?_) (fun h => ?_)
    · exact ⟨_, rfl, ⟨rfl, CA.rf⟩, .inr ⟨fun i hi => hl i (by omega), by show (x2 + 1).toInt = _; omega⟩⟩
    have stop : ∀ (y0 : Int32), (y0.toInt < 1 ∨ 26 < y0.toInt) → ¬ isL (bt T n (s + k)) → OK (f_X6_takeLetters_57 (f_X6_takeLetters_7 f) x1 x2 x3 y0 σ) (fun q => (q.2.1 = σ.1 ∧ CA σ q.2) ∧ ((∃ m, RUN isL T n s m ∧ (m : Int) ≤ x2.toInt ∧ q.1.toInt = m ∧ q.2.2.1 2 7 = w5 T s m) ∨ (∀ i : Nat, (i : Int) ≤ x2.toInt → isL (bt T n (s + i))) ∧ q.1.toInt = x2.toInt + 1)) := fun y0 hy hnl => by
      unfold f_X6_takeLetters_57
      have emk : min k x2.toInt.toNat = k := by omega
      rw [emk] at hw
      have z : OK (some (x3, σ)) (fun q : Int32 × ST => (q.2.1 = σ.1 ∧ CA σ q.2) ∧ ((∃ m, RUN isL T n s m ∧ (m : Int) ≤ x2.toInt ∧ q.1.toInt = m ∧ q.2.2.1 2 7 = w5 T s m) ∨ (∀ i : Nat, (i : Int) ≤ x2.toInt → isL (bt T n (s + i))) ∧ q.1.toInt = x2.toInt + 1)) := ⟨_, rfl, ⟨rfl, CA.rf⟩, .inl ⟨k, ⟨hl, hnl⟩, by omega, hx3, hw⟩⟩
      refine OK.ilt (fun _ => z) (fun _ => ?_)
      exact OK.ile (fun h9 => by omega) (fun _ => z)
    have hb := bt_rng (T := T) (n := n) (k := s + k)
    have h56 : ¬ ((s + k : Nat) : Int) < n → OK (f_X6_takeLetters_56 (f_X6_takeLetters_7 f) x1 x2 x3 σ) (fun q => (q.2.1 = σ.1 ∧ CA σ q.2) ∧ ((∃ m, RUN isL T n s m ∧ (m : Int) ≤ x2.toInt ∧ q.1.toInt = m ∧ q.2.2.1 2 7 = w5 T s m) ∨ (∀ i : Nat, (i : Int) ≤ x2.toInt → isL (bt T n (s + i))) ∧ q.1.toInt = x2.toInt + 1)) := fun h9 => by
      unfold f_X6_takeLetters_56
      exact stop 0 (by omega) (fun h8 => h9 (hb.2.2.mp (isL_0 _ h8)))
    refine OK.ilt (fun h9 => by omega) (fun _ => ?_)
    refine OK.ile (fun h9 => h56 (by omega)) (fun h9 => ?_)
    refine OK.ile (fun h8 => by omega) (fun _ => ?_)
    refine OK.grd ⟨by omega, by omega⟩ ?_
    rw [np, hT]
    obtain ⟨t1, t2⟩ := hT8 (s + k)
    have a1 := il_subE (x := T (s + k)) (y := 97) (by omega) (by omega)
    have a2 := il_addE (x := T (s + k) - 97) (y := 1) (by omega) (by omega)
    have ebt : bt T n (s + k) = (T (s + k)).toInt % 256 := by unfold bt; rw [if_pos (by omega)]
    by_cases hL : isL (bt T n (s + k))
    · have hL' := hL
      unfold isL at hL'
      have hl' : ∀ i, i < k + 1 → isL (bt T n (s + i)) := fun i hi => by
        by_cases e : i = k
        · rw [e]; exact hL
        · exact hl i (by omega)
      unfold f_X6_takeLetters_57 f_X6_takeLetters_95
      refine OK.ilt (fun h8 => by omega) (fun _ => ?_)
      refine OK.ile (fun _ => ?_) (fun h8 => by omega)
      refine OK.ile (fun hle => ?_) (fun hgt => ?_)
      · refine ih (k + 1) (x3 + 1) σ hT hn (by omega) (by omega) ?_ hl' (by omega)
        rw [hw]
        congr 1
        omega
      · have e1 : min k x2.toInt.toNat = k := by omega
        have e4 : min (k + 1) x2.toInt.toNat = k + 1 := by omega
        refine (ih (k + 1) (x3 + 1) (stL σ 2 7 (σ.2.1 2 7 ||| ((T (s + k) - 97 + 1).toInt64 <<< ((5 * x3).toInt64 &&& 63)))) hT hn (by omega) (by omega) ?_ hl' (by omega)).mono (fun q hq => ⟨⟨hq.1.1, (CA.rf.l).trans hq.1.2⟩, hq.2⟩)
        rw [e4, w5, ← nk, ← e1, ← hw]
        rfl
    · refine stop _ ?_ hL
      unfold isL at hL
      omega
theorem a_takeLetters (x1 x2 : Int32) (σ : ST) (s : Nat) (hT8 : ∀ i, bI (σ.1 1 i) (-128) 127) (hx1 : x1.toInt = s) (hs : s ≤ 1001) (hx2 : 0 ≤ x2.toInt ∧ x2.toInt ≤ 12) (hn2 : bI (σ.1 2 2) 0 1000) : OK (f_X6_takeLetters x1 x2 σ) (fun q => (q.2.1 = σ.1 ∧ CA σ q.2) ∧ ((∃ m, RUN isL (σ.1 1) (σ.1 2 2).toInt s m ∧ (m : Int) ≤ x2.toInt ∧ q.1.toInt = m ∧ q.2.2.1 2 7 = w5 (σ.1 1) s m) ∨ (∀ i : Nat, (i : Int) ≤ x2.toInt → isL (bt (σ.1 1) (σ.1 2 2).toInt (s + i))) ∧ q.1.toInt = x2.toInt + 1)) := by
  unfold f_X6_takeLetters
  have lu := FUi
  refine (a_takeLetters_7 x1 x2 (σ.1 1) (σ.1 2 2).toInt s hT8 hx1 hs hx2 hn2 FU 0 0 (stL σ 2 7 0) rfl rfl li_0 (by omega) ?_ (fun i hi => by omega) (by omega)).mono (fun q hq => ⟨⟨hq.1.1, (CA.rf.l).trans hq.1.2⟩, hq.2⟩)
  have e : min 0 x2.toInt.toNat = 0 := by omega
  rw [e]
  rfl
/-- a word's kind: one of those that mean something, or a name -/
def KP (t : ST) : Prop := ((t.1 2 4).toInt = 2 ∧ ∃ k : Nat, k < 15 ∧ (t.1 2 6).toInt = k ∧ t.2.1 3 k = t.2.1 2 7) ∨ ((t.1 2 4).toInt = 3 ∧ ∀ k : Nat, k < 15 → ¬ t.2.1 3 k = t.2.1 2 7)
theorem a_scanWord_45 : ∀ (f : Nat) (x2 : Int32) (σ : ST), (0 ≤ x2.toInt ∧ x2.toInt ≤ 15 ∧ (15 : Int) - x2.toInt < f) → (((σ.1 2 4).toInt = 2 ∧ ∃ k : Nat, (k : Int) < x2.toInt ∧ (σ.1 2 6).toInt = k ∧ σ.2.1 3 k = σ.2.1 2 7) ∨ ((σ.1 2 4).toInt = 3 ∧ ∀ k : Nat, (k : Int) < x2.toInt → ¬ σ.2.1 3 k = σ.2.1 2 7)) → OK (f_X6_scanWord_45 f x2 σ) (fun t => CA σ t ∧ KP t ∧ t.1 2 3 = σ.1 2 3 ∧ t.1 2 5 = σ.1 2 5 ∧ t.2 = σ.2) := by
  intro f
  induction f with
  | zero => intro x2 σ h1 h2; omega
  | succ f ih =>
    intro x2 σ hx hk
    rw [f_X6_scanWord_45]
    unfold f_X6_scanWord_75
    have lt_1 := li_1
    have lt_2 := li_2
    have l15 := li_15
    refine OK.ile (fun h => ?_) (fun h => ?_)
    · refine ⟨_, rfl, CA.rf, ?_, rfl, rfl, rfl⟩
      rcases hk with ⟨a, k, b, c, d⟩ | ⟨a, b⟩
      · exact .inl ⟨a, k, by omega, c, d⟩
      · exact .inr ⟨a, fun k hk => b k (by omega)⟩
    have e := il_addE (x := x2) (y := 1) (by omega) (by omega)
    have n2 := nN_ hx.1
    refine OK.grd ⟨by omega, by omega⟩ ?_
    refine OK.ite (fun h9 => ?_) (fun h9 => ?_)
    · rw [lg_cmp_eq] at h9
      refine (ih (x2 + 1) (stI (stI σ 2 4 2) 2 6 x2) (by omega) (.inl ⟨lt_2, x2.toNatClampNeg, by omega, n2.symm, h9⟩)).mono (fun t ht => ⟨((CA.rf.i (by decide)).i (by decide)).trans ht.1, ht.2.1, ht.2.2.1, ht.2.2.2.1, ht.2.2.2.2⟩)
    · rw [lg_cmp_eq] at h9
      refine ih (x2 + 1) σ (by omega) ?_
      rcases hk with ⟨a, k, b, c, d⟩ | ⟨a, b⟩
      · exact .inl ⟨a, k, by omega, c, d⟩
      · refine .inr ⟨a, fun k hk => ?_⟩
        by_cases e9 : (k : Int) < x2.toInt
        · exact b k e9
        · have : k = x2.toNatClampNeg := by omega
          rw [this]; exact h9
/-- the token that begins at a place -/
def TA_ (T : Nat → Int32) (n : Int) (s : Nat) (t : ST) : Prop := (t.1 2 5).toInt = s ∧
  ((bt T n s < 0 ∧ (t.1 2 4).toInt = 0) ∨
   (isL (bt T n s) ∧ ((∃ m, RUN isL T n s m ∧ m ≤ 8 ∧ (t.1 2 3).toInt = s + m ∧ t.2.1 2 7 = w5 T s m ∧ KP t) ∨ (∀ i : Nat, i ≤ 8 → isL (bt T n (s + i))) ∧ (t.1 2 4).toInt = 1)) ∨
   ((isD (bt T n s) ∨ bt T n s = 45) ∧ ∃ i, (bt T n s = 45 ∧ i = s + 1 ∨ ¬ bt T n s = 45 ∧ i = s) ∧
     ((∃ m, RUN isD T n i m ∧ (1 ≤ m ∧ m ≤ 18) ∧ (t.1 2 4).toInt = 4 ∧ t.2.1 2 8 = dv T i m ∧ ((t.1 2 9).toInt = 1 ∧ bt T n s = 45 ∨ (t.1 2 9).toInt = 0 ∧ ¬ bt T n s = 45) ∧ ((bt T n (i + m) = 46 ∧ isD (bt T n (i + m + 1)) ∧ ¬ isD (bt T n (i + m + 2)) ∧ (t.1 2 10).toInt = 1 ∧ (t.1 2 3).toInt = i + m + 2) ∨ (¬ bt T n (i + m) = 46 ∧ (t.1 2 10).toInt = 0 ∧ (t.1 2 3).toInt = i + m))) ∨
      ((t.1 2 4).toInt = 1 ∧ (¬ isD (bt T n i) ∨ (∀ j : Nat, j ≤ 18 → isD (bt T n (i + j))) ∨ ∃ m, RUN isD T n i m ∧ (1 ≤ m ∧ m ≤ 18) ∧ bt T n (i + m) = 46 ∧ (¬ isD (bt T n (i + m + 1)) ∨ isD (bt T n (i + m + 2))))))) ∨
   (bt T n s = 34 ∧ ((∃ m, RUN isL T n (s + 1) m ∧ m ≤ 12 ∧ bt T n (s + 1 + m) = 34 ∧ (t.1 2 4).toInt = 5 ∧ (t.1 2 3).toInt = s + 1 + m + 1) ∨ ((t.1 2 4).toInt = 1 ∧ ((∀ i : Nat, i ≤ 12 → isL (bt T n (s + 1 + i))) ∨ ∃ m, RUN isL T n (s + 1) m ∧ ¬ bt T n (s + 1 + m) = 34)))) ∨
   ((0 ≤ bt T n s ∧ ¬ isL (bt T n s) ∧ ¬ isD (bt T n s) ∧ ¬ bt T n s = 45 ∧ ¬ bt T n s = 34) ∧ (((bt T n s = 123 ∨ bt T n s = 125 ∨ bt T n s = 91 ∨ bt T n s = 93 ∨ bt T n s = 44 ∨ bt T n s = 59) ∧ (t.1 2 4).toInt = bt T n s ∧ (t.1 2 3).toInt = s + 1) ∨ (¬ (bt T n s = 123 ∨ bt T n s = 125 ∨ bt T n s = 91 ∨ bt T n s = 93 ∨ bt T n s = 44 ∨ bt T n s = 59) ∧ (t.1 2 4).toInt = 1))))
theorem a_scanWord (σ : ST) (s : Nat) (hT8 : ∀ i, bI (σ.1 1 i) (-128) 127) (h5 : (σ.1 2 5).toInt = s) (hs : s ≤ 1000) (hn2 : bI (σ.1 2 2) 0 1000) : OK (f_X6_scanWord σ) (fun t => CA σ t ∧ t.1 2 5 = σ.1 2 5 ∧ ((∃ m, RUN isL (σ.1 1) (σ.1 2 2).toInt s m ∧ m ≤ 8 ∧ (t.1 2 3).toInt = s + m ∧ t.2.1 2 7 = w5 (σ.1 1) s m ∧ KP t) ∨ (∀ i : Nat, i ≤ 8 → isL (bt (σ.1 1) (σ.1 2 2).toInt (s + i))) ∧ (t.1 2 4).toInt = 1)) := by
  unfold f_X6_scanWord
  have lt_0 := li_0
  have lt_1 := li_1
  have lt_3 := li_3
  have lt_8 := li_8
  have lu := FUi
  refine OK.bnd (a_takeLetters (σ.1 2 5) 8 σ s hT8 h5 (by omega) (by omega) hn2) (fun q hq => ?_)
  obtain ⟨⟨e1, cq⟩, hq⟩ := hq
  have e25 : q.2.1 2 5 = σ.1 2 5 := by rw [e1]
  rcases hq with ⟨m, hR, hm, hv, hw⟩ | ⟨hall, hv⟩
  · refine OK.ile (fun _ => ?_) (fun h => by omega)
    have e3 := il_addE (x := q.2.1 2 5) (y := q.1) (by rw [e25]; omega) (by rw [e25]; omega)
    refine (a_scanWord_45 FU 0 (stI (stI (stI q.2 2 3 (q.2.1 2 5 + q.1)) 2 4 3) 2 6 (-1)) (by omega) (.inr ⟨lt_3, fun k hk => by omega⟩)).mono (fun t ht => ?_)
    obtain ⟨ct, hK, t3, t5, t2⟩ := ht
    refine ⟨(cq.trans (((CA.rf.i (by decide)).i (by decide)).i (by decide))).trans ct, by rw [t5]; exact e25, .inl ⟨m, hR, by omega, ?_, ?_, hK⟩⟩
    · rw [t3]
      show (q.2.1 2 5 + q.1).toInt = _
      rw [e3, e25]
      omega
    · rw [t2]
      exact hw
  · refine OK.ile (fun h => by omega) (fun _ => ?_)
    exact ⟨_, rfl, cq.trans (CA.rf.i (by decide)), e25, .inr ⟨fun i hi => hall i (by omega), lt_1⟩⟩
theorem a_scanLettered (σ : ST) (s : Nat) (hT8 : ∀ i, bI (σ.1 1 i) (-128) 127) (h5 : (σ.1 2 5).toInt = s) (hs : s < 1000) (hn2 : bI (σ.1 2 2) 0 1000) : OK (f_X6_scanLettered σ) (fun t => CA σ t ∧ t.1 2 5 = σ.1 2 5 ∧ ((∃ m, RUN isL (σ.1 1) (σ.1 2 2).toInt (s + 1) m ∧ m ≤ 12 ∧ bt (σ.1 1) (σ.1 2 2).toInt (s + 1 + m) = 34 ∧ (t.1 2 4).toInt = 5 ∧ (t.1 2 3).toInt = s + 1 + m + 1) ∨ ((t.1 2 4).toInt = 1 ∧ ((∀ i : Nat, i ≤ 12 → isL (bt (σ.1 1) (σ.1 2 2).toInt (s + 1 + i))) ∨ ∃ m, RUN isL (σ.1 1) (σ.1 2 2).toInt (s + 1) m ∧ ¬ bt (σ.1 1) (σ.1 2 2).toInt (s + 1 + m) = 34)))) := by
  unfold f_X6_scanLettered f_X6_scanLettered_38
  have lt_1 := li_1
  have lt_5 := li_5
  have l12 := li_12
  have l34 := li_34
  have e51 := il_addE (x := σ.1 2 5) (y := 1) (by omega) (by omega)
  refine OK.bnd (a_takeLetters (σ.1 2 5 + 1) 12 σ (s + 1) hT8 (by omega) (by omega) (by omega) hn2) (fun q hq => ?_)
  obtain ⟨⟨e1, cq⟩, hq⟩ := hq
  have e25 : q.2.1 2 5 = σ.1 2 5 := by rw [e1]
  rcases hq with ⟨m, hR, hm, hv, hw⟩ | ⟨hall, hv⟩
  · refine OK.ilt (fun h => by omega) (fun _ => ?_)
    have e5 := il_addE (x := q.2.1 2 5) (y := 1) (by rw [e25]; omega) (by rw [e25]; omega)
    have e6 := il_addE (x := q.2.1 2 5 + 1) (y := q.1) (by rw [e5, e25]; omega) (by rw [e5, e25]; omega)
    rw [e25] at e5 e6
    have e7 := il_addE (x := σ.1 2 5 + 1 + q.1) (y := 1) (by omega) (by omega)
    rw [e25]
    have np : (σ.1 2 5 + 1 + q.1).toNatClampNeg = s + 1 + m := nC (by omega)
    have hsg := a_signAt (σ.1 2 5 + 1 + q.1) q.2 (by omega) (by rw [e1]; exact hn2)
    rw [np, e1] at hsg
    refine OK.bndR hsg (fun v hv2 => ?_)
    dsimp only
    have hsq := sg_eq (T := σ.1 1) (n := (σ.1 2 2).toInt) (k := s + 1 + m)
    have hv3 := hv2.1
    refine OK.ieq (fun h => ?_) (fun h => ?_)
    · refine ⟨_, rfl, cq.trans ((CA.rf.i (by decide)).i (by decide)), e25, .inl ⟨m, hR, by omega, by omega, lt_5, ?_⟩⟩
      show (σ.1 2 5 + 1 + q.1 + 1).toInt = _
      omega
    · exact ⟨_, rfl, cq.trans (CA.rf.i (by decide)), e25, .inr ⟨lt_1, .inr ⟨m, hR, by omega⟩⟩⟩
  · refine OK.ilt (fun _ => ?_) (fun h => by omega)
    exact ⟨_, rfl, cq.trans (CA.rf.i (by decide)), e25, .inr ⟨lt_1, .inl (fun i hi => hall i (by omega))⟩⟩
theorem dig64 {v : Int32} {w : Int64} (h : isD v.toInt) : w * 10 + (v - 48).toInt64 = 10 * w + v.toInt64 - 48 := by
  unfold isD at h
  have l48 := li_48
  have e1 := il_subE (x := v) (y := 48) (by omega) (by omega)
  have e2 : (v - 48).toInt64 = v.toInt64 - 48 := by
    refine Int64.toInt_inj.mp ?_
    rw [Int64.toInt_sub, i64, i64, e1]
    have l : (48 : Int64).toInt = 48 := by decide
    rw [l, l48]
    exact (Int.bmod_eq_of_le (by omega) (by omega)).symm
  rw [e2, Int64.mul_comm, Int64.sub_eq_add_neg, Int64.sub_eq_add_neg, Int64.add_assoc]
/-- what a number's scan leaves -/
def NA (T : Nat → Int32) (n : Int) (i : Nat) (t : ST) : Prop := ((∃ m, RUN isD T n i m ∧ (1 ≤ m ∧ m ≤ 18) ∧ (t.1 2 4).toInt = 4 ∧ t.2.1 2 8 = dv T i m ∧ ((bt T n (i + m) = 46 ∧ isD (bt T n (i + m + 1)) ∧ ¬ isD (bt T n (i + m + 2)) ∧ (t.1 2 10).toInt = 1 ∧ (t.1 2 3).toInt = i + m + 2) ∨ (¬ bt T n (i + m) = 46 ∧ (t.1 2 10).toInt = 0 ∧ (t.1 2 3).toInt = i + m))) ∨
      ((t.1 2 4).toInt = 1 ∧ (¬ isD (bt T n i) ∨ (∀ j : Nat, j ≤ 18 → isD (bt T n (i + j))) ∨ ∃ m, RUN isD T n i m ∧ (1 ≤ m ∧ m ≤ 18) ∧ bt T n (i + m) = 46 ∧ (¬ isD (bt T n (i + m + 1)) ∨ isD (bt T n (i + m + 2))))))
theorem a_scanNumber_119 (x1 x2 : Int32) (T : Nat → Int32) (n : Int) (i m : Nat) (σ : ST) (hT : σ.1 1 = T) (hn : (σ.1 2 2).toInt = n) (hn2 : 0 ≤ n ∧ n ≤ 1000) (h4 : (σ.1 2 4).toInt = 1) (h10 : (σ.1 2 10).toInt = 0) (hi : i ≤ 1001) (hx1 : x1.toInt = i + m) (hx2 : x2.toInt = m) (h8 : σ.2.1 2 8 = dv T i (min m 18)) (hD : ∀ j, j < m → isD (bt T n (i + j))) (hm : m ≤ 19) (hend : m = 19 ∨ ¬ isD (bt T n (i + m))) : OK (f_X6_scanNumber_119 x1 x2 σ) (fun t => CA σ t ∧ t.1 2 5 = σ.1 2 5 ∧ t.1 2 9 = σ.1 2 9 ∧ NA T n i t) := by
  unfold f_X6_scanNumber_119
  have lt_0 := li_0
  have lt_1 := li_1
  have lt_2 := li_2
  have lt_4 := li_4
  have l18 := li_18
  have l46 : (46 : Int32).toInt = 46 := by decide
  refine OK.ieq (fun h => ?_) (fun hm0 => ?_)
  · refine ⟨_, rfl, CA.rf, rfl, rfl, .inr ⟨h4, .inl ?_⟩⟩
    have e : m = 0 := by omega
    rcases hend with h9 | h9
    · omega
    · rw [e] at h9; exact h9
  refine OK.ile (fun hle => ?_) (fun hgt => ?_)
  rotate_left
  · exact ⟨_, rfl, CA.rf, rfl, rfl, .inr ⟨h4, .inr (.inl (fun j hj => hD j (by omega)))⟩⟩
  have hR : RUN isD T n i m := ⟨hD, by
    rcases hend with h9 | h9
    · omega
    · exact h9⟩
  have him : ((i + m : Nat) : Int) ≤ n := run_le isD_0 hR (by omega)
  have emn : min m 18 = m := by omega
  rw [emn] at h8
  have np : x1.toNatClampNeg = i + m := nC (by omega)
  have e1 := il_addE (x := x1) (y := 1) (by omega) (by omega)
  have e2 := il_addE (x := x1) (y := 2) (by omega) (by omega)
  have np1 : (x1 + 1).toNatClampNeg = i + m + 1 := nC (by omega)
  have np2 : (x1 + 2).toNatClampNeg = i + m + 2 := nC (by omega)
  have s0 := a_signAt x1 σ (by omega) ⟨by omega, by omega⟩
  rw [np, hT, hn] at s0
  have s1 := a_signAt (x1 + 1) σ (by omega) ⟨by omega, by omega⟩
  rw [np1, hT, hn] at s1
  have s2 := a_signAt (x1 + 2) σ (by omega) ⟨by omega, by omega⟩
  rw [np2, hT, hn] at s2
  refine OK.bndR s0 (fun v hv => ?_)
  dsimp only
  have hv1 := hv.1
  have q0 := sg_eq (T := T) (n := n) (k := i + m)
  unfold f_X6_scanNumber_189
  refine OK.ieq (fun h46 => ?_) (fun h46 => ?_)
  · refine OK.bndR s1 (fun v1 hw1 => ?_)
    dsimp only
    refine OK.bndR (a_isDigit _ _) (fun d1 hd1 => ?_)
    dsimp only
    rw [hw1.1, sgD] at hd1
    refine OK.ieq (fun h0 => ?_) (fun h0 => ?_)
    · refine ⟨_, rfl, CA.rf, rfl, rfl, .inr ⟨h4, .inr (.inr ⟨m, hR, by omega, by omega, .inl ?_⟩)⟩⟩
      rcases hd1 with h | h
      · exact h.2
      · omega
    have hD1 : isD (bt T n (i + m + 1)) := by
      rcases hd1 with h | h
      · omega
      · exact h.2
    refine OK.bndR s2 (fun v2 hw2 => ?_)
    dsimp only
    refine OK.bndR (a_isDigit _ _) (fun d2 hd2 => ?_)
    dsimp only
    rw [hw2.1, sgD] at hd2
    refine OK.ieq (fun h9 => ?_) (fun h9 => ?_)
    · have s1' := a_signAt (x1 + 1) (stI σ 2 10 1) (by omega) ⟨by show 0 ≤ (σ.1 2 2).toInt; omega, by show (σ.1 2 2).toInt ≤ 1000; omega⟩
      refine OK.bndR s1' (fun v3 hw3 => ?_)
      dsimp only
      refine ⟨_, rfl, (((CA.rf.i (by decide)).i (by decide)).i (by decide)).i (by decide), rfl, rfl, .inl ⟨m, hR, by omega, lt_4, h8, .inl ⟨by omega, hD1, ?_, lt_1, ?_⟩⟩⟩
      · rcases hd2 with h | h
        · exact h.2
        · omega
      · show (x1 + 2).toInt = _
        omega
    · refine ⟨_, rfl, CA.rf, rfl, rfl, .inr ⟨h4, .inr (.inr ⟨m, hR, by omega, by omega, .inr ?_⟩)⟩⟩
      rcases hd2 with h | h
      · omega
      · exact h.2
  · exact ⟨_, rfl, (CA.rf.i (by decide)).i (by decide), rfl, rfl, .inl ⟨m, hR, by omega, lt_4, h8, .inr ⟨by omega, h10, hx1⟩⟩⟩
theorem a_scanNumber_65 (T : Nat → Int32) (n : Int) (i : Nat) (hn2 : 0 ≤ n ∧ n ≤ 1000) (hi : i ≤ 1001) : ∀ (f m : Nat) (x1 x2 : Int32) (σ : ST), σ.1 1 = T → (σ.1 2 2).toInt = n → (σ.1 2 4).toInt = 1 → (σ.1 2 10).toInt = 0 → x1.toInt = i + m → x2.toInt = m → σ.2.1 2 8 = dv T i (min m 18) → (∀ j, j < m → isD (bt T n (i + j))) → m ≤ 19 → 20 < f + m → OK (f_X6_scanNumber_65 f x1 x2 σ) (fun t => CA σ t ∧ t.1 2 5 = σ.1 2 5 ∧ t.1 2 9 = σ.1 2 9 ∧ NA T n i t) := by
  intro f
  induction f with
  | zero => intro m x1 x2 σ h1 h2 h3 h4 h5 h6 h7 h8 h9 h10; omega
  | succ f ih =>
    intro m x1 x2 σ hT hn h4 h10 hx1 hx2 h8 hD hm hf
    rw [f_X6_scanNumber_65]
    unfold f_X6_scanNumber_110
    have lt_0 := li_0
    have lt_1 := li_1
    have l18 := li_18
    have np : x1.toNatClampNeg = i + m := nC (by omega)
    have e1 := il_addE (x := x1) (y := 1) (by omega) (by omega)
    have e2 := il_addE (x := x2) (y := 1) (by omega) (by omega)
    refine OK.ilt (fun h => a_scanNumber_119 x1 x2 T n i m σ hT hn hn2 h4 h10 hi hx1 hx2 h8 hD hm (.inl (by omega))) (fun h => ?_)
    have s0 := a_signAt x1 σ (by omega) ⟨by omega, by omega⟩
    rw [np, hT, hn] at s0
    refine OK.bndR s0 (fun v hv => ?_)
    dsimp only
    refine OK.bndR (a_isDigit _ _) (fun d hd => ?_)
    dsimp only
    rw [hv.1, sgD] at hd
    refine OK.ieq (fun h0 => a_scanNumber_119 x1 x2 T n i m σ hT hn hn2 h4 h10 hi hx1 hx2 h8 hD hm (.inr ?_)) (fun h0 => ?_)
    · rcases hd with h9 | h9
      · exact h9.2
      · omega
    have hd1 : isD (bt T n (i + m)) := by
      rcases hd with h9 | h9
      · omega
      · exact h9.2
    have hlt := (bt_rng (T := T) (n := n) (k := i + m)).2.2.mp (isD_0 _ hd1)
    have hD' : ∀ j, j < m + 1 → isD (bt T n (i + j)) := fun j hj => by
      by_cases e : j = m
      · rw [e]; exact hd1
      · exact hD j (by omega)
    refine OK.ile (fun hle => ?_) (fun hgt => ?_)
    · refine ih (m + 1) (x1 + 1) (x2 + 1) σ hT hn h4 h10 (by omega) (by omega) ?_ hD' (by omega) (by omega)
      rw [h8]
      congr 1
      omega
    · refine OK.bndR s0 (fun v2 hv2 => ?_)
      dsimp only
      have e3 : min m 18 = m := by omega
      have e4 : min (m + 1) 18 = m + 1 := by omega
      refine (ih (m + 1) (x1 + 1) (x2 + 1) (stL σ 2 8 (σ.2.1 2 8 * 10 + (v2 - 48).toInt64)) hT hn h4 h10 (by omega) (by omega) ?_ hD' (by omega) (by omega)).mono (fun t ht => ⟨(CA.rf.l).trans ht.1, ht.2⟩)
      show σ.2.1 2 8 * 10 + (v2 - 48).toInt64 = _
      have hdv : isD v2.toInt := by rw [hv2.1, sgD]; exact hd1
      rw [dig64 hdv, e4, dv, h8, e3, hv2.2 hlt]
theorem a_scanNumber (σ : ST) (s : Nat) (h5 : (σ.1 2 5).toInt = s) (hs : s < 1000) (hn2 : bI (σ.1 2 2) 0 1000) : OK (f_X6_scanNumber σ) (fun t => CA σ t ∧ t.1 2 5 = σ.1 2 5 ∧ ((bt (σ.1 1) (σ.1 2 2).toInt s = 45 ∧ (t.1 2 9).toInt = 1 ∧ NA (σ.1 1) (σ.1 2 2).toInt (s + 1) t) ∨ (¬ bt (σ.1 1) (σ.1 2 2).toInt s = 45 ∧ (t.1 2 9).toInt = 0 ∧ NA (σ.1 1) (σ.1 2 2).toInt s t))) := by
  unfold f_X6_scanNumber f_X6_scanNumber_19 f_X6_scanNumber_62
  have lt_0 := li_0
  have lt_1 := li_1
  have lu := FUi
  have l45 := li_45
  have np : (σ.1 2 5).toNatClampNeg = s := nC (by omega)
  have s0 := a_signAt (σ.1 2 5) σ (by omega) hn2
  rw [np] at s0
  have e1 := il_addE (x := σ.1 2 5) (y := 1) (by omega) (by omega)
  have hsq := sg_eq (T := σ.1 1) (n := (σ.1 2 2).toInt) (k := s)
  have c : ∀ y : Int32, CA σ (stI (stL (stI (stI (stI σ 2 9 y) 2 10 0) 2 11 0) 2 8 0) 2 4 1) := fun y => ((((CA.rf.i (by decide)).i (by decide)).i (by decide)).l).i (by decide)
  refine OK.bndR s0 (fun v hv => ?_)
  dsimp only
  have hv1 := hv.1
  refine OK.ieq (fun h => ?_) (fun h => ?_)
  · refine OK.grd (.inr rfl) ?_
    refine OK.ieq (fun h9 => by have h9 : (1 : Int32).toInt = (0 : Int32).toInt := h9; omega) (fun _ => ?_)
    refine (a_scanNumber_65 (σ.1 1) (σ.1 2 2).toInt (s + 1) hn2 (by omega) FU 0 _ 0 (stI (stL (stI (stI (stI σ 2 9 1) 2 10 0) 2 11 0) 2 8 0) 2 4 1) rfl rfl lt_1 lt_0 (by show (σ.1 2 5 + 1).toInt = _; omega) lt_0 rfl (fun j hj => by omega) (by omega) (by omega)).mono (fun t ht => ⟨(c 1).trans ht.1, ht.2.1, .inl ⟨by omega, ?_, ht.2.2.2⟩⟩)
    rw [ht.2.2.1]
    exact lt_1
  · refine OK.grd (.inl rfl) ?_
    refine OK.ieq (fun _ => ?_) (fun h9 => absurd rfl h9)
    refine (a_scanNumber_65 (σ.1 1) (σ.1 2 2).toInt s hn2 (by omega) FU 0 _ 0 (stI (stL (stI (stI (stI σ 2 9 0) 2 10 0) 2 11 0) 2 8 0) 2 4 1) rfl rfl lt_1 lt_0 (by show (σ.1 2 5).toInt = _; omega) lt_0 rfl (fun j hj => by omega) (by omega) (by omega)).mono (fun t ht => ⟨(c 0).trans ht.1, ht.2.1, .inr ⟨by omega, ?_, ht.2.2.2⟩⟩)
    rw [ht.2.2.1]
    exact lt_0
theorem a_advance_50 (σ : ST) (s : Nat) (hT8 : ∀ i, bI (σ.1 1 i) (-128) 127) (h3 : (σ.1 2 3).toInt = s) (hs : s ≤ 1030) (hn2 : bI (σ.1 2 2) 0 1000) : OK (f_X6_advance_50 σ) (fun t => CA σ t ∧ TA_ (σ.1 1) (σ.1 2 2).toInt s t) := by
  unfold f_X6_advance_50 f_X6_advance_113
  have lt_0 := li_0
  have lt_1 := li_1
  have l45 := li_45
  have l34 := li_34
  obtain ⟨n1, n2⟩ := hn2
  have z1 : (stI σ 2 5 (σ.1 2 3)).1 1 = σ.1 1 := rfl
  have z2 : (stI σ 2 5 (σ.1 2 3)).1 2 2 = σ.1 2 2 := rfl
  have z5 : (stI σ 2 5 (σ.1 2 3)).1 2 5 = σ.1 2 3 := rfl
  have cz : CA σ (stI σ 2 5 (σ.1 2 3)) := CA.rf.i (by decide)
  generalize stI σ 2 5 (σ.1 2 3) = z at z1 z2 z5 cz ⊢
  have z5' : (z.1 2 5).toInt = s := by rw [z5]; exact h3
  have np : (z.1 2 5).toNatClampNeg = s := nC z5'
  have s0 := a_signAt (z.1 2 5) z (by omega) (by rw [z2]; exact ⟨n1, n2⟩)
  rw [np, z1, z2] at s0
  refine OK.bndR s0 (fun c hc => ?_)
  dsimp only
  have hc1 := hc.1
  have hb := bt_rng (T := σ.1 1) (n := (σ.1 2 2).toInt) (k := s)
  have hsq := sg_eq (T := σ.1 1) (n := (σ.1 2 2).toInt) (k := s)
  have z2' : (z.1 2 2).toInt = (σ.1 2 2).toInt := by rw [z2]
  refine OK.ilt (fun hlt => ?_) (fun hge => ?_)
  rotate_left
  · refine ⟨_, rfl, cz.trans (CA.rf.i (by decide)), z5', .inl ⟨?_, lt_0⟩⟩
    have : ¬ (0 ≤ bt (σ.1 1) (σ.1 2 2).toInt s) := fun h9 => by have := hb.2.2.mp h9; omega
    omega
  have h0 := hb.2.2.mpr (by omega)
  have ec : c.toInt = bt (σ.1 1) (σ.1 2 2).toInt s := by omega
  have hs1 : s < 1000 := by omega
  refine OK.bndR (a_isLetter _ _) (fun q3 h3' => ?_)
  dsimp only
  rw [ec] at h3'
  have num : (isD (bt (σ.1 1) (σ.1 2 2).toInt s) ∨ bt (σ.1 1) (σ.1 2 2).toInt s = 45) → OK ((f_X6_scanNumber z).bind fun q => some q) (fun t => CA σ t ∧ TA_ (σ.1 1) (σ.1 2 2).toInt s t) := fun hd => by
    have hsn := a_scanNumber z s z5' hs1 (by rw [z2]; exact ⟨n1, n2⟩)
    rw [z1, z2] at hsn
    refine OK.bnd hsn (fun t ht => ?_)
    obtain ⟨ct, t5, ht⟩ := ht
    refine OK.ret ⟨cz.trans ct, by rw [t5]; exact z5', .inr (.inr (.inl ⟨hd, ?_⟩))⟩
    rcases ht with ⟨a, b, d⟩ | ⟨a, b, d⟩
    · refine ⟨s + 1, .inl ⟨a, rfl⟩, ?_⟩
      rcases d with ⟨m, d1, d2, d3, d4, d5⟩ | d
      · exact .inl ⟨m, d1, d2, d3, d4, .inl ⟨b, a⟩, d5⟩
      · exact .inr d
    · refine ⟨s, .inr ⟨a, rfl⟩, ?_⟩
      rcases d with ⟨m, d1, d2, d3, d4, d5⟩ | d
      · exact .inl ⟨m, d1, d2, d3, d4, .inr ⟨b, a⟩, d5⟩
      · exact .inr d
  refine OK.ieq (fun hl0 => ?_) (fun hl1 => ?_)
  · have hnl : ¬ isL (bt (σ.1 1) (σ.1 2 2).toInt s) := by
      rcases h3' with h | h
      · exact h.2
      · omega
    refine OK.ieq (fun h45 => num (.inr (by omega))) (fun h45 => ?_)
    refine OK.bndR (a_isDigit _ _) (fun q5 h5 => ?_)
    dsimp only
    rw [ec] at h5
    refine OK.ieq (fun hd0 => ?_) (fun hd1 => num (.inl ?_))
    rotate_left
    · rcases h5 with h | h
      · omega
      · exact h.2
    have hnd : ¬ isD (bt (σ.1 1) (σ.1 2 2).toInt s) := by
      rcases h5 with h | h
      · exact h.2
      · omega
    refine OK.ieq (fun h34 => ?_) (fun h34 => ?_)
    · have hsl := a_scanLettered z s (by rw [z1]; exact hT8) z5' hs1 (by rw [z2]; exact ⟨n1, n2⟩)
      rw [z1, z2] at hsl
      refine OK.bnd hsl (fun t ht => ?_)
      obtain ⟨ct, t5, ht⟩ := ht
      exact OK.ret ⟨cz.trans ct, by rw [t5]; exact z5', .inr (.inr (.inr (.inl ⟨by omega, ht⟩)))⟩
    · have ls : (123 : Int32).toInt = 123 ∧ (125 : Int32).toInt = 125 ∧ (91 : Int32).toInt = 91 ∧ (93 : Int32).toInt = 93 ∧ (44 : Int32).toInt = 44 ∧ (59 : Int32).toInt = 59 := by decide
      have e6 := il_addE (x := z.1 2 5) (y := 1) (by omega) (by omega)
      have sgn : (bt (σ.1 1) (σ.1 2 2).toInt s = 123 ∨ bt (σ.1 1) (σ.1 2 2).toInt s = 125 ∨ bt (σ.1 1) (σ.1 2 2).toInt s = 91 ∨ bt (σ.1 1) (σ.1 2 2).toInt s = 93 ∨ bt (σ.1 1) (σ.1 2 2).toInt s = 44 ∨ bt (σ.1 1) (σ.1 2 2).toInt s = 59) → OK (f_X6_advance_169 c z) (fun t => CA σ t ∧ TA_ (σ.1 1) (σ.1 2 2).toInt s t) := fun hsig => by
        unfold f_X6_advance_169
        refine ⟨_, rfl, cz.trans ((CA.rf.i (by decide)).i (by decide)), z5', .inr (.inr (.inr (.inr ⟨⟨h0, hnl, hnd, by omega, by omega⟩, .inl ⟨hsig, ec, ?_⟩⟩)))⟩
        show (z.1 2 5 + 1).toInt = _
        omega
      refine OK.ieq (fun _ => sgn (by omega)) (fun _ => ?_)
      refine OK.ieq (fun _ => sgn (by omega)) (fun _ => ?_)
      refine OK.ieq (fun _ => sgn (by omega)) (fun _ => ?_)
      refine OK.ieq (fun _ => sgn (by omega)) (fun _ => ?_)
      refine OK.ieq (fun _ => sgn (by omega)) (fun _ => ?_)
      refine OK.ieq (fun _ => sgn (by omega)) (fun _ => ?_)
      exact ⟨_, rfl, cz.trans (CA.rf.i (by decide)), z5', .inr (.inr (.inr (.inr ⟨⟨h0, hnl, hnd, by omega, by omega⟩, .inr ⟨by omega, lt_1⟩⟩)))⟩
  · have hL : isL (bt (σ.1 1) (σ.1 2 2).toInt s) := by
      rcases h3' with h | h
      · omega
      · exact h.2
    have hsw := a_scanWord z s (by rw [z1]; exact hT8) z5' (by omega) (by rw [z2]; exact ⟨n1, n2⟩)
    rw [z1, z2] at hsw
    refine OK.bnd hsw (fun t ht => ?_)
    obtain ⟨ct, t5, ht⟩ := ht
    exact OK.ret ⟨cz.trans ct, by rw [t5]; exact z5', .inr (.inl ⟨hL, ht⟩)⟩
theorem a_advance_0 (p : Nat) : ∀ (f k : Nat) (σ : ST), (∀ i, bI (σ.1 1 i) (-128) 127) → bI (σ.1 2 2) 0 1000 → (σ.1 2 3).toInt = k → p ≤ k → (∀ i, p ≤ i → i < k → isB (bt (σ.1 1) (σ.1 2 2).toInt i)) → ((k : Int) ≤ 1030) → 1030 < f + k → OK (f_X6_advance_0 f σ) (fun t => CA σ t ∧ ∃ s, SK (σ.1 1) (σ.1 2 2).toInt p s ∧ TA_ (σ.1 1) (σ.1 2 2).toInt s t) := by
  intro f
  induction f with
  | zero => intro k σ h1 h2 h3 h4 h5 h6 h7; omega
  | succ f ih =>
    intro k σ hT8 hn2 h3 hpk hB hk hf
    rw [f_X6_advance_0]
    unfold f_X6_advance_37
    have l32 := li_32
    have l10 := li_10
    have lt_1 := li_1
    have hn2' := hn2
    obtain ⟨n1, n2⟩ := hn2
    have np : (σ.1 2 3).toNatClampNeg = k := nC h3
    have hb := bt_rng (T := σ.1 1) (n := (σ.1 2 2).toInt) (k := k)
    have hsq := sg_eq (T := σ.1 1) (n := (σ.1 2 2).toInt) (k := k)
    have fin : ¬ isB (bt (σ.1 1) (σ.1 2 2).toInt k) → OK (f_X6_advance_50 σ) (fun t => CA σ t ∧ ∃ s, SK (σ.1 1) (σ.1 2 2).toInt p s ∧ TA_ (σ.1 1) (σ.1 2 2).toInt s t) := fun hnb => (a_advance_50 σ k hT8 h3 (by omega) hn2').mono (fun t ht => ⟨ht.1, k, ⟨hpk, hB, hnb⟩, ht.2⟩)
    refine OK.ile (fun hge => fin (fun h9 => ?_)) (fun hlt => ?_)
    · have := hb.2.2.mp (by unfold isB at h9; omega)
      omega
    have s0 := a_signAt (σ.1 2 3) σ (by omega) hn2'
    rw [np] at s0
    have e1 := il_addE (x := σ.1 2 3) (y := 1) (by omega) (by omega)
    have nx : isB (bt (σ.1 1) (σ.1 2 2).toInt k) → OK (f_X6_advance_0 f (stI σ 2 3 (σ.1 2 3 + 1))) (fun t => CA σ t ∧ ∃ s, SK (σ.1 1) (σ.1 2 2).toInt p s ∧ TA_ (σ.1 1) (σ.1 2 2).toInt s t) := fun hb9 => by
      refine (ih (k + 1) (stI σ 2 3 (σ.1 2 3 + 1)) hT8 hn2' (by show (σ.1 2 3 + 1).toInt = _; omega) (by omega) (fun i i1 i2 => ?_) (by omega) (by omega)).mono (fun t ht => ⟨(CA.rf.i (by decide)).trans ht.1, ht.2⟩)
      show isB (bt (σ.1 1) (σ.1 2 2).toInt i)
      by_cases e : i = k
      · rw [e]; exact hb9
      · exact hB i i1 (by omega)
    refine OK.bndR s0 (fun v hv => ?_)
    dsimp only
    have hv1 := hv.1
    refine OK.ieq (fun h => nx (.inl (by omega))) (fun h32 => ?_)
    refine OK.bndR s0 (fun v2 hv2 => ?_)
    dsimp only
    have hv3 := hv2.1
    refine OK.ieq (fun h => nx (.inr (by omega))) (fun h10 => fin (fun h9 => ?_))
    unfold isB at h9
    omega
theorem a_advance (σ : ST) (p : Nat) (hT8 : ∀ i, bI (σ.1 1 i) (-128) 127) (hn2 : bI (σ.1 2 2) 0 1000) (h3 : (σ.1 2 3).toInt = p) (hp : p ≤ 1030) : OK (f_X6_advance σ) (fun t => CA σ t ∧ ∃ s, SK (σ.1 1) (σ.1 2 2).toInt p s ∧ TA_ (σ.1 1) (σ.1 2 2).toInt s t) := by
  have lu := FUi
  exact a_advance_0 p FU p σ hT8 hn2 h3 (Nat.le_refl _) (fun i h1 h2 => by omega) (by omega) (by omega)
