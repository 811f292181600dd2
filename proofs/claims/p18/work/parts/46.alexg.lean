/-! the class: tokens -/
/-- what is another one at most: the tokens' own numbers -/
def CA (σ t : ST) : Prop := (∀ c, c ≠ 2 → t.1 c = σ.1 c) ∧ t.1 2 2 = σ.1 2 2 ∧ (∀ c, c ≠ 2 → t.2.1 c = σ.2.1 c) ∧ t.2.2 = σ.2.2
theorem CA.rf {σ : ST} : CA σ σ := ⟨fun _ _ => rfl, rfl, fun _ _ => rfl, rfl⟩
theorem CA.trans {σ τ υ : ST} (h : CA σ τ) (k : CA τ υ) : CA σ υ := ⟨fun c hc => (k.1 c hc).trans (h.1 c hc), k.2.1.trans h.2.1, fun c hc => (k.2.2.1 c hc).trans (h.2.2.1 c hc), k.2.2.2.trans h.2.2.2⟩
theorem CA.i {σ τ : ST} (h : CA σ τ) {i : Nat} {v : Int32} (hi : i ≠ 2) : CA σ (stI τ 2 i v) := ⟨fun c hc => by rw [stI_ne hc]; exact h.1 c hc, by
  show upd (τ.1 2) i v 2 = _
  rw [upd_no (fun e => hi e.symm)]
  exact h.2.1, h.2.2⟩
theorem CA.l {σ τ : ST} (h : CA σ τ) {i : Nat} {v : Int64} : CA σ (stL τ 2 i v) := ⟨h.1, h.2.1, fun c hc => by rw [stL_ne hc]; exact h.2.2.1 c hc, h.2.2.2⟩
def sg (T : Nat → Int32) (n : Int) (k : Nat) : Int := if bt T n k < 0 then 0 else bt T n k
theorem sg_eq {T : Nat → Int32} {n : Int} {k : Nat} : sg T n k = bt T n k ∨ sg T n k = 0 ∧ bt T n k = -1 := by
  have := bt_rng (T := T) (n := n) (k := k)
  unfold sg
  split
  · exact .inr ⟨rfl, by omega⟩
  · exact .inl rfl
theorem a_signAt (p0 : Int32) (σ : ST) (h0 : 0 ≤ p0.toInt) (hn : bI (σ.1 2 2) 0 1000) : OK (f_X6_signAt p0 σ) (RO σ fun v => v.toInt = sg (σ.1 1) (σ.1 2 2).toInt p0.toNatClampNeg ∧ ((p0.toNatClampNeg : Int) < (σ.1 2 2).toInt → v = (σ.1 1 p0.toNatClampNeg &&& 255))) := by
  unfold f_X6_signAt
  obtain ⟨n1, n2⟩ := hn
  have np := nN_ h0
  have lt_0 := li_0
  have l1000 := li_1000
  refine OK.ilt (fun h => by omega) (fun _ => ?_)
  have z : ¬ (p0.toNatClampNeg : Int) < (σ.1 2 2).toInt → (0 : Int32).toInt = sg (σ.1 1) (σ.1 2 2).toInt p0.toNatClampNeg := fun h => by
    unfold sg bt
    rw [if_neg h, if_pos (by decide)]
    exact lt_0
  refine OK.ile (fun h => OK.roret ⟨z (by omega), fun h9 => by omega⟩) (fun h => ?_)
  refine OK.ile (fun h9 => by omega) (fun _ => ?_)
  refine OK.grd ⟨by omega, by omega⟩ ?_
  refine OK.roret ⟨?_, fun _ => rfl⟩
  have eb : bt (σ.1 1) (σ.1 2 2).toInt p0.toNatClampNeg = (σ.1 1 p0.toNatClampNeg).toInt % 256 := by
    unfold bt
    rw [if_pos (by omega)]
  unfold sg
  rw [eb, if_neg (by omega)]
  exact and255 _
theorem a_isLetter (p0 : Int32) (σ : ST) : OK (f_X6_isLetter p0 σ) (RO σ fun v => v.toInt = 0 ∧ ¬ isL p0.toInt ∨ v.toInt = 1 ∧ isL p0.toInt) := by
  unfold f_X6_isLetter isL
  have lt_0 := li_0
  have lt_1 := li_1
  have l97 := li_97
  have l122 := li_122
  refine OK.ilt (fun _ => OK.roret (by omega)) (fun _ => ?_)
  exact OK.ilt (fun _ => OK.roret (by omega)) (fun _ => OK.roret (by omega))
theorem a_isDigit (p0 : Int32) (σ : ST) : OK (f_X6_isDigit p0 σ) (RO σ fun v => v.toInt = 0 ∧ ¬ isD p0.toInt ∨ v.toInt = 1 ∧ isD p0.toInt) := by
  unfold f_X6_isDigit isD
  have lt_0 := li_0
  have lt_1 := li_1
  have l48 := li_48
  have l57 := li_57
  refine OK.ilt (fun _ => OK.roret (by omega)) (fun _ => ?_)
  exact OK.ilt (fun _ => OK.roret (by omega)) (fun _ => OK.roret (by omega))
theorem sgD {T : Nat → Int32} {n : Int} {k : Nat} : isD (sg T n k) ↔ isD (bt T n k) := by
  rcases sg_eq (T := T) (n := n) (k := k) with h | h
  · rw [h]
  · rw [h.1, h.2]; unfold isD; omega
theorem sgL {T : Nat → Int32} {n : Int} {k : Nat} : isL (sg T n k) ↔ isL (bt T n k) := by
  rcases sg_eq (T := T) (n := n) (k := k) with h | h
  · rw [h]
  · rw [h.1, h.2]; unfold isL; omega
/-- the letters' number, the first one lowest, five bits each -/
def w5 (T : Nat → Int32) (s : Nat) : Nat → Int64
  | 0 => 0
  | k + 1 => w5 T s k ||| (((T (s + k) - 97) + 1).toInt64 <<< ((5 * Int32.ofNat k).toInt64 &&& 63))
theorem ofNat_i {x : Int32} {k : Nat} (h : x.toInt = (k : Int)) (hk : k ≤ 100) : x = Int32.ofNat k := by
  refine Int32.toInt_inj.mp ?_
  rw [h]
  have e : ∀ k : Nat, k ≤ 100 → (Int32.ofNat k).toInt = (k : Int) := by
    intro k hk
    exact Int32.toInt_ofNat_of_lt (by omega)
  exact (e k hk).symm
theorem a_takeLetters_7 (x1 x2 : Int32) (T : Nat → Int32) (n : Int) (s : Nat) (hT8 : ∀ i, bI (T i) (-128) 127) (hx1 : x1.toInt = s) (hs : s ≤ 1001) (hx2 : 0 ≤ x2.toInt ∧ x2.toInt ≤ 12) (hn2 : 0 ≤ n ∧ n ≤ 1000) : ∀ (f k : Nat) (x3 : Int32) (σ : ST), σ.1 1 = T → (σ.1 2 2).toInt = n → x3.toInt = k → (k : Int) ≤ x2.toInt + 1 → σ.2.1 2 7 = w5 T s (min k x2.toInt.toNat) → (∀ i, i < k → isL (bt T n (s + i))) → 13 < f + k → OK (f_X6_takeLetters_7 f x1 x2 x3 σ) (fun q => (q.2.1 = σ.1 ∧ CA σ q.2) ∧ ((∃ m, RUN isL T n s m ∧ (m : Int) ≤ x2.toInt ∧ q.1.toInt = m ∧ q.2.2.1 2 7 = w5 T s m) ∨ (∀ i : Nat, (i : Int) ≤ x2.toInt → isL (bt T n (s + i))) ∧ q.1.toInt = x2.toInt + 1)) := by
  intro f
  induction f with
  | zero => intro k x3 σ h1 h2 h3 h4 h5 h6 h7; omega
  | succ f ih =>
    intro k x3 σ hT hn hx3 hk hw hl hf
    rw [f_X6_takeLetters_7]
    have lt_0 := li_0
    have lt_1 := li_1
    have l97 := li_97
    have l26 : (26 : Int32).toInt = 26 := by decide
    have l1000 := li_1000
    have e2 := il_addE (x := x2) (y := 1) (by omega) (by omega)
    have e13 := il_addE (x := x1) (y := x3) (by omega) (by omega)
    have e3 := il_addE (x := x3) (y := 1) (by omega) (by omega)
    have np : (x1 + x3).toNatClampNeg = s + k := nC (by omega)
    have nk : x3 = Int32.ofNat k := ofNat_i hx3 (by omega)
    refine OK.ilt (fun h => ?_) (fun h => ?_)
    · exact ⟨_, rfl, ⟨rfl, CA.rf⟩, .inr ⟨fun i hi => hl i (by omega), by show (x2 + 1).toInt = _; omega⟩⟩
    have stop : ∀ (y0 : Int32), (y0.toInt < 1 ∨ 26 < y0.toInt) → ¬ isL (bt T n (s + k)) → OK (f_X6_takeLetters_57 (f_X6_takeLetters_7 f) x1 x2 x3 y0 σ) (fun q => (q.2.1 = σ.1 ∧ CA σ q.2) ∧ ((∃ m, RUN isL T n s m ∧ (m : Int) ≤ x2.toInt ∧ q.1.toInt = m ∧ q.2.2.1 2 7 = w5 T s m) ∨ (∀ i : Nat, (i : Int) ≤ x2.toInt → isL (bt T n (s + i))) ∧ q.1.toInt = x2.toInt + 1)) := fun y0 hy hnl => by
      unfold f_X6_takeLetters_57
      have emk : min k x2.toInt.toNat = k := by omega
      rw [emk] at hw
      have z : OK (some (x3, σ)) (fun q : Int32 × ST => (q.2.1 = σ.1 ∧ CA σ q.2) ∧ ((∃ m, RUN isL T n s m ∧ (m : Int) ≤ x2.toInt ∧ q.1.toInt = m ∧ q.2.2.1 2 7 = w5 T s m) ∨ (∀ i : Nat, (i : Int) ≤ x2.toInt → isL (bt T n (s + i))) ∧ q.1.toInt = x2.toInt + 1)) := ⟨_, rfl, ⟨rfl, CA.rf⟩, .inl ⟨k, ⟨hl, hnl⟩, by omega, hx3, hw⟩⟩
      refine OK.ilt (fun _ => z) (fun _ => ?_)
      exact OK.ile (fun h9 => by omega) (fun _ => z)
    have hb := bt_rng (T := T) (n := n) (k := s + k)
    have h56 : ¬ ((s + k : Nat) : Int) < n → OK (f_X6_takeLetters_56 (f_X6_takeLetters_7 f) x1 x2 x3 σ) (fun q => (q.2.1 = σ.1 ∧ CA σ q.2) ∧ ((∃ m, RUN isL T n s m ∧ (m : Int) ≤ x2.toInt ∧ q.1.toInt = m ∧ q.2.2.1 2 7 = w5 T s m) ∨ (∀ i : Nat, (i : Int) ≤ x2.toInt → isL (bt T n (s + i))) ∧ q.1.toInt = x2.toInt + 1)) := fun h9 => by
      unfold f_X6_takeLetters_56
      exact stop 0 (by omega) (fun h8 => h9 (hb.2.2.mp (isL_0 _ h8)))
    refine OK.ilt (fun h9 => by omega) (fun _ => ?_)
    refine OK.ile (fun h9 => h56 (by omega)) (fun h9 => ?_)
    refine OK.ile (fun h8 => by omega) (fun _ => ?_)
    refine OK.grd ⟨by omega, by omega⟩ ?_
    rw [np, hT]
    obtain ⟨t1, t2⟩ := hT8 (s + k)
    have a1 := il_subE (x := T (s + k)) (y := 97) (by omega) (by omega)
    have a2 := il_addE (x := T (s + k) - 97) (y := 1) (by omega) (by omega)
    have ebt : bt T n (s + k) = (T (s + k)).toInt % 256 := by unfold bt; rw [if_pos (by omega)]
    by_cases hL : isL (bt T n (s + k))
    · have hL' := hL
      unfold isL at hL'
      have hl' : ∀ i, i < k + 1 → isL (bt T n (s + i)) := fun i hi => by
        by_cases e : i = k
        · rw [e]; exact hL
        · exact hl i (by omega)
      unfold f_X6_takeLetters_57 f_X6_takeLetters_95
      refine OK.ilt (fun h8 => by omega) (fun _ => ?_)
      refine OK.ile (fun _ => ?_) (fun h8 => by omega)
      refine OK.ile (fun hle => ?_) (fun hgt => ?_)
      · refine ih (k + 1) (x3 + 1) σ hT hn (by omega) (by omega) ?_ hl' (by omega)
        rw [hw]
        congr 1
        omega
      · have e1 : min k x2.toInt.toNat = k := by omega
        have e4 : min (k + 1) x2.toInt.toNat = k + 1 := by omega
        refine (ih (k + 1) (x3 + 1) (stL σ 2 7 (σ.2.1 2 7 ||| ((T (s + k) - 97 + 1).toInt64 <<< ((5 * x3).toInt64 &&& 63)))) hT hn (by omega) (by omega) ?_ hl' (by omega)).mono (fun q hq => ⟨⟨hq.1.1, (CA.rf.l).trans hq.1.2⟩, hq.2⟩)
        rw [e4, w5, ← nk, ← e1, ← hw]
        rfl
    · refine stop _ ?_ hL
      unfold isL at hL
      omega
theorem a_takeLetters (x1 x2 : Int32) (σ : ST) (s : Nat) (hT8 : ∀ i, bI (σ.1 1 i) (-128) 127) (hx1 : x1.toInt = s) (hs : s ≤ 1001) (hx2 : 0 ≤ x2.toInt ∧ x2.toInt ≤ 12) (hn2 : bI (σ.1 2 2) 0 1000) : OK (f_X6_takeLetters x1 x2 σ) (fun q => (q.2.1 = σ.1 ∧ CA σ q.2) ∧ ((∃ m, RUN isL (σ.1 1) (σ.1 2 2).toInt s m ∧ (m : Int) ≤ x2.toInt ∧ q.1.toInt = m ∧ q.2.2.1 2 7 = w5 (σ.1 1) s m) ∨ (∀ i : Nat, (i : Int) ≤ x2.toInt → isL (bt (σ.1 1) (σ.1 2 2).toInt (s + i))) ∧ q.1.toInt = x2.toInt + 1)) := by
  unfold f_X6_takeLetters
  have lu := FUi
  refine (a_takeLetters_7 x1 x2 (σ.1 1) (σ.1 2 2).toInt s hT8 hx1 hs hx2 hn2 FU 0 0 (stL σ 2 7 0) rfl rfl li_0 (by omega) ?_ (fun i hi => by omega) (by omega)).mono (fun q hq => ⟨⟨hq.1.1, (CA.rf.l).trans hq.1.2⟩, hq.2⟩)
  have e : min 0 x2.toInt.toNat = 0 := by omega
  rw [e]
  rfl
/-- a word's kind: one of those that mean something, or a name -/
def KP (t : ST) : Prop := ((t.1 2 4).toInt = 2 ∧ ∃ k : Nat, k < 15 ∧ (t.1 2 6).toInt = k ∧ t.2.1 3 k = t.2.1 2 7) ∨ ((t.1 2 4).toInt = 3 ∧ ∀ k : Nat, k < 15 → ¬ t.2.1 3 k = t.2.1 2 7)
theorem a_scanWord_45 : ∀ (f : Nat) (x2 : Int32) (σ : ST), (0 ≤ x2.toInt ∧ x2.toInt ≤ 15 ∧ (15 : Int) - x2.toInt < f) → (((σ.1 2 4).toInt = 2 ∧ ∃ k : Nat, (k : Int) < x2.toInt ∧ (σ.1 2 6).toInt = k ∧ σ.2.1 3 k = σ.2.1 2 7) ∨ ((σ.1 2 4).toInt = 3 ∧ ∀ k : Nat, (k : Int) < x2.toInt → ¬ σ.2.1 3 k = σ.2.1 2 7)) → OK (f_X6_scanWord_45 f x2 σ) (fun t => CA σ t ∧ KP t ∧ t.1 2 3 = σ.1 2 3 ∧ t.1 2 5 = σ.1 2 5 ∧ t.2 = σ.2) := by
  intro f
  induction f with
  | zero => intro x2 σ h1 h2; omega
  | succ f ih =>
    intro x2 σ hx hk
    rw [f_X6_scanWord_45]
    unfold f_X6_scanWord_75
    have lt_1 := li_1
    have lt_2 := li_2
    have l15 := li_15
    refine OK.ile (fun h => ?_) (fun h => ?_)
    · refine ⟨_, rfl, CA.rf, ?_, rfl, rfl, rfl⟩
      rcases hk with ⟨a, k, b, c, d⟩ | ⟨a, b⟩
      · exact .inl ⟨a, k, by omega, c, d⟩
      · exact .inr ⟨a, fun k hk => b k (by omega)⟩
    have e := il_addE (x := x2) (y := 1) (by omega) (by omega)
    have n2 := nN_ hx.1
    refine OK.grd ⟨by omega, by omega⟩ ?_
    refine OK.ite (fun h9 => ?_) (fun h9 => ?_)
    · rw [lg_cmp_eq] at h9
      refine (ih (x2 + 1) (stI (stI σ 2 4 2) 2 6 x2) (by omega) (.inl ⟨lt_2, x2.toNatClampNeg, by omega, n2.symm, h9⟩)).mono (fun t ht => ⟨((CA.rf.i (by decide)).i (by decide)).trans ht.1, ht.2.1, ht.2.2.1, ht.2.2.2.1, ht.2.2.2.2⟩)
    · rw [lg_cmp_eq] at h9
      refine ih (x2 + 1) σ (by omega) ?_
      rcases hk with ⟨a, k, b, c, d⟩ | ⟨a, b⟩
      · exact .inl ⟨a, k, by omega, c, d⟩
      · refine .inr ⟨a, fun k hk => ?_⟩
        by_cases e9 : (k : Int) < x2.toInt
        · exact b k e9
        · have : k = x2.toNatClampNeg := by omega
          rw [this]; exact h9
/-- the token that begins at a place -/
def TA_ (T : Nat → Int32) (n : Int) (s : Nat) (t : ST) : Prop := (t.1 2 5).toInt = s ∧
  ((bt T n s < 0 ∧ (t.1 2 4).toInt = 0) ∨
   (isL (bt T n s) ∧ ((∃ m, RUN isL T n s m ∧ m ≤ 8 ∧ (t.1 2 3).toInt = s + m ∧ t.2.1 2 7 = w5 T s m ∧ KP t) ∨ (∀ i : Nat, i ≤ 8 → isL (bt T n (s + i))) ∧ (t.1 2 4).toInt = 1)) ∨
   ((isD (bt T n s) ∨ bt T n s = 45) ∧ ∃ i, (bt T n s = 45 ∧ i = s + 1 ∨ ¬ bt T n s = 45 ∧ i = s) ∧
     ((∃ m, RUN isD T n i m ∧ (1 ≤ m ∧ m ≤ 18) ∧ (t.1 2 4).toInt = 4 ∧ t.2.1 2 8 = dv T i m ∧ ((t.1 2 9).toInt = 1 ∧ bt T n s = 45 ∨ (t.1 2 9).toInt = 0 ∧ ¬ bt T n s = 45) ∧ ((bt T n (i + m) = 46 ∧ isD (bt T n (i + m + 1)) ∧ ¬ isD (bt T n (i + m + 2)) ∧ (t.1 2 10).toInt = 1 ∧ (t.1 2 3).toInt = i + m + 2) ∨ (¬ bt T n (i + m) = 46 ∧ (t.1 2 10).toInt = 0 ∧ (t.1 2 3).toInt = i + m))) ∨
      ((t.1 2 4).toInt = 1 ∧ (¬ isD (bt T n i) ∨ (∀ j : Nat, j ≤ 18 → isD (bt T n (i + j))) ∨ ∃ m, RUN isD T n i m ∧ (1 ≤ m ∧ m ≤ 18) ∧ bt T n (i + m) = 46 ∧ (¬ isD (bt T n (i + m + 1)) ∨ isD (bt T n (i + m + 2))))))) ∨
   (bt T n s = 34 ∧ ((∃ m, RUN isL T n (s + 1) m ∧ m ≤ 12 ∧ bt T n (s + 1 + m) = 34 ∧ (t.1 2 4).toInt = 5 ∧ (t.1 2 3).toInt = s + 1 + m + 1) ∨ ((t.1 2 4).toInt = 1 ∧ ((∀ i : Nat, i ≤ 12 → isL (bt T n (s + 1 + i))) ∨ ∃ m, RUN isL T n (s + 1) m ∧ ¬ bt T n (s + 1 + m) = 34)))) ∨
   ((0 ≤ bt T n s ∧ ¬ isL (bt T n s) ∧ ¬ isD (bt T n s) ∧ ¬ bt T n s = 45 ∧ ¬ bt T n s = 34) ∧ (((bt T n s = 123 ∨ bt T n s = 125 ∨ bt T n s = 91 ∨ bt T n s = 93 ∨ bt T n s = 44 ∨ bt T n s = 59) ∧ (t.1 2 4).toInt = bt T n s ∧ (t.1 2 3).toInt = s + 1) ∨ (¬ (bt T n s = 123 ∨ bt T n s = 125 ∨ bt T n s = 91 ∨ bt T n s = 93 ∨ bt T n s = 44 ∨ bt T n s = 59) ∧ (t.1 2 4).toInt = 1))))
theorem a_scanWord (σ : ST) (s : Nat) (hT8 : ∀ i, bI (σ.1 1 i) (-128) 127) (h5 : (σ.1 2 5).toInt = s) (hs : s ≤ 1000) (hn2 : bI (σ.1 2 2) 0 1000) : OK (f_X6_scanWord σ) (fun t => CA σ t ∧ t.1 2 5 = σ.1 2 5 ∧ ((∃ m, RUN isL (σ.1 1) (σ.1 2 2).toInt s m ∧ m ≤ 8 ∧ (t.1 2 3).toInt = s + m ∧ t.2.1 2 7 = w5 (σ.1 1) s m ∧ KP t) ∨ (∀ i : Nat, i ≤ 8 → isL (bt (σ.1 1) (σ.1 2 2).toInt (s + i))) ∧ (t.1 2 4).toInt = 1)) := by
  unfold f_X6_scanWord
  have lt_0 := li_0
  have lt_1 := li_1
  have lt_3 := li_3
  have lt_8 := li_8
  have lu := FUi
  refine OK.bnd (a_takeLetters (σ.1 2 5) 8 σ s hT8 h5 (by omega) (by omega) hn2) (fun q hq => ?_)
  obtain ⟨⟨e1, cq⟩, hq⟩ := hq
  have e25 : q.2.1 2 5 = σ.1 2 5 := by rw [e1]
  rcases hq with ⟨m, hR, hm, hv, hw⟩ | ⟨hall, hv⟩
  · refine OK.ile (fun _ => ?_) (fun h => by omega)
    have e3 := il_addE (x := q.2.1 2 5) (y := q.1) (by rw [e25]; omega) (by rw [e25]; omega)
    refine (a_scanWord_45 FU 0 (stI (stI (stI q.2 2 3 (q.2.1 2 5 + q.1)) 2 4 3) 2 6 (-1)) (by omega) (.inr ⟨lt_3, fun k hk => by omega⟩)).mono (fun t ht => ?_)
    obtain ⟨ct, hK, t3, t5, t2⟩ := ht
    refine ⟨(cq.trans (((CA.rf.i (by decide)).i (by decide)).i (by decide))).trans ct, by rw [t5]; exact e25, .inl ⟨m, hR, by omega, ?_, ?_, hK⟩⟩
    · rw [t3]
      show (q.2.1 2 5 + q.1).toInt = _
      rw [e3, e25]
      omega
    · rw [t2]
      exact hw
  · refine OK.ile (fun h => by omega) (fun _ => ?_)
    exact ⟨_, rfl, cq.trans (CA.rf.i (by decide)), e25, .inr ⟨fun i hi => hall i (by omega), lt_1⟩⟩
theorem a_scanLettered (σ : ST) (s : Nat) (hT8 : ∀ i, bI (σ.1 1 i) (-128) 127) (h5 : (σ.1 2 5).toInt = s) (hs : s < 1000) (hn2 : bI (σ.1 2 2) 0 1000) : OK (f_X6_scanLettered σ) (fun t => CA σ t ∧ t.1 2 5 = σ.1 2 5 ∧ ((∃ m, RUN isL (σ.1 1) (σ.1 2 2).toInt (s + 1) m ∧ m ≤ 12 ∧ bt (σ.1 1) (σ.1 2 2).toInt (s + 1 + m) = 34 ∧ (t.1 2 4).toInt = 5 ∧ (t.1 2 3).toInt = s + 1 + m + 1) ∨ ((t.1 2 4).toInt = 1 ∧ ((∀ i : Nat, i ≤ 12 → isL (bt (σ.1 1) (σ.1 2 2).toInt (s + 1 + i))) ∨ ∃ m, RUN isL (σ.1 1) (σ.1 2 2).toInt (s + 1) m ∧ ¬ bt (σ.1 1) (σ.1 2 2).toInt (s + 1 + m) = 34)))) := by
  unfold f_X6_scanLettered f_X6_scanLettered_38
  have lt_1 := li_1
  have lt_5 := li_5
  have l12 := li_12
  have l34 := li_34
  have e51 := il_addE (x := σ.1 2 5) (y := 1) (by omega) (by omega)
  refine OK.bnd (a_takeLetters (σ.1 2 5 + 1) 12 σ (s + 1) hT8 (by omega) (by omega) (by omega) hn2) (fun q hq => ?_)
  obtain ⟨⟨e1, cq⟩, hq⟩ := hq
  have e25 : q.2.1 2 5 = σ.1 2 5 := by rw [e1]
  rcases hq with ⟨m, hR, hm, hv, hw⟩ | ⟨hall, hv⟩
  · refine OK.ilt (fun h => by omega) (fun _ => ?_)
    have e5 := il_addE (x := q.2.1 2 5) (y := 1) (by rw [e25]; omega) (by rw [e25]; omega)
    have e6 := il_addE (x := q.2.1 2 5 + 1) (y := q.1) (by rw [e5, e25]; omega) (by rw [e5, e25]; omega)
    rw [e25] at e5 e6
    have e7 := il_addE (x := σ.1 2 5 + 1 + q.1) (y := 1) (by omega) (by omega)
    rw [e25]
    have np : (σ.1 2 5 + 1 + q.1).toNatClampNeg = s + 1 + m := nC (by omega)
    have hsg := a_signAt (σ.1 2 5 + 1 + q.1) q.2 (by omega) (by rw [e1]; exact hn2)
    rw [np, e1] at hsg
    refine OK.bndR hsg (fun v hv2 => ?_)
    dsimp only
    have hsq := sg_eq (T := σ.1 1) (n := (σ.1 2 2).toInt) (k := s + 1 + m)
    have hv3 := hv2.1
    refine OK.ieq (fun h => ?_) (fun h => ?_)
    · refine ⟨_, rfl, cq.trans ((CA.rf.i (by decide)).i (by decide)), e25, .inl ⟨m, hR, by omega, by omega, lt_5, ?_⟩⟩
      show (σ.1 2 5 + 1 + q.1 + 1).toInt = _
      omega
    · exact ⟨_, rfl, cq.trans (CA.rf.i (by decide)), e25, .inr ⟨lt_1, .inr ⟨m, hR, by omega⟩⟩⟩
  · refine OK.ilt (fun _ => ?_) (fun h => by omega)
    exact ⟨_, rfl, cq.trans (CA.rf.i (by decide)), e25, .inr ⟨lt_1, .inl (fun i hi => hall i (by omega))⟩⟩
theorem dig64 {v : Int32} {w : Int64} (h : isD v.toInt) : w * 10 + (v - 48).toInt64 = 10 * w + v.toInt64 - 48 := by
  unfold isD at h
  have l48 := li_48
  have e1 := il_subE (x := v) (y := 48) (by omega) (by omega)
  have e2 : (v - 48).toInt64 = v.toInt64 - 48 := by
    refine Int64.toInt_inj.mp ?_
    rw [Int64.toInt_sub, i64, i64, e1]
    have l : (48 : Int64).toInt = 48 := by decide
    rw [l, l48]
    exact (Int.bmod_eq_of_le (by omega) (by omega)).symm
  rw [e2, Int64.mul_comm, Int64.sub_eq_add_neg, Int64.sub_eq_add_neg, Int64.add_assoc]
/-- what a number's scan leaves -/
def NA (T : Nat → Int32) (n : Int) (i : Nat) (t : ST) : Prop := ((∃ m, RUN isD T n i m ∧ (1 ≤ m ∧ m ≤ 18) ∧ (t.1 2 4).toInt = 4 ∧ t.2.1 2 8 = dv T i m ∧ ((bt T n (i + m) = 46 ∧ isD (bt T n (i + m + 1)) ∧ ¬ isD (bt T n (i + m + 2)) ∧ (t.1 2 10).toInt = 1 ∧ (t.1 2 3).toInt = i + m + 2) ∨ (¬ bt T n (i + m) = 46 ∧ (t.1 2 10).toInt = 0 ∧ (t.1 2 3).toInt = i + m))) ∨
      ((t.1 2 4).toInt = 1 ∧ (¬ isD (bt T n i) ∨ (∀ j : Nat, j ≤ 18 → isD (bt T n (i + j))) ∨ ∃ m, RUN isD T n i m ∧ (1 ≤ m ∧ m ≤ 18) ∧ bt T n (i + m) = 46 ∧ (¬ isD (bt T n (i + m + 1)) ∨ isD (bt T n (i + m + 2))))))
theorem a_scanNumber_119 (x1 x2 : Int32) (T : Nat → Int32) (n : Int) (i m : Nat) (σ : ST) (hT : σ.1 1 = T) (hn : (σ.1 2 2).toInt = n) (hn2 : 0 ≤ n ∧ n ≤ 1000) (h4 : (σ.1 2 4).toInt = 1) (h10 : (σ.1 2 10).toInt = 0) (hi : i ≤ 1001) (hx1 : x1.toInt = i + m) (hx2 : x2.toInt = m) (h8 : σ.2.1 2 8 = dv T i (min m 18)) (hD : ∀ j, j < m → isD (bt T n (i + j))) (hm : m ≤ 19) (hend : m = 19 ∨ ¬ isD (bt T n (i + m))) : OK (f_X6_scanNumber_119 x1 x2 σ) (fun t => CA σ t ∧ t.1 2 5 = σ.1 2 5 ∧ t.1 2 9 = σ.1 2 9 ∧ NA T n i t) := by
  unfold f_X6_scanNumber_119
  have lt_0 := li_0
  have lt_1 := li_1
  have lt_2 := li_2
  have lt_4 := li_4
  have l18 := li_18
  have l46 : (46 : Int32).toInt = 46 := by decide
  refine OK.ieq (fun h => ?_) (fun hm0 => ?_)
  · refine ⟨_, rfl, CA.rf, rfl, rfl, .inr ⟨h4, .inl ?_⟩⟩
    have e : m = 0 := by omega
    rcases hend with h9 | h9
    · omega
    · rw [e] at h9; exact h9
  refine OK.ile (fun hle => ?_) (fun hgt => ?_)
  rotate_left
  · exact ⟨_, rfl, CA.rf, rfl, rfl, .inr ⟨h4, .inr (.inl (fun j hj => hD j (by omega)))⟩⟩
  have hR : RUN isD T n i m := ⟨hD, by
    rcases hend with h9 | h9
    · omega
    · exact h9⟩
  have him : ((i + m : Nat) : Int) ≤ n := run_le isD_0 hR (by omega)
  have emn : min m 18 = m := by omega
  rw [emn] at h8
  have np : x1.toNatClampNeg = i + m := nC (by omega)
  have e1 := il_addE (x := x1) (y := 1) (by omega) (by omega)
  have e2 := il_addE (x := x1) (y := 2) (by omega) (by omega)
  have np1 : (x1 + 1).toNatClampNeg = i + m + 1 := nC (by omega)
  have np2 : (x1 + 2).toNatClampNeg = i + m + 2 := nC (by omega)
  have s0 := a_signAt x1 σ (by omega) ⟨by omega, by omega⟩
  rw [np, hT, hn] at s0
  have s1 := a_signAt (x1 + 1) σ (by omega) ⟨by omega, by omega⟩
  rw [np1, hT, hn] at s1
  have s2 := a_signAt (x1 + 2) σ (by omega) ⟨by omega, by omega⟩
  rw [np2, hT, hn] at s2
  refine OK.bndR s0 (fun v hv => ?_)
  dsimp only
  have hv1 := hv.1
  have q0 := sg_eq (T := T) (n := n) (k := i + m)
  unfold f_X6_scanNumber_189
  refine OK.ieq (fun h46 => ?_) (fun h46 => ?_)
  · refine OK.bndR s1 (fun v1 hw1 => ?_)
    dsimp only
    refine OK.bndR (a_isDigit _ _) (fun d1 hd1 => ?_)
    dsimp only
    rw [hw1.1, sgD] at hd1
    refine OK.ieq (fun h0 => ?_) (fun h0 => ?_)
    · refine ⟨_, rfl, CA.rf, rfl, rfl, .inr ⟨h4, .inr (.inr ⟨m, hR, by omega, by omega, .inl ?_⟩)⟩⟩
      rcases hd1 with h | h
      · exact h.2
      · omega
    have hD1 : isD (bt T n (i + m + 1)) := by
      rcases hd1 with h | h
      · omega
      · exact h.2
    refine OK.bndR s2 (fun v2 hw2 => ?_)
    dsimp only
    refine OK.bndR (a_isDigit _ _) (fun d2 hd2 => ?_)
    dsimp only
    rw [hw2.1, sgD] at hd2
    refine OK.ieq (fun h9 => ?_) (fun h9 => ?_)
    · have s1' := a_signAt (x1 + 1) (stI σ 2 10 1) (by omega) ⟨by show 0 ≤ (σ.1 2 2).toInt; omega, by show (σ.1 2 2).toInt ≤ 1000; omega⟩
      refine OK.bndR s1' (fun v3 hw3 => ?_)
      dsimp only
      refine ⟨_, rfl, (((CA.rf.i (by decide)).i (by decide)).i (by decide)).i (by decide), rfl, rfl, .inl ⟨m, hR, by omega, lt_4, h8, .inl ⟨by omega, hD1, ?_, lt_1, ?_⟩⟩⟩
      · rcases hd2 with h | h
        · exact h.2
        · omega
      · show (x1 + 2).toInt = _
        omega
    · refine ⟨_, rfl, CA.rf, rfl, rfl, .inr ⟨h4, .inr (.inr ⟨m, hR, by omega, by omega, .inr ?_⟩)⟩⟩
      rcases hd2 with h | h
      · omega
      · exact h.2
  · exact ⟨_, rfl, (CA.rf.i (by decide)).i (by decide), rfl, rfl, .inl ⟨m, hR, by omega, lt_4, h8, .inr ⟨by omega, h10, hx1⟩⟩⟩
theorem a_scanNumber_65 (T : Nat → Int32) (n : Int) (i : Nat) (hn2 : 0 ≤ n ∧ n ≤ 1000) (hi : i ≤ 1001) : ∀ (f m : Nat) (x1 x2 : Int32) (σ : ST), σ.1 1 = T → (σ.1 2 2).toInt = n → (σ.1 2 4).toInt = 1 → (σ.1 2 10).toInt = 0 → x1.toInt = i + m → x2.toInt = m → σ.2.1 2 8 = dv T i (min m 18) → (∀ j, j < m → isD (bt T n (i + j))) → m ≤ 19 → 20 < f + m → OK (f_X6_scanNumber_65 f x1 x2 σ) (fun t => CA σ t ∧ t.1 2 5 = σ.1 2 5 ∧ t.1 2 9 = σ.1 2 9 ∧ NA T n i t) := by
  intro f
  induction f with
  | zero => intro m x1 x2 σ h1 h2 h3 h4 h5 h6 h7 h8 h9 h10; omega
  | succ f ih =>
    intro m x1 x2 σ hT hn h4 h10 hx1 hx2 h8 hD hm hf
    rw [f_X6_scanNumber_65]
    unfold f_X6_scanNumber_110
    have lt_0 := li_0
    have lt_1 := li_1
    have l18 := li_18
    have np : x1.toNatClampNeg = i + m := nC (by omega)
    have e1 := il_addE (x := x1) (y := 1) (by omega) (by omega)
    have e2 := il_addE (x := x2) (y := 1) (by omega) (by omega)
    refine OK.ilt (fun h => a_scanNumber_119 x1 x2 T n i m σ hT hn hn2 h4 h10 hi hx1 hx2 h8 hD hm (.inl (by omega))) (fun h => ?_)
    have s0 := a_signAt x1 σ (by omega) ⟨by omega, by omega⟩
    rw [np, hT, hn] at s0
    refine OK.bndR s0 (fun v hv => ?_)
    dsimp only
    refine OK.bndR (a_isDigit _ _) (fun d hd => ?_)
    dsimp only
    rw [hv.1, sgD] at hd
    refine OK.ieq (fun h0 => a_scanNumber_119 x1 x2 T n i m σ hT hn hn2 h4 h10 hi hx1 hx2 h8 hD hm (.inr ?_)) (fun h0 => ?_)
    · rcases hd with h9 | h9
      · exact h9.2
      · omega
    have hd1 : isD (bt T n (i + m)) := by
      rcases hd with h9 | h9
      · omega
      · exact h9.2
    have hlt := (bt_rng (T := T) (n := n) (k := i + m)).2.2.mp (isD_0 _ hd1)
    have hD' : ∀ j, j < m + 1 → isD (bt T n (i + j)) := fun j hj => by
      by_cases e : j = m
      · rw [e]; exact hd1
      · exact hD j (by omega)
    refine OK.ile (fun hle => ?_) (fun hgt => ?_)
    · refine ih (m + 1) (x1 + 1) (x2 + 1) σ hT hn h4 h10 (by omega) (by omega) ?_ hD' (by omega) (by omega)
      rw [h8]
      congr 1
      omega
    · refine OK.bndR s0 (fun v2 hv2 => ?_)
      dsimp only
      have e3 : min m 18 = m := by omega
      have e4 : min (m + 1) 18 = m + 1 := by omega
      refine (ih (m + 1) (x1 + 1) (x2 + 1) (stL σ 2 8 (σ.2.1 2 8 * 10 + (v2 - 48).toInt64)) hT hn h4 h10 (by omega) (by omega) ?_ hD' (by omega) (by omega)).mono (fun t ht => ⟨(CA.rf.l).trans ht.1, ht.2⟩)
      show σ.2.1 2 8 * 10 + (v2 - 48).toInt64 = _
      have hdv : isD v2.toInt := by rw [hv2.1, sgD]; exact hd1
      rw [dig64 hdv, e4, dv, h8, e3, hv2.2 hlt]
theorem a_scanNumber (σ : ST) (s : Nat) (h5 : (σ.1 2 5).toInt = s) (hs : s < 1000) (hn2 : bI (σ.1 2 2) 0 1000) : OK (f_X6_scanNumber σ) (fun t => CA σ t ∧ t.1 2 5 = σ.1 2 5 ∧ ((bt (σ.1 1) (σ.1 2 2).toInt s = 45 ∧ (t.1 2 9).toInt = 1 ∧ NA (σ.1 1) (σ.1 2 2).toInt (s + 1) t) ∨ (¬ bt (σ.1 1) (σ.1 2 2).toInt s = 45 ∧ (t.1 2 9).toInt = 0 ∧ NA (σ.1 1) (σ.1 2 2).toInt s t))) := by
  unfold f_X6_scanNumber f_X6_scanNumber_19 f_X6_scanNumber_62
  have lt_0 := li_0
  have lt_1 := li_1
  have lu := FUi
  have l45 := li_45
  have np : (σ.1 2 5).toNatClampNeg = s := nC (by omega)
  have s0 := a_signAt (σ.1 2 5) σ (by omega) hn2
  rw [np] at s0
  have e1 := il_addE (x := σ.1 2 5) (y := 1) (by omega) (by omega)
  have hsq := sg_eq (T := σ.1 1) (n := (σ.1 2 2).toInt) (k := s)
  have c : ∀ y : Int32, CA σ (stI (stL (stI (stI (stI σ 2 9 y) 2 10 0) 2 11 0) 2 8 0) 2 4 1) := fun y => ((((CA.rf.i (by decide)).i (by decide)).i (by decide)).l).i (by decide)
  refine OK.bndR s0 (fun v hv => ?_)
  dsimp only
  have hv1 := hv.1
  refine OK.ieq (fun h => ?_) (fun h => ?_)
  · refine OK.grd (.inr rfl) ?_
    refine OK.ieq (fun h9 => by have h9 : (1 : Int32).toInt = (0 : Int32).toInt := h9; omega) (fun _ => ?_)
    refine (a_scanNumber_65 (σ.1 1) (σ.1 2 2).toInt (s + 1) hn2 (by omega) FU 0 _ 0 (stI (stL (stI (stI (stI σ 2 9 1) 2 10 0) 2 11 0) 2 8 0) 2 4 1) rfl rfl lt_1 lt_0 (by show (σ.1 2 5 + 1).toInt = _; omega) lt_0 rfl (fun j hj => by omega) (by omega) (by omega)).mono (fun t ht => ⟨(c 1).trans ht.1, ht.2.1, .inl ⟨by omega, ?_, ht.2.2.2⟩⟩)
    rw [ht.2.2.1]
    exact lt_1
  · refine OK.grd (.inl rfl) ?_
    refine OK.ieq (fun _ => ?_) (fun h9 => absurd rfl h9)
    refine (a_scanNumber_65 (σ.1 1) (σ.1 2 2).toInt s hn2 (by omega) FU 0 _ 0 (stI (stL (stI (stI (stI σ 2 9 0) 2 10 0) 2 11 0) 2 8 0) 2 4 1) rfl rfl lt_1 lt_0 (by show (σ.1 2 5).toInt = _; omega) lt_0 rfl (fun j hj => by omega) (by omega) (by omega)).mono (fun t ht => ⟨(c 0).trans ht.1, ht.2.1, .inr ⟨by omega, ?_, ht.2.2.2⟩⟩)
    rw [ht.2.2.1]
    exact lt_0
theorem a_advance_50 (σ : ST) (s : Nat) (hT8 : ∀ i, bI (σ.1 1 i) (-128) 127) (h3 : (σ.1 2 3).toInt = s) (hs : s ≤ 1030) (hn2 : bI (σ.1 2 2) 0 1000) : OK (f_X6_advance_50 σ) (fun t => CA σ t ∧ TA_ (σ.1 1) (σ.1 2 2).toInt s t) := by
  unfold f_X6_advance_50 f_X6_advance_113
  have lt_0 := li_0
  have lt_1 := li_1
  have l45 := li_45
  have l34 := li_34
  obtain ⟨n1, n2⟩ := hn2
  have z1 : (stI σ 2 5 (σ.1 2 3)).1 1 = σ.1 1 := rfl
  have z2 : (stI σ 2 5 (σ.1 2 3)).1 2 2 = σ.1 2 2 := rfl
  have z5 : (stI σ 2 5 (σ.1 2 3)).1 2 5 = σ.1 2 3 := rfl
  have cz : CA σ (stI σ 2 5 (σ.1 2 3)) := CA.rf.i (by decide)
  generalize stI σ 2 5 (σ.1 2 3) = z at z1 z2 z5 cz ⊢
  have z5' : (z.1 2 5).toInt = s := by rw [z5]; exact h3
  have np : (z.1 2 5).toNatClampNeg = s := nC z5'
  have s0 := a_signAt (z.1 2 5) z (by omega) (by rw [z2]; exact ⟨n1, n2⟩)
  rw [np, z1, z2] at s0
  refine OK.bndR s0 (fun c hc => ?_)
  dsimp only
  have hc1 := hc.1
  have hb := bt_rng (T := σ.1 1) (n := (σ.1 2 2).toInt) (k := s)
  have hsq := sg_eq (T := σ.1 1) (n := (σ.1 2 2).toInt) (k := s)
  have z2' : (z.1 2 2).toInt = (σ.1 2 2).toInt := by rw [z2]
  refine OK.ilt (fun hlt => ?_) (fun hge => ?_)
  rotate_left
  · refine ⟨_, rfl, cz.trans (CA.rf.i (by decide)), z5', .inl ⟨?_, lt_0⟩⟩
    have : ¬ (0 ≤ bt (σ.1 1) (σ.1 2 2).toInt s) := fun h9 => by have := hb.2.2.mp h9; omega
    omega
  have h0 := hb.2.2.mpr (by omega)
  have ec : c.toInt = bt (σ.1 1) (σ.1 2 2).toInt s := by omega
  have hs1 : s < 1000 := by omega
  refine OK.bndR (a_isLetter _ _) (fun q3 h3' => ?_)
  dsimp only
  rw [ec] at h3'
  have num : (isD (bt (σ.1 1) (σ.1 2 2).toInt s) ∨ bt (σ.1 1) (σ.1 2 2).toInt s = 45) → OK ((f_X6_scanNumber z).bind fun q => some q) (fun t => CA σ t ∧ TA_ (σ.1 1) (σ.1 2 2).toInt s t) := fun hd => by
    have hsn := a_scanNumber z s z5' hs1 (by rw [z2]; exact ⟨n1, n2⟩)
    rw [z1, z2] at hsn
    refine OK.bnd hsn (fun t ht => ?_)
    obtain ⟨ct, t5, ht⟩ := ht
    refine OK.ret ⟨cz.trans ct, by rw [t5]; exact z5', .inr (.inr (.inl ⟨hd, ?_⟩))⟩
    rcases ht with ⟨a, b, d⟩ | ⟨a, b, d⟩
    · refine ⟨s + 1, .inl ⟨a, rfl⟩, ?_⟩
      rcases d with ⟨m, d1, d2, d3, d4, d5⟩ | d
      · exact .inl ⟨m, d1, d2, d3, d4, .inl ⟨b, a⟩, d5⟩
      · exact .inr d
    · refine ⟨s, .inr ⟨a, rfl⟩, ?_⟩
      rcases d with ⟨m, d1, d2, d3, d4, d5⟩ | d
      · exact .inl ⟨m, d1, d2, d3, d4, .inr ⟨b, a⟩, d5⟩
      · exact .inr d
  refine OK.ieq (fun hl0 => ?_) (fun hl1 => ?_)
  · have hnl : ¬ isL (bt (σ.1 1) (σ.1 2 2).toInt s) := by
      rcases h3' with h | h
      · exact h.2
      · omega
    refine OK.ieq (fun h45 => num (.inr (by omega))) (fun h45 => ?_)
    refine OK.bndR (a_isDigit _ _) (fun q5 h5 => ?_)
    dsimp only
    rw [ec] at h5
    refine OK.ieq (fun hd0 => ?_) (fun hd1 => num (.inl ?_))
    rotate_left
    · rcases h5 with h | h
      · omega
      · exact h.2
    have hnd : ¬ isD (bt (σ.1 1) (σ.1 2 2).toInt s) := by
      rcases h5 with h | h
      · exact h.2
      · omega
    refine OK.ieq (fun h34 => ?_) (fun h34 => ?_)
    · have hsl := a_scanLettered z s (by rw [z1]; exact hT8) z5' hs1 (by rw [z2]; exact ⟨n1, n2⟩)
      rw [z1, z2] at hsl
      refine OK.bnd hsl (fun t ht => ?_)
      obtain ⟨ct, t5, ht⟩ := ht
      exact OK.ret ⟨cz.trans ct, by rw [t5]; exact z5', .inr (.inr (.inr (.inl ⟨by omega, ht⟩)))⟩
    · have ls : (123 : Int32).toInt = 123 ∧ (125 : Int32).toInt = 125 ∧ (91 : Int32).toInt = 91 ∧ (93 : Int32).toInt = 93 ∧ (44 : Int32).toInt = 44 ∧ (59 : Int32).toInt = 59 := by decide
      have e6 := il_addE (x := z.1 2 5) (y := 1) (by omega) (by omega)
      have sgn : (bt (σ.1 1) (σ.1 2 2).toInt s = 123 ∨ bt (σ.1 1) (σ.1 2 2).toInt s = 125 ∨ bt (σ.1 1) (σ.1 2 2).toInt s = 91 ∨ bt (σ.1 1) (σ.1 2 2).toInt s = 93 ∨ bt (σ.1 1) (σ.1 2 2).toInt s = 44 ∨ bt (σ.1 1) (σ.1 2 2).toInt s = 59) → OK (f_X6_advance_169 c z) (fun t => CA σ t ∧ TA_ (σ.1 1) (σ.1 2 2).toInt s t) := fun hsig => by
        unfold f_X6_advance_169
        refine ⟨_, rfl, cz.trans ((CA.rf.i (by decide)).i (by decide)), z5', .inr (.inr (.inr (.inr ⟨⟨h0, hnl, hnd, by omega, by omega⟩, .inl ⟨hsig, ec, ?_⟩⟩)))⟩
        show (z.1 2 5 + 1).toInt = _
        omega
      refine OK.ieq (fun _ => sgn (by omega)) (fun _ => ?_)
      refine OK.ieq (fun _ => sgn (by omega)) (fun _ => ?_)
      refine OK.ieq (fun _ => sgn (by omega)) (fun _ => ?_)
      refine OK.ieq (fun _ => sgn (by omega)) (fun _ => ?_)
      refine OK.ieq (fun _ => sgn (by omega)) (fun _ => ?_)
      refine OK.ieq (fun _ => sgn (by omega)) (fun _ => ?_)
      exact ⟨_, rfl, cz.trans (CA.rf.i (by decide)), z5', .inr (.inr (.inr (.inr ⟨⟨h0, hnl, hnd, by omega, by omega⟩, .inr ⟨by omega, lt_1⟩⟩)))⟩
  · have hL : isL (bt (σ.1 1) (σ.1 2 2).toInt s) := by
      rcases h3' with h | h
      · omega
      · exact h.2
    have hsw := a_scanWord z s (by rw [z1]; exact hT8) z5' (by omega) (by rw [z2]; exact ⟨n1, n2⟩)
    rw [z1, z2] at hsw
    refine OK.bnd hsw (fun t ht => ?_)
    obtain ⟨ct, t5, ht⟩ := ht
    exact OK.ret ⟨cz.trans ct, by rw [t5]; exact z5', .inr (.inl ⟨hL, ht⟩)⟩
theorem a_advance_0 (p : Nat) : ∀ (f k : Nat) (σ : ST), (∀ i, bI (σ.1 1 i) (-128) 127) → bI (σ.1 2 2) 0 1000 → (σ.1 2 3).toInt = k → p ≤ k → (∀ i, p ≤ i → i < k → isB (bt (σ.1 1) (σ.1 2 2).toInt i)) → ((k : Int) ≤ 1030) → 1030 < f + k → OK (f_X6_advance_0 f σ) (fun t => CA σ t ∧ ∃ s, SK (σ.1 1) (σ.1 2 2).toInt p s ∧ TA_ (σ.1 1) (σ.1 2 2).toInt s t) := by
  intro f
  induction f with
  | zero => intro k σ h1 h2 h3 h4 h5 h6 h7; omega
  | succ f ih =>
    intro k σ hT8 hn2 h3 hpk hB hk hf
    rw [f_X6_advance_0]
    unfold f_X6_advance_37
    have l32 := li_32
    have l10 := li_10
    have lt_1 := li_1
    have hn2' := hn2
    obtain ⟨n1, n2⟩ := hn2
    have np : (σ.1 2 3).toNatClampNeg = k := nC h3
    have hb := bt_rng (T := σ.1 1) (n := (σ.1 2 2).toInt) (k := k)
    have hsq := sg_eq (T := σ.1 1) (n := (σ.1 2 2).toInt) (k := k)
    have fin : ¬ isB (bt (σ.1 1) (σ.1 2 2).toInt k) → OK (f_X6_advance_50 σ) (fun t => CA σ t ∧ ∃ s, SK (σ.1 1) (σ.1 2 2).toInt p s ∧ TA_ (σ.1 1) (σ.1 2 2).toInt s t) := fun hnb => (a_advance_50 σ k hT8 h3 (by omega) hn2').mono (fun t ht => ⟨ht.1, k, ⟨hpk, hB, hnb⟩, ht.2⟩)
    refine OK.ile (fun hge => fin (fun h9 => ?_)) (fun hlt => ?_)
    · have := hb.2.2.mp (by unfold isB at h9; omega)
      omega
    have s0 := a_signAt (σ.1 2 3) σ (by omega) hn2'
    rw [np] at s0
    have e1 := il_addE (x := σ.1 2 3) (y := 1) (by omega) (by omega)
    have nx : isB (bt (σ.1 1) (σ.1 2 2).toInt k) → OK (f_X6_advance_0 f (stI σ 2 3 (σ.1 2 3 + 1))) (fun t => CA σ t ∧ ∃ s, SK (σ.1 1) (σ.1 2 2).toInt p s ∧ TA_ (σ.1 1) (σ.1 2 2).toInt s t) := fun hb9 => by
      refine (ih (k + 1) (stI σ 2 3 (σ.1 2 3 + 1)) hT8 hn2' (by show (σ.1 2 3 + 1).toInt = _; omega) (by omega) (fun i i1 i2 => ?_) (by omega) (by omega)).mono (fun t ht => ⟨(CA.rf.i (by decide)).trans ht.1, ht.2⟩)
      show isB (bt (σ.1 1) (σ.1 2 2).toInt i)
      by_cases e : i = k
      · rw [e]; exact hb9
      · exact hB i i1 (by omega)
    refine OK.bndR s0 (fun v hv => ?_)
    dsimp only
    have hv1 := hv.1
    refine OK.ieq (fun h => nx (.inl (by omega))) (fun h32 => ?_)
    refine OK.bndR s0 (fun v2 hv2 => ?_)
    dsimp only
    have hv3 := hv2.1
    refine OK.ieq (fun h => nx (.inr (by omega))) (fun h10 => fin (fun h9 => ?_))
    unfold isB at h9
    omega
theorem a_advance (σ : ST) (p : Nat) (hT8 : ∀ i, bI (σ.1 1 i) (-128) 127) (hn2 : bI (σ.1 2 2) 0 1000) (h3 : (σ.1 2 3).toInt = p) (hp : p ≤ 1030) : OK (f_X6_advance σ) (fun t => CA σ t ∧ ∃ s, SK (σ.1 1) (σ.1 2 2).toInt p s ∧ TA_ (σ.1 1) (σ.1 2 2).toInt s t) := by
  have lu := FUi
  exact a_advance_0 p FU p σ hT8 hn2 h3 (Nat.le_refl _) (fun i h1 h2 => by omega) (by omega) (by omega)
/-! the two tokens side by side -/
/-- an answer of both, told in the other order -/
theorem OK.sw {α β : Type} {a : Option α} {b : Option β} {P : α → β → Prop} (h : OK b (fun y => OK a (fun x => P x y))) : OK a (fun x => OK b (fun y => P x y)) := by
  obtain ⟨y, e, x, e2, h⟩ := h
  exact ⟨x, e2, y, e, h⟩
theorem OK.bnd2 {α β γ δ : Type} {a : Option α} {b : Option β} {f : α → Option γ} {g : β → Option δ} {Q : α → β → Prop} {P : γ → δ → Prop} (h : OK a (fun x => OK b (Q x))) (k : ∀ x y, Q x y → OK (f x) (fun u => OK (g y) (P u))) : OK (a.bind f) (fun u => OK (b.bind g) (P u)) := by
  obtain ⟨x, e, y, e2, h⟩ := h
  rw [e, e2]
  exact k x y h
theorem OK.mono2 {α β : Type} {a : Option α} {b : Option β} {P Q : α → β → Prop} (h : OK a (fun x => OK b (P x))) (k : ∀ x y, P x y → Q x y) : OK a (fun x => OK b (Q x)) := h.mono (fun x hx => hx.mono (fun y hy => k x y hy))
/-- the letters' two numbers -/
def n5 : Nat → (Nat → Nat) → Nat
  | 0, _ => 0
  | m + 1, g => g 0 + 32 * n5 m (fun i => g (i + 1))
def n27 (g : Nat → Nat) : Nat → Nat
  | 0 => 0
  | m + 1 => 27 * n27 g m + g m
def GL (g : Nat → Nat) (m : Nat) : Prop := ∀ i, i < m → 1 ≤ g i ∧ g i ≤ 26
theorem n5_last : ∀ (m : Nat) (g : Nat → Nat), n5 (m + 1) g = n5 m g + g m * 32 ^ m := by
  intro m
  induction m with
  | zero => intro g; show g 0 + 32 * 0 = 0 + g 0 * 1; omega
  | succ m ih =>
    intro g
    have e := ih (fun i => g (i + 1))
    show g 0 + 32 * n5 (m + 1) (fun i => g (i + 1)) = g 0 + 32 * n5 m (fun i => g (i + 1)) + g (m + 1) * 32 ^ (m + 1)
    rw [e, Nat.pow_succ]
    have e2 : g (m + 1) * (32 ^ m * 32) = 32 * (g (m + 1) * 32 ^ m) := by rw [← Nat.mul_assoc, Nat.mul_comm]
    rw [e2]
    show g 0 + 32 * (n5 m (fun i => g (i + 1)) + g (m + 1) * 32 ^ m) = _
    generalize g (m + 1) * 32 ^ m = y
    omega
theorem n5_lt : ∀ (m : Nat) (g : Nat → Nat), GL g m → n5 m g < 32 ^ m := by
  intro m
  induction m with
  | zero => intro g h; show 0 < 1; omega
  | succ m ih =>
    intro g h
    have e := ih (fun i => g (i + 1)) (fun i hi => h (i + 1) (by omega))
    have h0 := h 0 (by omega)
    show g 0 + 32 * n5 m (fun i => g (i + 1)) < 32 ^ (m + 1)
    rw [Nat.pow_succ]
    omega
theorem n27_lt : ∀ (m : Nat) (g : Nat → Nat), GL g m → n27 g m < 27 ^ m := by
  intro m
  induction m with
  | zero => intro g h; show 0 < 1; omega
  | succ m ih =>
    intro g h
    have e := ih g (fun i hi => h i (by omega))
    have h0 := h m (by omega)
    show 27 * n27 g m + g m < 27 ^ (m + 1)
    rw [Nat.pow_succ]
    omega
theorem n5_inj : ∀ (m k : Nat) (g h : Nat → Nat), GL g m → GL h k → n5 m g = n5 k h → m = k ∧ ∀ i, i < m → g i = h i := by
  intro m
  induction m with
  | zero =>
    intro k g h _ hk e
    cases k with
    | zero => exact ⟨rfl, fun i hi => by omega⟩
    | succ k =>
      have h0 := hk 0 (by omega)
      have e : 0 = h 0 + 32 * n5 k (fun i => h (i + 1)) := e
      omega
  | succ m ih =>
    intro k g h hg hk e
    have g0 := hg 0 (by omega)
    cases k with
    | zero =>
      have e : g 0 + 32 * n5 m (fun i => g (i + 1)) = 0 := e
      omega
    | succ k =>
      have h0 := hk 0 (by omega)
      have e : g 0 + 32 * n5 m (fun i => g (i + 1)) = h 0 + 32 * n5 k (fun i => h (i + 1)) := e
      obtain ⟨e1, e2⟩ := ih k (fun i => g (i + 1)) (fun i => h (i + 1)) (fun i hi => hg (i + 1) (by omega)) (fun i hi => hk (i + 1) (by omega)) (by omega)
      refine ⟨by omega, fun i hi => ?_⟩
      cases i with
      | zero => omega
      | succ i => exact e2 i (by omega)
theorem n27_inj : ∀ (m k : Nat) (g h : Nat → Nat), GL g m → GL h k → n27 g m = n27 h k → m = k ∧ ∀ i, i < m → g i = h i := by
  intro m
  induction m with
  | zero =>
    intro k g h _ hk e
    cases k with
    | zero => exact ⟨rfl, fun i hi => by omega⟩
    | succ k =>
      have h0 := hk k (by omega)
      have e : 0 = 27 * n27 h k + h k := e
      omega
  | succ m ih =>
    intro k g h hg hk e
    have g0 := hg m (by omega)
    cases k with
    | zero =>
      have e : 27 * n27 g m + g m = 0 := e
      omega
    | succ k =>
      have h0 := hk k (by omega)
      have e : 27 * n27 g m + g m = 27 * n27 h k + h k := e
      obtain ⟨e1, e2⟩ := ih k g h (fun i hi => hg i (by omega)) (fun i hi => hk i (by omega)) (by omega)
      refine ⟨by omega, fun i hi => ?_⟩
      by_cases e9 : i = m
      · have e3 : g m = h k := by omega
        rw [e9, e3, e1]
      · exact e2 i (by omega)
theorem n5_ext : ∀ (m : Nat) (g h : Nat → Nat), (∀ i, i < m → g i = h i) → n5 m g = n5 m h := by
  intro m
  induction m with
  | zero => intro g h _; rfl
  | succ m ih =>
    intro g h e
    show g 0 + 32 * _ = h 0 + 32 * _
    rw [e 0 (by omega), ih _ _ (fun i hi => e (i + 1) (by omega))]
theorem n27_ext (g h : Nat → Nat) : ∀ (m : Nat), (∀ i, i < m → g i = h i) → n27 g m = n27 h m := by
  intro m
  induction m with
  | zero => intro _; rfl
  | succ m ih =>
    intro e
    show 27 * n27 g m + g m = 27 * n27 h m + h m
    rw [e m (by omega), ih (fun i hi => e i (by omega))]
/-- one word, the class's number and the reference's -/
def WL (x y : Int64) : Prop := ∃ (m : Nat) (g : Nat → Nat), m ≤ 8 ∧ GL g m ∧ x.toInt = (n5 m g : Int) ∧ y.toInt = (n27 g m : Int)
theorem WL.iff {x y u v : Int64} (h : WL x y) (k : WL u v) : x = u ↔ y = v := by
  obtain ⟨m, g, _, hg, e1, e2⟩ := h
  obtain ⟨l, f, _, hf, e3, e4⟩ := k
  constructor
  · intro e
    rw [e] at e1
    obtain ⟨a, b⟩ := n5_inj m l g f hg hf (by omega)
    subst a
    have := n27_ext g f m b
    exact Int64.toInt_inj.mp (by omega)
  · intro e
    rw [e] at e2
    obtain ⟨a, b⟩ := n27_inj m l g f hg hf (by omega)
    subst a
    have := n5_ext m g f b
    exact Int64.toInt_inj.mp (by omega)
theorem sh5 : ∀ (k : Nat), k < 8 → ∀ a : Int64, (a <<< ((5 * Int32.ofNat k).toInt64 &&& 63)).toBitVec = a.toBitVec <<< (5 * k)
  | 0, _, _ => rfl
  | 1, _, _ => rfl
  | 2, _, _ => rfl
  | 3, _, _ => rfl
  | 4, _, _ => rfl
  | 5, _, _ => rfl
  | 6, _, _ => rfl
  | 7, _, _ => rfl
  | k + 8, h, _ => by omega
theorem nat64 {z : Int64} {N : Nat} (h : z.toInt = (N : Int)) : z.toBitVec.toNat = N := by
  have h2 : z.toInt = z.toBitVec.toInt := rfl
  rw [h2, BitVec.toInt_eq_toNat_cond] at h
  have := z.toBitVec.isLt
  split at h <;> omega
theorem or64 {x a z : Int64} {X A k : Nat} (hx : x.toInt = (X : Int)) (ha : a.toInt = (A : Int)) (hA : A ≤ 26) (hk : k < 8) (hX : X < 32 ^ k) (hz : z.toBitVec = a.toBitVec <<< (5 * k)) : (x ||| z).toInt = ((X + A * 32 ^ k : Nat) : Int) := by
  have e32 : (32 : Nat) ^ k = 2 ^ (5 * k) := by rw [Nat.pow_mul]
  rw [e32] at hX ⊢
  have p1 : 2 ^ (5 * k) ≤ 2 ^ 35 := Nat.pow_le_pow_right (by omega) (by omega)
  have p2 : (2 : Nat) ^ 35 = 34359738368 := by decide
  have e1 := nat64 hx
  have e2 := nat64 ha
  have hm : A * 2 ^ (5 * k) ≤ 26 * 34359738368 := by
    rw [← p2]
    exact Nat.mul_le_mul hA p1
  have e3 : (x ||| z).toBitVec.toNat = X + A * 2 ^ (5 * k) := by
    show (x.toBitVec ||| z.toBitVec).toNat = _
    rw [hz, BitVec.toNat_or, BitVec.toNat_shiftLeft, e1, e2, Nat.shiftLeft_eq]
    have : A * 2 ^ (5 * k) % 2 ^ 64 = A * 2 ^ (5 * k) := Nat.mod_eq_of_lt (by omega)
    rw [this, Nat.or_comm, Nat.mul_comm A, ← Nat.two_pow_add_eq_or_of_lt hX, Nat.add_comm]
  show (x ||| z).toBitVec.toInt = _
  rw [BitVec.toInt_eq_toNat_of_lt (by rw [e3]; omega), e3]
/-- the letters of the text from there on -/
def gT (T : Nat → Int32) (s : Nat) (i : Nat) : Nat := ((T (s + i)).toInt % 256).toNat - 96
theorem gT_L {T : Nat → Int32} {n : Int} {s m : Nat} (h : ∀ i, i < m → isL (bt T n (s + i))) : GL (gT T s) m ∧ ∀ i, i < m → (T (s + i)).toInt % 256 = (gT T s i : Int) + 96 := by
  have z : ∀ i, i < m → 97 ≤ (T (s + i)).toInt % 256 ∧ (T (s + i)).toInt % 256 ≤ 122 := fun i hi => by
    have a := h i hi
    unfold isL bt at a
    split at a <;> omega
  refine ⟨fun i hi => ?_, fun i hi => ?_⟩
  · have := z i hi
    unfold gT
    omega
  · have := z i hi
    unfold gT
    omega
theorem w5_n {T : Nat → Int32} {n : Int} {s : Nat} (hT8 : ∀ i, bI (T i) (-128) 127) : ∀ m, m ≤ 8 → (∀ i, i < m → isL (bt T n (s + i))) → (w5 T s m).toInt = (n5 m (gT T s) : Int) := by
  intro m
  induction m with
  | zero => intro _ _; rfl
  | succ m ih =>
    intro hm hL
    have e := ih (by omega) (fun i hi => hL i (by omega))
    obtain ⟨g1, g2⟩ := gT_L hL
    have b1 := g1 m (by omega)
    have b2 := g2 m (by omega)
    obtain ⟨t1, t2⟩ := hT8 (s + m)
    have l1 := li_1
    have l97 := li_97
    have a1 := il_subE (x := T (s + m)) (y := 97) (by omega) (by omega)
    have a2 := il_addE (x := T (s + m) - 97) (y := 1) (by omega) (by omega)
    rw [n5_last]
    exact or64 (k := m) e (by rw [i64, a2, a1]; omega) b1.2 (by omega) (n5_lt m _ (fun i hi => g1 i (by omega))) (sh5 m (by omega) _)
theorem w27_n {T : Nat → Int32} {n : Int} {s : Nat} : ∀ m, m ≤ 8 → (∀ i, i < m → isL (bt T n (s + i))) → (w27 T s m).toInt = (n27 (gT T s) m : Int) := by
  intro m
  induction m with
  | zero => intro _ _; rfl
  | succ m ih =>
    intro hm hL
    have e := ih (by omega) (fun i hi => hL i (by omega))
    obtain ⟨g1, g2⟩ := gT_L hL
    have b1 := g1 m (by omega)
    have b2 := g2 m (by omega)
    have hl := n27_lt m (gT T s) (fun i hi => g1 i (by omega))
    have p1 : (27 : Nat) ^ m ≤ 27 ^ 8 := Nat.pow_le_pow_right (by omega) (by omega)
    have p2 : (27 : Nat) ^ 8 = 282429536481 := by decide
    rw [p2] at p1
    have l27 : (27 : Int64).toInt = 27 := by decide
    have l96 : (96 : Int64).toInt = 96 := by decide
    have c1 : (27 * w27 T s m).toInt = 27 * (n27 (gT T s) m : Int) := by
      rw [Int64.toInt_mul, l27, e]
      exact Int.bmod_eq_of_le (by omega) (by omega)
    have c2 : (27 * w27 T s m + (T (s + m) &&& 255).toInt64).toInt = 27 * (n27 (gT T s) m : Int) + ((gT T s m : Int) + 96) := by
      rw [Int64.toInt_add, c1, i64, and255, b2]
      exact Int.bmod_eq_of_le (by omega) (by omega)
    show (27 * w27 T s m + (T (s + m) &&& 255).toInt64 - 96).toInt = ((27 * n27 (gT T s) m + gT T s m : Nat) : Int)
    rw [Int64.toInt_sub, c2, l96]
    rw [Int.bmod_eq_of_le (by omega) (by omega)]
    omega
theorem WL.mk {T : Nat → Int32} {n : Int} {s m : Nat} (hT8 : ∀ i, bI (T i) (-128) 127) (hm : m ≤ 8) (hL : ∀ i, i < m → isL (bt T n (s + i))) : WL (w5 T s m) (w27 T s m) := ⟨m, gT T s, hm, (gT_L hL).1, w5_n hT8 m hm hL, w27_n m hm hL⟩
/-- the words that mean something -/
def kwL : List (List Nat) := [[16, 12, 1, 14], [18, 5, 3, 15, 18, 4], [23, 1, 19], [5, 12, 19, 5], [12, 9, 19, 20], [5, 9, 20, 8, 5, 18], [15, 18], [14, 15, 14, 5], [6, 12, 1, 7], [9, 14, 20], [12, 15, 14, 7], [18, 5, 1, 12], [20, 5, 24, 20], [25, 5, 19], [14, 15]]
def kwG (k i : Nat) : Nat := (kwL.getD k []).getD i 0
def kwM (k : Nat) : Nat := (kwL.getD k []).length
def kwV (k : Nat) : Int64 := KB.getD k 0
theorem kw_A : ∀ k, k < 15 → (kw0 k).toInt = (n5 (kwM k) (kwG k) : Int) := by decide +kernel
theorem kw_B : ∀ k, k < 15 → (kwV k).toInt = (n27 (kwG k) (kwM k) : Int) := by decide +kernel
theorem kw_G : ∀ k, k < 15 → kwM k ≤ 8 ∧ ∀ i, i < kwM k → 1 ≤ kwG k i ∧ kwG k i ≤ 26 := by decide +kernel
theorem kw_W (k : Nat) (hk : k < 15) : WL (kw0 k) (kwV k) := ⟨kwM k, kwG k, (kw_G k hk).1, (kw_G k hk).2, kw_A k hk, kw_B k hk⟩
theorem kw_ne : ∀ j, j < 15 → ∀ k, k < 15 → kwV j = kwV k → j = k := by decide +kernel
/-- the token of both -/
def TK (σ τ : ST) : Prop := (σ.1 2 5).toInt = (τ.1 0 4).toInt ∧
  (((σ.1 2 4).toInt = 0 ∧ (τ.1 0 6).toInt = 0 ∧ (τ.1 0 13).toInt = 0) ∨
   ((σ.1 2 4).toInt = 1 ∧ (τ.1 0 13).toInt = 0 ∧ ((τ.1 0 6).toInt = 5 ∨ (τ.1 0 6).toInt = 2 ∧ ∃ k : Nat, (τ.1 0 5).toInt = k ∧ bt (τ.1 1) (τ.1 0 3).toInt k = 46)) ∨
   ((τ.1 0 6).toInt = 1 ∧ (τ.1 0 13).toInt = 0 ∧ σ.1 2 3 = τ.1 0 5 ∧ WL (σ.2.1 2 7) (τ.2.1 0 7) ∧ (((σ.1 2 4).toInt = 2 ∧ ∃ k : Nat, k < 15 ∧ (σ.1 2 6).toInt = k ∧ τ.2.1 0 7 = kwV k) ∨ ((σ.1 2 4).toInt = 3 ∧ NM τ))) ∨
   ((σ.1 2 4).toInt = 4 ∧ (τ.1 0 6).toInt = 2 ∧ (τ.1 0 13).toInt = 0 ∧ σ.1 2 3 = τ.1 0 5 ∧ σ.1 2 10 = τ.1 0 10 ∧ ((σ.1 2 9).toInt = 1 ∧ τ.2.1 0 9 = -(σ.2.1 2 8) ∨ (σ.1 2 9).toInt = 0 ∧ τ.2.1 0 9 = σ.2.1 2 8)) ∨
   ((σ.1 2 4).toInt = 5 ∧ (τ.1 0 6).toInt = 3 ∧ (τ.1 0 13).toInt = 0 ∧ σ.1 2 3 = τ.1 0 5) ∨
   (((σ.1 2 4).toInt = 123 ∨ (σ.1 2 4).toInt = 125 ∨ (σ.1 2 4).toInt = 91 ∨ (σ.1 2 4).toInt = 93 ∨ (σ.1 2 4).toInt = 44 ∨ (σ.1 2 4).toInt = 59) ∧ (τ.1 0 6).toInt = 4 ∧ (τ.1 0 13).toInt = (σ.1 2 4).toInt ∧ σ.1 2 3 = τ.1 0 5))
theorem kwV_mem : ∀ k, k < 15 → kwV k ∈ KB := by decide +kernel
theorem mem_kwV : ∀ V, V ∈ KB → ∃ k, k < 15 ∧ V = kwV k := by
  intro V hV
  simp only [KB, List.mem_cons, List.not_mem_nil, or_false] at hV
  rcases hV with h | h | h | h | h | h | h | h | h | h | h | h | h | h | h
  · exact ⟨0, by omega, h⟩
  · exact ⟨1, by omega, h⟩
  · exact ⟨2, by omega, h⟩
  · exact ⟨3, by omega, h⟩
  · exact ⟨4, by omega, h⟩
  · exact ⟨5, by omega, h⟩
  · exact ⟨6, by omega, h⟩
  · exact ⟨7, by omega, h⟩
  · exact ⟨8, by omega, h⟩
  · exact ⟨9, by omega, h⟩
  · exact ⟨10, by omega, h⟩
  · exact ⟨11, by omega, h⟩
  · exact ⟨12, by omega, h⟩
  · exact ⟨13, by omega, h⟩
  · exact ⟨14, by omega, h⟩
theorem TK.num {T : Nat → Int32} {n : Int} {s i : Nat} {σ τ : ST} {neg : Prop} (hT : τ.1 1 = T) (hn : (τ.1 0 3).toInt = n) (h5 : (σ.1 2 5).toInt = (τ.1 0 4).toInt) (hD : isD (bt T n i)) (hneg : neg ↔ bt T n s = 45) (hB : ∃ m, NB T n i m neg τ)
    (hA : (∃ m, RUN isD T n i m ∧ (1 ≤ m ∧ m ≤ 18) ∧ (σ.1 2 4).toInt = 4 ∧ σ.2.1 2 8 = dv T i m ∧ ((σ.1 2 9).toInt = 1 ∧ bt T n s = 45 ∨ (σ.1 2 9).toInt = 0 ∧ ¬ bt T n s = 45) ∧ ((bt T n (i + m) = 46 ∧ isD (bt T n (i + m + 1)) ∧ ¬ isD (bt T n (i + m + 2)) ∧ (σ.1 2 10).toInt = 1 ∧ (σ.1 2 3).toInt = i + m + 2) ∨ (¬ bt T n (i + m) = 46 ∧ (σ.1 2 10).toInt = 0 ∧ (σ.1 2 3).toInt = i + m))) ∨
      ((σ.1 2 4).toInt = 1 ∧ (¬ isD (bt T n i) ∨ (∀ j : Nat, j ≤ 18 → isD (bt T n (i + j))) ∨ ∃ m, RUN isD T n i m ∧ (1 ≤ m ∧ m ≤ 18) ∧ bt T n (i + m) = 46 ∧ (¬ isD (bt T n (i + m + 1)) ∨ isD (bt T n (i + m + 2)))))) : TK σ τ := by
  obtain ⟨k, hR, h13, h9, hB⟩ := hB
  refine ⟨h5, ?_⟩
  rcases hA with ⟨m, hm, hm2, h4, h8, hsg, hA⟩ | ⟨h4, hA⟩
  · have e := hm.uniq hR
    subst e
    have emn : min m 18 = m := by omega
    rw [emn] at h9
    have hv : ((σ.1 2 9).toInt = 1 ∧ τ.2.1 0 9 = -(σ.2.1 2 8) ∨ (σ.1 2 9).toInt = 0 ∧ τ.2.1 0 9 = σ.2.1 2 8) := by
      rw [h8]
      rcases hsg with ⟨a, b⟩ | ⟨a, b⟩
      · rcases h9 with ⟨c, d⟩ | ⟨c, d⟩
        · exact .inl ⟨a, d⟩
        · exact absurd (hneg.mpr b) c
      · rcases h9 with ⟨c, d⟩ | ⟨c, d⟩
        · exact absurd (hneg.mp c) b
        · exact .inr ⟨a, d⟩
    refine .inr (.inr (.inr (.inl ⟨h4, ?_, h13, ?_, ?_, hv⟩)))
    · rcases hA with ⟨a1, a2, a3, a4, a5⟩ | ⟨a1, a4, a5⟩
      · rcases hB with ⟨b1, b2, b3, b4, b5⟩ | ⟨b1, b3, b4, b5⟩
        · rcases b5 with ⟨b5, _⟩ | ⟨_, b6⟩
          · exact b5
          · exact absurd ⟨by omega, a3⟩ b6
        · exact absurd ⟨a1, a2⟩ b1
      · rcases hB with ⟨b1, b2, b3, b4, b5⟩ | ⟨b1, b3, b4, b5⟩
        · exact absurd b1 a1
        · omega
    · refine Int32.toInt_inj.mp ?_
      rcases hA with ⟨a1, a2, a3, a4, a5⟩ | ⟨a1, a4, a5⟩
      · rcases hB with ⟨b1, b2, b3, b4, b5⟩ | ⟨b1, b3, b4, b5⟩
        · omega
        · exact absurd ⟨a1, a2⟩ b1
      · rcases hB with ⟨b1, b2, b3, b4, b5⟩ | ⟨b1, b3, b4, b5⟩
        · exact absurd b1 a1
        · omega
    · refine Int32.toInt_inj.mp ?_
      rcases hA with ⟨a1, a2, a3, a4, a5⟩ | ⟨a1, a4, a5⟩
      · rcases hB with ⟨b1, b2, b3, b4, b5⟩ | ⟨b1, b3, b4, b5⟩
        · omega
        · exact absurd ⟨a1, a2⟩ b1
      · rcases hB with ⟨b1, b2, b3, b4, b5⟩ | ⟨b1, b3, b4, b5⟩
        · exact absurd b1 a1
        · omega
  · refine .inr (.inl ⟨h4, h13, ?_⟩)
    rcases hA with hA | hA | ⟨m, hm, hm2, a1, a2⟩
    · exact absurd hD hA
    · have hk : ¬ k ≤ 18 := fun h => hR.2 (hA k h)
      rcases hB with ⟨b1, b2, b3, b4, b5⟩ | ⟨b1, b3, b4, b5⟩
      · rcases b5 with ⟨_, b6, _⟩ | ⟨b5, _⟩
        · exact absurd b6 hk
        · exact .inl b5
      · exact .inl (by omega)
    · have e := hm.uniq hR
      subst e
      rcases hB with ⟨b1, b2, b3, b4, b5⟩ | ⟨b1, b3, b4, b5⟩
      · rcases b5 with ⟨_, _, b6⟩ | ⟨b5, _⟩
        · rcases a2 with a2 | a2
          · exact absurd b2 a2
          · exact absurd a2 b6
        · exact .inl b5
      · refine .inr ⟨by omega, i + m, by omega, ?_⟩
        rw [hT, hn]
        exact a1
theorem TK.mk {T : Nat → Int32} {n : Int} {s : Nat} {σ τ : ST} (hT8 : ∀ i, bI (T i) (-128) 127) (hk : σ.2.1 3 = kw0) (hT : τ.1 1 = T) (hn : (τ.1 0 3).toInt = n) (hA : TA_ T n s σ) (hB : TB_ T n s τ) : TK σ τ := by
  obtain ⟨a5, hA⟩ := hA
  obtain ⟨b4, hB⟩ := hB
  have h5 : (σ.1 2 5).toInt = (τ.1 0 4).toInt := by omega
  have hb := bt_rng (T := T) (n := n) (k := s)
  rcases hA with hA | hA | hA | hA | hA
  · -- the end
    rcases hB with hB | hB | hB | hB | hB
    · exact ⟨h5, .inl ⟨hA.2, hB.2.1, hB.2.2.1⟩⟩
    · have := hB.1; unfold isL at this; omega
    · have := hB.1; unfold isD at this; omega
    · omega
    · omega
  · -- a word
    have hL := hA.1
    have hL' := hL
    unfold isL at hL'
    rcases hB with hB | hB | hB | hB | hB
    · omega
    · obtain ⟨_, b13, m, hR, b5, b8, b7, b6⟩ := hB
      refine ⟨h5, ?_⟩
      rcases hA.2 with ⟨k, hR2, hk8, a3, a7, hK⟩ | ⟨hall, a4⟩
      · have e := hR.uniq hR2
        subst e
        have e8 : min m 8 = m := by omega
        rw [e8] at b7
        have hw : WL (σ.2.1 2 7) (τ.2.1 0 7) := by
          rw [a7, b7]
          exact WL.mk hT8 hk8 hR.1
        refine .inr (.inr (.inl ⟨by omega, b13, Int32.toInt_inj.mp (by omega), hw, ?_⟩))
        rcases hK with ⟨k4, k, k1, k2, k3⟩ | ⟨k4, k3⟩
        · rw [hk] at k3
          exact .inl ⟨k4, k, k1, k2, ((kw_W k k1).iff hw).mp k3 |>.symm⟩
        · refine .inr ⟨k4, by omega, fun V hV e9 => ?_⟩
          obtain ⟨k, k1, k2⟩ := mem_kwV V hV
          refine k3 k k1 ?_
          rw [hk]
          exact ((kw_W k k1).iff hw).mpr (by rw [e9, k2])
      · have hm : ¬ m ≤ 8 := fun h => hR.2 (hall m h)
        exact .inr (.inl ⟨a4, b13, .inl (by omega)⟩)
    · have := hB.1; unfold isD at this; omega
    · omega
    · exact absurd hL hB.1.2.1
  · -- a number
    obtain ⟨hd, i, hi, hA⟩ := hA
    have hd' := hd
    unfold isD at hd'
    rcases hB with hB | hB | hB | hB | hB
    · omega
    · have := hB.1; unfold isL at this; omega
    · obtain ⟨hbd, hN⟩ := hB
      rcases hN with ⟨c, hN⟩ | ⟨c, hN⟩
      · have ei : i = s + 1 := by clear hA; omega
        subst ei
        refine TK.num hT hn h5 ?_ ⟨fun _ => c, fun _ => trivial⟩ hN hA
        rcases hbd with h | h
        · unfold isD at h; omega
        · exact h.2
      · have ei : i = s := by clear hA; omega
        subst ei
        refine TK.num hT hn h5 ?_ ⟨fun h => h.elim, fun h => c h⟩ hN hA
        rcases hbd with h | h
        · exact h
        · exact absurd h.1 c
    · omega
    · obtain ⟨⟨c0, c1, c2, c3, c4⟩, b5, hB⟩ := hB
      have c45 : bt T n s = 45 := by
        rcases hd with h | h
        · exact absurd h c2
        · exact h
      have ei : i = s + 1 := by clear hA; omega
      subst ei
      have hnd : ¬ isD (bt T n (s + 1)) := fun h => c3 ⟨c45, h⟩
      have hbad : (τ.1 0 6).toInt = 5 ∧ (τ.1 0 13).toInt = 0 := by clear hA; omega
      refine ⟨h5, .inr (.inl ⟨?_, hbad.2, .inl hbad.1⟩)⟩
      rcases hA with ⟨m, hm, hm2, _⟩ | ⟨h4, _⟩
      · exact absurd (hm.1 0 (by omega)) hnd
      · exact h4
  · -- letters in marks
    obtain ⟨h34, hA⟩ := hA
    rcases hB with hB | hB | hB | hB | hB
    · omega
    · have := hB.1; unfold isL at this; omega
    · have := hB.1; unfold isD at this; omega
    · obtain ⟨_, b13, k, hR, b5, b8, b6⟩ := hB
      refine ⟨h5, ?_⟩
      rcases hA with ⟨m, hm, hm2, a34, a4, a3⟩ | ⟨a4, hA⟩
      · have e := hm.uniq hR
        subst e
        rcases b6 with ⟨b6, _⟩ | ⟨b6, b7⟩
        · exact .inr (.inr (.inr (.inr (.inl ⟨a4, b6, b13, Int32.toInt_inj.mp (by omega)⟩))))
        · exact absurd ⟨hm2, a34⟩ b7
      · refine .inr (.inl ⟨a4, b13, .inl ?_⟩)
        rcases b6 with ⟨b6, b7, b9⟩ | ⟨b6, b7⟩
        · rcases hA with hA | ⟨m, hm, hm2⟩
          · exact absurd (hA k b7) hR.2
          · have e := hm.uniq hR
            subst e
            exact absurd b9 hm2
        · exact b6
    · exact absurd h34 hB.1.2.2.2.2
  · -- a sign
    obtain ⟨⟨c0, c1, c2, c3, c4⟩, hA⟩ := hA
    rcases hB with hB | hB | hB | hB | hB
    · omega
    · exact absurd hB.1 c1
    · rcases hB.1 with h | h
      · exact absurd h c2
      · exact absurd h.1 c3
    · omega
    · obtain ⟨_, b5, hB⟩ := hB
      refine ⟨h5, ?_⟩
      rcases hA with ⟨s1, a4, a3⟩ | ⟨s1, a4⟩
      · rcases hB with ⟨_, b6, b13⟩ | ⟨s2, _⟩
        · exact .inr (.inr (.inr (.inr (.inr ⟨by omega, b6, by omega, Int32.toInt_inj.mp (by omega)⟩))))
        · exact absurd s1 s2
      · rcases hB with ⟨s2, _⟩ | ⟨_, b6, b13⟩
        · exact absurd s2 s1
        · exact .inr (.inl ⟨a4, b13, .inl b6⟩)
/-! both read one text: the token goes on, the sort that a type begins with, the sorts taken -/
/-- the reference's other long numbers stay -/
def K6 (L : Nat → Nat → Int64) (s : ST) : Prop := ∀ c, c ≠ 0 → s.2.1 c = L c
theorem K6.i {L : Nat → Nat → Int64} {s : ST} {c i : Nat} {v : Int32} (h : K6 L s) : K6 L (stI s c i v) := h
theorem K6.d {L : Nat → Nat → Int64} {s : ST} {c i : Nat} {v : UInt64} (h : K6 L s) : K6 L (stD s c i v) := h
theorem K6.l {L : Nat → Nat → Int64} {s : ST} {i : Nat} {v : Int64} (h : K6 L s) : K6 L (stL s 0 i v) := fun c hc => by rw [stL_ne hc]; exact h c hc
def PZ (L : Nat → Nat → Int64) (o : Option ST) : Prop := ∀ q, o = some q → K6 L q
def PW {α : Type} (L : Nat → Nat → Int64) (o : Option (α × ST)) : Prop := ∀ q, o = some q → K6 L q.2
theorem PZ.none {L : Nat → Nat → Int64} : PZ L none := fun _ h => by cases h
theorem PW.none {α : Type} {L : Nat → Nat → Int64} : PW (α := α) L none := fun _ h => by cases h
theorem PZ.ret {L : Nat → Nat → Int64} {s : ST} (h : K6 L s) : PZ L (some s) := fun q e => by cases e; exact h
theorem PW.ret {α : Type} {L : Nat → Nat → Int64} {s : ST} {v : α} (h : K6 L s) : PW L (some (v, s)) := fun q e => by cases e; exact h
theorem PZ.ite {L : Nat → Nat → Int64} {c : Prop} {i : Decidable c} {x y : Option ST} (h1 : PZ L x) (h2 : PZ L y) : PZ L (@_root_.ite (Option ST) c i x y) := by
  by_cases h : c
  · rw [if_pos h]; exact h1
  · rw [if_neg h]; exact h2
theorem PW.ite {α : Type} {L : Nat → Nat → Int64} {c : Prop} {i : Decidable c} {x y : Option (α × ST)} (h1 : PW L x) (h2 : PW L y) : PW L (@_root_.ite (Option (α × ST)) c i x y) := by
  by_cases h : c
  · rw [if_pos h]; exact h1
  · rw [if_neg h]; exact h2
theorem PZ.bnd {L : Nat → Nat → Int64} {o : Option ST} {f : ST → Option ST} (h : PZ L o) (k : ∀ q, K6 L q → PZ L (f q)) : PZ L (o.bind f) := by
  cases o with
  | none => exact PZ.none
  | some q => exact k q (h q rfl)
theorem PZ.bndW {α : Type} {L : Nat → Nat → Int64} {o : Option (α × ST)} {f : α × ST → Option ST} (h : PW L o) (k : ∀ q, K6 L q.2 → PZ L (f q)) : PZ L (o.bind f) := by
  cases o with
  | none => exact PZ.none
  | some q => exact k q (h q rfl)
theorem PW.bndW {α β : Type} {L : Nat → Nat → Int64} {o : Option (α × ST)} {f : α × ST → Option (β × ST)} (h : PW L o) (k : ∀ q, K6 L q.2 → PW L (f q)) : PW L (o.bind f) := by
  cases o with
  | none => exact PW.none
  | some q => exact k q (h q rfl)
theorem k6_byteAt {L : Nat → Nat → Int64} (p0 : Int32) (σ : ST) (h : K6 L σ) : PW L (f_X11_byteAt p0 σ) := by
  unfold f_X11_byteAt
  exact PW.ite (PW.ret h) (PW.ite (PW.ret h) PW.none)
theorem k6_within {L : Nat → Nat → Int64} (p0 p1 p2 : Int64) (σ : ST) (h : K6 L σ) : PW L (f_X11_within p0 p1 p2 σ) := by
  unfold f_X11_within
  exact PW.ite (PW.ret h) (PW.ite (PW.ret h) (PW.ret h))
theorem k6_isDigit {L : Nat → Nat → Int64} (p0 : Int32) (σ : ST) (h : K6 L σ) : PW L (f_X11_isDigit p0 σ) := by
  unfold f_X11_isDigit
  exact PW.bndW (k6_within _ _ _ σ h) (fun q hq => PW.ite (PW.ret hq) PW.none)
theorem k6_isLetter {L : Nat → Nat → Int64} (p0 : Int32) (σ : ST) (h : K6 L σ) : PW L (f_X11_isLetter p0 σ) := by
  unfold f_X11_isLetter
  exact PW.bndW (k6_within _ _ _ σ h) (fun q hq => PW.ite (PW.ret hq) PW.none)
theorem k6_isSign {L : Nat → Nat → Int64} (p0 : Int32) (σ : ST) (h : K6 L σ) : PW L (f_X11_isSign p0 σ) := by
  unfold f_X11_isSign f_X11_isSign_36
  exact PW.ite (PW.ret h) (PW.ite (PW.ret h) (PW.ite (PW.ret h) (PW.ite (PW.ret h) (PW.ite (PW.ret h) (PW.ite (PW.ret h) (PW.ret h))))))
theorem k6_n262 {L : Nat → Nat → Int64} (x1 x3 : Int32) (σ : ST) (h : K6 L σ) : PZ L (f_X11_number_262 x1 x3 σ) := by
  unfold f_X11_number_262 f_X11_number_279 f_X11_number_292
  exact PZ.ite (PZ.ite (PZ.ret h.l.i) (PZ.ret h.l.i)) (PZ.ite (PZ.ret h.l.i) (PZ.ret h.l.i))
theorem k6_n225 {L : Nat → Nat → Int64} (x1 x3 : Int32) (y0 : UInt64) (σ : ST) (h : K6 L σ) : PZ L (f_X11_number_225 x1 x3 y0 σ) := by
  unfold f_X11_number_225 f_X11_number_260 f_X11_number_261
  exact PZ.ite (k6_n262 _ _ _ h) (PZ.bndW (k6_byteAt _ _ h) (fun q hq => PZ.bndW (k6_isDigit _ _ hq) (fun w hw => PZ.ite (k6_n262 _ _ _ hw) (k6_n262 _ _ _ hw))))
theorem k6_n170 {L : Nat → Nat → Int64} (x1 x3 y0 : Int32) (σ : ST) (h : K6 L σ) : PZ L (f_X11_number_170 x1 x3 y0 σ) := by
  unfold f_X11_number_170
  refine PZ.ite (PZ.ite (k6_n262 _ _ _ h) (PZ.bndW (k6_byteAt _ _ h) (fun q hq => PZ.ite (PZ.ite (PZ.bnd (PZ.ret hq.d) (fun z hz => PZ.ite (k6_n225 _ _ _ _ hz) (k6_n225 _ _ _ _ hz))) PZ.none) PZ.none))) PZ.none
theorem k6_n134 {L : Nat → Nat → Int64} (x1 y0 : Int32) (σ : ST) (h : K6 L σ) : PZ L (f_X11_number_134 x1 y0 σ) := by
  unfold f_X11_number_134 f_X11_number_169
  exact PZ.bndW (k6_byteAt _ _ h) (fun q hq => PZ.ite (PZ.bndW (k6_byteAt _ _ hq) (fun w hw => PZ.bndW (k6_isDigit _ _ hw) (fun v hv => PZ.ite (k6_n170 _ _ _ _ hv) (k6_n170 _ _ _ _ hv)))) (k6_n170 _ _ _ _ hq))
theorem k6_n47 {L : Nat → Nat → Int64} : ∀ (n : Nat) (x1 x2 : Int32) (σ : ST), K6 L σ → PZ L (f_X11_number_47 n x1 x2 σ) := by
  intro n
  induction n with
  | zero => intro x1 x2 σ h; exact PZ.none
  | succ n ih =>
    intro x1 x2 σ h
    rw [f_X11_number_47]
    unfold f_X11_number_102
    exact PZ.bndW (k6_byteAt _ _ h) (fun q hq => PZ.bndW (k6_isDigit _ _ hq) (fun w hw => PZ.ite (PZ.ite (k6_n134 _ _ _ hw) (k6_n134 _ _ _ hw)) (PZ.ite (ih _ _ _ hw.l.i) (PZ.bndW (k6_byteAt _ _ hw) (fun v hv => ih _ _ _ hv.l.i)))))
theorem k6_number {L : Nat → Nat → Int64} (σ : ST) (h : K6 L σ) : PZ L (f_X11_number σ) := by
  unfold f_X11_number f_X11_number_18 f_X11_number_33
  exact PZ.bndW (k6_byteAt _ _ h) (fun q hq => PZ.ite (PZ.ite (k6_n47 _ _ _ _ (K6.l (K6.i hq))) (k6_n47 _ _ _ _ (K6.l (K6.i hq)))) (PZ.ite (k6_n47 _ _ _ _ (K6.l (K6.i hq))) (k6_n47 _ _ _ _ (K6.l (K6.i hq)))))
theorem k6_word_10 {L : Nat → Nat → Int64} : ∀ (n : Nat) (x1 : Int32) (σ : ST), K6 L σ → PZ L (f_X11_word_10 n x1 σ) := by
  intro n
  induction n with
  | zero => intro x1 σ h; exact PZ.none
  | succ n ih =>
    intro x1 σ h
    rw [f_X11_word_10]
    unfold f_X11_word_62
    exact PZ.bndW (k6_byteAt _ _ h) (fun q hq => PZ.bndW (k6_isLetter _ _ hq) (fun w hw => PZ.ite (PZ.ret hw) (PZ.ite (PZ.bnd (PZ.ret hw.l.i.i) (fun z hz => ih _ _ hz)) (PZ.bndW (k6_byteAt _ _ hw) (fun v hv => PZ.bnd (PZ.ret hv.l.i.i) (fun z hz => ih _ _ hz))))))
theorem k6_word {L : Nat → Nat → Int64} (p0 : Int32) (σ : ST) (h : K6 L σ) : PZ L (f_X11_word p0 σ) := by
  unfold f_X11_word
  exact k6_word_10 _ _ _ h.l.i
theorem k6_quoted {L : Nat → Nat → Int64} (σ : ST) (h : K6 L σ) : PZ L (f_X11_quoted σ) := by
  unfold f_X11_quoted f_X11_quoted_42 f_X11_quoted_43 f_X11_quoted_64
  have z : ∀ (y0 : Int32) (s : ST), K6 L s → PZ L (if y0 = 0 then some (stI (stI s 0 5 (s.1 0 5 + 1)) 0 6 5) else some (stI (stI s 0 5 (s.1 0 5 + 1)) 0 6 3)) := fun y0 s hs => PZ.ite (PZ.ret hs.i.i) (PZ.ret hs.i.i)
  exact PZ.bnd (k6_word _ _ h.i) (fun q hq => PZ.ite (z 0 q hq) (PZ.bndW (k6_byteAt _ _ hq) (fun w hw => PZ.ite (z 1 _ hw) (z 0 _ hw))))
theorem k6_go_143 {L : Nat → Nat → Int64} (x1 : Int32) (σ : ST) (h : K6 L σ) : PZ L (f_X11_go_143 x1 σ) := by
  unfold f_X11_go_143 f_X11_go_169 f_X11_go_185
  exact PZ.ite (PZ.bnd (k6_quoted _ h) (fun q hq => PZ.ret hq)) (PZ.bndW (k6_isSign _ _ h) (fun q hq => PZ.ite (PZ.ite (PZ.ret hq.i.i.i) (PZ.ret hq.i.i.i)) (PZ.ite (PZ.ret hq.i.i.i) (PZ.ret hq.i.i.i))))
theorem k6_go_0 {L : Nat → Nat → Int64} : ∀ (n : Nat) (σ : ST), K6 L σ → PZ L (f_X11_go_0 n σ) := by
  intro n
  induction n with
  | zero => intro σ h; exact PZ.none
  | succ n ih =>
    intro σ h
    rw [f_X11_go_0]
    unfold f_X11_go_26 f_X11_go_136 f_X11_go_101
    refine PZ.bndW (k6_byteAt _ _ h) (fun q hq => PZ.ite (ih _ hq.i) (PZ.bndW (k6_byteAt _ _ hq) (fun q3 h3 => PZ.ite (ih _ h3.i) (PZ.bndW (k6_byteAt _ _ h3.i) (fun q5 h5 => PZ.ite ?_ ?_)))))
    · refine PZ.bndW (k6_isLetter _ _ h5.i) (fun q7 h7 => PZ.ite ?_ ?_)
      · refine PZ.bndW (k6_isDigit _ _ h7) (fun q9 h9 => PZ.ite (PZ.ite ?_ (k6_go_143 _ _ h9)) (PZ.bnd (k6_number _ h9) (fun z hz => PZ.ret hz)))
        exact PZ.bndW (k6_byteAt _ _ h9) (fun q11 h11 => PZ.bndW (k6_isDigit _ _ h11) (fun q13 h13 => PZ.ite (k6_go_143 _ _ h13) (PZ.bnd (k6_number _ h13) (fun z hz => PZ.ret hz))))
      · exact PZ.bnd (k6_word _ _ h7) (fun z hz => PZ.ite (PZ.ret hz.i) (PZ.ret hz.i))
    · exact PZ.ret h5.i.i
theorem k6_go (σ : ST) : PZ σ.2.1 (f_X11_go σ) := by
  unfold f_X11_go
  exact k6_go_0 _ _ (fun _ _ => rfl)
/-- a word's token -/
theorem TB_.word {T : Nat → Int32} {n : Int} {s : Nat} {t : ST} (h : TB_ T n s t) (h1 : (t.1 0 6).toInt = 1) : isL (bt T n s) ∧ ∃ m, RUN isL T n s m ∧ (t.1 0 5).toInt = s + m ∧ (1 ≤ m ∧ m ≤ 8) ∧ t.2.1 0 7 = w27 T s m := by
  obtain ⟨h4, h | h | h | h | h⟩ := h
  · omega
  · obtain ⟨hL, h13, m, hR, h5, h8, h7, h6⟩ := h
    have hm : m ≤ 8 := by omega
    have e8 : min m 8 = m := by omega
    rw [e8] at h7
    refine ⟨hL, m, hR, h5, ⟨?_, hm⟩, h7⟩
    by_cases e : m = 0
    · have h9 := hR.2
      rw [e] at h9
      exact absurd hL h9
    · omega
  · rcases h.2 with ⟨_, m, hm⟩ | ⟨_, m, hm⟩
    · have := hm.2.2.2; omega
    · have := hm.2.2.2; omega
  · obtain ⟨_, _, m, _, _, _, h6⟩ := h
    omega
  · omega
/-- how long a word is that means something -/
theorem TB_.len {T : Nat → Int32} {n : Int} {s k : Nat} {t : ST} (h : TB_ T n s t) (h1 : (t.1 0 6).toInt = 1) (hk : k < 15) (h7 : t.2.1 0 7 = kwV k) : (t.1 0 5).toInt = (t.1 0 4).toInt + (kwM k : Int) := by
  have h4 := h.1
  obtain ⟨hL, m, hR, h5, hm, hw⟩ := h.word h1
  have e1 := w27_n m hm.2 hR.1
  have e2 := kw_B k hk
  rw [← hw, h7] at e1
  obtain ⟨a, _⟩ := n27_inj m (kwM k) (gT T s) (kwG k) (gT_L hR.1).1 (kw_G k hk).2 (by omega)
  omega
/-- both are at one token of one text -/
def LX (σ τ : ST) : Prop := (σ.1 1 = τ.1 1 ∧ σ.1 2 2 = τ.1 0 3 ∧ (∀ i, bI (τ.1 1 i) (-128) 127) ∧ σ.2.1 3 = kw0) ∧ bI (τ.1 0 3) 0 1000 ∧ TK σ τ ∧ ∃ p s : Nat, p ≤ 1001 ∧ SK (τ.1 1) (τ.1 0 3).toInt p s ∧ TB_ (τ.1 1) (τ.1 0 3).toInt s τ
theorem LX.tx {σ τ : ST} (h : LX σ τ) : TX τ := by
  obtain ⟨_, hn, _, p, s, hp, hs, hT⟩ := h
  obtain ⟨a1, a2, a3, a4⟩ := hT.left hn hp hs
  exact ⟨hn, a1, a2, hT.sgn⟩
theorem LX.tb {σ τ : ST} (h : LX σ τ) : ∃ s : Nat, (τ.1 0 4).toInt = s ∧ TB_ (τ.1 1) (τ.1 0 3).toInt s τ := by
  obtain ⟨_, hn, _, p, s, hp, hs, hT⟩ := h
  exact ⟨s, hT.1, hT⟩
/-- both go on -/
theorem ab_go (σ τ : ST) (h : LX σ τ) (hg : σ.1 2 3 = τ.1 0 5) : OK (f_X6_advance σ) (fun a => OK (f_X11_go τ) (fun b => CA σ a ∧ CH [] GI τ b ∧ (∀ c, c ≠ 0 → b.2.1 c = τ.2.1 c) ∧ LX a b ∧ (τ.1 0 5).toInt ≤ (b.1 0 4).toInt ∧ ((τ.1 0 6).toInt = 1 → (b.1 0 6).toInt = 1 → (τ.1 0 5).toInt < (b.1 0 4).toInt) ∧ uT b ≤ ((τ.1 0 3).toInt - (τ.1 0 5).toInt).toNat)) := by
  have htx := h.tx
  obtain ⟨⟨hT, hn, h8, hk⟩, hn2, hTK, p0, s0, hp0, hs0, hT0⟩ := h
  obtain ⟨_, ⟨p1, p2⟩, _, _⟩ := htx
  have np := nN_ p1
  have h8' : ∀ i, bI (σ.1 1 i) (-128) 127 := by rw [hT]; exact h8
  have hn3 : bI (σ.1 2 2) 0 1000 := by rw [hn]; exact hn2
  refine (a_advance σ (τ.1 0 5).toNatClampNeg h8' hn3 (by rw [hg]; exact np.symm) (by omega)).mono (fun a ha => ?_)
  obtain ⟨ca, s, hs, hA⟩ := ha
  rw [hT, hn] at hs hA
  obtain ⟨b, eb, cb, u, hu, hB⟩ := b_go τ (τ.1 0 5).toNatClampNeg hn2 np.symm (by omega)
  refine ⟨b, eb, ca, cb, fun c hc => k6_go τ b eb c hc, ?_, ?_, ?_, ?_⟩
  · have e := hs.uniq hu
    subst e
    have b1 : b.1 1 = τ.1 1 := cb.1 1 (by decide) (by decide)
    have b3 : b.1 0 3 = τ.1 0 3 := cb.2.1 3 (by decide)
    have a3 : a.2.1 3 = kw0 := (ca.2.2.1 3 (by decide)).trans hk
    refine ⟨⟨?_, ?_, by rw [b1]; exact h8, a3⟩, by rw [b3]; exact hn2, TK.mk h8 a3 b1 (by rw [b3]) hA hB, (τ.1 0 5).toNatClampNeg, s, by omega, by rw [b1, b3]; exact hs, by rw [b1, b3]; exact hB⟩
    · rw [ca.1 1 (by decide), hT, b1]
    · rw [ca.2.1, hn, b3]
  · have := hB.1
    have := hu.1
    omega
  · intro w1 w2
    have e4 := hB.1
    have e5 := hu.1
    obtain ⟨_, m, hR, h5, _, _⟩ := hT0.word w1
    obtain ⟨hL, _⟩ := hB.word w2
    by_cases e : u = s0 + m
    · rw [e] at hL
      exact absurd hL hR.2
    · omega
  · obtain ⟨a1, a2, a3, a4⟩ := hB.left hn2 (by omega) hu
    have e3 : b.1 0 3 = τ.1 0 3 := cb.2.1 3 (by decide)
    unfold uT
    rw [e3]
    have a11 := a1.1
    split
    · rename_i h9
      have := a3 h9
      omega
    · rename_i h9
      have := a4 h9
      omega
/-- the sort that a type begins with here -/
def sk (k : Nat) : Int := if k = 4 then 6 else if k = 5 then 8 else if 7 ≤ k ∧ k ≤ 12 then (k : Int) - 7 else -1
def SV (σ : ST) : Int := if (σ.1 2 4).toInt = 3 then 7 else if (σ.1 2 4).toInt = 2 then sk (σ.1 2 6).toNatClampNeg else -1
theorem sk_4 : sk 4 = 6 := by decide
theorem sk_5 : sk 5 = 8 := by decide
theorem sk_s {k : Nat} (h : 7 ≤ k ∧ k ≤ 12) : sk k = (k : Int) - 7 := by
  unfold sk
  rw [if_neg (by omega), if_neg (by omega), if_pos h]
theorem sk_n {k : Nat} (h : ¬ k = 4 ∧ ¬ k = 5 ∧ ¬ (7 ≤ k ∧ k ≤ 12)) : sk k = -1 := by
  unfold sk
  rw [if_neg h.1, if_neg h.2.1, if_neg h.2.2]
theorem sv_3 {σ : ST} (h : (σ.1 2 4).toInt = 3) : SV σ = 7 := by
  unfold SV
  rw [if_pos h]
theorem sv_2 {σ : ST} {k : Nat} (h : (σ.1 2 4).toInt = 2) (e : (σ.1 2 6).toInt = k) : SV σ = sk k := by
  unfold SV
  rw [if_neg (by omega), if_pos h, nC e]
theorem sv_n {σ : ST} (h3 : ¬ (σ.1 2 4).toInt = 3) (h2 : ¬ (σ.1 2 4).toInt = 2) : SV σ = -1 := by
  unfold SV
  rw [if_neg h3, if_neg h2]
theorem a_sortBegun (σ τ : ST) (h : TK σ τ) : OK (f_X6_sortBegun σ) (RO σ fun v => v.toInt = SV σ) := by
  unfold f_X6_sortBegun
  have lm := li_m1
  have l2 := li_2
  have l3 := li_3
  have l4 := li_4
  have l5 := li_5
  have l6 := li_6
  have l7 := li_7
  have l8 := li_8
  have l12 := li_12
  refine OK.ieq (fun h3 => OK.roret (by rw [sv_3 (by omega)]; exact l7)) (fun h3 => ?_)
  refine OK.ieq (fun h2 => ?_) (fun h2 => OK.roret (by rw [sv_n (by omega) (by omega)]; exact lm))
  have hk : ∃ k : Nat, k < 15 ∧ (σ.1 2 6).toInt = k := by
    obtain ⟨_, h | h | h | h | h | h⟩ := h
    · omega
    · omega
    · rcases h.2.2.2.2 with ⟨_, k, a, b, _⟩ | ⟨a, _⟩
      · exact ⟨k, a, b⟩
      · omega
    · omega
    · omega
    · omega
  obtain ⟨k, hk, ek⟩ := hk
  rw [sv_2 (by omega) ek]
  refine OK.ieq (fun h => OK.roret ?_) (fun h => ?_)
  · have e : k = 4 := by omega
    rw [e, sk_4]; exact l6
  refine OK.ieq (fun h => OK.roret ?_) (fun h => ?_)
  · have e : k = 5 := by omega
    rw [e, sk_5]; exact l8
  refine OK.ilt (fun h => OK.roret (by rw [sk_n (by omega)]; exact lm)) (fun h => ?_)
  refine OK.ilt (fun h => OK.roret (by rw [sk_n (by omega)]; exact lm)) (fun h => ?_)
  have e := il_subE (x := σ.1 2 6) (y := 7) (by omega) (by omega)
  exact OK.roret (by rw [sk_s (by omega)]; omega)
theorem sh_kw {τ : ST} {k : Nat} {v : Int32} (h1 : (τ.1 0 6).toInt = 1) (hk : k < 15) (h7 : τ.2.1 0 7 = kwV k) (h : SH τ v) : v.toInt = sk k := by
  have w : ∀ j, j < 15 → W_ τ (kwV j) → k = j := fun j hj hw => kw_ne k hk j hj (by rw [← h7]; exact hw.2)
  have y : ∀ j, j < 15 → ¬ W_ τ (kwV j) → ¬ k = j := fun j hj hw e => hw ⟨h1, by rw [h7, e]⟩
  unfold SH at h
  rcases h with h | h | h | h | h | h | h | h | h
  · rw [w 7 (by omega) h.2]; exact h.1
  · rw [w 8 (by omega) h.2]; exact h.1
  · rw [w 9 (by omega) h.2]; exact h.1
  · rw [w 10 (by omega) h.2]; exact h.1
  · rw [w 11 (by omega) h.2]; exact h.1
  · rw [w 12 (by omega) h.2]; exact h.1
  · rw [w 4 (by omega) h.2]; exact h.1
  · rw [w 5 (by omega) h.2]; exact h.1
  · obtain ⟨hv, n0, n1, n2, n3, n4, n5, n6, n8⟩ := h
    have a0 := y 7 (by omega) n0
    have a1 := y 8 (by omega) n1
    have a2 := y 9 (by omega) n2
    have a3 := y 10 (by omega) n3
    have a4 := y 11 (by omega) n4
    have a5 := y 12 (by omega) n5
    have a6 := y 4 (by omega) n6
    have a8 := y 5 (by omega) n8
    unfold sk
    rw [if_neg (by omega), if_neg (by omega), if_neg (by omega)]
    exact hv
theorem sh_no {τ : ST} {v : Int32} (h1 : ∀ j, j < 15 → ¬ W_ τ (kwV j)) (h : SH τ v) : v.toInt = -1 := by
  unfold SH at h
  rcases h with h | h | h | h | h | h | h | h | h
  · exact absurd h.2 (h1 7 (by omega))
  · exact absurd h.2 (h1 8 (by omega))
  · exact absurd h.2 (h1 9 (by omega))
  · exact absurd h.2 (h1 10 (by omega))
  · exact absurd h.2 (h1 11 (by omega))
  · exact absurd h.2 (h1 12 (by omega))
  · exact absurd h.2 (h1 4 (by omega))
  · exact absurd h.2 (h1 5 (by omega))
  · exact h.1
/-- the reference's word is the class's -/
theorem TK.kw {σ τ : ST} (h : TK σ τ) {k : Nat} (hk : k < 15) : W_ τ (kwV k) ↔ (σ.1 2 4).toInt = 2 ∧ (σ.1 2 6).toInt = k := by
  obtain ⟨_, h | h | h | h | h | h⟩ := h
  · exact ⟨fun w => by have := w.1; omega, fun w => by omega⟩
  · exact ⟨fun w => by have := w.1; omega, fun w => by omega⟩
  · obtain ⟨h6, _, _, _, h⟩ := h
    rcases h with ⟨a, j, hj, b, c⟩ | ⟨a, c⟩
    · refine ⟨fun w => ⟨a, ?_⟩, fun w => ⟨h6, ?_⟩⟩
      · have := kw_ne j hj k hk (by rw [← c]; exact w.2)
        omega
      · have e : j = k := by omega
        rw [c, e]
    · exact ⟨fun w => absurd c (NM.no (kwV_mem k hk) w), fun w => by omega⟩
  · exact ⟨fun w => by have := w.1; omega, fun w => by omega⟩
  · exact ⟨fun w => by have := w.1; omega, fun w => by omega⟩
  · exact ⟨fun w => by have := w.1; omega, fun w => by omega⟩
theorem TK.nm {σ τ : ST} (h : TK σ τ) : NM τ ↔ (σ.1 2 4).toInt = 3 := by
  obtain ⟨_, h | h | h | h | h | h⟩ := h
  · exact ⟨fun w => by have := w.1; omega, fun w => by omega⟩
  · exact ⟨fun w => by have := w.1; omega, fun w => by omega⟩
  · obtain ⟨h6, _, _, _, h⟩ := h
    rcases h with ⟨a, j, hj, b, c⟩ | ⟨a, c⟩
    · exact ⟨fun w => absurd c (w.2 _ (kwV_mem j hj)), fun w => by omega⟩
    · exact ⟨fun _ => a, fun _ => c⟩
  · exact ⟨fun w => by have := w.1; omega, fun w => by omega⟩
  · exact ⟨fun w => by have := w.1; omega, fun w => by omega⟩
  · exact ⟨fun w => by have := w.1; omega, fun w => by omega⟩
/-- the class asks for a word -/
theorem a_isKeyword (p0 : Int32) (σ τ : ST) (h : TK σ τ) {k : Nat} (hk : k < 15) (e : p0.toInt = k) : OK (f_X6_isKeyword p0 σ) (RO σ fun v => v.toInt = 0 ∧ ¬ W_ τ (kwV k) ∨ v.toInt = 1 ∧ W_ τ (kwV k)) := by
  unfold f_X6_isKeyword
  have l0 := li_0
  have l1 := li_1
  have l2 := li_2
  rw [h.kw hk]
  refine OK.ieq (fun h2 => OK.ieq (fun h6 => OK.roret (.inr ⟨l1, by omega, by omega⟩)) (fun h6 => OK.roret (.inl ⟨l0, fun h9 => by omega⟩))) (fun h2 => OK.roret (.inl ⟨l0, fun h9 => by omega⟩))
/-- the reference asks for a name, then for a sort -/
theorem sv_sh {σ τ : ST} (h : TK σ τ) {v : Int32} (hn : ¬ NM τ) (hv : SH τ v) : v.toInt = SV σ := by
  have h3 : ¬ (σ.1 2 4).toInt = 3 := fun e => hn (h.nm.mpr e)
  unfold SV
  rw [if_neg h3]
  by_cases h2 : (σ.1 2 4).toInt = 2
  · rw [if_pos h2]
    have h' := h
    obtain ⟨_, h | h | h | h | h | h⟩ := h
    · omega
    · omega
    · obtain ⟨h6, _, _, _, h⟩ := h
      rcases h with ⟨a, j, hj, b, c⟩ | ⟨a, c⟩
      · rw [nC b]
        exact sh_kw h6 hj c hv
      · omega
    · omega
    · omega
    · omega
  · rw [if_neg h2]
    exact sh_no (fun j hj w => h2 ((h.kw hj).mp w).1) hv
theorem sv_nm {σ τ : ST} (h : TK σ τ) (hn : NM τ) : SV σ = 7 := by
  unfold SV
  rw [if_pos (h.nm.mp hn)]
/-- the sorts taken, as bits -/
def pc (w : Nat) : Nat := (List.range 9).countP (fun i => w.testBit i)
def s00 : ST := (fun _ _ => 0, fun _ _ => 0, fun _ _ => 0, fun _ => 0)
theorem mk_cnt : ∀ w : Nat, w < 512 → (f_J6_bitCount_0f7a4 (Int32.ofNat w) s00).map (fun q => q.1.toInt) = some (pc w : Int) := by decide +kernel
theorem mk_c2 (p : Int32) (σ : ST) : f_J6_bitCount_0f7a4 p σ = (f_J6_bitCount_0f7a4 p s00).map (fun q => (q.1, σ)) := rfl
theorem a_bitCount (w : Nat) (σ : ST) (hw : w < 512) : OK (f_J6_bitCount_0f7a4 (Int32.ofNat w) σ) (RO σ fun v => v.toInt = (pc w : Int)) := by
  have h := mk_cnt w hw
  rw [mk_c2]
  cases e : f_J6_bitCount_0f7a4 (Int32.ofNat w) s00 with
  | none => rw [e] at h; cases h
  | some q =>
    rw [e] at h
    have h : some q.1.toInt = some (pc w : Int) := h
    exact ⟨_, rfl, rfl, Option.some.inj h⟩
theorem mk_bit : ∀ w : Nat, w < 512 → ∀ s : Nat, s < 9 → (((Int32.ofNat w) >>> ((Int32.ofNat s) &&& 31)) &&& 1).toInt = (if w.testBit s then 1 else 0) := by decide +kernel
theorem mk_or : ∀ w : Nat, w < 512 → ∀ s : Nat, s < 9 → w.testBit s = false → ((Int32.ofNat w) ||| (1 <<< ((Int32.ofNat s) &&& 31))) = Int32.ofNat (w + 2 ^ s) ∧ w + 2 ^ s < 512 ∧ pc (w + 2 ^ s) = pc w + 1 ∧ ∀ j : Nat, j < 9 → (w + 2 ^ s).testBit j = (w.testBit j || j == s) := by decide +kernel
/-! a type begins: both take it, or both refuse it -/
/-- a type of a draft, no higher than so -/
def VD (lo hi : Int) (S A M B : Nat → Int32) : Nat → Int32 → Prop
  | 0, _ => False
  | d + 1, t => (lo ≤ t.toInt ∧ t.toInt < hi) ∧ (0 ≤ (S t.toNatClampNeg).toInt ∧ (S t.toNatClampNeg).toInt ≤ 8) ∧
    ((S t.toNatClampNeg).toInt = 6 → VD lo hi S A M B d (A t.toNatClampNeg)) ∧
    ((S t.toNatClampNeg).toInt = 8 → (1 ≤ (M t.toNatClampNeg).toInt ∧ (M t.toNatClampNeg).toInt ≤ 4) ∧
      (∀ k : Nat, (k : Int) < (M t.toNatClampNeg).toInt → VD lo hi S A M B d (B (4 * t.toNatClampNeg + k)) ∧ ¬ (S (B (4 * t.toNatClampNeg + k)).toNatClampNeg).toInt = 8) ∧
      (∀ j k : Nat, j < k → (k : Int) < (M t.toNatClampNeg).toInt → ¬ (S (B (4 * t.toNatClampNeg + j)).toNatClampNeg).toInt = (S (B (4 * t.toNatClampNeg + k)).toNatClampNeg).toInt))
theorem VD.rng {lo hi : Int} {S A M B : Nat → Int32} {d : Nat} {t : Int32} (h : VD lo hi S A M B d t) : lo ≤ t.toInt ∧ t.toInt < hi := by
  cases d with
  | zero => exact h.elim
  | succ d => exact h.1
/-- the same rows in another state, and wider -/
theorem VD.ext {lo hi lo' hi' : Int} {S A M B S' A' M' B' : Nat → Int32} (h0 : 0 ≤ lo') (hl : lo' ≤ lo) (hh : hi ≤ hi') (hr : ∀ j : Nat, lo ≤ (j : Int) → (j : Int) < hi → S' j = S j ∧ ((S j).toInt = 6 → A' j = A j) ∧ M' j = M j ∧ ∀ k : Nat, k < 4 → B' (4 * j + k) = B (4 * j + k)) : ∀ (d : Nat) (t : Int32), VD lo hi S A M B d t → VD lo' hi' S' A' M' B' d t := by
  intro d
  induction d with
  | zero => intro t h; exact h.elim
  | succ d ih =>
    intro t h
    obtain ⟨h1, h2, h3, h5⟩ := h
    have n1 := nN_ (x := t) (by omega)
    obtain ⟨e1, e2, e3, e4⟩ := hr t.toNatClampNeg (by omega) (by omega)
    refine ⟨by omega, ?_, ?_, ?_⟩
    · rw [e1]; exact h2
    · rw [e1]
      intro hs
      rw [e2 hs]
      exact ih _ (h3 hs)
    · rw [e1, e3]
      intro hs
      obtain ⟨a1, a2, a3⟩ := h5 hs
      have eb : ∀ k : Nat, (k : Int) < (M t.toNatClampNeg).toInt → B' (4 * t.toNatClampNeg + k) = B (4 * t.toNatClampNeg + k) ∧ S' (B (4 * t.toNatClampNeg + k)).toNatClampNeg = S (B (4 * t.toNatClampNeg + k)).toNatClampNeg := fun k hk => by
        have r := (a2 k hk).1.rng
        have n2 := nN_ (x := B (4 * t.toNatClampNeg + k)) (by omega)
        exact ⟨e4 k (by omega), (hr _ (by omega) (by omega)).1⟩
      refine ⟨a1, fun k hk => ?_, fun j k hjk hk => ?_⟩
      · rw [(eb k hk).1, (eb k hk).2]
        exact ⟨ih _ (a2 k hk).1, (a2 k hk).2⟩
      · rw [(eb k hk).1, (eb k hk).2, (eb j (by omega)).1, (eb j (by omega)).2]
        exact a3 j k hjk hk
/-- once the records asked for are there, it is a type of the plan -/
theorem VD.vt {lo hi : Int} {S A M B : Nat → Int32} {rm : Int} (h0 : 0 ≤ lo) (hr : ∀ j : Nat, lo ≤ (j : Int) → (j : Int) < hi → (S j).toInt = 7 → 0 ≤ (A j).toInt ∧ (A j).toInt < rm) : ∀ (d : Nat) (t : Int32), VD lo hi S A M B d t → VT hi S A M B rm d t := by
  intro d
  induction d with
  | zero => intro t h; exact h.elim
  | succ d ih =>
    intro t h
    obtain ⟨h1, h2, h3, h5⟩ := h
    have n1 := nN_ (x := t) (by omega)
    refine ⟨by omega, h2, fun hs => ih _ (h3 hs), fun hs => hr _ (by omega) (by omega) hs, fun hs => ?_⟩
    obtain ⟨a1, a2, a3⟩ := h5 hs
    exact ⟨a1, fun k hk => ⟨ih _ (a2 k hk).1, (a2 k hk).2⟩, a3⟩
theorem VD.up {lo hi : Int} {S A M B : Nat → Int32} : ∀ {d : Nat} {t : Int32}, VD lo hi S A M B d t → VD lo hi S A M B (d + 1) t := by
  intro d
  induction d with
  | zero => intro t h; exact h.elim
  | succ d ih =>
    intro t h
    obtain ⟨h1, h2, h3, h5⟩ := h
    refine ⟨h1, h2, fun hs => ih (h3 hs), fun hs => ?_⟩
    obtain ⟨a1, a2, a3⟩ := h5 hs
    exact ⟨a1, fun k hk => ⟨ih (a2 k hk).1, (a2 k hk).2⟩, a3⟩
/-- what the class leaves as it is while a type is read: all rows before -/
def FA (c0 : Nat) (σ a : ST) : Prop := (∀ c, c ∉ [2, 20, 31, 32, 33, 35] → a.1 c = σ.1 c) ∧ (∀ i, i ≠ 1 → a.1 20 i = σ.1 20 i) ∧ (∀ c, c ∉ [2, 34] → a.2.1 c = σ.2.1 c) ∧ (∀ i, i < c0 → a.1 31 i = σ.1 31 i ∧ a.1 32 i = σ.1 32 i ∧ a.2.1 34 i = σ.2.1 34 i ∧ a.1 33 i = σ.1 33 i)
theorem FA.rf {c0 : Nat} {σ : ST} : FA c0 σ σ := ⟨fun _ _ => rfl, fun _ _ => rfl, fun _ _ => rfl, fun _ _ => ⟨rfl, rfl, rfl, rfl⟩⟩
theorem FA.trans {c0 c1 : Nat} {σ a b : ST} (h : FA c0 σ a) (k : FA c1 a b) (hc : c0 ≤ c1) : FA c0 σ b := ⟨fun c hc => (k.1 c hc).trans (h.1 c hc), fun i hi => (k.2.1 i hi).trans (h.2.1 i hi), fun c hc => (k.2.2.1 c hc).trans (h.2.2.1 c hc), fun i hi => by
  obtain ⟨a1, a2, a3, a4⟩ := h.2.2.2 i hi
  obtain ⟨b1, b2, b3, b4⟩ := k.2.2.2 i (by omega)
  exact ⟨b1.trans a1, b2.trans a2, b3.trans a3, b4.trans a4⟩⟩
theorem CA.fa {c0 : Nat} {σ a : ST} (h : CA σ a) : FA c0 σ a := by
  have z : ∀ c, c ≠ 2 → a.1 c = σ.1 c := h.1
  have y : ∀ c, c ≠ 2 → a.2.1 c = σ.2.1 c := h.2.2.1
  exact ⟨fun c hc => z c (fun e => hc (by rw [e]; decide)), fun i _ => by rw [z 20 (by decide)], fun c hc => y c (fun e => hc (by rw [e]; decide)), fun i _ => ⟨by rw [z 31 (by decide)], by rw [z 32 (by decide)], by rw [y 34 (by decide)], by rw [z 33 (by decide)]⟩⟩
/-- what the reference leaves as it is meanwhile -/
def L5 (τ b : ST) : Prop := b.2.1 9 = τ.2.1 9 ∧ b.2.1 12 = τ.2.1 12 ∧ b.2.1 14 = τ.2.1 14 ∧ b.2.1 17 = τ.2.1 17 ∧ b.2.1 18 = τ.2.1 18
theorem L5.rf {τ : ST} : L5 τ τ := ⟨rfl, rfl, rfl, rfl, rfl⟩
theorem L5.trans {τ b w : ST} (h : L5 τ b) (k : L5 b w) : L5 τ w := ⟨k.1.trans h.1, k.2.1.trans h.2.1, k.2.2.1.trans h.2.2.1, k.2.2.2.1.trans h.2.2.2.1, k.2.2.2.2.trans h.2.2.2.2⟩
theorem CH.l5 {C I : List Nat} {τ b : ST} (h : CH C I τ b) : L5 τ b := h.2.2
theorem L5.eq {τ b : ST} (h : b.2.1 = τ.2.1) : L5 τ b := by
  unfold L5
  rw [h]
  exact ⟨rfl, rfl, rfl, rfl, rfl⟩
def FG (t0 : Nat) (τ b : ST) : Prop := (∀ c, c ∉ [0, 2, 3, 4, 5, 7] → b.1 c = τ.1 c) ∧ (∀ i, i ∉ [4, 5, 6, 8, 10, 12, 13, 34] → b.1 0 i = τ.1 0 i) ∧ (∀ j, j < t0 → b.1 2 j = τ.1 2 j ∧ b.1 3 j = τ.1 3 j ∧ b.1 4 j = τ.1 4 j) ∧ (∀ j, j < 4 * t0 → b.1 5 j = τ.1 5 j) ∧ L5 τ b
theorem FG.rf {t0 : Nat} {τ : ST} : FG t0 τ τ := ⟨fun _ _ => rfl, fun _ _ => rfl, fun _ _ => ⟨rfl, rfl, rfl⟩, fun _ _ => rfl, L5.rf⟩
theorem FG.trans {c0 c1 : Nat} {σ a b : ST} (h : FG c0 σ a) (k : FG c1 a b) (hc : c0 ≤ c1) : FG c0 σ b := ⟨fun c hc => (k.1 c hc).trans (h.1 c hc), fun i hi => (k.2.1 i hi).trans (h.2.1 i hi), fun i hi => by
  obtain ⟨a1, a2, a3⟩ := h.2.2.1 i hi
  obtain ⟨b1, b2, b3⟩ := k.2.2.1 i (by omega)
  exact ⟨b1.trans a1, b2.trans a2, b3.trans a3⟩, fun j hj => (k.2.2.2.1 j (by omega)).trans (h.2.2.2.1 j hj), h.2.2.2.2.trans k.2.2.2.2⟩
theorem CH.fg {t0 : Nat} {I : List Nat} {τ b : ST} (hI : ∀ i, i ∈ I → i ∈ [4, 5, 6, 8, 10, 12, 13, 34]) (h : CH [] I τ b) : FG t0 τ b := by
  have z : ∀ c, c ≠ 0 → b.1 c = τ.1 c := fun c hc => h.1 c hc (by simp)
  exact ⟨fun c hc => z c (fun e => hc (by rw [e]; decide)), fun i hi => h.2.1 i (fun h9 => hi (hI i h9)), fun j _ => ⟨by rw [z 2 (by decide)], by rw [z 3 (by decide)], by rw [z 4 (by decide)]⟩, fun j _ => by rw [z 5 (by decide)], h.l5⟩
/-- the branches that there are, as the sorts taken -/
def MK (w : Nat) (pB : Int32) (t0 : Nat) (τ : ST) : Prop := w < 512 ∧ ((pB.toInt < 0 ∧ w = 0) ∨ ((0 ≤ pB.toInt ∧ pB.toInt < (t0 : Int)) ∧ w.testBit 8 = true ∧ ∃ m : Nat, (τ.1 4 pB.toNatClampNeg).toInt = m ∧ m ≤ 4 ∧ pc w = m + 1 ∧ (∀ k : Nat, k < m → 0 ≤ (τ.1 5 (4 * pB.toNatClampNeg + k)).toInt ∧ (τ.1 5 (4 * pB.toNatClampNeg + k)).toInt < 800) ∧ ∀ s : Nat, s < 8 → (w.testBit s = true ↔ ∃ k : Nat, k < m ∧ (τ.1 2 (τ.1 5 (4 * pB.toNatClampNeg + k)).toNatClampNeg).toInt = s)))
theorem b_isAsked_5 (x1 x2 : Int32) (τ : ST) (m : Nat) (h1 : 0 ≤ x1.toInt ∧ x1.toInt < 800) (hm : (τ.1 4 x1.toNatClampNeg).toInt = m) (hm4 : m ≤ 4) (hb : ∀ k : Nat, k < m → 0 ≤ (τ.1 5 (4 * x1.toNatClampNeg + k)).toInt ∧ (τ.1 5 (4 * x1.toNatClampNeg + k)).toInt < 800) : ∀ (f k : Nat) (x3 x4 : Int32), x4.toInt = k → k ≤ m → m < f + k → (x3.toInt = 0 ∧ (∀ i : Nat, i < k → ¬ (τ.1 2 (τ.1 5 (4 * x1.toNatClampNeg + i)).toNatClampNeg).toInt = x2.toInt) ∨ x3.toInt = 1 ∧ ∃ i : Nat, i < k ∧ (τ.1 2 (τ.1 5 (4 * x1.toNatClampNeg + i)).toNatClampNeg).toInt = x2.toInt) → OK (f_X11_isAsked_5 f x1 x2 x3 x4 τ) (RO τ fun v => v.toInt = 0 ∧ (∀ i : Nat, i < m → ¬ (τ.1 2 (τ.1 5 (4 * x1.toNatClampNeg + i)).toNatClampNeg).toInt = x2.toInt) ∨ v.toInt = 1 ∧ ∃ i : Nat, i < m ∧ (τ.1 2 (τ.1 5 (4 * x1.toNatClampNeg + i)).toNatClampNeg).toInt = x2.toInt) := by
  intro f
  induction f with
  | zero => intro k x3 x4 h2 h3 h4 h5; omega
  | succ f ih =>
    intro k x3 x4 hk hkm hf hx
    rw [f_X11_isAsked_5]
    unfold f_X11_isAsked_40 f_X11_isAsked_45
    have l0 := li_0
    have l1 := li_1
    have l4 : (4 : Int32).toInt = 4 := li_4
    have n1 := nN_ h1.1
    have e4 := mlE (k := 4) (y := x1) 4 l4 (by omega) (by omega)
    have e5 := il_addE (x := 4 * x1) (y := x4) (by omega) (by omega)
    have e6 := il_addE (x := x4) (y := 1) (by omega) (by omega)
    have np : (4 * x1 + x4).toNatClampNeg = 4 * x1.toNatClampNeg + k := nC (by omega)
    refine OK.grd h1 ?_
    refine OK.ile (fun h => ?_) (fun h => ?_)
    · have e : k = m := by clear hx; omega
      subst e
      refine OK.grd (b01 (hx.elim (fun h => .inl h.1) (fun h => .inr h.1))) (OK.roret hx)
    have hlt : k < m := by clear hx; omega
    have yes : (τ.1 2 (τ.1 5 (4 * x1.toNatClampNeg + k)).toNatClampNeg).toInt = x2.toInt ∨ (∃ i : Nat, i < k ∧ (τ.1 2 (τ.1 5 (4 * x1.toNatClampNeg + i)).toNatClampNeg).toInt = x2.toInt) → OK (f_X11_isAsked_5 f x1 x2 1 (x4 + 1) τ) (RO τ fun v => v.toInt = 0 ∧ (∀ i : Nat, i < m → ¬ (τ.1 2 (τ.1 5 (4 * x1.toNatClampNeg + i)).toNatClampNeg).toInt = x2.toInt) ∨ v.toInt = 1 ∧ ∃ i : Nat, i < m ∧ (τ.1 2 (τ.1 5 (4 * x1.toNatClampNeg + i)).toNatClampNeg).toInt = x2.toInt) := fun hy => by
      refine ih (k + 1) 1 (x4 + 1) (by clear hx hy; omega) hlt (by clear hx hy; omega) (.inr ⟨l1, ?_⟩)
      rcases hy with hy | ⟨i, hi, hy⟩
      · exact ⟨k, by omega, hy⟩
      · exact ⟨i, by omega, hy⟩
    refine OK.ieq (fun h0 => ?_) (fun h0 => yes (.inr ?_))
    · refine OK.grd ⟨by clear hx yes; omega, by clear hx yes; omega⟩ ?_
      rw [np]
      refine OK.grd (hb k hlt) ?_
      refine OK.ieq (fun h9 => yes (.inl h9)) (fun h9 => ?_)
      refine ih (k + 1) 0 (x4 + 1) (by clear hx yes; omega) hlt (by clear hx yes; omega) (.inl ⟨l0, fun i hi => ?_⟩)
      by_cases e : i = k
      · rw [e]; exact h9
      · rcases hx with hx | hx
        · exact hx.2 i (by omega)
        · have := hx.1; clear hx yes; omega
    · rcases hx with hx | hx
      · have := hx.1; clear hx yes; omega
      · exact hx.2
/-- the type is taken -/
def GD (w : Nat) (lev : Int) (σ : ST) : Prop := 0 ≤ SV σ ∧ lev ≤ 3 ∧ pc w ≤ 4 ∧ w.testBit (SV σ).toNat = false
theorem sv_rng {σ τ : ST} (h : TK σ τ) : -1 ≤ SV σ ∧ SV σ ≤ 8 := by
  by_cases h3 : (σ.1 2 4).toInt = 3
  · rw [sv_3 h3]; omega
  · by_cases h2 : (σ.1 2 4).toInt = 2
    · have hk : ∃ k : Nat, k < 15 ∧ (σ.1 2 6).toInt = k := by
        obtain ⟨_, h | h | h | h | h | h⟩ := h
        · omega
        · omega
        · rcases h.2.2.2.2 with ⟨_, k, a, b, _⟩ | ⟨a, _⟩
          · exact ⟨k, a, b⟩
          · omega
        · omega
        · omega
        · omega
      obtain ⟨k, hk, ek⟩ := hk
      rw [sv_2 h2 ek]
      by_cases a4 : k = 4
      · rw [a4, sk_4]; omega
      · by_cases a5 : k = 5
        · rw [a5, sk_5]; omega
        · by_cases a7 : 7 ≤ k ∧ k ≤ 12
          · rw [sk_s a7]; omega
          · rw [sk_n ⟨a4, a5, a7⟩]; omega
    · rw [sv_n h3 h2]; omega
/-- the reference takes the type or refuses it -/
theorem b_typeHead {rb rt : Int32 → Int32 → ST → Option ((Int32 × ST) × Nat)} (lev pB : Int32) (σ τ : ST) (w t0 : Nat) (hK : TK σ τ) (hM : MK w pB t0 τ) (ht : t0 ≤ 800) (P : (Int32 × ST) × Nat → Prop)
    (good : GD w lev.toInt σ → ∀ (y : Int32) (x : Nat), y.toInt = SV σ → x ≤ 23 → OK (f_X11_type_78 rb rt lev y 0 τ) (fun z => P (z.1, x + z.2)))
    (bad : ¬ GD w lev.toInt σ → ∀ q : (Int32 × ST) × Nat, CH [] [12] τ q.1.2 → q.1.1.toInt = -1 → q.2 ≤ 23 → P q) : OK (f_X11_type rb rt lev pB τ) P := by
  have lm := li_m1
  have l0 := li_0
  have l1 := li_1
  have l4 := li_4
  have l5 := li_5
  have l7 := li_7
  have l8 := li_8
  have rng := sv_rng hK
  have no : ∀ (y x4 : Int32) (x : Nat), 0 < x4.toInt → x ≤ 23 → ¬ GD w lev.toInt σ → OK (f_X11_type_78 rb rt lev y x4 τ) (fun z => P (z.1, x + z.2)) := fun y x4 x h4 hx hb => by
    unfold f_X11_type_78
    refine OK.ile (fun h => by omega) (fun _ => ?_)
    refine OK.bndC (b_wrongHere x4 τ) (fun v t c hv => ?_)
    exact ⟨_, rfl, bad hb ((-1, t), x + 0) c lm hx⟩
  have k16 : ∀ (y : Int32) (x : Nat), y.toInt = SV σ → x ≤ 23 → OK (f_X11_type_16 rb rt lev pB y τ) (fun z => P (z.1, x + z.2)) := fun y x hy hx => by
    unfold f_X11_type_16 f_X11_type_44 f_X11_type_48 f_X11_type_49 f_X11_type_75
    have n4 : ∀ y : Int32, ¬ GD w lev.toInt σ → OK (if (4 : Int32) = 0 then if pB < 0 then f_X11_type_78 rb rt lev y 4 τ else if y = 8 then f_X11_type_78 rb rt lev y 5 τ else (f_X11_isAsked pB y τ).bind fun q1 => if q1.1 = 0 then f_X11_type_78 rb rt lev y 4 q1.2 else f_X11_type_78 rb rt lev y 5 q1.2 else f_X11_type_78 rb rt lev y 4 τ) (fun z => P (z.1, x + z.2)) := fun y hb => OK.ieq (fun h => by omega) (fun _ => no y 4 x (by omega) hx hb)
    obtain ⟨hw, hM⟩ := hM
    refine OK.ile (fun h0 => ?_) (fun h0 => ?_)
    · refine OK.ile (fun hl => n4 y (fun g => by have := g.2.1; omega)) (fun hl => ?_)
      refine OK.ilt (fun hp => ?_) (fun hp => ?_)
      · rcases hM with ⟨_, e⟩ | ⟨h9, _⟩
        · subst e
          refine OK.ieq (fun _ => ?_) (fun h => absurd rfl h)
          refine OK.ilt (fun _ => good ⟨by omega, by omega, by decide, Nat.zero_testBit _⟩ y x hy hx) (fun h => by omega)
        · omega
      · rcases hM with ⟨h9, _⟩ | ⟨hp1, h8, m, hm, hm4, hpc, hb, hbit⟩
        · omega
        refine OK.grd ⟨by omega, by omega⟩ ?_
        refine OK.ieq (fun h4 => n4 y (fun g => by have := g.2.2.1; omega)) (fun h4 => ?_)
        refine OK.ieq (fun _ => ?_) (fun h => absurd rfl h)
        refine OK.ilt (fun h => by omega) (fun _ => ?_)
        refine OK.ieq (fun h8' => no y 5 x (by omega) hx (fun g => ?_)) (fun h8' => ?_)
        · have g4 := g.2.2.2
          have e8 : (SV σ).toNat = 8 := by omega
          rw [e8, h8] at g4
          cases g4
        have lu := FUi
        have e7 : (SV σ).toNat < 8 := by omega
        have eS : ((SV σ).toNat : Int) = y.toInt := by omega
        refine OK.bndR (b_isAsked_5 pB y τ m ⟨by omega, by omega⟩ hm hm4 hb FU 0 0 0 l0 (by omega) (by omega) (.inl ⟨l0, fun i hi => by omega⟩)) (fun v hv => ?_)
        dsimp only
        have hq := hbit (SV σ).toNat e7
        rw [eS] at hq
        refine OK.ieq (fun hv0 => good ⟨by omega, by omega, by omega, ?_⟩ y x hy hx) (fun hv1 => no y 5 x (by omega) hx (fun g => ?_))
        · cases hb9 : w.testBit (SV σ).toNat with
          | false => rfl
          | true =>
            obtain ⟨k, hk, ek⟩ := hq.mp hb9
            rcases hv with hv | hv
            · exact absurd ek (hv.2 k hk)
            · have := hv.1; clear hv hq; omega
        · have g4 := g.2.2.2
          rcases hv with hv | hv
          · have := hv.1; clear hv hq; omega
          · rw [hq.mpr hv.2] at g4
            cases g4
    · refine OK.ieq (fun h => by omega) (fun _ => no y 1 x (by omega) hx (fun g => by have := g.1; omega))
  unfold f_X11_type
  refine OK.bndK (b_isName τ) (fun v x hv hx => ?_)
  refine OK.kac ?_
  dsimp only
  refine OK.ieq (fun h => ?_) (fun h => ?_)
  · have hn : ¬ NM τ := by
      rcases hv with hv | hv
      · exact hv.2
      · omega
    refine OK.bndK (b_sortHere τ) (fun u z hu hz => ?_)
    refine OK.kac ?_
    dsimp only
    refine (k16 u (x + z) (sv_sh hK hn hu) (by omega)).mono (fun q hq => ?_)
    have e : x + (z + q.2) = x + z + q.2 := by omega
    show P (q.1, x + (z + q.2))
    rw [e]
    exact hq
  · have hn : NM τ := by
      rcases hv with hv | hv
      · omega
      · exact hv.2
    exact k16 7 x (by rw [sv_nm hK hn]; exact l7) (by omega)
