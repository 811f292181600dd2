/-! the class: tokens -/
/-- what is another one at most: the tokens' own numbers -/
def CA (σ t : ST) : Prop := (∀ c, c ≠ 2 → t.1 c = σ.1 c) ∧ t.1 2 2 = σ.1 2 2 ∧ (∀ c, c ≠ 2 → t.2.1 c = σ.2.1 c) ∧ t.2.2 = σ.2.2
theorem CA.rf {σ : ST} : CA σ σ := ⟨fun _ _ => rfl, rfl, fun _ _ => rfl, rfl⟩
theorem CA.trans {σ τ υ : ST} (h : CA σ τ) (k : CA τ υ) : CA σ υ := ⟨fun c hc => (k.1 c hc).trans (h.1 c hc), k.2.1.trans h.2.1, fun c hc => (k.2.2.1 c hc).trans (h.2.2.1 c hc), k.2.2.2.trans h.2.2.2⟩
theorem CA.i {σ τ : ST} (h : CA σ τ) {i : Nat} {v : Int32} (hi : i ≠ 2) : CA σ (stI τ 2 i v) := ⟨fun c hc => by rw [stI_ne hc]; exact h.1 c hc, by
  show upd (τ.1 2) i v 2 = _
  rw [upd_no (fun e => hi e.symm)]
  exact h.2.1, h.2.2⟩
theorem CA.l {σ τ : ST} (h : CA σ τ) {i : Nat} {v : Int64} : CA σ (stL τ 2 i v) := ⟨h.1, h.2.1, fun c hc => by rw [stL_ne hc]; exact h.2.2.1 c hc, h.2.2.2⟩
def sg (T : Nat → Int32) (n : Int) (k : Nat) : Int := if bt T n k < 0 then 0 else bt T n k
theorem sg_eq {T : Nat → Int32} {n : Int} {k : Nat} : sg T n k = bt T n k ∨ sg T n k = 0 ∧ bt T n k = -1 := by
  have := bt_rng (T := T) (n := n) (k := k)
  unfold sg
  split
  · exact .inr ⟨rfl, by omega⟩
  · exact .inl rfl
theorem a_signAt (p0 : Int32) (σ : ST) (h0 : 0 ≤ p0.toInt) (hn : bI (σ.1 2 2) 0 1000) : OK (f_X6_signAt p0 σ) (RO σ fun v => v.toInt = sg (σ.1 1) (σ.1 2 2).toInt p0.toNatClampNeg ∧ ((p0.toNatClampNeg : Int) < (σ.1 2 2).toInt → v = (σ.1 1 p0.toNatClampNeg &&& 255))) := by
  unfold f_X6_signAt
  obtain ⟨n1, n2⟩ := hn
  have np := nN_ h0
  have lt_0 := li_0
  have l1000 := li_1000
  refine OK.ilt (fun h => by omega) (fun _ => ?_)
  have z : ¬ (p0.toNatClampNeg : Int) < (σ.1 2 2).toInt → (0 : Int32).toInt = sg (σ.1 1) (σ.1 2 2).toInt p0.toNatClampNeg := fun h => by
    unfold sg bt
    rw [if_neg h, if_pos (by decide)]
    exact lt_0
  refine OK.ile (fun h => OK.roret ⟨z (by omega), fun h9 => by omega⟩) (fun h => ?_)
  refine OK.ile (fun h9 => by omega) (fun _ => ?_)
  refine OK.grd ⟨by omega, by omega⟩ ?_
  refine OK.roret ⟨?_, fun _ => rfl⟩
  have eb : bt (σ.1 1) (σ.1 2 2).toInt p0.toNatClampNeg = (σ.1 1 p0.toNatClampNeg).toInt % 256 := by
    unfold bt
    rw [if_pos (by omega)]
  unfold sg
  rw [eb, if_neg (by omega)]
  exact and255 _
theorem a_isLetter (p0 : Int32) (σ : ST) : OK (f_X6_isLetter p0 σ) (RO σ fun v => v.toInt = 0 ∧ ¬ isL p0.toInt ∨ v.toInt = 1 ∧ isL p0.toInt) := by
  unfold f_X6_isLetter isL
  have lt_0 := li_0
  have lt_1 := li_1
  have l97 := li_97
  have l122 := li_122
  refine OK.ilt (fun _ => OK.roret (by omega)) (fun _ => ?_)
  exact OK.ilt (fun _ => OK.roret (by omega)) (fun _ => OK.roret (by omega))
theorem a_isDigit (p0 : Int32) (σ : ST) : OK (f_X6_isDigit p0 σ) (RO σ fun v => v.toInt = 0 ∧ ¬ isD p0.toInt ∨ v.toInt = 1 ∧ isD p0.toInt) := by
  unfold f_X6_isDigit isD
  have lt_0 := li_0
  have lt_1 := li_1
  have l48 := li_48
  have l57 := li_57
  refine OK.ilt (fun _ => OK.roret (by omega)) (fun _ => ?_)
  exact OK.ilt (fun _ => OK.roret (by omega)) (fun _ => OK.roret (by omega))
theorem sgD {T : Nat → Int32} {n : Int} {k : Nat} : isD (sg T n k) ↔ isD (bt T n k) := by
  rcases sg_eq (T := T) (n := n) (k := k) with h | h
  · rw [h]
  · rw [h.1, h.2]; unfold isD; omega
theorem sgL {T : Nat → Int32} {n : Int} {k : Nat} : isL (sg T n k) ↔ isL (bt T n k) := by
  rcases sg_eq (T := T) (n := n) (k := k) with h | h
  · rw [h]
  · rw [h.1, h.2]; unfold isL; omega
/-- the letters' number, the first one lowest, five bits each -/
def w5 (T : Nat → Int32) (s : Nat) : Nat → Int64
  | 0 => 0
  | k + 1 => w5 T s k ||| (((T (s + k) - 97) + 1).toInt64 <<< ((5 * Int32.ofNat k).toInt64 &&& 63))
theorem ofNat_i {x : Int32} {k : Nat} (h : x.toInt = (k : Int)) (hk : k ≤ 100) : x = Int32.ofNat k := by
  refine Int32.toInt_inj.mp ?_
  rw [h]
  have e : ∀ k : Nat, k ≤ 100 → (Int32.ofNat k).toInt = (k : Int) := by
    intro k hk
    exact Int32.toInt_ofNat_of_lt (by omega)
  exact (e k hk).symm
theorem a_takeLetters_7 (x1 x2 : Int32) (T : Nat → Int32) (n : Int) (s : Nat) (hT8 : ∀ i, bI (T i) (-128) 127) (hx1 : x1.toInt = s) (hs : s ≤ 1001) (hx2 : 0 ≤ x2.toInt ∧ x2.toInt ≤ 12) (hn2 : 0 ≤ n ∧ n ≤ 1000) : ∀ (f k : Nat) (x3 : Int32) (σ : ST), σ.1 1 = T → (σ.1 2 2).toInt = n → x3.toInt = k → (k : Int) ≤ x2.toInt + 1 → σ.2.1 2 7 = w5 T s (min k x2.toInt.toNat) → (∀ i, i < k → isL (bt T n (s + i))) → 13 < f + k → OK (f_X6_takeLetters_7 f x1 x2 x3 σ) (fun q => (q.2.1 = σ.1 ∧ CA σ q.2) ∧ ((∃ m, RUN isL T n s m ∧ (m : Int) ≤ x2.toInt ∧ q.1.toInt = m ∧ q.2.2.1 2 7 = w5 T s m) ∨ (∀ i : Nat, (i : Int) ≤ x2.toInt → isL (bt T n (s + i))) ∧ q.1.toInt = x2.toInt + 1)) := by
  intro f
  induction f with
  | zero => intro k x3 σ h1 h2 h3 h4 h5 h6 h7; omega
  | succ f ih =>
    intro k x3 σ hT hn hx3 hk hw hl hf
    rw [f_X6_takeLetters_7]
    have lt_0 := li_0
    have lt_1 := li_1
    have l97 := li_97
    have l26 : (26 : Int32).toInt = 26 := by decide
    have l1000 := li_1000
    have e2 := il_addE (x := x2) (y := 1) (by omega) (by omega)
    have e13 := il_addE (x := x1) (y := x3) (by omega) (by omega)
    have e3 := il_addE (x := x3) (y := 1) (by omega) (by omega)
    have np : (x1 + x3).toNatClampNeg = s + k := nC (by omega)
    have nk : x3 = Int32.ofNat k := ofNat_i hx3 (by omega)
    refine OK.ilt (fun h => ?_) (fun h => ?_)
    · exact ⟨_, rfl, ⟨rfl, CA.rf⟩, .inr ⟨fun i hi => hl i (by omega), by show (x2 + 1).toInt = _; omega⟩⟩
    have stop : ∀ (y0 : Int32), (y0.toInt < 1 ∨ 26 < y0.toInt) → ¬ isL (bt T n (s + k)) → OK (f_X6_takeLetters_57 (f_X6_takeLetters_7 f) x1 x2 x3 y0 σ) (fun q => (q.2.1 = σ.1 ∧ CA σ q.2) ∧ ((∃ m, RUN isL T n s m ∧ (m : Int) ≤ x2.toInt ∧ q.1.toInt = m ∧ q.2.2.1 2 7 = w5 T s m) ∨ (∀ i : Nat, (i : Int) ≤ x2.toInt → isL (bt T n (s + i))) ∧ q.1.toInt = x2.toInt + 1)) := fun y0 hy hnl => by
      unfold f_X6_takeLetters_57
      have emk : min k x2.toInt.toNat = k := by omega
      rw [emk] at hw
      have z : OK (some (x3, σ)) (fun q : Int32 × ST => (q.2.1 = σ.1 ∧ CA σ q.2) ∧ ((∃ m, RUN isL T n s m ∧ (m : Int) ≤ x2.toInt ∧ q.1.toInt = m ∧ q.2.2.1 2 7 = w5 T s m) ∨ (∀ i : Nat, (i : Int) ≤ x2.toInt → isL (bt T n (s + i))) ∧ q.1.toInt = x2.toInt + 1)) := ⟨_, rfl, ⟨rfl, CA.rf⟩, .inl ⟨k, ⟨hl, hnl⟩, by omega, hx3, hw⟩⟩
      refine OK.ilt (fun _ => z) (fun _ => ?_)
      exact OK.ile (fun h9 => by omega) (fun _ => z)
    have hb := bt_rng (T := T) (n := n) (k := s + k)
    have h56 : ¬ ((s + k : Nat) : Int) < n → OK (f_X6_takeLetters_56 (f_X6_takeLetters_7 f) x1 x2 x3 σ) (fun q => (q.2.1 = σ.1 ∧ CA σ q.2) ∧ ((∃ m, RUN isL T n s m ∧ (m : Int) ≤ x2.toInt ∧ q.1.toInt = m ∧ q.2.2.1 2 7 = w5 T s m) ∨ (∀ i : Nat, (i : Int) ≤ x2.toInt → isL (bt T n (s + i))) ∧ q.1.toInt = x2.toInt + 1)) := fun h9 => by
      unfold f_X6_takeLetters_56
      exact stop 0 (by omega) (fun h8 => h9 (hb.2.2.mp (isL_0 _ h8)))
    refine OK.ilt (fun h9 => by omega) (fun _ => ?_)
    refine OK.ile (fun h9 => h56 (by omega)) (fun h9 => ?_)
    refine OK.ile (fun h8 => by omega) (fun _ => ?_)
    refine OK.grd ⟨by omega, by omega⟩ ?_
    rw [np, hT]
    obtain ⟨t1, t2⟩ := hT8 (s + k)
    have a1 := il_subE (x := T (s + k)) (y := 97) (by omega) (by omega)
    have a2 := il_addE (x := T (s + k) - 97) (y := 1) (by omega) (by omega)
    have ebt : bt T n (s + k) = (T (s + k)).toInt % 256 := by unfold bt; rw [if_pos (by omega)]
    by_cases hL : isL (bt T n (s + k))
    · have hL' := hL
      unfold isL at hL'
      have hl' : ∀ i, i < k + 1 → isL (bt T n (s + i)) := fun i hi => by
        by_cases e : i = k
        · rw [e]; exact hL
        · exact hl i (by omega)
      unfold f_X6_takeLetters_57 f_X6_takeLetters_95
      refine OK.ilt (fun h8 => by omega) (fun _ => ?_)
      refine OK.ile (fun _ => ?_) (fun h8 => by omega)
      refine OK.ile (fun hle => ?_) (fun hgt => ?_)
      · refine ih (k + 1) (x3 + 1) σ hT hn (by omega) (by omega) ?_ hl' (by omega)
        rw [hw]
        congr 1
        omega
      · have e1 : min k x2.toInt.toNat = k := by omega
        have e4 : min (k + 1) x2.toInt.toNat = k + 1 := by omega
        refine (ih (k + 1) (x3 + 1) (stL σ 2 7 (σ.2.1 2 7 ||| ((T (s + k) - 97 + 1).toInt64 <<< ((5 * x3).toInt64 &&& 63)))) hT hn (by omega) (by omega) ?_ hl' (by omega)).mono (fun q hq => ⟨⟨hq.1.1, (CA.rf.l).trans hq.1.2⟩, hq.2⟩)
        rw [e4, w5, ← nk, ← e1, ← hw]
        rfl
    · refine stop _ ?_ hL
      unfold isL at hL
      omega
theorem a_takeLetters (x1 x2 : Int32) (σ : ST) (s : Nat) (hT8 : ∀ i, bI (σ.1 1 i) (-128) 127) (hx1 : x1.toInt = s) (hs : s ≤ 1001) (hx2 : 0 ≤ x2.toInt ∧ x2.toInt ≤ 12) (hn2 : bI (σ.1 2 2) 0 1000) : OK (f_X6_takeLetters x1 x2 σ) (fun q => (q.2.1 = σ.1 ∧ CA σ q.2) ∧ ((∃ m, RUN isL (σ.1 1) (σ.1 2 2).toInt s m ∧ (m : Int) ≤ x2.toInt ∧ q.1.toInt = m ∧ q.2.2.1 2 7 = w5 (σ.1 1) s m) ∨ (∀ i : Nat, (i : Int) ≤ x2.toInt → isL (bt (σ.1 1) (σ.1 2 2).toInt (s + i))) ∧ q.1.toInt = x2.toInt + 1)) := by
  unfold f_X6_takeLetters
  have lu := FUi
  refine (a_takeLetters_7 x1 x2 (σ.1 1) (σ.1 2 2).toInt s hT8 hx1 hs hx2 hn2 FU 0 0 (stL σ 2 7 0) rfl rfl li_0 (by omega) ?_ (fun i hi => by omega) (by omega)).mono (fun q hq => ⟨⟨hq.1.1, (CA.rf.l).trans hq.1.2⟩, hq.2⟩)
  have e : min 0 x2.toInt.toNat = 0 := by omega
  rw [e]
  rfl
/-- a word's kind: one of those that mean something, or a name -/
def KP (t : ST) : Prop := ((t.1 2 4).toInt = 2 ∧ ∃ k : Nat, k < 15 ∧ (t.1 2 6).toInt = k ∧ t.2.1 3 k = t.2.1 2 7) ∨ ((t.1 2 4).toInt = 3 ∧ ∀ k : Nat, k < 15 → ¬ t.2.1 3 k = t.2.1 2 7)
theorem a_scanWord_45 : ∀ (f : Nat) (x2 : Int32) (σ : ST), (0 ≤ x2.toInt ∧ x2.toInt ≤ 15 ∧ (15 : Int) - x2.toInt < f) → (((σ.1 2 4).toInt = 2 ∧ ∃ k : Nat, (k : Int) < x2.toInt ∧ (σ.1 2 6).toInt = k ∧ σ.2.1 3 k = σ.2.1 2 7) ∨ ((σ.1 2 4).toInt = 3 ∧ ∀ k : Nat, (k : Int) < x2.toInt → ¬ σ.2.1 3 k = σ.2.1 2 7)) → OK (f_X6_scanWord_45 f x2 σ) (fun t => CA σ t ∧ KP t ∧ t.1 2 3 = σ.1 2 3 ∧ t.1 2 5 = σ.1 2 5 ∧ t.2 = σ.2) := by
  intro f
  induction f with
  | zero => intro x2 σ h1 h2; omega
  | succ f ih =>
    intro x2 σ hx hk
    rw [f_X6_scanWord_45]
    unfold f_X6_scanWord_75
    have lt_1 := li_1
    have lt_2 := li_2
    have l15 := li_15
    refine OK.ile (fun h => ?_) (fun h => ?_)
    · refine ⟨_, rfl, CA.rf, ?_, rfl, rfl, rfl⟩
      rcases hk with ⟨a, k, b, c, d⟩ | ⟨a, b⟩
      · exact .inl ⟨a, k, by omega, c, d⟩
      · exact .inr ⟨a, fun k hk => b k (by omega)⟩
    have e := il_addE (x := x2) (y := 1) (by omega) (by omega)
    have n2 := nN_ hx.1
    refine OK.grd ⟨by omega, by omega⟩ ?_
    refine OK.ite (fun h9 => ?_) (fun h9 => ?_)
    · rw [lg_cmp_eq] at h9
      refine (ih (x2 + 1) (stI (stI σ 2 4 2) 2 6 x2) (by omega) (.inl ⟨lt_2, x2.toNatClampNeg, by omega, n2.symm, h9⟩)).mono (fun t ht => ⟨((CA.rf.i (by decide)).i (by decide)).trans ht.1, ht.2.1, ht.2.2.1, ht.2.2.2.1, ht.2.2.2.2⟩)
    · rw [lg_cmp_eq] at h9
      refine ih (x2 + 1) σ (by omega) ?_
      rcases hk with ⟨a, k, b, c, d⟩ | ⟨a, b⟩
      · exact .inl ⟨a, k, by omega, c, d⟩
      · refine .inr ⟨a, fun k hk => ?_⟩
        by_cases e9 : (k : Int) < x2.toInt
        · exact b k e9
        · have : k = x2.toNatClampNeg := by omega
          rw [this]; exact h9
/-- the token that begins at a place -/
def TA_ (T : Nat → Int32) (n : Int) (s : Nat) (t : ST) : Prop := (t.1 2 5).toInt = s ∧
  ((bt T n s < 0 ∧ (t.1 2 4).toInt = 0) ∨
   (isL (bt T n s) ∧ ((∃ m, RUN isL T n s m ∧ m ≤ 8 ∧ (t.1 2 3).toInt = s + m ∧ t.2.1 2 7 = w5 T s m ∧ KP t) ∨ (∀ i : Nat, i ≤ 8 → isL (bt T n (s + i))) ∧ (t.1 2 4).toInt = 1)) ∨
   ((isD (bt T n s) ∨ bt T n s = 45) ∧ ∃ i, (bt T n s = 45 ∧ i = s + 1 ∨ ¬ bt T n s = 45 ∧ i = s) ∧
     ((∃ m, RUN isD T n i m ∧ (1 ≤ m ∧ m ≤ 18) ∧ (t.1 2 4).toInt = 4 ∧ t.2.1 2 8 = dv T i m ∧ ((t.1 2 9).toInt = 1 ∧ bt T n s = 45 ∨ (t.1 2 9).toInt = 0 ∧ ¬ bt T n s = 45) ∧ ((bt T n (i + m) = 46 ∧ isD (bt T n (i + m + 1)) ∧ ¬ isD (bt T n (i + m + 2)) ∧ (t.1 2 10).toInt = 1 ∧ (t.1 2 3).toInt = i + m + 2) ∨ (¬ bt T n (i + m) = 46 ∧ (t.1 2 10).toInt = 0 ∧ (t.1 2 3).toInt = i + m))) ∨
      ((t.1 2 4).toInt = 1 ∧ (¬ isD (bt T n i) ∨ (∀ j : Nat, j ≤ 18 → isD (bt T n (i + j))) ∨ ∃ m, RUN isD T n i m ∧ (1 ≤ m ∧ m ≤ 18) ∧ bt T n (i + m) = 46 ∧ (¬ isD (bt T n (i + m + 1)) ∨ isD (bt T n (i + m + 2))))))) ∨
   (bt T n s = 34 ∧ ((∃ m, RUN isL T n (s + 1) m ∧ m ≤ 12 ∧ bt T n (s + 1 + m) = 34 ∧ (t.1 2 4).toInt = 5 ∧ (t.1 2 3).toInt = s + 1 + m + 1) ∨ ((t.1 2 4).toInt = 1 ∧ ((∀ i : Nat, i ≤ 12 → isL (bt T n (s + 1 + i))) ∨ ∃ m, RUN isL T n (s + 1) m ∧ ¬ bt T n (s + 1 + m) = 34)))) ∨
   ((0 ≤ bt T n s ∧ ¬ isL (bt T n s) ∧ ¬ isD (bt T n s) ∧ ¬ bt T n s = 45 ∧ ¬ bt T n s = 34) ∧ (((bt T n s = 123 ∨ bt T n s = 125 ∨ bt T n s = 91 ∨ bt T n s = 93 ∨ bt T n s = 44 ∨ bt T n s = 59) ∧ (t.1 2 4).toInt = bt T n s ∧ (t.1 2 3).toInt = s + 1) ∨ (¬ (bt T n s = 123 ∨ bt T n s = 125 ∨ bt T n s = 91 ∨ bt T n s = 93 ∨ bt T n s = 44 ∨ bt T n s = 59) ∧ (t.1 2 4).toInt = 1))))
theorem a_scanWord (σ : ST) (s : Nat) (hT8 : ∀ i, bI (σ.1 1 i) (-128) 127) (h5 : (σ.1 2 5).toInt = s) (hs : s ≤ 1000) (hn2 : bI (σ.1 2 2) 0 1000) : OK (f_X6_scanWord σ) (fun t => CA σ t ∧ t.1 2 5 = σ.1 2 5 ∧ ((∃ m, RUN isL (σ.1 1) (σ.1 2 2).toInt s m ∧ m ≤ 8 ∧ (t.1 2 3).toInt = s + m ∧ t.2.1 2 7 = w5 (σ.1 1) s m ∧ KP t) ∨ (∀ i : Nat, i ≤ 8 → isL (bt (σ.1 1) (σ.1 2 2).toInt (s + i))) ∧ (t.1 2 4).toInt = 1)) := by
  unfold f_X6_scanWord
  have lt_0 := li_0
  have lt_1 := li_1
  have lt_3 := li_3
  have lt_8 := li_8
  have lu := FUi
  refine OK.bnd (a_takeLetters (σ.1 2 5) 8 σ s hT8 h5 (by omega) (by omega) hn2) (fun q hq => ?_)
  obtain ⟨⟨e1, cq⟩, hq⟩ := hq
  have e25 : q.2.1 2 5 = σ.1 2 5 := by rw [e1]
  rcases hq with ⟨m, hR, hm, hv, hw⟩ | ⟨hall, hv⟩
  · refine OK.ile (fun _ => ?_) (fun h => by omega)
    have e3 := il_addE (x := q.2.1 2 5) (y := q.1) (by rw [e25]; omega) (by rw [e25]; omega)
    refine (a_scanWord_45 FU 0 (stI (stI (stI q.2 2 3 (q.2.1 2 5 + q.1)) 2 4 3) 2 6 (-1)) (by omega) (.inr ⟨lt_3, fun k hk => by omega⟩)).mono (fun t ht => ?_)
    obtain ⟨ct, hK, t3, t5, t2⟩ := ht
    refine ⟨(cq.trans (((CA.rf.i (by decide)).i (by decide)).i (by decide))).trans ct, by rw [t5]; exact e25, .inl ⟨m, hR, by omega, ?_, ?_, hK⟩⟩
    · rw [t3]
      show (q.2.1 2 5 + q.1).toInt = _
      rw [e3, e25]
      omega
    · rw [t2]
      exact hw
  · refine OK.ile (fun h => by omega) (fun _ => ?_)
    exact ⟨_, rfl, cq.trans (CA.rf.i (by decide)), e25, .inr ⟨fun i hi => hall i (by omega), lt_1⟩⟩
theorem a_scanLettered (σ : ST) (s : Nat) (hT8 : ∀ i, bI (σ.1 1 i) (-128) 127) (h5 : (σ.1 2 5).toInt = s) (hs : s < 1000) (hn2 : bI (σ.1 2 2) 0 1000) : OK (f_X6_scanLettered σ) (fun t => CA σ t ∧ t.1 2 5 = σ.1 2 5 ∧ ((∃ m, RUN isL (σ.1 1) (σ.1 2 2).toInt (s + 1) m ∧ m ≤ 12 ∧ bt (σ.1 1) (σ.1 2 2).toInt (s + 1 + m) = 34 ∧ (t.1 2 4).toInt = 5 ∧ (t.1 2 3).toInt = s + 1 + m + 1) ∨ ((t.1 2 4).toInt = 1 ∧ ((∀ i : Nat, i ≤ 12 → isL (bt (σ.1 1) (σ.1 2 2).toInt (s + 1 + i))) ∨ ∃ m, RUN isL (σ.1 1) (σ.1 2 2).toInt (s + 1) m ∧ ¬ bt (σ.1 1) (σ.1 2 2).toInt (s + 1 + m) = 34)))) := by
  unfold f_X6_scanLettered f_X6_scanLettered_38
  have lt_1 := li_1
  have lt_5 := li_5
  have l12 := li_12
  have l34 := li_34
  have e51 := il_addE (x := σ.1 2 5) (y := 1) (by omega) (by omega)
  refine OK.bnd (a_takeLetters (σ.1 2 5 + 1) 12 σ (s + 1) hT8 (by omega) (by omega) (by omega) hn2) (fun q hq => ?_)
  obtain ⟨⟨e1, cq⟩, hq⟩ := hq
  have e25 : q.2.1 2 5 = σ.1 2 5 := by rw [e1]
  rcases hq with ⟨m, hR, hm, hv, hw⟩ | ⟨hall, hv⟩
  · refine OK.ilt (fun h => by omega) (fun _ => ?_)
    have e5 := il_addE (x := q.2.1 2 5) (y := 1) (by rw [e25]; omega) (by rw [e25]; omega)
    have e6 := il_addE (x := q.2.1 2 5 + 1) (y := q.1) (by rw [e5, e25]; omega) (by rw [e5, e25]; omega)
    rw [e25] at e5 e6
    have e7 := il_addE (x := σ.1 2 5 + 1 + q.1) (y := 1) (by omega) (by omega)
    rw [e25]
    have np : (σ.1 2 5 + 1 + q.1).toNatClampNeg = s + 1 + m := nC (by omega)
    have hsg := a_signAt (σ.1 2 5 + 1 + q.1) q.2 (by omega) (by rw [e1]; exact hn2)
    rw [np, e1] at hsg
    refine OK.bndR hsg (fun v hv2 => ?_)
    dsimp only
    have hsq := sg_eq (T := σ.1 1) (n := (σ.1 2 2).toInt) (k := s + 1 + m)
    have hv3 := hv2.1
    refine OK.ieq (fun h => ?_) (fun h => ?_)
    · refine ⟨_, rfl, cq.trans ((CA.rf.i (by decide)).i (by decide)), e25, .inl ⟨m, hR, by omega, by omega, lt_5, ?_⟩⟩
      show (σ.1 2 5 + 1 + q.1 + 1).toInt = _
      omega
    · exact ⟨_, rfl, cq.trans (CA.rf.i (by decide)), e25, .inr ⟨lt_1, .inr ⟨m, hR, by omega⟩⟩⟩
  · refine OK.ilt (fun _ => ?_) (fun h => by omega)
    exact ⟨_, rfl, cq.trans (CA.rf.i (by decide)), e25, .inr ⟨lt_1, .inl (fun i hi => hall i (by omega))⟩⟩
theorem dig64 {v : Int32} {w : Int64} (h : isD v.toInt) : w * 10 + (v - 48).toInt64 = 10 * w + v.toInt64 - 48 := by
  unfold isD at h
  have l48 := li_48
  have e1 := il_subE (x := v) (y := 48) (by omega) (by omega)
  have e2 : (v - 48).toInt64 = v.toInt64 - 48 := by
    refine Int64.toInt_inj.mp ?_
    rw [Int64.toInt_sub, i64, i64, e1]
    have l : (48 : Int64).toInt = 48 := by decide
    rw [l, l48]
    exact (Int.bmod_eq_of_le (by omega) (by omega)).symm
  rw [e2, Int64.mul_comm, Int64.sub_eq_add_neg, Int64.sub_eq_add_neg, Int64.add_assoc]
/-- what a number's scan leaves -/
def NA (T : Nat → Int32) (n : Int) (i : Nat) (t : ST) : Prop := ((∃ m, RUN isD T n i m ∧ (1 ≤ m ∧ m ≤ 18) ∧ (t.1 2 4).toInt = 4 ∧ t.2.1 2 8 = dv T i m ∧ ((bt T n (i + m) = 46 ∧ isD (bt T n (i + m + 1)) ∧ ¬ isD (bt T n (i + m + 2)) ∧ (t.1 2 10).toInt = 1 ∧ (t.1 2 3).toInt = i + m + 2) ∨ (¬ bt T n (i + m) = 46 ∧ (t.1 2 10).toInt = 0 ∧ (t.1 2 3).toInt = i + m))) ∨
      ((t.1 2 4).toInt = 1 ∧ (¬ isD (bt T n i) ∨ (∀ j : Nat, j ≤ 18 → isD (bt T n (i + j))) ∨ ∃ m, RUN isD T n i m ∧ (1 ≤ m ∧ m ≤ 18) ∧ bt T n (i + m) = 46 ∧ (¬ isD (bt T n (i + m + 1)) ∨ isD (bt T n (i + m + 2))))))
theorem a_scanNumber_119 (x1 x2 : Int32) (T : Nat → Int32) (n : Int) (i m : Nat) (σ : ST) (hT : σ.1 1 = T) (hn : (σ.1 2 2).toInt = n) (hn2 : 0 ≤ n ∧ n ≤ 1000) (h4 : (σ.1 2 4).toInt = 1) (h10 : (σ.1 2 10).toInt = 0) (hi : i ≤ 1001) (hx1 : x1.toInt = i + m) (hx2 : x2.toInt = m) (h8 : σ.2.1 2 8 = dv T i (min m 18)) (hD : ∀ j, j < m → isD (bt T n (i + j))) (hm : m ≤ 19) (hend : m = 19 ∨ ¬ isD (bt T n (i + m))) : OK (f_X6_scanNumber_119 x1 x2 σ) (fun t => CA σ t ∧ t.1 2 5 = σ.1 2 5 ∧ t.1 2 9 = σ.1 2 9 ∧ NA T n i t) := by
  unfold f_X6_scanNumber_119
  have lt_0 := li_0
  have lt_1 := li_1
  have lt_2 := li_2
  have lt_4 := li_4
  have l18 := li_18
  have l46 : (46 : Int32).toInt = 46 := by decide
  refine OK.ieq (fun h => ?_) (fun hm0 => ?_)
  · refine ⟨_, rfl, CA.rf, rfl, rfl, .inr ⟨h4, .inl ?_⟩⟩
    have e : m = 0 := by omega
    rcases hend with h9 | h9
    · omega
    · rw [e] at h9; exact h9
  refine OK.ile (fun hle => ?_) (fun hgt => ?_)
  rotate_left
  · exact ⟨_, rfl, CA.rf, rfl, rfl, .inr ⟨h4, .inr (.inl (fun j hj => hD j (by omega)))⟩⟩
  have hR : RUN isD T n i m := ⟨hD, by
    rcases hend with h9 | h9
    · omega
    · exact h9⟩
  have him : ((i + m : Nat) : Int) ≤ n := run_le isD_0 hR (by omega)
  have emn : min m 18 = m := by omega
  rw [emn] at h8
  have np : x1.toNatClampNeg = i + m := nC (by omega)
  have e1 := il_addE (x := x1) (y := 1) (by omega) (by omega)
  have e2 := il_addE (x := x1) (y := 2) (by omega) (by omega)
  have np1 : (x1 + 1).toNatClampNeg = i + m + 1 := nC (by omega)
  have np2 : (x1 + 2).toNatClampNeg = i + m + 2 := nC (by omega)
  have s0 := a_signAt x1 σ (by omega) ⟨by omega, by omega⟩
  rw [np, hT, hn] at s0
  have s1 := a_signAt (x1 + 1) σ (by omega) ⟨by omega, by omega⟩
  rw [np1, hT, hn] at s1
  have s2 := a_signAt (x1 + 2) σ (by omega) ⟨by omega, by omega⟩
  rw [np2, hT, hn] at s2
  refine OK.bndR s0 (fun v hv => ?_)
  dsimp only
  have hv1 := hv.1
  have q0 := sg_eq (T := T) (n := n) (k := i + m)
  unfold f_X6_scanNumber_189
  refine OK.ieq (fun h46 => ?_) (fun h46 => ?_)
  · refine OK.bndR s1 (fun v1 hw1 => ?_)
    dsimp only
    refine OK.bndR (a_isDigit _ _) (fun d1 hd1 => ?_)
    dsimp only
    rw [hw1.1, sgD] at hd1
    refine OK.ieq (fun h0 => ?_) (fun h0 => ?_)
    · refine ⟨_, rfl, CA.rf, rfl, rfl, .inr ⟨h4, .inr (.inr ⟨m, hR, by omega, by omega, .inl ?_⟩)⟩⟩
      rcases hd1 with h | h
      · exact h.2
      · omega
    have hD1 : isD (bt T n (i + m + 1)) := by
      rcases hd1 with h | h
      · omega
      · exact h.2
    refine OK.bndR s2 (fun v2 hw2 => ?_)
    dsimp only
    refine OK.bndR (a_isDigit _ _) (fun d2 hd2 => ?_)
    dsimp only
    rw [hw2.1, sgD] at hd2
    refine OK.ieq (fun h9 => ?_) (fun h9 => ?_)
    · have s1' := a_signAt (x1 + 1) (stI σ 2 10 1) (by omega) ⟨by show 0 ≤ (σ.1 2 2).toInt; omega, by show (σ.1 2 2).toInt ≤ 1000; omega⟩
      refine OK.bndR s1' (fun v3 hw3 => ?_)
      dsimp only
      refine ⟨_, rfl, (((CA.rf.i (by decide)).i (by decide)).i (by decide)).i (by decide), rfl, rfl, .inl ⟨m, hR, by omega, lt_4, h8, .inl ⟨by omega, hD1, ?_, lt_1, ?_⟩⟩⟩
      · rcases hd2 with h | h
        · exact h.2
        · omega
      · show (x1 + 2).toInt = _
        omega
    · refine ⟨_, rfl, CA.rf, rfl, rfl, .inr ⟨h4, .inr (.inr ⟨m, hR, by omega, by omega, .inr ?_⟩)⟩⟩
      rcases hd2 with h | h
      · omega
      · exact h.2
  · exact ⟨_, rfl, (CA.rf.i (by decide)).i (by decide), rfl, rfl, .inl ⟨m, hR, by omega, lt_4, h8, .inr ⟨by omega, h10, hx1⟩⟩⟩
theorem a_scanNumber_65 (T : Nat → Int32) (n : Int) (i : Nat) (hn2 : 0 ≤ n ∧ n ≤ 1000) (hi : i ≤ 1001) : ∀ (f m : Nat) (x1 x2 : Int32) (σ : ST), σ.1 1 = T → (σ.1 2 2).toInt = n → (σ.1 2 4).toInt = 1 → (σ.1 2 10).toInt = 0 → x1.toInt = i + m → x2.toInt = m → σ.2.1 2 8 = dv T i (min m 18) → (∀ j, j < m → isD (bt T n (i + j))) → m ≤ 19 → 20 < f + m → OK (f_X6_scanNumber_65 f x1 x2 σ) (fun t => CA σ t ∧ t.1 2 5 = σ.1 2 5 ∧ t.1 2 9 = σ.1 2 9 ∧ NA T n i t) := by
  intro f
  induction f with
  | zero => intro m x1 x2 σ h1 h2 h3 h4 h5 h6 h7 h8 h9 h10; omega
  | succ f ih =>
    intro m x1 x2 σ hT hn h4 h10 hx1 hx2 h8 hD hm hf
    rw [f_X6_scanNumber_65]
    unfold f_X6_scanNumber_110
    have lt_0 := li_0
    have lt_1 := li_1
    have l18 := li_18
    have np : x1.toNatClampNeg = i + m := nC (by omega)
    have e1 := il_addE (x := x1) (y := 1) (by omega) (by omega)
    have e2 := il_addE (x := x2) (y := 1) (by omega) (by omega)
    refine OK.ilt (fun h => a_scanNumber_119 x1 x2 T n i m σ hT hn hn2 h4 h10 hi hx1 hx2 h8 hD hm (.inl (by omega))) (fun h => ?_)
    have s0 := a_signAt x1 σ (by omega) ⟨by omega, by omega⟩
    rw [np, hT, hn] at s0
    refine OK.bndR s0 (fun v hv => ?_)
    dsimp only
    refine OK.bndR (a_isDigit _ _) (fun d hd => ?_)
    dsimp only
    rw [hv.1, sgD] at hd
    refine OK.ieq (fun h0 => a_scanNumber_119 x1 x2 T n i m σ hT hn hn2 h4 h10 hi hx1 hx2 h8 hD hm (.inr ?_)) (fun h0 => ?_)
    · rcases hd with h9 | h9
      · exact h9.2
      · omega
    have hd1 : isD (bt T n (i + m)) := by
      rcases hd with h9 | h9
      · omega
      · exact h9.2
    have hlt := (bt_rng (T := T) (n := n) (k := i + m)).2.2.mp (isD_0 _ hd1)
    have hD' : ∀ j, j < m + 1 → isD (bt T n (i + j)) := fun j hj => by
      by_cases e : j = m
      · rw [e]; exact hd1
      · exact hD j (by omega)
    refine OK.ile (fun hle => ?_) (fun hgt => ?_)
    · refine ih (m + 1) (x1 + 1) (x2 + 1) σ hT hn h4 h10 (by omega) (by omega) ?_ hD' (by omega) (by omega)
      rw [h8]
      congr 1
      omega
    · refine OK.bndR s0 (fun v2 hv2 => ?_)
      dsimp only
      have e3 : min m 18 = m := by omega
      have e4 : min (m + 1) 18 = m + 1 := by omega
      refine (ih (m + 1) (x1 + 1) (x2 + 1) (stL σ 2 8 (σ.2.1 2 8 * 10 + (v2 - 48).toInt64)) hT hn h4 h10 (by omega) (by omega) ?_ hD' (by omega) (by omega)).mono (fun t ht => ⟨(CA.rf.l).trans ht.1, ht.2⟩)
      show σ.2.1 2 8 * 10 + (v2 - 48).toInt64 = _
      have hdv : isD v2.toInt := by rw [hv2.1, sgD]; exact hd1
      rw [dig64 hdv, e4, dv, h8, e3, hv2.2 hlt]
theorem a_scanNumber (σ : ST) (s : Nat) (h5 : (σ.1 2 5).toInt = s) (hs : s < 1000) (hn2 : bI (σ.1 2 2) 0 1000) : OK (f_X6_scanNumber σ) (fun t => CA σ t ∧ t.1 2 5 = σ.1 2 5 ∧ ((bt (σ.1 1) (σ.1 2 2).toInt s = 45 ∧ (t.1 2 9).toInt = 1 ∧ NA (σ.1 1) (σ.1 2 2).toInt (s + 1) t) ∨ (¬ bt (σ.1 1) (σ.1 2 2).toInt s = 45 ∧ (t.1 2 9).toInt = 0 ∧ NA (σ.1 1) (σ.1 2 2).toInt s t))) := by
  unfold f_X6_scanNumber f_X6_scanNumber_19 f_X6_scanNumber_62
  have lt_0 := li_0
  have lt_1 := li_1
  have lu := FUi
  have l45 := li_45
  have np : (σ.1 2 5).toNatClampNeg = s := nC (by omega)
  have s0 := a_signAt (σ.1 2 5) σ (by omega) hn2
  rw [np] at s0
  have e1 := il_addE (x := σ.1 2 5) (y := 1) (by omega) (by omega)
  have hsq := sg_eq (T := σ.1 1) (n := (σ.1 2 2).toInt) (k := s)
  have c : ∀ y : Int32, CA σ (stI (stL (stI (stI (stI σ 2 9 y) 2 10 0) 2 11 0) 2 8 0) 2 4 1) := fun y => ((((CA.rf.i (by decide)).i (by decide)).i (by decide)).l).i (by decide)
  refine OK.bndR s0 (fun v hv => ?_)
  dsimp only
  have hv1 := hv.1
  refine OK.ieq (fun h => ?_) (fun h => ?_)
  · refine OK.grd (.inr rfl) ?_
    refine OK.ieq (fun h9 => by have h9 : (1 : Int32).toInt = (0 : Int32).toInt := h9; omega) (fun _ => ?_)
    refine (a_scanNumber_65 (σ.1 1) (σ.1 2 2).toInt (s + 1) hn2 (by omega) FU 0 _ 0 (stI (stL (stI (stI (stI σ 2 9 1) 2 10 0) 2 11 0) 2 8 0) 2 4 1) rfl rfl lt_1 lt_0 (by show (σ.1 2 5 + 1).toInt = _; omega) lt_0 rfl (fun j hj => by omega) (by omega) (by omega)).mono (fun t ht => ⟨(c 1).trans ht.1, ht.2.1, .inl ⟨by omega, ?_, ht.2.2.2⟩⟩)
    rw [ht.2.2.1]
    exact lt_1
  · refine OK.grd (.inl rfl) ?_
    refine OK.ieq (fun _ => ?_) (fun h9 => absurd rfl h9)
    refine (a_scanNumber_65 (σ.1 1) (σ.1 2 2).toInt s hn2 (by omega) FU 0 _ 0 (stI (stL (stI (stI (stI σ 2 9 0) 2 10 0) 2 11 0) 2 8 0) 2 4 1) rfl rfl lt_1 lt_0 (by show (σ.1 2 5).toInt = _; omega) lt_0 rfl (fun j hj => by omega) (by omega) (by omega)).mono (fun t ht => ⟨(c 0).trans ht.1, ht.2.1, .inr ⟨by omega, ?_, ht.2.2.2⟩⟩)
    rw [ht.2.2.1]
    exact lt_0
theorem a_advance_50 (σ : ST) (s : Nat) (hT8 : ∀ i, bI (σ.1 1 i) (-128) 127) (h3 : (σ.1 2 3).toInt = s) (hs : s ≤ 1030) (hn2 : bI (σ.1 2 2) 0 1000) : OK (f_X6_advance_50 σ) (fun t => CA σ t ∧ TA_ (σ.1 1) (σ.1 2 2).toInt s t) := by
  unfold f_X6_advance_50 f_X6_advance_113
  have lt_0 := li_0
  have lt_1 := li_1
  have l45 := li_45
  have l34 := li_34
  obtain ⟨n1, n2⟩ := hn2
  have z1 : (stI σ 2 5 (σ.1 2 3)).1 1 = σ.1 1 := rfl
  have z2 : (stI σ 2 5 (σ.1 2 3)).1 2 2 = σ.1 2 2 := rfl
  have z5 : (stI σ 2 5 (σ.1 2 3)).1 2 5 = σ.1 2 3 := rfl
  have cz : CA σ (stI σ 2 5 (σ.1 2 3)) := CA.rf.i (by decide)
  generalize stI σ 2 5 (σ.1 2 3) = z at z1 z2 z5 cz ⊢
  have z5' : (z.1 2 5).toInt = s := by rw [z5]; exact h3
  have np : (z.1 2 5).toNatClampNeg = s := nC z5'
  have s0 := a_signAt (z.1 2 5) z (by omega) (by rw [z2]; exact ⟨n1, n2⟩)
  rw [np, z1, z2] at s0
  refine OK.bndR s0 (fun c hc => ?_)
  dsimp only
  have hc1 := hc.1
  have hb := bt_rng (T := σ.1 1) (n := (σ.1 2 2).toInt) (k := s)
  have hsq := sg_eq (T := σ.1 1) (n := (σ.1 2 2).toInt) (k := s)
  have z2' : (z.1 2 2).toInt = (σ.1 2 2).toInt := by rw [z2]
  refine OK.ilt (fun hlt => ?_) (fun hge => ?_)
  rotate_left
  · refine ⟨_, rfl, cz.trans (CA.rf.i (by decide)), z5', .inl ⟨?_, lt_0⟩⟩
    have : ¬ (0 ≤ bt (σ.1 1) (σ.1 2 2).toInt s) := fun h9 => by have := hb.2.2.mp h9; omega
    omega
  have h0 := hb.2.2.mpr (by omega)
  have ec : c.toInt = bt (σ.1 1) (σ.1 2 2).toInt s := by omega
  have hs1 : s < 1000 := by omega
  refine OK.bndR (a_isLetter _ _) (fun q3 h3' => ?_)
  dsimp only
  rw [ec] at h3'
  have num : (isD (bt (σ.1 1) (σ.1 2 2).toInt s) ∨ bt (σ.1 1) (σ.1 2 2).toInt s = 45) → OK ((f_X6_scanNumber z).bind fun q => some q) (fun t => CA σ t ∧ TA_ (σ.1 1) (σ.1 2 2).toInt s t) := fun hd => by
    have hsn := a_scanNumber z s z5' hs1 (by rw [z2]; exact ⟨n1, n2⟩)
    rw [z1, z2] at hsn
    refine OK.bnd hsn (fun t ht => ?_)
    obtain ⟨ct, t5, ht⟩ := ht
    refine OK.ret ⟨cz.trans ct, by rw [t5]; exact z5', .inr (.inr (.inl ⟨hd, ?_⟩))⟩
    rcases ht with ⟨a, b, d⟩ | ⟨a, b, d⟩
    · refine ⟨s + 1, .inl ⟨a, rfl⟩, ?_⟩
      rcases d with ⟨m, d1, d2, d3, d4, d5⟩ | d
      · exact .inl ⟨m, d1, d2, d3, d4, .inl ⟨b, a⟩, d5⟩
      · exact .inr d
    · refine ⟨s, .inr ⟨a, rfl⟩, ?_⟩
      rcases d with ⟨m, d1, d2, d3, d4, d5⟩ | d
      · exact .inl ⟨m, d1, d2, d3, d4, .inr ⟨b, a⟩, d5⟩
      · exact .inr d
  refine OK.ieq (fun hl0 => ?_) (fun hl1 => ?_)
  · have hnl : ¬ isL (bt (σ.1 1) (σ.1 2 2).toInt s) := by
      rcases h3' with h | h
      · exact h.2
      · omega
    refine OK.ieq (fun h45 => num (.inr (by omega))) (fun h45 => ?_)
    refine OK.bndR (a_isDigit _ _) (fun q5 h5 => ?_)
    dsimp only
    rw [ec] at h5
    refine OK.ieq (fun hd0 => ?_) (fun hd1 => num (.inl ?_))
    rotate_left
    · rcases h5 with h | h
      · omega
      · exact h.2
    have hnd : ¬ isD (bt (σ.1 1) (σ.1 2 2).toInt s) := by
      rcases h5 with h | h
      · exact h.2
      · omega
    refine OK.ieq (fun h34 => ?_) (fun h34 => ?_)
    · have hsl := a_scanLettered z s (by rw [z1]; exact hT8) z5' hs1 (by rw [z2]; exact ⟨n1, n2⟩)
      rw [z1, z2] at hsl
      refine OK.bnd hsl (fun t ht => ?_)
      obtain ⟨ct, t5, ht⟩ := ht
      exact OK.ret ⟨cz.trans ct, by rw [t5]; exact z5', .inr (.inr (.inr (.inl ⟨by omega, ht⟩)))⟩
    · have ls : (123 : Int32).toInt = 123 ∧ (125 : Int32).toInt = 125 ∧ (91 : Int32).toInt = 91 ∧ (93 : Int32).toInt = 93 ∧ (44 : Int32).toInt = 44 ∧ (59 : Int32).toInt = 59 := by decide
      have e6 := il_addE (x := z.1 2 5) (y := 1) (by omega) (by omega)
      have sgn : (bt (σ.1 1) (σ.1 2 2).toInt s = 123 ∨ bt (σ.1 1) (σ.1 2 2).toInt s = 125 ∨ bt (σ.1 1) (σ.1 2 2).toInt s = 91 ∨ bt (σ.1 1) (σ.1 2 2).toInt s = 93 ∨ bt (σ.1 1) (σ.1 2 2).toInt s = 44 ∨ bt (σ.1 1) (σ.1 2 2).toInt s = 59) → OK (f_X6_advance_169 c z) (fun t => CA σ t ∧ TA_ (σ.1 1) (σ.1 2 2).toInt s t) := fun hsig => by
        unfold f_X6_advance_169
        refine ⟨_, rfl, cz.trans ((CA.rf.i (by decide)).i (by decide)), z5', .inr (.inr (.inr (.inr ⟨⟨h0, hnl, hnd, by omega, by omega⟩, .inl ⟨hsig, ec, ?_⟩⟩)))⟩
        show (z.1 2 5 + 1).toInt = _
        omega
      refine OK.ieq (fun _ => sgn (by omega)) (fun _ => ?_)
      refine OK.ieq (fun _ => sgn (by omega)) (fun _ => ?_)
      refine OK.ieq (fun _ => sgn (by omega)) (fun _ => ?_)
      refine OK.ieq (fun _ => sgn (by omega)) (fun _ => ?_)
      refine OK.ieq (fun _ => sgn (by omega)) (fun _ => ?_)
      refine OK.ieq (fun _ => sgn (by omega)) (fun _ => ?_)
      exact ⟨_, rfl, cz.trans (CA.rf.i (by decide)), z5', .inr (.inr (.inr (.inr ⟨⟨h0, hnl, hnd, by omega, by omega⟩, .inr ⟨by omega, lt_1⟩⟩)))⟩
  · have hL : isL (bt (σ.1 1) (σ.1 2 2).toInt s) := by
      rcases h3' with h | h
      · omega
      · exact h.2
    have hsw := a_scanWord z s (by rw [z1]; exact hT8) z5' (by omega) (by rw [z2]; exact ⟨n1, n2⟩)
    rw [z1, z2] at hsw
    refine OK.bnd hsw (fun t ht => ?_)
    obtain ⟨ct, t5, ht⟩ := ht
    exact OK.ret ⟨cz.trans ct, by rw [t5]; exact z5', .inr (.inl ⟨hL, ht⟩)⟩
theorem a_advance_0 (p : Nat) : ∀ (f k : Nat) (σ : ST), (∀ i, bI (σ.1 1 i) (-128) 127) → bI (σ.1 2 2) 0 1000 → (σ.1 2 3).toInt = k → p ≤ k → (∀ i, p ≤ i → i < k → isB (bt (σ.1 1) (σ.1 2 2).toInt i)) → ((k : Int) ≤ 1030) → 1030 < f + k → OK (f_X6_advance_0 f σ) (fun t => CA σ t ∧ ∃ s, SK (σ.1 1) (σ.1 2 2).toInt p s ∧ TA_ (σ.1 1) (σ.1 2 2).toInt s t) := by
  intro f
  induction f with
  | zero => intro k σ h1 h2 h3 h4 h5 h6 h7; omega
  | succ f ih =>
    intro k σ hT8 hn2 h3 hpk hB hk hf
    rw [f_X6_advance_0]
    unfold f_X6_advance_37
    have l32 := li_32
    have l10 := li_10
    have lt_1 := li_1
    have hn2' := hn2
    obtain ⟨n1, n2⟩ := hn2
    have np : (σ.1 2 3).toNatClampNeg = k := nC h3
    have hb := bt_rng (T := σ.1 1) (n := (σ.1 2 2).toInt) (k := k)
    have hsq := sg_eq (T := σ.1 1) (n := (σ.1 2 2).toInt) (k := k)
    have fin : ¬ isB (bt (σ.1 1) (σ.1 2 2).toInt k) → OK (f_X6_advance_50 σ) (fun t => CA σ t ∧ ∃ s, SK (σ.1 1) (σ.1 2 2).toInt p s ∧ TA_ (σ.1 1) (σ.1 2 2).toInt s t) := fun hnb => (a_advance_50 σ k hT8 h3 (by omega) hn2').mono (fun t ht => ⟨ht.1, k, ⟨hpk, hB, hnb⟩, ht.2⟩)
    refine OK.ile (fun hge => fin (fun h9 => ?_)) (fun hlt => ?_)
    · have := hb.2.2.mp (by unfold isB at h9; omega)
      omega
    have s0 := a_signAt (σ.1 2 3) σ (by omega) hn2'
    rw [np] at s0
    have e1 := il_addE (x := σ.1 2 3) (y := 1) (by omega) (by omega)
    have nx : isB (bt (σ.1 1) (σ.1 2 2).toInt k) → OK (f_X6_advance_0 f (stI σ 2 3 (σ.1 2 3 + 1))) (fun t => CA σ t ∧ ∃ s, SK (σ.1 1) (σ.1 2 2).toInt p s ∧ TA_ (σ.1 1) (σ.1 2 2).toInt s t) := fun hb9 => by
      refine (ih (k + 1) (stI σ 2 3 (σ.1 2 3 + 1)) hT8 hn2' (by show (σ.1 2 3 + 1).toInt = _; omega) (by omega) (fun i i1 i2 => ?_) (by omega) (by omega)).mono (fun t ht => ⟨(CA.rf.i (by decide)).trans ht.1, ht.2⟩)
      show isB (bt (σ.1 1) (σ.1 2 2).toInt i)
      by_cases e : i = k
      · rw [e]; exact hb9
      · exact hB i i1 (by omega)
    refine OK.bndR s0 (fun v hv => ?_)
    dsimp only
    have hv1 := hv.1
    refine OK.ieq (fun h => nx (.inl (by omega))) (fun h32 => ?_)
    refine OK.bndR s0 (fun v2 hv2 => ?_)
    dsimp only
    have hv3 := hv2.1
    refine OK.ieq (fun h => nx (.inr (by omega))) (fun h10 => fin (fun h9 => ?_))
    unfold isB at h9
    omega
theorem a_advance (σ : ST) (p : Nat) (hT8 : ∀ i, bI (σ.1 1 i) (-128) 127) (hn2 : bI (σ.1 2 2) 0 1000) (h3 : (σ.1 2 3).toInt = p) (hp : p ≤ 1030) : OK (f_X6_advance σ) (fun t => CA σ t ∧ ∃ s, SK (σ.1 1) (σ.1 2 2).toInt p s ∧ TA_ (σ.1 1) (σ.1 2 2).toInt s t) := by
  have lu := FUi
  exact a_advance_0 p FU p σ hT8 hn2 h3 (Nat.le_refl _) (fun i h1 h2 => by omega) (by omega) (by omega)
/-! the two tokens side by side -/
/-- an answer of both, told in the other order -/
theorem OK.sw {α β : Type} {a : Option α} {b : Option β} {P : α → β → Prop} (h : OK b (fun y => OK a (fun x => P x y))) : OK a (fun x => OK b (fun y => P x y)) := by
  obtain ⟨y, e, x, e2, h⟩ := h
  exact ⟨x, e2, y, e, h⟩
theorem OK.bnd2 {α β γ δ : Type} {a : Option α} {b : Option β} {f : α → Option γ} {g : β → Option δ} {Q : α → β → Prop} {P : γ → δ → Prop} (h : OK a (fun x => OK b (Q x))) (k : ∀ x y, Q x y → OK (f x) (fun u => OK (g y) (P u))) : OK (a.bind f) (fun u => OK (b.bind g) (P u)) := by
  obtain ⟨x, e, y, e2, h⟩ := h
  rw [e, e2]
  exact k x y h
theorem OK.mono2 {α β : Type} {a : Option α} {b : Option β} {P Q : α → β → Prop} (h : OK a (fun x => OK b (P x))) (k : ∀ x y, P x y → Q x y) : OK a (fun x => OK b (Q x)) := h.mono (fun x hx => hx.mono (fun y hy => k x y hy))
/-- the letters' two numbers -/
def n5 : Nat → (Nat → Nat) → Nat
  | 0, _ => 0
  | m + 1, g => g 0 + 32 * n5 m (fun i => g (i + 1))
def n27 (g : Nat → Nat) : Nat → Nat
  | 0 => 0
  | m + 1 => 27 * n27 g m + g m
def GL (g : Nat → Nat) (m : Nat) : Prop := ∀ i, i < m → 1 ≤ g i ∧ g i ≤ 26
theorem n5_last : ∀ (m : Nat) (g : Nat → Nat), n5 (m + 1) g = n5 m g + g m * 32 ^ m := by
  intro m
  induction m with
  | zero => intro g; show g 0 + 32 * 0 = 0 + g 0 * 1; omega
  | succ m ih =>
    intro g
    have e := ih (fun i => g (i + 1))
    show g 0 + 32 * n5 (m + 1) (fun i => g (i + 1)) = g 0 + 32 * n5 m (fun i => g (i + 1)) + g (m + 1) * 32 ^ (m + 1)
    rw [e, Nat.pow_succ]
    have e2 : g (m + 1) * (32 ^ m * 32) = 32 * (g (m + 1) * 32 ^ m) := by rw [← Nat.mul_assoc, Nat.mul_comm]
    rw [e2]
    show g 0 + 32 * (n5 m (fun i => g (i + 1)) + g (m + 1) * 32 ^ m) = _
    generalize g (m + 1) * 32 ^ m = y
    omega
theorem n5_lt : ∀ (m : Nat) (g : Nat → Nat), GL g m → n5 m g < 32 ^ m := by
  intro m
  induction m with
  | zero => intro g h; show 0 < 1; omega
  | succ m ih =>
    intro g h
    have e := ih (fun i => g (i + 1)) (fun i hi => h (i + 1) (by omega))
    have h0 := h 0 (by omega)
    show g 0 + 32 * n5 m (fun i => g (i + 1)) < 32 ^ (m + 1)
    rw [Nat.pow_succ]
    omega
theorem n27_lt : ∀ (m : Nat) (g : Nat → Nat), GL g m → n27 g m < 27 ^ m := by
  intro m
  induction m with
  | zero => intro g h; show 0 < 1; omega
  | succ m ih =>
    intro g h
    have e := ih g (fun i hi => h i (by omega))
    have h0 := h m (by omega)
    show 27 * n27 g m + g m < 27 ^ (m + 1)
    rw [Nat.pow_succ]
    omega
theorem n5_inj : ∀ (m k : Nat) (g h : Nat → Nat), GL g m → GL h k → n5 m g = n5 k h → m = k ∧ ∀ i, i < m → g i = h i := by
  intro m
  induction m with
  | zero =>
    intro k g h _ hk e
    cases k with
    | zero => exact ⟨rfl, fun i hi => by omega⟩
    | succ k =>
      have h0 := hk 0 (by omega)
      have e : 0 = h 0 + 32 * n5 k (fun i => h (i + 1)) := e
      omega
  | succ m ih =>
    intro k g h hg hk e
    have g0 := hg 0 (by omega)
    cases k with
    | zero =>
      have e : g 0 + 32 * n5 m (fun i => g (i + 1)) = 0 := e
      omega
    | succ k =>
      have h0 := hk 0 (by omega)
      have e : g 0 + 32 * n5 m (fun i => g (i + 1)) = h 0 + 32 * n5 k (fun i => h (i + 1)) := e
      obtain ⟨e1, e2⟩ := ih k (fun i => g (i + 1)) (fun i => h (i + 1)) (fun i hi => hg (i + 1) (by omega)) (fun i hi => hk (i + 1) (by omega)) (by omega)
      refine ⟨by omega, fun i hi => ?_⟩
      cases i with
      | zero => omega
      | succ i => exact e2 i (by omega)
theorem n27_inj : ∀ (m k : Nat) (g h : Nat → Nat), GL g m → GL h k → n27 g m = n27 h k → m = k ∧ ∀ i, i < m → g i = h i := by
  intro m
  induction m with
  | zero =>
    intro k g h _ hk e
    cases k with
    | zero => exact ⟨rfl, fun i hi => by omega⟩
    | succ k =>
      have h0 := hk k (by omega)
      have e : 0 = 27 * n27 h k + h k := e
      omega
  | succ m ih =>
    intro k g h hg hk e
    have g0 := hg m (by omega)
    cases k with
    | zero =>
      have e : 27 * n27 g m + g m = 0 := e
      omega
    | succ k =>
      have h0 := hk k (by omega)
      have e : 27 * n27 g m + g m = 27 * n27 h k + h k := e
      obtain ⟨e1, e2⟩ := ih k g h (fun i hi => hg i (by omega)) (fun i hi => hk i (by omega)) (by omega)
      refine ⟨by omega, fun i hi => ?_⟩
      by_cases e9 : i = m
      · have e3 : g m = h k := by omega
        rw [e9, e3, e1]
      · exact e2 i (by omega)
theorem n5_ext : ∀ (m : Nat) (g h : Nat → Nat), (∀ i, i < m → g i = h i) → n5 m g = n5 m h := by
  intro m
  induction m with
  | zero => intro g h _; rfl
  | succ m ih =>
    intro g h e
    show g 0 + 32 * _ = h 0 + 32 * _
    rw [e 0 (by omega), ih _ _ (fun i hi => e (i + 1) (by omega))]
theorem n27_ext (g h : Nat → Nat) : ∀ (m : Nat), (∀ i, i < m → g i = h i) → n27 g m = n27 h m := by
  intro m
  induction m with
  | zero => intro _; rfl
  | succ m ih =>
    intro e
    show 27 * n27 g m + g m = 27 * n27 h m + h m
    rw [e m (by omega), ih (fun i hi => e i (by omega))]
/-- one word, the class's number and the reference's -/
def WL (x y : Int64) : Prop := ∃ (m : Nat) (g : Nat → Nat), m ≤ 8 ∧ GL g m ∧ x.toInt = (n5 m g : Int) ∧ y.toInt = (n27 g m : Int)
theorem WL.iff {x y u v : Int64} (h : WL x y) (k : WL u v) : x = u ↔ y = v := by
  obtain ⟨m, g, _, hg, e1, e2⟩ := h
  obtain ⟨l, f, _, hf, e3, e4⟩ := k
  constructor
  · intro e
    rw [e] at e1
    obtain ⟨a, b⟩ := n5_inj m l g f hg hf (by omega)
    subst a
    have := n27_ext g f m b
    exact Int64.toInt_inj.mp (by omega)
  · intro e
    rw [e] at e2
    obtain ⟨a, b⟩ := n27_inj m l g f hg hf (by omega)
    subst a
    have := n5_ext m g f b
    exact Int64.toInt_inj.mp (by omega)
theorem sh5 : ∀ (k : Nat), k < 8 → ∀ a : Int64, (a <<< ((5 * Int32.ofNat k).toInt64 &&& 63)).toBitVec = a.toBitVec <<< (5 * k)
  | 0, _, _ => rfl
  | 1, _, _ => rfl
  | 2, _, _ => rfl
  | 3, _, _ => rfl
  | 4, _, _ => rfl
  | 5, _, _ => rfl
  | 6, _, _ => rfl
  | 7, _, _ => rfl
  | k + 8, h, _ => by omega
theorem nat64 {z : Int64} {N : Nat} (h : z.toInt = (N : Int)) : z.toBitVec.toNat = N := by
  have h2 : z.toInt = z.toBitVec.toInt := rfl
  rw [h2, BitVec.toInt_eq_toNat_cond] at h
  have := z.toBitVec.isLt
  split at h <;> omega
theorem or64 {x a z : Int64} {X A k : Nat} (hx : x.toInt = (X : Int)) (ha : a.toInt = (A : Int)) (hA : A ≤ 26) (hk : k < 8) (hX : X < 32 ^ k) (hz : z.toBitVec = a.toBitVec <<< (5 * k)) : (x ||| z).toInt = ((X + A * 32 ^ k : Nat) : Int) := by
  have e32 : (32 : Nat) ^ k = 2 ^ (5 * k) := by rw [Nat.pow_mul]
  rw [e32] at hX ⊢
  have p1 : 2 ^ (5 * k) ≤ 2 ^ 35 := Nat.pow_le_pow_right (by omega) (by omega)
  have p2 : (2 : Nat) ^ 35 = 34359738368 := by decide
  have e1 := nat64 hx
  have e2 := nat64 ha
  have hm : A * 2 ^ (5 * k) ≤ 26 * 34359738368 := by
    rw [← p2]
    exact Nat.mul_le_mul hA p1
  have e3 : (x ||| z).toBitVec.toNat = X + A * 2 ^ (5 * k) := by
    show (x.toBitVec ||| z.toBitVec).toNat = _
    rw [hz, BitVec.toNat_or, BitVec.toNat_shiftLeft, e1, e2, Nat.shiftLeft_eq]
    have : A * 2 ^ (5 * k) % 2 ^ 64 = A * 2 ^ (5 * k) := Nat.mod_eq_of_lt (by omega)
    rw [this, Nat.or_comm, Nat.mul_comm A, ← Nat.two_pow_add_eq_or_of_lt hX, Nat.add_comm]
  show (x ||| z).toBitVec.toInt = _
  rw [BitVec.toInt_eq_toNat_of_lt (by rw [e3]; omega), e3]
/-- the letters of the text from there on -/
def gT (T : Nat → Int32) (s : Nat) (i : Nat) : Nat := ((T (s + i)).toInt % 256).toNat - 96
theorem gT_L {T : Nat → Int32} {n : Int} {s m : Nat} (h : ∀ i, i < m → isL (bt T n (s + i))) : GL (gT T s) m ∧ ∀ i, i < m → (T (s + i)).toInt % 256 = (gT T s i : Int) + 96 := by
  have z : ∀ i, i < m → 97 ≤ (T (s + i)).toInt % 256 ∧ (T (s + i)).toInt % 256 ≤ 122 := fun i hi => by
    have a := h i hi
    unfold isL bt at a
    split at a <;> omega
  refine ⟨fun i hi => ?_, fun i hi => ?_⟩
  · have := z i hi
    unfold gT
    omega
  · have := z i hi
    unfold gT
    omega
theorem w5_n {T : Nat → Int32} {n : Int} {s : Nat} (hT8 : ∀ i, bI (T i) (-128) 127) : ∀ m, m ≤ 8 → (∀ i, i < m → isL (bt T n (s + i))) → (w5 T s m).toInt = (n5 m (gT T s) : Int) := by
  intro m
  induction m with
  | zero => intro _ _; rfl
  | succ m ih =>
    intro hm hL
    have e := ih (by omega) (fun i hi => hL i (by omega))
    obtain ⟨g1, g2⟩ := gT_L hL
    have b1 := g1 m (by omega)
    have b2 := g2 m (by omega)
    obtain ⟨t1, t2⟩ := hT8 (s + m)
    have l1 := li_1
    have l97 := li_97
    have a1 := il_subE (x := T (s + m)) (y := 97) (by omega) (by omega)
    have a2 := il_addE (x := T (s + m) - 97) (y := 1) (by omega) (by omega)
    rw [n5_last]
    exact or64 (k := m) e (by rw [i64, a2, a1]; omega) b1.2 (by omega) (n5_lt m _ (fun i hi => g1 i (by omega))) (sh5 m (by omega) _)
theorem w27_n {T : Nat → Int32} {n : Int} {s : Nat} : ∀ m, m ≤ 8 → (∀ i, i < m → isL (bt T n (s + i))) → (w27 T s m).toInt = (n27 (gT T s) m : Int) := by
  intro m
  induction m with
  | zero => intro _ _; rfl
  | succ m ih =>
    intro hm hL
    have e := ih (by omega) (fun i hi => hL i (by omega))
    obtain ⟨g1, g2⟩ := gT_L hL
    have b1 := g1 m (by omega)
    have b2 := g2 m (by omega)
    have hl := n27_lt m (gT T s) (fun i hi => g1 i (by omega))
    have p1 : (27 : Nat) ^ m ≤ 27 ^ 8 := Nat.pow_le_pow_right (by omega) (by omega)
    have p2 : (27 : Nat) ^ 8 = 282429536481 := by decide
    rw [p2] at p1
    have l27 : (27 : Int64).toInt = 27 := by decide
    have l96 : (96 : Int64).toInt = 96 := by decide
    have c1 : (27 * w27 T s m).toInt = 27 * (n27 (gT T s) m : Int) := by
      rw [Int64.toInt_mul, l27, e]
      exact Int.bmod_eq_of_le (by omega) (by omega)
    have c2 : (27 * w27 T s m + (T (s + m) &&& 255).toInt64).toInt = 27 * (n27 (gT T s) m : Int) + ((gT T s m : Int) + 96) := by
      rw [Int64.toInt_add, c1, i64, and255, b2]
      exact Int.bmod_eq_of_le (by omega) (by omega)
    show (27 * w27 T s m + (T (s + m) &&& 255).toInt64 - 96).toInt = ((27 * n27 (gT T s) m + gT T s m : Nat) : Int)
    rw [Int64.toInt_sub, c2, l96]
    rw [Int.bmod_eq_of_le (by omega) (by omega)]
    omega
theorem WL.mk {T : Nat → Int32} {n : Int} {s m : Nat} (hT8 : ∀ i, bI (T i) (-128) 127) (hm : m ≤ 8) (hL : ∀ i, i < m → isL (bt T n (s + i))) : WL (w5 T s m) (w27 T s m) := ⟨m, gT T s, hm, (gT_L hL).1, w5_n hT8 m hm hL, w27_n m hm hL⟩
/-- the words that mean something -/
def kwL : List (List Nat) := [[16, 12, 1, 14], [18, 5, 3, 15, 18, 4], [23, 1, 19], [5, 12, 19, 5], [12, 9, 19, 20], [5, 9, 20, 8, 5, 18], [15, 18], [14, 15, 14, 5], [6, 12, 1, 7], [9, 14, 20], [12, 15, 14, 7], [18, 5, 1, 12], [20, 5, 24, 20], [25, 5, 19], [14, 15]]
def kwG (k i : Nat) : Nat := (kwL.getD k []).getD i 0
def kwM (k : Nat) : Nat := (kwL.getD k []).length
def kwV (k : Nat) : Int64 := KB.getD k 0
theorem kw_A : ∀ k, k < 15 → (kw0 k).toInt = (n5 (kwM k) (kwG k) : Int) := by decide +kernel
theorem kw_B : ∀ k, k < 15 → (kwV k).toInt = (n27 (kwG k) (kwM k) : Int) := by decide +kernel
theorem kw_G : ∀ k, k < 15 → kwM k ≤ 8 ∧ ∀ i, i < kwM k → 1 ≤ kwG k i ∧ kwG k i ≤ 26 := by decide +kernel
theorem kw_W (k : Nat) (hk : k < 15) : WL (kw0 k) (kwV k) := ⟨kwM k, kwG k, (kw_G k hk).1, (kw_G k hk).2, kw_A k hk, kw_B k hk⟩
theorem kw_ne : ∀ j, j < 15 → ∀ k, k < 15 → kwV j = kwV k → j = k := by decide +kernel
/-- the token of both -/
def TK (σ τ : ST) : Prop := (σ.1 2 5).toInt = (τ.1 0 4).toInt ∧
  (((σ.1 2 4).toInt = 0 ∧ (τ.1 0 6).toInt = 0 ∧ (τ.1 0 13).toInt = 0) ∨
   ((σ.1 2 4).toInt = 1 ∧ (τ.1 0 13).toInt = 0 ∧ ((τ.1 0 6).toInt = 5 ∨ (τ.1 0 6).toInt = 2 ∧ ∃ k : Nat, (τ.1 0 5).toInt = k ∧ bt (τ.1 1) (τ.1 0 3).toInt k = 46)) ∨
   ((τ.1 0 6).toInt = 1 ∧ (τ.1 0 13).toInt = 0 ∧ σ.1 2 3 = τ.1 0 5 ∧ WL (σ.2.1 2 7) (τ.2.1 0 7) ∧ (((σ.1 2 4).toInt = 2 ∧ ∃ k : Nat, k < 15 ∧ (σ.1 2 6).toInt = k ∧ τ.2.1 0 7 = kwV k) ∨ ((σ.1 2 4).toInt = 3 ∧ NM τ))) ∨
   ((σ.1 2 4).toInt = 4 ∧ (τ.1 0 6).toInt = 2 ∧ (τ.1 0 13).toInt = 0 ∧ σ.1 2 3 = τ.1 0 5 ∧ σ.1 2 10 = τ.1 0 10 ∧ ((σ.1 2 9).toInt = 1 ∧ τ.2.1 0 9 = -(σ.2.1 2 8) ∨ (σ.1 2 9).toInt = 0 ∧ τ.2.1 0 9 = σ.2.1 2 8)) ∨
   ((σ.1 2 4).toInt = 5 ∧ (τ.1 0 6).toInt = 3 ∧ (τ.1 0 13).toInt = 0 ∧ σ.1 2 3 = τ.1 0 5) ∨
   (((σ.1 2 4).toInt = 123 ∨ (σ.1 2 4).toInt = 125 ∨ (σ.1 2 4).toInt = 91 ∨ (σ.1 2 4).toInt = 93 ∨ (σ.1 2 4).toInt = 44 ∨ (σ.1 2 4).toInt = 59) ∧ (τ.1 0 6).toInt = 4 ∧ (τ.1 0 13).toInt = (σ.1 2 4).toInt ∧ σ.1 2 3 = τ.1 0 5))
theorem kwV_mem : ∀ k, k < 15 → kwV k ∈ KB := by decide +kernel
theorem mem_kwV : ∀ V, V ∈ KB → ∃ k, k < 15 ∧ V = kwV k := by
  intro V hV
  simp only [KB, List.mem_cons, List.not_mem_nil, or_false] at hV
  rcases hV with h | h | h | h | h | h | h | h | h | h | h | h | h | h | h
  · exact ⟨0, by omega, h⟩
  · exact ⟨1, by omega, h⟩
  · exact ⟨2, by omega, h⟩
  · exact ⟨3, by omega, h⟩
  · exact ⟨4, by omega, h⟩
  · exact ⟨5, by omega, h⟩
  · exact ⟨6, by omega, h⟩
  · exact ⟨7, by omega, h⟩
  · exact ⟨8, by omega, h⟩
  · exact ⟨9, by omega, h⟩
  · exact ⟨10, by omega, h⟩
  · exact ⟨11, by omega, h⟩
  · exact ⟨12, by omega, h⟩
  · exact ⟨13, by omega, h⟩
  · exact ⟨14, by omega, h⟩
theorem TK.num {T : Nat → Int32} {n : Int} {s i : Nat} {σ τ : ST} {neg : Prop} (hT : τ.1 1 = T) (hn : (τ.1 0 3).toInt = n) (h5 : (σ.1 2 5).toInt = (τ.1 0 4).toInt) (hD : isD (bt T n i)) (hneg : neg ↔ bt T n s = 45) (hB : ∃ m, NB T n i m neg τ)
    (hA : (∃ m, RUN isD T n i m ∧ (1 ≤ m ∧ m ≤ 18) ∧ (σ.1 2 4).toInt = 4 ∧ σ.2.1 2 8 = dv T i m ∧ ((σ.1 2 9).toInt = 1 ∧ bt T n s = 45 ∨ (σ.1 2 9).toInt = 0 ∧ ¬ bt T n s = 45) ∧ ((bt T n (i + m) = 46 ∧ isD (bt T n (i + m + 1)) ∧ ¬ isD (bt T n (i + m + 2)) ∧ (σ.1 2 10).toInt = 1 ∧ (σ.1 2 3).toInt = i + m + 2) ∨ (¬ bt T n (i + m) = 46 ∧ (σ.1 2 10).toInt = 0 ∧ (σ.1 2 3).toInt = i + m))) ∨
      ((σ.1 2 4).toInt = 1 ∧ (¬ isD (bt T n i) ∨ (∀ j : Nat, j ≤ 18 → isD (bt T n (i + j))) ∨ ∃ m, RUN isD T n i m ∧ (1 ≤ m ∧ m ≤ 18) ∧ bt T n (i + m) = 46 ∧ (¬ isD (bt T n (i + m + 1)) ∨ isD (bt T n (i + m + 2)))))) : TK σ τ := by
  obtain ⟨k, hR, h13, h9, hB⟩ := hB
  refine ⟨h5, ?_⟩
  rcases hA with ⟨m, hm, hm2, h4, h8, hsg, hA⟩ | ⟨h4, hA⟩
  · have e := hm.uniq hR
    subst e
    have emn : min m 18 = m := by omega
    rw [emn] at h9
    have hv : ((σ.1 2 9).toInt = 1 ∧ τ.2.1 0 9 = -(σ.2.1 2 8) ∨ (σ.1 2 9).toInt = 0 ∧ τ.2.1 0 9 = σ.2.1 2 8) := by
      rw [h8]
      rcases hsg with ⟨a, b⟩ | ⟨a, b⟩
      · rcases h9 with ⟨c, d⟩ | ⟨c, d⟩
        · exact .inl ⟨a, d⟩
        · exact absurd (hneg.mpr b) c
      · rcases h9 with ⟨c, d⟩ | ⟨c, d⟩
        · exact absurd (hneg.mp c) b
        · exact .inr ⟨a, d⟩
    refine .inr (.inr (.inr (.inl ⟨h4, ?_, h13, ?_, ?_, hv⟩)))
    · rcases hA with ⟨a1, a2, a3, a4, a5⟩ | ⟨a1, a4, a5⟩
      · rcases hB with ⟨b1, b2, b3, b4, b5⟩ | ⟨b1, b3, b4, b5⟩
        · rcases b5 with ⟨b5, _⟩ | ⟨_, b6⟩
          · exact b5
          · exact absurd ⟨by omega, a3⟩ b6
        · exact absurd ⟨a1, a2⟩ b1
      · rcases hB with ⟨b1, b2, b3, b4, b5⟩ | ⟨b1, b3, b4, b5⟩
        · exact absurd b1 a1
        · omega
    · refine Int32.toInt_inj.mp ?_
      rcases hA with ⟨a1, a2, a3, a4, a5⟩ | ⟨a1, a4, a5⟩
      · rcases hB with ⟨b1, b2, b3, b4, b5⟩ | ⟨b1, b3, b4, b5⟩
        · omega
        · exact absurd ⟨a1, a2⟩ b1
      · rcases hB with ⟨b1, b2, b3, b4, b5⟩ | ⟨b1, b3, b4, b5⟩
        · exact absurd b1 a1
        · omega
    · refine Int32.toInt_inj.mp ?_
      rcases hA with ⟨a1, a2, a3, a4, a5⟩ | ⟨a1, a4, a5⟩
      · rcases hB with ⟨b1, b2, b3, b4, b5⟩ | ⟨b1, b3, b4, b5⟩
        · omega
        · exact absurd ⟨a1, a2⟩ b1
      · rcases hB with ⟨b1, b2, b3, b4, b5⟩ | ⟨b1, b3, b4, b5⟩
        · exact absurd b1 a1
        · omega
  · refine .inr (.inl ⟨h4, h13, ?_⟩)
    rcases hA with hA | hA | ⟨m, hm, hm2, a1, a2⟩
    · exact absurd hD hA
    · have hk : ¬ k ≤ 18 := fun h => hR.2 (hA k h)
      rcases hB with ⟨b1, b2, b3, b4, b5⟩ | ⟨b1, b3, b4, b5⟩
      · rcases b5 with ⟨_, b6, _⟩ | ⟨b5, _⟩
        · exact absurd b6 hk
        · exact .inl b5
      · exact .inl (by omega)
    · have e := hm.uniq hR
      subst e
      rcases hB with ⟨b1, b2, b3, b4, b5⟩ | ⟨b1, b3, b4, b5⟩
      · rcases b5 with ⟨_, _, b6⟩ | ⟨b5, _⟩
        · rcases a2 with a2 | a2
          · exact absurd b2 a2
          · exact absurd a2 b6
        · exact .inl b5
      · refine .inr ⟨by omega, i + m, by omega, ?_⟩
        rw [hT, hn]
        exact a1
theorem TK.mk {T : Nat → Int32} {n : Int} {s : Nat} {σ τ : ST} (hT8 : ∀ i, bI (T i) (-128) 127) (hk : σ.2.1 3 = kw0) (hT : τ.1 1 = T) (hn : (τ.1 0 3).toInt = n) (hA : TA_ T n s σ) (hB : TB_ T n s τ) : TK σ τ := by
  obtain ⟨a5, hA⟩ := hA
  obtain ⟨b4, hB⟩ := hB
  have h5 : (σ.1 2 5).toInt = (τ.1 0 4).toInt := by omega
  have hb := bt_rng (T := T) (n := n) (k := s)
  rcases hA with hA | hA | hA | hA | hA
  · -- the end
    rcases hB with hB | hB | hB | hB | hB
    · exact ⟨h5, .inl ⟨hA.2, hB.2.1, hB.2.2.1⟩⟩
    · have := hB.1; unfold isL at this; omega
    · have := hB.1; unfold isD at this; omega
    · omega
    · omega
  · -- a word
    have hL := hA.1
    have hL' := hL
    unfold isL at hL'
    rcases hB with hB | hB | hB | hB | hB
    · omega
    · obtain ⟨_, b13, m, hR, b5, b8, b7, b6⟩ := hB
      refine ⟨h5, ?_⟩
      rcases hA.2 with ⟨k, hR2, hk8, a3, a7, hK⟩ | ⟨hall, a4⟩
      · have e := hR.uniq hR2
        subst e
        have e8 : min m 8 = m := by omega
        rw [e8] at b7
        have hw : WL (σ.2.1 2 7) (τ.2.1 0 7) := by
          rw [a7, b7]
          exact WL.mk hT8 hk8 hR.1
        refine .inr (.inr (.inl ⟨by omega, b13, Int32.toInt_inj.mp (by omega), hw, ?_⟩))
        rcases hK with ⟨k4, k, k1, k2, k3⟩ | ⟨k4, k3⟩
        · rw [hk] at k3
          exact .inl ⟨k4, k, k1, k2, ((kw_W k k1).iff hw).mp k3 |>.symm⟩
        · refine .inr ⟨k4, by omega, fun V hV e9 => ?_⟩
          obtain ⟨k, k1, k2⟩ := mem_kwV V hV
          refine k3 k k1 ?_
          rw [hk]
          exact ((kw_W k k1).iff hw).mpr (by rw [e9, k2])
      · have hm : ¬ m ≤ 8 := fun h => hR.2 (hall m h)
        exact .inr (.inl ⟨a4, b13, .inl (by omega)⟩)
    · have := hB.1; unfold isD at this; omega
    · omega
    · exact absurd hL hB.1.2.1
  · -- a number
    obtain ⟨hd, i, hi, hA⟩ := hA
    have hd' := hd
    unfold isD at hd'
    rcases hB with hB | hB | hB | hB | hB
    · omega
    · have := hB.1; unfold isL at this; omega
    · obtain ⟨hbd, hN⟩ := hB
      rcases hN with ⟨c, hN⟩ | ⟨c, hN⟩
      · have ei : i = s + 1 := by clear hA; omega
        subst ei
        refine TK.num hT hn h5 ?_ ⟨fun _ => c, fun _ => trivial⟩ hN hA
        rcases hbd with h | h
        · unfold isD at h; omega
        · exact h.2
      · have ei : i = s := by clear hA; omega
        subst ei
        refine TK.num hT hn h5 ?_ ⟨fun h => h.elim, fun h => c h⟩ hN hA
        rcases hbd with h | h
        · exact h
        · exact absurd h.1 c
    · omega
    · obtain ⟨⟨c0, c1, c2, c3, c4⟩, b5, hB⟩ := hB
      have c45 : bt T n s = 45 := by
        rcases hd with h | h
        · exact absurd h c2
        · exact h
      have ei : i = s + 1 := by clear hA; omega
      subst ei
      have hnd : ¬ isD (bt T n (s + 1)) := fun h => c3 ⟨c45, h⟩
      have hbad : (τ.1 0 6).toInt = 5 ∧ (τ.1 0 13).toInt = 0 := by clear hA; omega
      refine ⟨h5, .inr (.inl ⟨?_, hbad.2, .inl hbad.1⟩)⟩
      rcases hA with ⟨m, hm, hm2, _⟩ | ⟨h4, _⟩
      · exact absurd (hm.1 0 (by omega)) hnd
      · exact h4
  · -- letters in marks
    obtain ⟨h34, hA⟩ := hA
    rcases hB with hB | hB | hB | hB | hB
    · omega
    · have := hB.1; unfold isL at this; omega
    · have := hB.1; unfold isD at this; omega
    · obtain ⟨_, b13, k, hR, b5, b8, b6⟩ := hB
      refine ⟨h5, ?_⟩
      rcases hA with ⟨m, hm, hm2, a34, a4, a3⟩ | ⟨a4, hA⟩
      · have e := hm.uniq hR
        subst e
        rcases b6 with ⟨b6, _⟩ | ⟨b6, b7⟩
        · exact .inr (.inr (.inr (.inr (.inl ⟨a4, b6, b13, Int32.toInt_inj.mp (by omega)⟩))))
        · exact absurd ⟨hm2, a34⟩ b7
      · refine .inr (.inl ⟨a4, b13, .inl ?_⟩)
        rcases b6 with ⟨b6, b7, b9⟩ | ⟨b6, b7⟩
        · rcases hA with hA | ⟨m, hm, hm2⟩
          · exact absurd (hA k b7) hR.2
          · have e := hm.uniq hR
            subst e
            exact absurd b9 hm2
        · exact b6
    · exact absurd h34 hB.1.2.2.2.2
  · -- a sign
    obtain ⟨⟨c0, c1, c2, c3, c4⟩, hA⟩ := hA
    rcases hB with hB | hB | hB | hB | hB
    · omega
    · exact absurd hB.1 c1
    · rcases hB.1 with h | h
      · exact absurd h c2
      · exact absurd h.1 c3
    · omega
    · obtain ⟨_, b5, hB⟩ := hB
      refine ⟨h5, ?_⟩
      rcases hA with ⟨s1, a4, a3⟩ | ⟨s1, a4⟩
      · rcases hB with ⟨_, b6, b13⟩ | ⟨s2, _⟩
        · exact .inr (.inr (.inr (.inr (.inr ⟨by omega, b6, by omega, Int32.toInt_inj.mp (by omega)⟩))))
        · exact absurd s1 s2
      · rcases hB with ⟨s2, _⟩ | ⟨_, b6, b13⟩
        · exact absurd s2 s1
        · exact .inr (.inl ⟨a4, b13, .inl b6⟩)
/-! both read one text: the token goes on, the sort that a type begins with, the sorts taken -/
/-- the reference's other long numbers stay -/
def K6 (L : Nat → Nat → Int64) (s : ST) : Prop := ∀ c, c ≠ 0 → s.2.1 c = L c
theorem K6.i {L : Nat → Nat → Int64} {s : ST} {c i : Nat} {v : Int32} (h : K6 L s) : K6 L (stI s c i v) := h
theorem K6.d {L : Nat → Nat → Int64} {s : ST} {c i : Nat} {v : UInt64} (h : K6 L s) : K6 L (stD s c i v) := h
theorem K6.l {L : Nat → Nat → Int64} {s : ST} {i : Nat} {v : Int64} (h : K6 L s) : K6 L (stL s 0 i v) := fun c hc => by rw [stL_ne hc]; exact h c hc
def PZ (L : Nat → Nat → Int64) (o : Option ST) : Prop := ∀ q, o = some q → K6 L q
def PW {α : Type} (L : Nat → Nat → Int64) (o : Option (α × ST)) : Prop := ∀ q, o = some q → K6 L q.2
theorem PZ.none {L : Nat → Nat → Int64} : PZ L none := fun _ h => by cases h
theorem PW.none {α : Type} {L : Nat → Nat → Int64} : PW (α := α) L none := fun _ h => by cases h
theorem PZ.ret {L : Nat → Nat → Int64} {s : ST} (h : K6 L s) : PZ L (some s) := fun q e => by cases e; exact h
theorem PW.ret {α : Type} {L : Nat → Nat → Int64} {s : ST} {v : α} (h : K6 L s) : PW L (some (v, s)) := fun q e => by cases e; exact h
theorem PZ.ite {L : Nat → Nat → Int64} {c : Prop} {i : Decidable c} {x y : Option ST} (h1 : PZ L x) (h2 : PZ L y) : PZ L (@_root_.ite (Option ST) c i x y) := by
  by_cases h : c
  · rw [if_pos h]; exact h1
  · rw [if_neg h]; exact h2
theorem PW.ite {α : Type} {L : Nat → Nat → Int64} {c : Prop} {i : Decidable c} {x y : Option (α × ST)} (h1 : PW L x) (h2 : PW L y) : PW L (@_root_.ite (Option (α × ST)) c i x y) := by
  by_cases h : c
  · rw [if_pos h]; exact h1
  · rw [if_neg h]; exact h2
theorem PZ.bnd {L : Nat → Nat → Int64} {o : Option ST} {f : ST → Option ST} (h : PZ L o) (k : ∀ q, K6 L q → PZ L (f q)) : PZ L (o.bind f) := by
  cases o with
  | none => exact PZ.none
  | some q => exact k q (h q rfl)
theorem PZ.bndW {α : Type} {L : Nat → Nat → Int64} {o : Option (α × ST)} {f : α × ST → Option ST} (h : PW L o) (k : ∀ q, K6 L q.2 → PZ L (f q)) : PZ L (o.bind f) := by
  cases o with
  | none => exact PZ.none
  | some q => exact k q (h q rfl)
theorem PW.bndW {α β : Type} {L : Nat → Nat → Int64} {o : Option (α × ST)} {f : α × ST → Option (β × ST)} (h : PW L o) (k : ∀ q, K6 L q.2 → PW L (f q)) : PW L (o.bind f) := by
  cases o with
  | none => exact PW.none
  | some q => exact k q (h q rfl)
theorem k6_byteAt {L : Nat → Nat → Int64} (p0 : Int32) (σ : ST) (h : K6 L σ) : PW L (f_X11_byteAt p0 σ) := by
  unfold f_X11_byteAt
  exact PW.ite (PW.ret h) (PW.ite (PW.ret h) PW.none)
theorem k6_within {L : Nat → Nat → Int64} (p0 p1 p2 : Int64) (σ : ST) (h : K6 L σ) : PW L (f_X11_within p0 p1 p2 σ) := by
  unfold f_X11_within
  exact PW.ite (PW.ret h) (PW.ite (PW.ret h) (PW.ret h))
theorem k6_isDigit {L : Nat → Nat → Int64} (p0 : Int32) (σ : ST) (h : K6 L σ) : PW L (f_X11_isDigit p0 σ) := by
  unfold f_X11_isDigit
  exact PW.bndW (k6_within _ _ _ σ h) (fun q hq => PW.ite (PW.ret hq) PW.none)
theorem k6_isLetter {L : Nat → Nat → Int64} (p0 : Int32) (σ : ST) (h : K6 L σ) : PW L (f_X11_isLetter p0 σ) := by
  unfold f_X11_isLetter
  exact PW.bndW (k6_within _ _ _ σ h) (fun q hq => PW.ite (PW.ret hq) PW.none)
theorem k6_isSign {L : Nat → Nat → Int64} (p0 : Int32) (σ : ST) (h : K6 L σ) : PW L (f_X11_isSign p0 σ) := by
  unfold f_X11_isSign f_X11_isSign_36
  exact PW.ite (PW.ret h) (PW.ite (PW.ret h) (PW.ite (PW.ret h) (PW.ite (PW.ret h) (PW.ite (PW.ret h) (PW.ite (PW.ret h) (PW.ret h))))))
theorem k6_n262 {L : Nat → Nat → Int64} (x1 x3 : Int32) (σ : ST) (h : K6 L σ) : PZ L (f_X11_number_262 x1 x3 σ) := by
  unfold f_X11_number_262 f_X11_number_279 f_X11_number_292
  exact PZ.ite (PZ.ite (PZ.ret h.l.i) (PZ.ret h.l.i)) (PZ.ite (PZ.ret h.l.i) (PZ.ret h.l.i))
theorem k6_n225 {L : Nat → Nat → Int64} (x1 x3 : Int32) (y0 : UInt64) (σ : ST) (h : K6 L σ) : PZ L (f_X11_number_225 x1 x3 y0 σ) := by
  unfold f_X11_number_225 f_X11_number_260 f_X11_number_261
  exact PZ.ite (k6_n262 _ _ _ h) (PZ.bndW (k6_byteAt _ _ h) (fun q hq => PZ.bndW (k6_isDigit _ _ hq) (fun w hw => PZ.ite (k6_n262 _ _ _ hw) (k6_n262 _ _ _ hw))))
theorem k6_n170 {L : Nat → Nat → Int64} (x1 x3 y0 : Int32) (σ : ST) (h : K6 L σ) : PZ L (f_X11_number_170 x1 x3 y0 σ) := by
  unfold f_X11_number_170
  refine PZ.ite (PZ.ite (k6_n262 _ _ _ h) (PZ.bndW (k6_byteAt _ _ h) (fun q hq => PZ.ite (PZ.ite (PZ.bnd (PZ.ret hq.d) (fun z hz => PZ.ite (k6_n225 _ _ _ _ hz) (k6_n225 _ _ _ _ hz))) PZ.none) PZ.none))) PZ.none
theorem k6_n134 {L : Nat → Nat → Int64} (x1 y0 : Int32) (σ : ST) (h : K6 L σ) : PZ L (f_X11_number_134 x1 y0 σ) := by
  unfold f_X11_number_134 f_X11_number_169
  exact PZ.bndW (k6_byteAt _ _ h) (fun q hq => PZ.ite (PZ.bndW (k6_byteAt _ _ hq) (fun w hw => PZ.bndW (k6_isDigit _ _ hw) (fun v hv => PZ.ite (k6_n170 _ _ _ _ hv) (k6_n170 _ _ _ _ hv)))) (k6_n170 _ _ _ _ hq))
theorem k6_n47 {L : Nat → Nat → Int64} : ∀ (n : Nat) (x1 x2 : Int32) (σ : ST), K6 L σ → PZ L (f_X11_number_47 n x1 x2 σ) := by
  intro n
  induction n with
  | zero => intro x1 x2 σ h; exact PZ.none
  | succ n ih =>
    intro x1 x2 σ h
    rw [f_X11_number_47]
    unfold f_X11_number_102
    exact PZ.bndW (k6_byteAt _ _ h) (fun q hq => PZ.bndW (k6_isDigit _ _ hq) (fun w hw => PZ.ite (PZ.ite (k6_n134 _ _ _ hw) (k6_n134 _ _ _ hw)) (PZ.ite (ih _ _ _ hw.l.i) (PZ.bndW (k6_byteAt _ _ hw) (fun v hv => ih _ _ _ hv.l.i)))))
theorem k6_number {L : Nat → Nat → Int64} (σ : ST) (h : K6 L σ) : PZ L (f_X11_number σ) := by
  unfold f_X11_number f_X11_number_18 f_X11_number_33
  exact PZ.bndW (k6_byteAt _ _ h) (fun q hq => PZ.ite (PZ.ite (k6_n47 _ _ _ _ (K6.l (K6.i hq))) (k6_n47 _ _ _ _ (K6.l (K6.i hq)))) (PZ.ite (k6_n47 _ _ _ _ (K6.l (K6.i hq))) (k6_n47 _ _ _ _ (K6.l (K6.i hq)))))
theorem k6_word_10 {L : Nat → Nat → Int64} : ∀ (n : Nat) (x1 : Int32) (σ : ST), K6 L σ → PZ L (f_X11_word_10 n x1 σ) := by
  intro n
  induction n with
  | zero => intro x1 σ h; exact PZ.none
  | succ n ih =>
    intro x1 σ h
    rw [f_X11_word_10]
    unfold f_X11_word_62
    exact PZ.bndW (k6_byteAt _ _ h) (fun q hq => PZ.bndW (k6_isLetter _ _ hq) (fun w hw => PZ.ite (PZ.ret hw) (PZ.ite (PZ.bnd (PZ.ret hw.l.i.i) (fun z hz => ih _ _ hz)) (PZ.bndW (k6_byteAt _ _ hw) (fun v hv => PZ.bnd (PZ.ret hv.l.i.i) (fun z hz => ih _ _ hz))))))
theorem k6_word {L : Nat → Nat → Int64} (p0 : Int32) (σ : ST) (h : K6 L σ) : PZ L (f_X11_word p0 σ) := by
  unfold f_X11_word
  exact k6_word_10 _ _ _ h.l.i
theorem k6_quoted {L : Nat → Nat → Int64} (σ : ST) (h : K6 L σ) : PZ L (f_X11_quoted σ) := by
  unfold f_X11_quoted f_X11_quoted_42 f_X11_quoted_43 f_X11_quoted_64
  have z : ∀ (y0 : Int32) (s : ST), K6 L s → PZ L (if y0 = 0 then some (stI (stI s 0 5 (s.1 0 5 + 1)) 0 6 5) else some (stI (stI s 0 5 (s.1 0 5 + 1)) 0 6 3)) := fun y0 s hs => PZ.ite (PZ.ret hs.i.i) (PZ.ret hs.i.i)
  exact PZ.bnd (k6_word _ _ h.i) (fun q hq => PZ.ite (z 0 q hq) (PZ.bndW (k6_byteAt _ _ hq) (fun w hw => PZ.ite (z 1 _ hw) (z 0 _ hw))))
theorem k6_go_143 {L : Nat → Nat → Int64} (x1 : Int32) (σ : ST) (h : K6 L σ) : PZ L (f_X11_go_143 x1 σ) := by
  unfold f_X11_go_143 f_X11_go_169 f_X11_go_185
  exact PZ.ite (PZ.bnd (k6_quoted _ h) (fun q hq => PZ.ret hq)) (PZ.bndW (k6_isSign _ _ h) (fun q hq => PZ.ite (PZ.ite (PZ.ret hq.i.i.i) (PZ.ret hq.i.i.i)) (PZ.ite (PZ.ret hq.i.i.i) (PZ.ret hq.i.i.i))))
theorem k6_go_0 {L : Nat → Nat → Int64} : ∀ (n : Nat) (σ : ST), K6 L σ → PZ L (f_X11_go_0 n σ) := by
  intro n
  induction n with
  | zero => intro σ h; exact PZ.none
  | succ n ih =>
    intro σ h
    rw [f_X11_go_0]
    unfold f_X11_go_26 f_X11_go_136 f_X11_go_101
    refine PZ.bndW (k6_byteAt _ _ h) (fun q hq => PZ.ite (ih _ hq.i) (PZ.bndW (k6_byteAt _ _ hq) (fun q3 h3 => PZ.ite (ih _ h3.i) (PZ.bndW (k6_byteAt _ _ h3.i) (fun q5 h5 => PZ.ite ?_ ?_)))))
    · refine PZ.bndW (k6_isLetter _ _ h5.i) (fun q7 h7 => PZ.ite ?_ ?_)
      · refine PZ.bndW (k6_isDigit _ _ h7) (fun q9 h9 => PZ.ite (PZ.ite ?_ (k6_go_143 _ _ h9)) (PZ.bnd (k6_number _ h9) (fun z hz => PZ.ret hz)))
        exact PZ.bndW (k6_byteAt _ _ h9) (fun q11 h11 => PZ.bndW (k6_isDigit _ _ h11) (fun q13 h13 => PZ.ite (k6_go_143 _ _ h13) (PZ.bnd (k6_number _ h13) (fun z hz => PZ.ret hz))))
      · exact PZ.bnd (k6_word _ _ h7) (fun z hz => PZ.ite (PZ.ret hz.i) (PZ.ret hz.i))
    · exact PZ.ret h5.i.i
theorem k6_go (σ : ST) : PZ σ.2.1 (f_X11_go σ) := by
  unfold f_X11_go
  exact k6_go_0 _ _ (fun _ _ => rfl)
/-- a word's token -/
theorem TB_.word {T : Nat → Int32} {n : Int} {s : Nat} {t : ST} (h : TB_ T n s t) (h1 : (t.1 0 6).toInt = 1) : isL (bt T n s) ∧ ∃ m, RUN isL T n s m ∧ (t.1 0 5).toInt = s + m ∧ (1 ≤ m ∧ m ≤ 8) ∧ t.2.1 0 7 = w27 T s m := by
  obtain ⟨h4, h | h | h | h | h⟩ := h
  · omega
  · obtain ⟨hL, h13, m, hR, h5, h8, h7, h6⟩ := h
    have hm : m ≤ 8 := by omega
    have e8 : min m 8 = m := by omega
    rw [e8] at h7
    refine ⟨hL, m, hR, h5, ⟨?_, hm⟩, h7⟩
    by_cases e : m = 0
    · have h9 := hR.2
      rw [e] at h9
      exact absurd hL h9
    · omega
  · rcases h.2 with ⟨_, m, hm⟩ | ⟨_, m, hm⟩
    · have := hm.2.2.2; omega
    · have := hm.2.2.2; omega
  · obtain ⟨_, _, m, _, _, _, h6⟩ := h
    omega
  · omega
/-- how long a word is that means something -/
theorem TB_.len {T : Nat → Int32} {n : Int} {s k : Nat} {t : ST} (h : TB_ T n s t) (h1 : (t.1 0 6).toInt = 1) (hk : k < 15) (h7 : t.2.1 0 7 = kwV k) : (t.1 0 5).toInt = (t.1 0 4).toInt + (kwM k : Int) := by
  have h4 := h.1
  obtain ⟨hL, m, hR, h5, hm, hw⟩ := h.word h1
  have e1 := w27_n m hm.2 hR.1
  have e2 := kw_B k hk
  rw [← hw, h7] at e1
  obtain ⟨a, _⟩ := n27_inj m (kwM k) (gT T s) (kwG k) (gT_L hR.1).1 (kw_G k hk).2 (by omega)
  omega
/-- both are at one token of one text -/
def LX (σ τ : ST) : Prop := (σ.1 1 = τ.1 1 ∧ σ.1 2 2 = τ.1 0 3 ∧ (∀ i, bI (τ.1 1 i) (-128) 127) ∧ σ.2.1 3 = kw0) ∧ bI (τ.1 0 3) 0 1000 ∧ TK σ τ ∧ ∃ p s : Nat, p ≤ 1001 ∧ SK (τ.1 1) (τ.1 0 3).toInt p s ∧ TB_ (τ.1 1) (τ.1 0 3).toInt s τ
theorem LX.tx {σ τ : ST} (h : LX σ τ) : TX τ := by
  obtain ⟨_, hn, _, p, s, hp, hs, hT⟩ := h
  obtain ⟨a1, a2, a3, a4⟩ := hT.left hn hp hs
  exact ⟨hn, a1, a2, hT.sgn⟩
theorem LX.tb {σ τ : ST} (h : LX σ τ) : ∃ s : Nat, (τ.1 0 4).toInt = s ∧ TB_ (τ.1 1) (τ.1 0 3).toInt s τ := by
  obtain ⟨_, hn, _, p, s, hp, hs, hT⟩ := h
  exact ⟨s, hT.1, hT⟩
/-- both go on -/
theorem ab_go (σ τ : ST) (h : LX σ τ) (hg : σ.1 2 3 = τ.1 0 5) : OK (f_X6_advance σ) (fun a => OK (f_X11_go τ) (fun b => CA σ a ∧ CH [] GI τ b ∧ (∀ c, c ≠ 0 → b.2.1 c = τ.2.1 c) ∧ LX a b ∧ (τ.1 0 5).toInt ≤ (b.1 0 4).toInt ∧ ((τ.1 0 6).toInt = 1 → (b.1 0 6).toInt = 1 → (τ.1 0 5).toInt < (b.1 0 4).toInt) ∧ uT b ≤ ((τ.1 0 3).toInt - (τ.1 0 5).toInt).toNat)) := by
  have htx := h.tx
  obtain ⟨⟨hT, hn, h8, hk⟩, hn2, hTK, p0, s0, hp0, hs0, hT0⟩ := h
  obtain ⟨_, ⟨p1, p2⟩, _, _⟩ := htx
  have np := nN_ p1
  have h8' : ∀ i, bI (σ.1 1 i) (-128) 127 := by rw [hT]; exact h8
  have hn3 : bI (σ.1 2 2) 0 1000 := by rw [hn]; exact hn2
  refine (a_advance σ (τ.1 0 5).toNatClampNeg h8' hn3 (by rw [hg]; exact np.symm) (by omega)).mono (fun a ha => ?_)
  obtain ⟨ca, s, hs, hA⟩ := ha
  rw [hT, hn] at hs hA
  obtain ⟨b, eb, cb, u, hu, hB⟩ := b_go τ (τ.1 0 5).toNatClampNeg hn2 np.symm (by omega)
  refine ⟨b, eb, ca, cb, fun c hc => k6_go τ b eb c hc, ?_, ?_, ?_, ?_⟩
  · have e := hs.uniq hu
    subst e
    have b1 : b.1 1 = τ.1 1 := cb.1 1 (by decide) (by decide)
    have b3 : b.1 0 3 = τ.1 0 3 := cb.2.1 3 (by decide)
    have a3 : a.2.1 3 = kw0 := (ca.2.2.1 3 (by decide)).trans hk
    refine ⟨⟨?_, ?_, by rw [b1]; exact h8, a3⟩, by rw [b3]; exact hn2, TK.mk h8 a3 b1 (by rw [b3]) hA hB, (τ.1 0 5).toNatClampNeg, s, by omega, by rw [b1, b3]; exact hs, by rw [b1, b3]; exact hB⟩
    · rw [ca.1 1 (by decide), hT, b1]
    · rw [ca.2.1, hn, b3]
  · have := hB.1
    have := hu.1
    omega
  · intro w1 w2
    have e4 := hB.1
    have e5 := hu.1
    obtain ⟨_, m, hR, h5, _, _⟩ := hT0.word w1
    obtain ⟨hL, _⟩ := hB.word w2
    by_cases e : u = s0 + m
    · rw [e] at hL
      exact absurd hL hR.2
    · omega
  · obtain ⟨a1, a2, a3, a4⟩ := hB.left hn2 (by omega) hu
    have e3 : b.1 0 3 = τ.1 0 3 := cb.2.1 3 (by decide)
    unfold uT
    rw [e3]
    have a11 := a1.1
    split
    · rename_i h9
      have := a3 h9
      omega
    · rename_i h9
      have := a4 h9
      omega
/-- the sort that a type begins with here -/
def sk (k : Nat) : Int := if k = 4 then 6 else if k = 5 then 8 else if 7 ≤ k ∧ k ≤ 12 then (k : Int) - 7 else -1
def SV (σ : ST) : Int := if (σ.1 2 4).toInt = 3 then 7 else if (σ.1 2 4).toInt = 2 then sk (σ.1 2 6).toNatClampNeg else -1
theorem sk_4 : sk 4 = 6 := by decide
theorem sk_5 : sk 5 = 8 := by decide
theorem sk_s {k : Nat} (h : 7 ≤ k ∧ k ≤ 12) : sk k = (k : Int) - 7 := by
  unfold sk
  rw [if_neg (by omega), if_neg (by omega), if_pos h]
theorem sk_n {k : Nat} (h : ¬ k = 4 ∧ ¬ k = 5 ∧ ¬ (7 ≤ k ∧ k ≤ 12)) : sk k = -1 := by
  unfold sk
  rw [if_neg h.1, if_neg h.2.1, if_neg h.2.2]
theorem sv_3 {σ : ST} (h : (σ.1 2 4).toInt = 3) : SV σ = 7 := by
  unfold SV
  rw [if_pos h]
theorem sv_2 {σ : ST} {k : Nat} (h : (σ.1 2 4).toInt = 2) (e : (σ.1 2 6).toInt = k) : SV σ = sk k := by
  unfold SV
  rw [if_neg (by omega), if_pos h, nC e]
theorem sv_n {σ : ST} (h3 : ¬ (σ.1 2 4).toInt = 3) (h2 : ¬ (σ.1 2 4).toInt = 2) : SV σ = -1 := by
  unfold SV
  rw [if_neg h3, if_neg h2]
theorem a_sortBegun (σ τ : ST) (h : TK σ τ) : OK (f_X6_sortBegun σ) (RO σ fun v => v.toInt = SV σ) := by
  unfold f_X6_sortBegun
  have lm := li_m1
  have l2 := li_2
  have l3 := li_3
  have l4 := li_4
  have l5 := li_5
  have l6 := li_6
  have l7 := li_7
  have l8 := li_8
  have l12 := li_12
  refine OK.ieq (fun h3 => OK.roret (by rw [sv_3 (by omega)]; exact l7)) (fun h3 => ?_)
  refine OK.ieq (fun h2 => ?_) (fun h2 => OK.roret (by rw [sv_n (by omega) (by omega)]; exact lm))
  have hk : ∃ k : Nat, k < 15 ∧ (σ.1 2 6).toInt = k := by
    obtain ⟨_, h | h | h | h | h | h⟩ := h
    · omega
    · omega
    · rcases h.2.2.2.2 with ⟨_, k, a, b, _⟩ | ⟨a, _⟩
      · exact ⟨k, a, b⟩
      · omega
    · omega
    · omega
    · omega
  obtain ⟨k, hk, ek⟩ := hk
  rw [sv_2 (by omega) ek]
  refine OK.ieq (fun h => OK.roret ?_) (fun h => ?_)
  · have e : k = 4 := by omega
    rw [e, sk_4]; exact l6
  refine OK.ieq (fun h => OK.roret ?_) (fun h => ?_)
  · have e : k = 5 := by omega
    rw [e, sk_5]; exact l8
  refine OK.ilt (fun h => OK.roret (by rw [sk_n (by omega)]; exact lm)) (fun h => ?_)
  refine OK.ilt (fun h => OK.roret (by rw [sk_n (by omega)]; exact lm)) (fun h => ?_)
  have e := il_subE (x := σ.1 2 6) (y := 7) (by omega) (by omega)
  exact OK.roret (by rw [sk_s (by omega)]; omega)
theorem sh_kw {τ : ST} {k : Nat} {v : Int32} (h1 : (τ.1 0 6).toInt = 1) (hk : k < 15) (h7 : τ.2.1 0 7 = kwV k) (h : SH τ v) : v.toInt = sk k := by
  have w : ∀ j, j < 15 → W_ τ (kwV j) → k = j := fun j hj hw => kw_ne k hk j hj (by rw [← h7]; exact hw.2)
  have y : ∀ j, j < 15 → ¬ W_ τ (kwV j) → ¬ k = j := fun j hj hw e => hw ⟨h1, by rw [h7, e]⟩
  unfold SH at h
  rcases h with h | h | h | h | h | h | h | h | h
  · rw [w 7 (by omega) h.2]; exact h.1
  · rw [w 8 (by omega) h.2]; exact h.1
  · rw [w 9 (by omega) h.2]; exact h.1
  · rw [w 10 (by omega) h.2]; exact h.1
  · rw [w 11 (by omega) h.2]; exact h.1
  · rw [w 12 (by omega) h.2]; exact h.1
  · rw [w 4 (by omega) h.2]; exact h.1
  · rw [w 5 (by omega) h.2]; exact h.1
  · obtain ⟨hv, n0, n1, n2, n3, n4, n5, n6, n8⟩ := h
    have a0 := y 7 (by omega) n0
    have a1 := y 8 (by omega) n1
    have a2 := y 9 (by omega) n2
    have a3 := y 10 (by omega) n3
    have a4 := y 11 (by omega) n4
    have a5 := y 12 (by omega) n5
    have a6 := y 4 (by omega) n6
    have a8 := y 5 (by omega) n8
    unfold sk
    rw [if_neg (by omega), if_neg (by omega), if_neg (by omega)]
    exact hv
theorem sh_no {τ : ST} {v : Int32} (h1 : ∀ j, j < 15 → ¬ W_ τ (kwV j)) (h : SH τ v) : v.toInt = -1 := by
  unfold SH at h
  rcases h with h | h | h | h | h | h | h | h | h
  · exact absurd h.2 (h1 7 (by omega))
  · exact absurd h.2 (h1 8 (by omega))
  · exact absurd h.2 (h1 9 (by omega))
  · exact absurd h.2 (h1 10 (by omega))
  · exact absurd h.2 (h1 11 (by omega))
  · exact absurd h.2 (h1 12 (by omega))
  · exact absurd h.2 (h1 4 (by omega))
  · exact absurd h.2 (h1 5 (by omega))
  · exact h.1
/-- the reference's word is the class's -/
theorem TK.kw {σ τ : ST} (h : TK σ τ) {k : Nat} (hk : k < 15) : W_ τ (kwV k) ↔ (σ.1 2 4).toInt = 2 ∧ (σ.1 2 6).toInt = k := by
  obtain ⟨_, h | h | h | h | h | h⟩ := h
  · exact ⟨fun w => by have := w.1; omega, fun w => by omega⟩
  · exact ⟨fun w => by have := w.1; omega, fun w => by omega⟩
  · obtain ⟨h6, _, _, _, h⟩ := h
    rcases h with ⟨a, j, hj, b, c⟩ | ⟨a, c⟩
    · refine ⟨fun w => ⟨a, ?_⟩, fun w => ⟨h6, ?_⟩⟩
      · have := kw_ne j hj k hk (by rw [← c]; exact w.2)
        omega
      · have e : j = k := by omega
        rw [c, e]
    · exact ⟨fun w => absurd c (NM.no (kwV_mem k hk) w), fun w => by omega⟩
  · exact ⟨fun w => by have := w.1; omega, fun w => by omega⟩
  · exact ⟨fun w => by have := w.1; omega, fun w => by omega⟩
  · exact ⟨fun w => by have := w.1; omega, fun w => by omega⟩
theorem TK.nm {σ τ : ST} (h : TK σ τ) : NM τ ↔ (σ.1 2 4).toInt = 3 := by
  obtain ⟨_, h | h | h | h | h | h⟩ := h
  · exact ⟨fun w => by have := w.1; omega, fun w => by omega⟩
  · exact ⟨fun w => by have := w.1; omega, fun w => by omega⟩
  · obtain ⟨h6, _, _, _, h⟩ := h
    rcases h with ⟨a, j, hj, b, c⟩ | ⟨a, c⟩
    · exact ⟨fun w => absurd c (w.2 _ (kwV_mem j hj)), fun w => by omega⟩
    · exact ⟨fun _ => a, fun _ => c⟩
  · exact ⟨fun w => by have := w.1; omega, fun w => by omega⟩
  · exact ⟨fun w => by have := w.1; omega, fun w => by omega⟩
  · exact ⟨fun w => by have := w.1; omega, fun w => by omega⟩
/-- the class asks for a word -/
theorem a_isKeyword (p0 : Int32) (σ τ : ST) (h : TK σ τ) {k : Nat} (hk : k < 15) (e : p0.toInt = k) : OK (f_X6_isKeyword p0 σ) (RO σ fun v => v.toInt = 0 ∧ ¬ W_ τ (kwV k) ∨ v.toInt = 1 ∧ W_ τ (kwV k)) := by
  unfold f_X6_isKeyword
  have l0 := li_0
  have l1 := li_1
  have l2 := li_2
  rw [h.kw hk]
  refine OK.ieq (fun h2 => OK.ieq (fun h6 => OK.roret (.inr ⟨l1, by omega, by omega⟩)) (fun h6 => OK.roret (.inl ⟨l0, fun h9 => by omega⟩))) (fun h2 => OK.roret (.inl ⟨l0, fun h9 => by omega⟩))
/-- the reference asks for a name, then for a sort -/
theorem sv_sh {σ τ : ST} (h : TK σ τ) {v : Int32} (hn : ¬ NM τ) (hv : SH τ v) : v.toInt = SV σ := by
  have h3 : ¬ (σ.1 2 4).toInt = 3 := fun e => hn (h.nm.mpr e)
  unfold SV
  rw [if_neg h3]
  by_cases h2 : (σ.1 2 4).toInt = 2
  · rw [if_pos h2]
    have h' := h
    obtain ⟨_, h | h | h | h | h | h⟩ := h
    · omega
    · omega
    · obtain ⟨h6, _, _, _, h⟩ := h
      rcases h with ⟨a, j, hj, b, c⟩ | ⟨a, c⟩
      · rw [nC b]
        exact sh_kw h6 hj c hv
      · omega
    · omega
    · omega
    · omega
  · rw [if_neg h2]
    exact sh_no (fun j hj w => h2 ((h.kw hj).mp w).1) hv
theorem sv_nm {σ τ : ST} (h : TK σ τ) (hn : NM τ) : SV σ = 7 := by
  unfold SV
  rw [if_pos (h.nm.mp hn)]
/-- the sorts taken, as bits -/
def pc (w : Nat) : Nat := (List.range 9).countP (fun i => w.testBit i)
def s00 : ST := (fun _ _ => 0, fun _ _ => 0, fun _ _ => 0, fun _ => 0)
theorem mk_cnt : ∀ w : Nat, w < 512 → (f_J6_bitCount_0f7a4 (Int32.ofNat w) s00).map (fun q => q.1.toInt) = some (pc w : Int) := by decide +kernel
theorem mk_c2 (p : Int32) (σ : ST) : f_J6_bitCount_0f7a4 p σ = (f_J6_bitCount_0f7a4 p s00).map (fun q => (q.1, σ)) := rfl
theorem a_bitCount (w : Nat) (σ : ST) (hw : w < 512) : OK (f_J6_bitCount_0f7a4 (Int32.ofNat w) σ) (RO σ fun v => v.toInt = (pc w : Int)) := by
  have h := mk_cnt w hw
  rw [mk_c2]
  cases e : f_J6_bitCount_0f7a4 (Int32.ofNat w) s00 with
  | none => rw [e] at h; cases h
  | some q =>
    rw [e] at h
    have h : some q.1.toInt = some (pc w : Int) := h
    exact ⟨_, rfl, rfl, Option.some.inj h⟩
theorem mk_bit : ∀ w : Nat, w < 512 → ∀ s : Nat, s < 9 → (((Int32.ofNat w) >>> ((Int32.ofNat s) &&& 31)) &&& 1).toInt = (if w.testBit s then 1 else 0) := by decide +kernel
theorem mk_or : ∀ w : Nat, w < 512 → ∀ s : Nat, s < 9 → w.testBit s = false → ((Int32.ofNat w) ||| (1 <<< ((Int32.ofNat s) &&& 31))) = Int32.ofNat (w + 2 ^ s) ∧ w + 2 ^ s < 512 ∧ pc (w + 2 ^ s) = pc w + 1 ∧ ∀ j : Nat, j < 9 → (w + 2 ^ s).testBit j = (w.testBit j || j == s) := by decide +kernel
/-! a type begins: both take it, or both refuse it -/
/-- a type of a draft, no higher than so -/
def VD (lo hi : Int) (S A M B : Nat → Int32) : Nat → Int32 → Prop
  | 0, _ => False
  | d + 1, t => (lo ≤ t.toInt ∧ t.toInt < hi) ∧ (0 ≤ (S t.toNatClampNeg).toInt ∧ (S t.toNatClampNeg).toInt ≤ 8) ∧
    ((S t.toNatClampNeg).toInt = 6 → VD lo hi S A M B d (A t.toNatClampNeg)) ∧
    ((S t.toNatClampNeg).toInt = 8 → (1 ≤ (M t.toNatClampNeg).toInt ∧ (M t.toNatClampNeg).toInt ≤ 4) ∧
      (∀ k : Nat, (k : Int) < (M t.toNatClampNeg).toInt → VD lo hi S A M B d (B (4 * t.toNatClampNeg + k)) ∧ ¬ (S (B (4 * t.toNatClampNeg + k)).toNatClampNeg).toInt = 8) ∧
      (∀ j k : Nat, j < k → (k : Int) < (M t.toNatClampNeg).toInt → ¬ (S (B (4 * t.toNatClampNeg + j)).toNatClampNeg).toInt = (S (B (4 * t.toNatClampNeg + k)).toNatClampNeg).toInt))
theorem VD.rng {lo hi : Int} {S A M B : Nat → Int32} {d : Nat} {t : Int32} (h : VD lo hi S A M B d t) : lo ≤ t.toInt ∧ t.toInt < hi := by
  cases d with
  | zero => exact h.elim
  | succ d => exact h.1
/-- the same rows in another state, and wider -/
theorem VD.ext {lo hi lo' hi' : Int} {S A M B S' A' M' B' : Nat → Int32} (h0 : 0 ≤ lo') (hl : lo' ≤ lo) (hh : hi ≤ hi') (hr : ∀ j : Nat, lo ≤ (j : Int) → (j : Int) < hi → S' j = S j ∧ ((S j).toInt = 6 → A' j = A j) ∧ M' j = M j ∧ ∀ k : Nat, k < 4 → B' (4 * j + k) = B (4 * j + k)) : ∀ (d : Nat) (t : Int32), VD lo hi S A M B d t → VD lo' hi' S' A' M' B' d t := by
  intro d
  induction d with
  | zero => intro t h; exact h.elim
  | succ d ih =>
    intro t h
    obtain ⟨h1, h2, h3, h5⟩ := h
    have n1 := nN_ (x := t) (by omega)
    obtain ⟨e1, e2, e3, e4⟩ := hr t.toNatClampNeg (by omega) (by omega)
    refine ⟨by omega, ?_, ?_, ?_⟩
    · rw [e1]; exact h2
    · rw [e1]
      intro hs
      rw [e2 hs]
      exact ih _ (h3 hs)
    · rw [e1, e3]
      intro hs
      obtain ⟨a1, a2, a3⟩ := h5 hs
      have eb : ∀ k : Nat, (k : Int) < (M t.toNatClampNeg).toInt → B' (4 * t.toNatClampNeg + k) = B (4 * t.toNatClampNeg + k) ∧ S' (B (4 * t.toNatClampNeg + k)).toNatClampNeg = S (B (4 * t.toNatClampNeg + k)).toNatClampNeg := fun k hk => by
        have r := (a2 k hk).1.rng
        have n2 := nN_ (x := B (4 * t.toNatClampNeg + k)) (by omega)
        exact ⟨e4 k (by omega), (hr _ (by omega) (by omega)).1⟩
      refine ⟨a1, fun k hk => ?_, fun j k hjk hk => ?_⟩
      · rw [(eb k hk).1, (eb k hk).2]
        exact ⟨ih _ (a2 k hk).1, (a2 k hk).2⟩
      · rw [(eb k hk).1, (eb k hk).2, (eb j (by omega)).1, (eb j (by omega)).2]
        exact a3 j k hjk hk
/-- once the records asked for are there, it is a type of the plan -/
theorem VD.vt {lo hi : Int} {S A M B : Nat → Int32} {rm : Int} (h0 : 0 ≤ lo) (hr : ∀ j : Nat, lo ≤ (j : Int) → (j : Int) < hi → (S j).toInt = 7 → 0 ≤ (A j).toInt ∧ (A j).toInt < rm) : ∀ (d : Nat) (t : Int32), VD lo hi S A M B d t → VT hi S A M B rm d t := by
  intro d
  induction d with
  | zero => intro t h; exact h.elim
  | succ d ih =>
    intro t h
    obtain ⟨h1, h2, h3, h5⟩ := h
    have n1 := nN_ (x := t) (by omega)
    refine ⟨by omega, h2, fun hs => ih _ (h3 hs), fun hs => hr _ (by omega) (by omega) hs, fun hs => ?_⟩
    obtain ⟨a1, a2, a3⟩ := h5 hs
    exact ⟨a1, fun k hk => ⟨ih _ (a2 k hk).1, (a2 k hk).2⟩, a3⟩
theorem VD.up {lo hi : Int} {S A M B : Nat → Int32} : ∀ {d : Nat} {t : Int32}, VD lo hi S A M B d t → VD lo hi S A M B (d + 1) t := by
  intro d
  induction d with
  | zero => intro t h; exact h.elim
  | succ d ih =>
    intro t h
    obtain ⟨h1, h2, h3, h5⟩ := h
    refine ⟨h1, h2, fun hs => ih (h3 hs), fun hs => ?_⟩
    obtain ⟨a1, a2, a3⟩ := h5 hs
    exact ⟨a1, fun k hk => ⟨ih (a2 k hk).1, (a2 k hk).2⟩, a3⟩
/-- what the class leaves as it is while a type is read: all rows before -/
def FA (c0 : Nat) (σ a : ST) : Prop := (∀ c, c ∉ [2, 20, 31, 32, 33, 35] → a.1 c = σ.1 c) ∧ (∀ i, i ≠ 1 → a.1 20 i = σ.1 20 i) ∧ (∀ c, c ∉ [2, 34] → a.2.1 c = σ.2.1 c) ∧ (∀ i, i < c0 → a.1 31 i = σ.1 31 i ∧ a.1 32 i = σ.1 32 i ∧ a.2.1 34 i = σ.2.1 34 i ∧ a.1 33 i = σ.1 33 i)
theorem FA.rf {c0 : Nat} {σ : ST} : FA c0 σ σ := ⟨fun _ _ => rfl, fun _ _ => rfl, fun _ _ => rfl, fun _ _ => ⟨rfl, rfl, rfl, rfl⟩⟩
theorem FA.trans {c0 c1 : Nat} {σ a b : ST} (h : FA c0 σ a) (k : FA c1 a b) (hc : c0 ≤ c1) : FA c0 σ b := ⟨fun c hc => (k.1 c hc).trans (h.1 c hc), fun i hi => (k.2.1 i hi).trans (h.2.1 i hi), fun c hc => (k.2.2.1 c hc).trans (h.2.2.1 c hc), fun i hi => by
  obtain ⟨a1, a2, a3, a4⟩ := h.2.2.2 i hi
  obtain ⟨b1, b2, b3, b4⟩ := k.2.2.2 i (by omega)
  exact ⟨b1.trans a1, b2.trans a2, b3.trans a3, b4.trans a4⟩⟩
theorem CA.fa {c0 : Nat} {σ a : ST} (h : CA σ a) : FA c0 σ a := by
  have z : ∀ c, c ≠ 2 → a.1 c = σ.1 c := h.1
  have y : ∀ c, c ≠ 2 → a.2.1 c = σ.2.1 c := h.2.2.1
  exact ⟨fun c hc => z c (fun e => hc (by rw [e]; decide)), fun i _ => by rw [z 20 (by decide)], fun c hc => y c (fun e => hc (by rw [e]; decide)), fun i _ => ⟨by rw [z 31 (by decide)], by rw [z 32 (by decide)], by rw [y 34 (by decide)], by rw [z 33 (by decide)]⟩⟩
/-- what the reference leaves as it is meanwhile -/
def L5 (τ b : ST) : Prop := b.2.1 9 = τ.2.1 9 ∧ b.2.1 12 = τ.2.1 12 ∧ b.2.1 14 = τ.2.1 14 ∧ b.2.1 17 = τ.2.1 17 ∧ b.2.1 18 = τ.2.1 18
theorem L5.rf {τ : ST} : L5 τ τ := ⟨rfl, rfl, rfl, rfl, rfl⟩
theorem L5.trans {τ b w : ST} (h : L5 τ b) (k : L5 b w) : L5 τ w := ⟨k.1.trans h.1, k.2.1.trans h.2.1, k.2.2.1.trans h.2.2.1, k.2.2.2.1.trans h.2.2.2.1, k.2.2.2.2.trans h.2.2.2.2⟩
theorem CH.l5 {C I : List Nat} {τ b : ST} (h : CH C I τ b) : L5 τ b := h.2.2
theorem L5.eq {τ b : ST} (h : b.2.1 = τ.2.1) : L5 τ b := by
  unfold L5
  rw [h]
  exact ⟨rfl, rfl, rfl, rfl, rfl⟩
def FG (t0 : Nat) (τ b : ST) : Prop := (∀ c, c ∉ [0, 2, 3, 4, 5, 7] → b.1 c = τ.1 c) ∧ (∀ i, i ∉ [4, 5, 6, 8, 10, 12, 13, 34] → b.1 0 i = τ.1 0 i) ∧ (∀ j, j < t0 → b.1 2 j = τ.1 2 j ∧ b.1 3 j = τ.1 3 j ∧ b.1 4 j = τ.1 4 j) ∧ (∀ j, j < 4 * t0 → b.1 5 j = τ.1 5 j) ∧ L5 τ b
theorem FG.rf {t0 : Nat} {τ : ST} : FG t0 τ τ := ⟨fun _ _ => rfl, fun _ _ => rfl, fun _ _ => ⟨rfl, rfl, rfl⟩, fun _ _ => rfl, L5.rf⟩
theorem FG.trans {c0 c1 : Nat} {σ a b : ST} (h : FG c0 σ a) (k : FG c1 a b) (hc : c0 ≤ c1) : FG c0 σ b := ⟨fun c hc => (k.1 c hc).trans (h.1 c hc), fun i hi => (k.2.1 i hi).trans (h.2.1 i hi), fun i hi => by
  obtain ⟨a1, a2, a3⟩ := h.2.2.1 i hi
  obtain ⟨b1, b2, b3⟩ := k.2.2.1 i (by omega)
  exact ⟨b1.trans a1, b2.trans a2, b3.trans a3⟩, fun j hj => (k.2.2.2.1 j (by omega)).trans (h.2.2.2.1 j hj), h.2.2.2.2.trans k.2.2.2.2⟩
theorem CH.fg {t0 : Nat} {I : List Nat} {τ b : ST} (hI : ∀ i, i ∈ I → i ∈ [4, 5, 6, 8, 10, 12, 13, 34]) (h : CH [] I τ b) : FG t0 τ b := by
  have z : ∀ c, c ≠ 0 → b.1 c = τ.1 c := fun c hc => h.1 c hc (by simp)
  exact ⟨fun c hc => z c (fun e => hc (by rw [e]; decide)), fun i hi => h.2.1 i (fun h9 => hi (hI i h9)), fun j _ => ⟨by rw [z 2 (by decide)], by rw [z 3 (by decide)], by rw [z 4 (by decide)]⟩, fun j _ => by rw [z 5 (by decide)], h.l5⟩
/-- the branches that there are, as the sorts taken -/
def MK (w : Nat) (pB : Int32) (t0 : Nat) (τ : ST) : Prop := w < 512 ∧ ((pB.toInt < 0 ∧ w = 0) ∨ ((0 ≤ pB.toInt ∧ pB.toInt < (t0 : Int)) ∧ w.testBit 8 = true ∧ ∃ m : Nat, (τ.1 4 pB.toNatClampNeg).toInt = m ∧ m ≤ 4 ∧ pc w = m + 1 ∧ (∀ k : Nat, k < m → 0 ≤ (τ.1 5 (4 * pB.toNatClampNeg + k)).toInt ∧ (τ.1 5 (4 * pB.toNatClampNeg + k)).toInt < 800) ∧ ∀ s : Nat, s < 8 → (w.testBit s = true ↔ ∃ k : Nat, k < m ∧ (τ.1 2 (τ.1 5 (4 * pB.toNatClampNeg + k)).toNatClampNeg).toInt = s)))
theorem b_isAsked_5 (x1 x2 : Int32) (τ : ST) (m : Nat) (h1 : 0 ≤ x1.toInt ∧ x1.toInt < 800) (hm : (τ.1 4 x1.toNatClampNeg).toInt = m) (hm4 : m ≤ 4) (hb : ∀ k : Nat, k < m → 0 ≤ (τ.1 5 (4 * x1.toNatClampNeg + k)).toInt ∧ (τ.1 5 (4 * x1.toNatClampNeg + k)).toInt < 800) : ∀ (f k : Nat) (x3 x4 : Int32), x4.toInt = k → k ≤ m → m < f + k → (x3.toInt = 0 ∧ (∀ i : Nat, i < k → ¬ (τ.1 2 (τ.1 5 (4 * x1.toNatClampNeg + i)).toNatClampNeg).toInt = x2.toInt) ∨ x3.toInt = 1 ∧ ∃ i : Nat, i < k ∧ (τ.1 2 (τ.1 5 (4 * x1.toNatClampNeg + i)).toNatClampNeg).toInt = x2.toInt) → OK (f_X11_isAsked_5 f x1 x2 x3 x4 τ) (RO τ fun v => v.toInt = 0 ∧ (∀ i : Nat, i < m → ¬ (τ.1 2 (τ.1 5 (4 * x1.toNatClampNeg + i)).toNatClampNeg).toInt = x2.toInt) ∨ v.toInt = 1 ∧ ∃ i : Nat, i < m ∧ (τ.1 2 (τ.1 5 (4 * x1.toNatClampNeg + i)).toNatClampNeg).toInt = x2.toInt) := by
  intro f
  induction f with
  | zero => intro k x3 x4 h2 h3 h4 h5; omega
  | succ f ih =>
    intro k x3 x4 hk hkm hf hx
    rw [f_X11_isAsked_5]
    unfold f_X11_isAsked_40 f_X11_isAsked_45
    have l0 := li_0
    have l1 := li_1
    have l4 : (4 : Int32).toInt = 4 := li_4
    have n1 := nN_ h1.1
    have e4 := mlE (k := 4) (y := x1) 4 l4 (by omega) (by omega)
    have e5 := il_addE (x := 4 * x1) (y := x4) (by omega) (by omega)
    have e6 := il_addE (x := x4) (y := 1) (by omega) (by omega)
    have np : (4 * x1 + x4).toNatClampNeg = 4 * x1.toNatClampNeg + k := nC (by omega)
    refine OK.grd h1 ?_
    refine OK.ile (fun h => ?_) (fun h => ?_)
    · have e : k = m := by clear hx; omega
      subst e
      refine OK.grd (b01 (hx.elim (fun h => .inl h.1) (fun h => .inr h.1))) (OK.roret hx)
    have hlt : k < m := by clear hx; omega
    have yes : (τ.1 2 (τ.1 5 (4 * x1.toNatClampNeg + k)).toNatClampNeg).toInt = x2.toInt ∨ (∃ i : Nat, i < k ∧ (τ.1 2 (τ.1 5 (4 * x1.toNatClampNeg + i)).toNatClampNeg).toInt = x2.toInt) → OK (f_X11_isAsked_5 f x1 x2 1 (x4 + 1) τ) (RO τ fun v => v.toInt = 0 ∧ (∀ i : Nat, i < m → ¬ (τ.1 2 (τ.1 5 (4 * x1.toNatClampNeg + i)).toNatClampNeg).toInt = x2.toInt) ∨ v.toInt = 1 ∧ ∃ i : Nat, i < m ∧ (τ.1 2 (τ.1 5 (4 * x1.toNatClampNeg + i)).toNatClampNeg).toInt = x2.toInt) := fun hy => by
      refine ih (k + 1) 1 (x4 + 1) (by clear hx hy; omega) hlt (by clear hx hy; omega) (.inr ⟨l1, ?_⟩)
      rcases hy with hy | ⟨i, hi, hy⟩
      · exact ⟨k, by omega, hy⟩
      · exact ⟨i, by omega, hy⟩
    refine OK.ieq (fun h0 => ?_) (fun h0 => yes (.inr ?_))
    · refine OK.grd ⟨by clear hx yes; omega, by clear hx yes; omega⟩ ?_
      rw [np]
      refine OK.grd (hb k hlt) ?_
      refine OK.ieq (fun h9 => yes (.inl h9)) (fun h9 => ?_)
      refine ih (k + 1) 0 (x4 + 1) (by clear hx yes; omega) hlt (by clear hx yes; omega) (.inl ⟨l0, fun i hi => ?_⟩)
      by_cases e : i = k
      · rw [e]; exact h9
      · rcases hx with hx | hx
        · exact hx.2 i (by omega)
        · have := hx.1; clear hx yes; omega
    · rcases hx with hx | hx
      · have := hx.1; clear hx yes; omega
      · exact hx.2
/-- the type is taken -/
def GD (w : Nat) (lev : Int) (σ : ST) : Prop := 0 ≤ SV σ ∧ lev ≤ 3 ∧ pc w ≤ 4 ∧ w.testBit (SV σ).toNat = false
theorem sv_rng {σ τ : ST} (h : TK σ τ) : -1 ≤ SV σ ∧ SV σ ≤ 8 := by
  by_cases h3 : (σ.1 2 4).toInt = 3
  · rw [sv_3 h3]; omega
  · by_cases h2 : (σ.1 2 4).toInt = 2
    · have hk : ∃ k : Nat, k < 15 ∧ (σ.1 2 6).toInt = k := by
        obtain ⟨_, h | h | h | h | h | h⟩ := h
        · omega
        · omega
        · rcases h.2.2.2.2 with ⟨_, k, a, b, _⟩ | ⟨a, _⟩
          · exact ⟨k, a, b⟩
          · omega
        · omega
        · omega
        · omega
      obtain ⟨k, hk, ek⟩ := hk
      rw [sv_2 h2 ek]
      by_cases a4 : k = 4
      · rw [a4, sk_4]; omega
      · by_cases a5 : k = 5
        · rw [a5, sk_5]; omega
        · by_cases a7 : 7 ≤ k ∧ k ≤ 12
          · rw [sk_s a7]; omega
          · rw [sk_n ⟨a4, a5, a7⟩]; omega
    · rw [sv_n h3 h2]; omega
/-- the reference takes the type or refuses it -/
theorem b_typeHead {rb rt : Int32 → Int32 → ST → Option ((Int32 × ST) × Nat)} (lev pB : Int32) (σ τ : ST) (w t0 : Nat) (hK : TK σ τ) (hM : MK w pB t0 τ) (ht : t0 ≤ 800) (P : (Int32 × ST) × Nat → Prop)
    (good : GD w lev.toInt σ → ∀ (y : Int32) (x : Nat), y.toInt = SV σ → x ≤ 23 → OK (f_X11_type_78 rb rt lev y 0 τ) (fun z => P (z.1, x + z.2)))
    (bad : ¬ GD w lev.toInt σ → ∀ q : (Int32 × ST) × Nat, CH [] [12] τ q.1.2 → q.1.1.toInt = -1 → q.2 ≤ 23 → P q) : OK (f_X11_type rb rt lev pB τ) P := by
  have lm := li_m1
  have l0 := li_0
  have l1 := li_1
  have l4 := li_4
  have l5 := li_5
  have l7 := li_7
  have l8 := li_8
  have rng := sv_rng hK
  have no : ∀ (y x4 : Int32) (x : Nat), 0 < x4.toInt → x ≤ 23 → ¬ GD w lev.toInt σ → OK (f_X11_type_78 rb rt lev y x4 τ) (fun z => P (z.1, x + z.2)) := fun y x4 x h4 hx hb => by
    unfold f_X11_type_78
    refine OK.ile (fun h => by omega) (fun _ => ?_)
    refine OK.bndC (b_wrongHere x4 τ) (fun v t c hv => ?_)
    exact ⟨_, rfl, bad hb ((-1, t), x + 0) c lm hx⟩
  have k16 : ∀ (y : Int32) (x : Nat), y.toInt = SV σ → x ≤ 23 → OK (f_X11_type_16 rb rt lev pB y τ) (fun z => P (z.1, x + z.2)) := fun y x hy hx => by
    unfold f_X11_type_16 f_X11_type_44 f_X11_type_48 f_X11_type_49 f_X11_type_75
    have n4 : ∀ y : Int32, ¬ GD w lev.toInt σ → OK (if (4 : Int32) = 0 then if pB < 0 then f_X11_type_78 rb rt lev y 4 τ else if y = 8 then f_X11_type_78 rb rt lev y 5 τ else (f_X11_isAsked pB y τ).bind fun q1 => if q1.1 = 0 then f_X11_type_78 rb rt lev y 4 q1.2 else f_X11_type_78 rb rt lev y 5 q1.2 else f_X11_type_78 rb rt lev y 4 τ) (fun z => P (z.1, x + z.2)) := fun y hb => OK.ieq (fun h => by omega) (fun _ => no y 4 x (by omega) hx hb)
    obtain ⟨hw, hM⟩ := hM
    refine OK.ile (fun h0 => ?_) (fun h0 => ?_)
    · refine OK.ile (fun hl => n4 y (fun g => by have := g.2.1; omega)) (fun hl => ?_)
      refine OK.ilt (fun hp => ?_) (fun hp => ?_)
      · rcases hM with ⟨_, e⟩ | ⟨h9, _⟩
        · subst e
          refine OK.ieq (fun _ => ?_) (fun h => absurd rfl h)
          refine OK.ilt (fun _ => good ⟨by omega, by omega, by decide, Nat.zero_testBit _⟩ y x hy hx) (fun h => by omega)
        · omega
      · rcases hM with ⟨h9, _⟩ | ⟨hp1, h8, m, hm, hm4, hpc, hb, hbit⟩
        · omega
        refine OK.grd ⟨by omega, by omega⟩ ?_
        refine OK.ieq (fun h4 => n4 y (fun g => by have := g.2.2.1; omega)) (fun h4 => ?_)
        refine OK.ieq (fun _ => ?_) (fun h => absurd rfl h)
        refine OK.ilt (fun h => by omega) (fun _ => ?_)
        refine OK.ieq (fun h8' => no y 5 x (by omega) hx (fun g => ?_)) (fun h8' => ?_)
        · have g4 := g.2.2.2
          have e8 : (SV σ).toNat = 8 := by omega
          rw [e8, h8] at g4
          cases g4
        have lu := FUi
        have e7 : (SV σ).toNat < 8 := by omega
        have eS : ((SV σ).toNat : Int) = y.toInt := by omega
        refine OK.bndR (b_isAsked_5 pB y τ m ⟨by omega, by omega⟩ hm hm4 hb FU 0 0 0 l0 (by omega) (by omega) (.inl ⟨l0, fun i hi => by omega⟩)) (fun v hv => ?_)
        dsimp only
        have hq := hbit (SV σ).toNat e7
        rw [eS] at hq
        refine OK.ieq (fun hv0 => good ⟨by omega, by omega, by omega, ?_⟩ y x hy hx) (fun hv1 => no y 5 x (by omega) hx (fun g => ?_))
        · cases hb9 : w.testBit (SV σ).toNat with
          | false => rfl
          | true =>
            obtain ⟨k, hk, ek⟩ := hq.mp hb9
            rcases hv with hv | hv
            · exact absurd ek (hv.2 k hk)
            · have := hv.1; clear hv hq; omega
        · have g4 := g.2.2.2
          rcases hv with hv | hv
          · have := hv.1; clear hv hq; omega
          · rw [hq.mpr hv.2] at g4
            cases g4
    · refine OK.ieq (fun h => by omega) (fun _ => no y 1 x (by omega) hx (fun g => by have := g.1; omega))
  unfold f_X11_type
  refine OK.bndK (b_isName τ) (fun v x hv hx => ?_)
  refine OK.kac ?_
  dsimp only
  refine OK.ieq (fun h => ?_) (fun h => ?_)
  · have hn : ¬ NM τ := by
      rcases hv with hv | hv
      · exact hv.2
      · omega
    refine OK.bndK (b_sortHere τ) (fun u z hu hz => ?_)
    refine OK.kac ?_
    dsimp only
    refine (k16 u (x + z) (sv_sh hK hn hu) (by omega)).mono (fun q hq => ?_)
    have e : x + (z + q.2) = x + z + q.2 := by omega
    show P (q.1, x + (z + q.2))
    rw [e]
    exact hq
  · have hn : NM τ := by
      rcases hv with hv | hv
      · omega
      · exact hv.2
    exact k16 7 x (by rw [sv_nm hK hn]; exact l7) (by omega)
/-! a type begins: the class; and what both have after one -/
theorem ofNatI {w : Nat} (h : w ≤ 1000) : (Int32.ofNat w).toInt = (w : Int) := Int32.toInt_ofNat_of_lt (by omega)
theorem intOf {x : Int32} {k : Nat} (h : x.toInt = (k : Int)) (hk : k ≤ 1000) : x = Int32.ofNat k := Int32.toInt_inj.mp (by rw [h, ofNatI hk])
theorem updL_at {f : Nat → Int64} {i : Nat} {v : Int64} : vp_updL f i v i = v := by
  unfold vp_updL
  simp
theorem updL_no {f : Nat → Int64} {i j : Nat} {v : Int64} (h : j ≠ i) : vp_updL f i v j = f j := by
  unfold vp_updL
  simp [h]
theorem a_refuse (p0 : Int32) (σ : ST) : OK (f_X6_refuse p0 σ) (fun q => q.1.toInt = 0) := by
  unfold f_X6_refuse f_X6_refuseAt
  have l0 := li_0
  refine OK.bnd (Q := fun q => q.1.toInt = 0) (OK.ieq (fun _ => OK.ret l0) (fun _ => OK.ret l0)) (fun q hq => ?_)
  exact OK.grd (b01 (.inl hq)) (OK.ret hq)
/-- the class's row of a type, just laid -/
def AD (σ : ST) (c : Nat) (a : ST) : Prop := FA c σ a ∧ a.1 2 = σ.1 2 ∧ a.2.1 2 = σ.2.1 2 ∧ (a.1 31 c).toInt = SV σ ∧ (a.1 20 1).toInt = c + 1 ∧ (SV σ = 7 → a.2.1 34 c = σ.2.1 2 7) ∧ (¬ SV σ = 7 → a.2.1 34 c = 0) ∧ (a.1 33 c).toInt = -1
theorem a_addType (p0 : Int32) (σ : ST) (c : Nat) (hc : (σ.1 20 1).toInt = c) (hc2 : c < 262) : OK (f_X5_addType 20 p0 σ) (fun q => q.1.toInt = c ∧ FA c σ q.2 ∧ q.2.1 2 = σ.1 2 ∧ q.2.2.1 2 = σ.2.1 2 ∧ q.2.1 31 c = p0 ∧ (q.2.1 20 1).toInt = c + 1 ∧ q.2.2.1 34 c = 0 ∧ (q.2.1 33 c).toInt = -1) := by
  unfold f_X5_addType
  have l262 : (262 : Int32).toInt = 262 := by decide
  have l1 := li_1
  have nc : (σ.1 20 1).toNatClampNeg = c := nC hc
  have e1 := il_addE (x := σ.1 20 1) (y := 1) (by omega) (by omega)
  refine OK.ilt (fun _ => ?_) (fun h => by omega)
  refine OK.grd ⟨by omega, by omega⟩ ?_
  rw [nc]
  refine OK.lt (fun z2 h2 => ?_)
  refine OK.lt (fun z3 h3 => ?_)
  refine OK.lt (fun z4 h4 => ?_)
  refine OK.ret ?_
  subst h2
  subst h3
  subst h4
  refine ⟨hc, ⟨?_, ?_, ?_, ?_⟩, rfl, rfl, ?_, ?_, ?_, ?_⟩
  · intro d hd
    simp only [List.mem_cons, List.not_mem_nil, or_false, not_or] at hd
    dsimp only
    rw [stI_ne hd.2.1, stI_ne hd.2.2.2.2.2]
    show (stI (stI (stI σ 31 c p0) 32 c (-1)) 33 c (-1)).1 d = _
    rw [stI_ne hd.2.2.2.2.1, stI_ne hd.2.2.2.1, stI_ne hd.2.2.1]
  · intro i hi
    show upd (σ.1 20) 1 _ i = _
    rw [upd_no hi]
  · intro d hd
    simp only [List.mem_cons, List.not_mem_nil, or_false, not_or] at hd
    show (stL (stI (stI (stI σ 31 c p0) 32 c (-1)) 33 c (-1)) 34 c 0).2.1 d = _
    rw [stL_ne hd.2]
    rfl
  · intro i hi
    refine ⟨?_, ?_, ?_, ?_⟩
    · show upd (σ.1 31) c p0 i = _
      rw [upd_no (by omega)]
    · show upd (σ.1 32) c (-1) i = _
      rw [upd_no (by omega)]
    · show vp_updL (σ.2.1 34) c 0 i = _
      rw [updL_no (by omega)]
    · show upd (σ.1 33) c (-1) i = _
      rw [upd_no (by omega)]
  · show upd (σ.1 31) c p0 c = _
    rw [upd_at]
  · show (upd (σ.1 20) 1 (σ.1 20 1 + 1) 1).toInt = _
    rw [upd_at]
    omega
  · show vp_updL (σ.2.1 34) c 0 c = _
    rw [updL_at]
  · show (upd (σ.1 33) c (-1) c).toInt = _
    rw [upd_at]
    exact li_m1
theorem a_isType (p0 : Int32) (σ : ST) (c : Nat) (h : p0.toInt = c) (hc : c < 262) (hn : (c : Int) < (σ.1 20 1).toInt) : OK (f_X5_isType 20 p0 σ) (RO σ fun v => v.toInt = 1) := by
  unfold f_X5_isType
  have l262 : (262 : Int32).toInt = 262 := by decide
  have l0 := li_0
  refine OK.ilt (fun h => by omega) (fun _ => ?_)
  refine OK.ile (fun h => by omega) (fun _ => ?_)
  exact OK.ile (fun h => by omega) (fun _ => OK.roret li_1)
/-- the class takes the type or refuses it -/
theorem a_typeHead {rb rt : Int32 → Int32 → ST → Option (Int32 × ST)} (lev pA : Int32) (σ τ : ST) (w c : Nat) (hK : TK σ τ) (hw : w < 512) (hp : pA = Int32.ofNat w) (hc : (σ.1 20 1).toInt = c) (hcap : GD w lev.toInt σ → c < 262) (P : Int32 × ST → Prop)
    (good : GD w lev.toInt σ → ∀ (y x4 : Int32) (a : ST), y.toInt = SV σ → x4.toInt = c → AD σ c a → OK (f_X3_parseType_116 rb rt lev y x4 a) P)
    (bad : ¬ GD w lev.toInt σ → ∀ q : Int32 × ST, q.1.toInt = -1 → P q) : OK (f_X3_parseType rb rt lev pA σ) P := by
  have lm := li_m1
  have l0 := li_0
  have l1 := li_1
  have l3 := li_3
  have l4 := li_4
  have l7 := li_7
  have rng := sv_rng hK
  have l262 : (262 : Int32).toInt = 262 := by decide
  have no49 : ∀ (y : Int32) (s : ST), ¬ GD w lev.toInt σ → OK (f_X3_parseType_49 rb rt lev pA y (-1) s) P := fun y s hb => by
    unfold f_X3_parseType_49
    refine OK.ieq (fun _ => ?_) (fun h => absurd rfl h)
    exact OK.bnd (a_refuse _ _) (fun q _ => OK.ret (bad hb _ lm))
  unfold f_X3_parseType f_X3_parseType_37
  refine OK.bndR (a_sortBegun σ τ hK) (fun y hy => ?_)
  dsimp only
  refine OK.ieq (fun h => ?_) (fun h => ?_)
  · exact OK.bnd (a_refuse _ _) (fun q _ => OK.ret (bad (fun g => by have := g.1; omega) _ lm))
  refine OK.ilt (fun hl => no49 y σ (fun g => by have := g.2.1; omega)) (fun hl => ?_)
  rw [hp]
  refine OK.bndR (a_bitCount w σ hw) (fun v hv => ?_)
  dsimp only
  rw [← hp]
  refine OK.ile (fun h4 => ?_) (fun h4 => no49 y σ (fun g => by have := g.2.2.1; omega))
  have ey : y = Int32.ofNat (SV σ).toNat := intOf (by omega) (by omega)
  have hbit := mk_bit w hw (SV σ).toNat (by omega)
  rw [← ey, ← hp] at hbit
  by_cases hfull : c < 262
  · refine OK.bnd (a_addType y σ c hc hfull) (fun q hq => ?_)
    obtain ⟨q1, qF, q2, qL, q31, q20, q34, q33⟩ := hq
    unfold f_X3_parseType_49
    refine OK.ieq (fun h => by omega) (fun _ => ?_)
    refine OK.ieq (fun h0 => ?_) (fun h1 => ?_)
    · have hg : GD w lev.toInt σ := ⟨by omega, by omega, by omega, by
        cases hb9 : w.testBit (SV σ).toNat with
        | false => rfl
        | true =>
          rw [hb9, if_pos rfl] at hbit
          omega⟩
      refine OK.ieq (fun h7 => ?_) (fun h7 => ?_)
      · have hs : OK (f_X5_setAsked 20 q.1 (q.2.2.1 2 7) (q.2.1 2 5) q.2) (fun a => AD σ c a) := by
          unfold f_X5_setAsked
          refine OK.bndR (a_isType q.1 q.2 c q1 hfull (by omega)) (fun v2 hv2 => ?_)
          dsimp only
          refine OK.ieq (fun h => by omega) (fun _ => ?_)
          refine OK.grd ⟨by omega, by omega⟩ ?_
          have nq : q.1.toNatClampNeg = c := nC q1
          rw [nq]
          refine OK.ret ⟨qF.trans (c1 := c) ⟨?_, ?_, ?_, ?_⟩ (Nat.le_refl _), q2, qL, ?_, q20, fun _ => ?_, fun h => by omega, q33⟩
          · intro d hd
            simp only [List.mem_cons, List.not_mem_nil, or_false, not_or] at hd
            show (stI q.2 35 c _).1 d = _
            rw [stI_ne hd.2.2.2.2.2]
          · intro i hi
            rfl
          · intro d hd
            simp only [List.mem_cons, List.not_mem_nil, or_false, not_or] at hd
            show (stL q.2 34 c _).2.1 d = _
            rw [stL_ne hd.2]
          · intro i hi
            refine ⟨rfl, rfl, ?_, rfl⟩
            show vp_updL (q.2.2.1 34) c _ i = _
            rw [updL_no (by omega)]
          · show (q.2.1 31 c).toInt = _
            rw [q31]
            exact hy
          · show vp_updL (q.2.2.1 34) c _ c = _
            rw [updL_at, qL]
        exact OK.bnd hs (fun a ha => good hg y q.1 a hy q1 ha)
      · exact good hg y q.1 q.2 hy q1 ⟨qF, q2, qL, by rw [q31]; exact hy, q20, fun h => by omega, fun _ => q34, q33⟩
    · refine OK.bnd (a_refuse _ _) (fun q _ => OK.ret (bad (fun g => ?_) _ lm))
      have := g.2.2.2
      rw [this] at hbit
      have hbit : _ = (0 : Int) := hbit
      omega
  · have hb : ¬ GD w lev.toInt σ := fun g => hfull (hcap g)
    have hadd : f_X5_addType 20 y σ = some (-1, σ) := by
      unfold f_X5_addType
      rw [if_neg]
      rw [Int32.lt_iff_toInt_lt]
      omega
    rw [hadd]
    exact no49 y σ hb
/-- nothing of the token has changed -/
theorem LX.ext {σ τ a b : ST} (h : LX σ τ) (a1 : a.1 1 = σ.1 1) (a2 : a.1 2 = σ.1 2) (a3 : a.2.1 3 = σ.2.1 3) (a4 : a.2.1 2 = σ.2.1 2) (b1 : b.1 1 = τ.1 1) (b0 : ∀ i, i ∈ [3, 4, 5, 6, 8, 10, 13] → b.1 0 i = τ.1 0 i) (bL : b.2.1 0 = τ.2.1 0) : LX a b := by
  have e3 := b0 3 (by decide)
  have e4 := b0 4 (by decide)
  have e5 := b0 5 (by decide)
  have e6 := b0 6 (by decide)
  have e8 := b0 8 (by decide)
  have e10 := b0 10 (by decide)
  have e13 := b0 13 (by decide)
  unfold LX TK TB_ NT NB NM at h ⊢
  simp only [a1, a2, a3, a4, b1, bL, e3, e4, e5, e6, e8, e10, e13]
  exact h
/-- a type begins with a word -/
theorem TK.wd {σ τ : ST} (h : TK σ τ) (h0 : 0 ≤ SV σ) : (τ.1 0 6).toInt = 1 ∧ σ.1 2 3 = τ.1 0 5 ∧ WL (σ.2.1 2 7) (τ.2.1 0 7) := by
  have hk : (σ.1 2 4).toInt = 3 ∨ (σ.1 2 4).toInt = 2 := by
    by_cases h3 : (σ.1 2 4).toInt = 3
    · exact .inl h3
    · by_cases h2 : (σ.1 2 4).toInt = 2
      · exact .inr h2
      · rw [sv_n h3 h2] at h0
        omega
  obtain ⟨_, h | h | h | h | h | h⟩ := h
  · omega
  · have h1 := h.1
    clear h
    omega
  · exact ⟨h.1, h.2.2.1, h.2.2.2.1⟩
  · omega
  · omega
  · omega
/-- a word that means something, from its sort -/
theorem sv_word {σ τ : ST} (h : TK σ τ) (hv : SV σ = 6 ∨ SV σ = 8) : ∃ k : Nat, (k = 4 ∧ SV σ = 6 ∨ k = 5 ∧ SV σ = 8) ∧ τ.2.1 0 7 = kwV k := by
  have hk : (σ.1 2 4).toInt = 2 := by
    by_cases h3 : (σ.1 2 4).toInt = 3
    · rw [sv_3 h3] at hv
      omega
    · by_cases h2 : (σ.1 2 4).toInt = 2
      · exact h2
      · rw [sv_n h3 h2] at hv
        omega
  obtain ⟨_, h | h | h | h | h | h⟩ := h
  · omega
  · have h1 := h.1
    clear h
    omega
  · rcases h.2.2.2.2 with ⟨_, k, a, b, c⟩ | ⟨a, _⟩
    · refine ⟨k, ?_, c⟩
      rw [sv_2 hk b] at hv ⊢
      by_cases a4 : k = 4
      · rw [a4, sk_4]; omega
      · by_cases a5 : k = 5
        · rw [a5, sk_5]; omega
        · by_cases a7 : 7 ≤ k ∧ k ≤ 12
          · rw [sk_s a7] at hv; omega
          · rw [sk_n ⟨a4, a5, a7⟩] at hv; omega
    · omega
  · omega
  · omega
  · omega
/-- the rows of both, from there up to there -/
def RWS (P lo hi : Nat) (a b : ST) : Prop := ∀ j : Nat, lo ≤ j → j < hi → a.1 31 (j + P - 400) = b.1 2 j ∧ ((b.1 2 j).toInt = 7 → WL (a.2.1 34 (j + P - 400)) (b.2.1 6 j) ∧ ¬ a.2.1 34 (j + P - 400) = 0) ∧ (¬ (b.1 2 j).toInt = 7 → a.2.1 34 (j + P - 400) = 0) ∧ ((b.1 2 j).toInt = 8 → (a.1 32 (j + P - 400)).toInt = (b.1 5 (4 * j)).toInt + P - 400) ∧ 0 ≤ (b.1 4 j).toInt ∧ (b.1 4 j).toInt ≤ 4
/-- the rows of both, how they hang together -/
def RX (P lo hi : Nat) (a b : ST) : Prop := ∀ j : Nat, lo ≤ j → j < hi → ((b.1 2 j).toInt = 6 → (a.1 32 (j + P - 400)).toInt = (b.1 3 j).toInt + P - 400) ∧ (¬ (b.1 2 j).toInt = 8 → (b.1 4 j).toInt = 0) ∧ ((b.1 2 j).toInt = 8 → ∀ k : Nat, (k : Int) < (b.1 4 j).toInt → ((j : Int) < (b.1 5 (4 * j + k)).toInt ∧ (b.1 5 (4 * j + k)).toInt < hi) ∧ ((k : Int) + 1 < (b.1 4 j).toInt → (a.1 33 ((b.1 5 (4 * j + k)).toNatClampNeg + P - 400)).toInt = (b.1 5 (4 * j + k + 1)).toInt + P - 400) ∧ ((k : Int) + 1 = (b.1 4 j).toInt → (a.1 33 ((b.1 5 (4 * j + k)).toNatClampNeg + P - 400)).toInt = -1))
theorem RX.ext0 {P lo hi : Nat} {a b a' b' : ST} (h : RX P lo hi a b) (hM : ∀ j : Nat, lo ≤ j → j < hi → (b.1 4 j).toInt ≤ 4) (ha : ∀ j : Nat, lo ≤ j → j < hi → (b.1 2 j).toInt = 6 → a'.1 32 (j + P - 400) = a.1 32 (j + P - 400)) (hc : ∀ j k : Nat, lo ≤ j → j < hi → (b.1 2 j).toInt = 8 → (k : Int) < (b.1 4 j).toInt → (j : Int) < (b.1 5 (4 * j + k)).toInt → (b.1 5 (4 * j + k)).toInt < hi → a'.1 33 ((b.1 5 (4 * j + k)).toNatClampNeg + P - 400) = a.1 33 ((b.1 5 (4 * j + k)).toNatClampNeg + P - 400)) (hb : ∀ j : Nat, lo ≤ j → j < hi → b'.1 2 j = b.1 2 j ∧ ((b.1 2 j).toInt = 6 → b'.1 3 j = b.1 3 j) ∧ b'.1 4 j = b.1 4 j ∧ ∀ k : Nat, k < 4 → b'.1 5 (4 * j + k) = b.1 5 (4 * j + k)) : RX P lo hi a' b' := by
  intro j h1 h2
  obtain ⟨r1, r2, r3⟩ := h j h1 h2
  obtain ⟨e1, e2, e3, e4⟩ := hb j h1 h2
  have hm := hM j h1 h2
  rw [e1, e3]
  refine ⟨fun h6 => ?_, r2, fun h8 k hk => ?_⟩
  · rw [ha j h1 h2 h6, e2 h6]
    exact r1 h6
  · obtain ⟨x1, x2, x3⟩ := r3 h8 k hk
    rw [e4 k (by omega), hc j k h1 h2 h8 hk x1.1 x1.2]
    refine ⟨x1, fun h9 => ?_, x3⟩
    rw [Nat.add_assoc, e4 (k + 1) (by omega), ← Nat.add_assoc]
    exact x2 h9
theorem RX.ext {P lo hi : Nat} {a b a' b' : ST} (h : RX P lo hi a b) (hM : ∀ j : Nat, lo ≤ j → j < hi → (b.1 4 j).toInt ≤ 4) (ha : ∀ j : Nat, lo ≤ j → j < hi → (b.1 2 j).toInt = 6 → a'.1 32 (j + P - 400) = a.1 32 (j + P - 400)) (hc : ∀ j : Nat, lo < j → j < hi → a'.1 33 (j + P - 400) = a.1 33 (j + P - 400)) (hb : ∀ j : Nat, lo ≤ j → j < hi → b'.1 2 j = b.1 2 j ∧ ((b.1 2 j).toInt = 6 → b'.1 3 j = b.1 3 j) ∧ b'.1 4 j = b.1 4 j ∧ ∀ k : Nat, k < 4 → b'.1 5 (4 * j + k) = b.1 5 (4 * j + k)) : RX P lo hi a' b' := h.ext0 hM ha (fun j k h1 _ _ _ x1 x2 => by
  have n9 := nN_ (x := b.1 5 (4 * j + k)) (by omega)
  exact hc _ (by omega) (by omega)) hb
theorem RX.join {P lo t hi : Nat} {a b : ST} (h : RX P lo t a b) (k : RX P t hi a b) (ht : t ≤ hi) : RX P lo hi a b := by
  intro j h1 h2
  by_cases e : j < t
  · obtain ⟨r1, r2, r3⟩ := h j h1 e
    refine ⟨r1, r2, fun h8 k hk => ?_⟩
    obtain ⟨x1, x2⟩ := r3 h8 k hk
    exact ⟨by omega, x2⟩
  · exact k j (by omega) h2
theorem RX.eq {P lo hi : Nat} {a b a' b' : ST} (h : RX P lo hi a b) (a1 : a'.1 32 = a.1 32) (a2 : a'.1 33 = a.1 33) (b2 : b'.1 2 = b.1 2) (b3 : b'.1 3 = b.1 3) (b4 : b'.1 4 = b.1 4) (b5 : b'.1 5 = b.1 5) : RX P lo hi a' b' := by
  unfold RX at h ⊢
  rw [a1, a2, b2, b3, b4, b5]
  exact h
/-- both have read a type -/
def TS (P t0 d : Nat) (s : Int) (σ τ : ST) (va : Int32) (a : ST) (vb : Int32) (b : ST) : Prop := ∃ t1 : Nat, (va.toInt = (t0 : Int) + P - 400 ∧ vb.toInt = t0 ∧ t0 < t1 ∧ (b.1 0 34).toInt = t1 ∧ (a.1 20 1).toInt = (t1 : Int) + P - 400) ∧ FA (t0 + P - 400) σ a ∧ LX a b ∧ ((∀ c, c ∉ [0, 6] → b.2.1 c = τ.2.1 c) ∧ ∀ j, j < t0 → b.2.1 6 j = τ.2.1 6 j) ∧ RWS P t0 t1 a b ∧ VD t0 t1 (b.1 2) (b.1 3) (b.1 4) (b.1 5) d vb ∧ (b.1 2 t0).toInt = s ∧ 4 * ((t1 : Int) - 400) ≤ (b.1 0 4).toInt + 1 ∧ ((b.1 0 6).toInt = 1 → 4 * ((t1 : Int) - 400) ≤ (b.1 0 4).toInt) ∧ RX P t0 t1 a b ∧ (a.1 33 (t0 + P - 400)).toInt = -1
def TYP (P t0 w : Nat) (lev : Int) (σ τ : ST) (qa : Int32 × ST) (qb : (Int32 × ST) × Nat) : Prop := FG t0 τ qb.1.2 ∧ ((qa.1.toInt = -1 ∧ qb.1.1.toInt = -1 ∧ qb.2 + 40 * uT qb.1.2 ≤ 40 * uT τ + 23) ∨ (GD w lev σ ∧ TS P t0 (4 - lev).toNat (SV σ) σ τ qa.1 qa.2 qb.1.1 qb.1.2 ∧ qb.2 + 40 * uT qb.1.2 + 17 ≤ 40 * uT τ))
/-- before a type is read -/
def PRE (P t0 : Nat) (σ τ : ST) : Prop := (1 ≤ P ∧ P ≤ 6) ∧ (400 ≤ t0 ∧ (τ.1 0 34).toInt = t0 ∧ (σ.1 20 1).toInt = (t0 : Int) + P - 400) ∧ LX σ τ ∧ 4 * ((t0 : Int) - 400) ≤ (τ.1 0 4).toInt ∧ ((τ.1 0 6).toInt = 1 → 4 * ((t0 : Int) - 400) + 2 ≤ (τ.1 0 4).toInt)
def cTY (N : Nat) (rA : Int32 → Int32 → ST → Option (Int32 × ST)) (rB : Int32 → Int32 → ST → Option ((Int32 × ST) × Nat)) : Prop := ∀ (P t0 w : Nat) (lev pA pB : Int32) (σ τ : ST), PRE P t0 σ τ → (0 ≤ lev.toInt ∧ lev.toInt ≤ 4) → pA = Int32.ofNat w → MK w pB t0 τ → 2 * (5 - lev.toInt) ≤ (N : Int) → OK (rA lev pA σ) (fun qa => OK (rB lev pB τ) (TYP P t0 w lev.toInt σ τ qa))
/-! a type is read: both read the same one -/
def BRP (P t : Nat) (lev x4 xB : Int32) (σ τ : ST) (qa : Int32 × ST) (qb : (Int32 × ST) × Nat) : Prop := FG t τ qb.1.2 ∧ ((qa.1.toInt = 0 ∧ qb.1.1.toInt = 0 ∧ qb.2 + 40 * uT qb.1.2 ≤ 40 * uT τ + 23) ∨ (qa.1.toInt = 1 ∧ qb.1.1.toInt = 1 ∧ TS P t (4 - lev.toInt).toNat 8 σ τ x4 qa.2 xB qb.1.2 ∧ qb.2 + 40 * uT qb.1.2 ≤ 40 * uT τ))
def cBR (N : Nat) (rA : Int32 → Int32 → ST → Option (Int32 × ST)) (rB : Int32 → Int32 → ST → Option ((Int32 × ST) × Nat)) : Prop := ∀ (P t : Nat) (lev x4 xB : Int32) (σ τ : ST), PRE P (t + 1) σ τ → 400 ≤ t → (0 ≤ lev.toInt ∧ lev.toInt ≤ 3) → x4.toInt = (t : Int) + P - 400 → xB.toInt = t → (τ.1 2 t).toInt = 8 → σ.1 31 (t + P - 400) = τ.1 2 t → σ.2.1 34 (t + P - 400) = 0 → (σ.1 33 (t + P - 400)).toInt = -1 → (τ.1 4 t).toInt = 0 → 2 * (5 - lev.toInt) ≤ (N : Int) + 1 → OK (rA x4 lev σ) (fun qa => OK (rB xB lev τ) (BRP P t lev x4 xB σ τ qa))
theorem TS.tr {P t0 d : Nat} {s : Int} {σ τ a' b' : ST} {va vb : Int32} {a b : ST} (h : TS P t0 d s a' b' va a vb b) (hF : FA (t0 + P - 400) σ a') (hL : (∀ c, c ∉ [0, 6] → b'.2.1 c = τ.2.1 c) ∧ ∀ j, j < t0 → b'.2.1 6 j = τ.2.1 6 j) : TS P t0 d s σ τ va a vb b := by
  obtain ⟨t1, h1, h2, h3, h4, h5⟩ := h
  exact ⟨t1, h1, hF.trans h2 (Nat.le_refl _), h3, ⟨fun c hc => (h4.1 c hc).trans (hL.1 c hc), fun j hj => (h4.2 j hj).trans (hL.2 j hj)⟩, h5⟩
theorem a_setInner0 (p0 p1 : Int32) (σ : ST) (h : 0 ≤ p0.toInt ∧ p0.toInt < 262) : OK (f_X5_setInner 20 p0 p1 σ) (fun _ => True) := by
  unfold f_X5_setInner f_X5_isType
  have z : ∀ v : Int32, OK ((some (v, σ)).bind fun q1 => if q1.1 = 0 then some q1.2 else if 0 ≤ p0.toInt ∧ p0.toInt < 262 then some (stI q1.2 (20 + 12) p0.toNatClampNeg p1) else none) (fun _ => True) := fun v => OK.ieq (fun _ => OK.ret trivial) (fun _ => OK.grd h (OK.ret trivial))
  by_cases h1 : p0 < 0
  · rw [if_pos h1]; exact z 0
  · rw [if_neg h1]
    by_cases h2 : σ.1 20 1 ≤ p0
    · rw [if_pos h2]; exact z 0
    · rw [if_neg h2]
      by_cases h3 : (262 : Int32) ≤ p0
      · rw [if_pos h3]; exact z 0
      · rw [if_neg h3]; exact z 1
theorem a_setInner (p0 p1 : Int32) (σ : ST) (c : Nat) (h : p0.toInt = c) (hc : c < 262) (hn : (c : Int) < (σ.1 20 1).toInt) : f_X5_setInner 20 p0 p1 σ = some (stI σ 32 c p1) := by
  unfold f_X5_setInner
  obtain ⟨⟨v, s⟩, e, e2, hv⟩ := a_isType p0 σ c h hc hn
  have e2 : s = σ := e2
  subst e2
  have hv : v.toInt = 1 := hv
  have l0 := li_0
  have nc : p0.toNatClampNeg = c := nC h
  rw [e]
  show (if v = 0 then some s else if 0 ≤ p0.toInt ∧ p0.toInt < 262 then some (stI s (20 + 12) p0.toNatClampNeg p1) else none) = _
  rw [if_neg (fun e9 => by rw [e9] at hv; omega), if_pos ⟨by omega, by omega⟩, nc]
theorem uT_eq {τ b : ST} (h3 : b.1 0 3 = τ.1 0 3) (h5 : b.1 0 5 = τ.1 0 5) (h6 : b.1 0 6 = τ.1 0 6) : uT b = uT τ := by
  unfold uT
  rw [h3, h5, h6]
theorem ab_type_top {N : Nat} {rbA rtA : Int32 → Int32 → ST → Option (Int32 × ST)} {rbB rtB : Int32 → Int32 → ST → Option ((Int32 × ST) × Nat)} (hb : cBR N rbA rbB) (ht : cTY N rtA rtB) : cTY (N + 1) (f_X3_parseType rbA rtA) (f_X11_type rbB rtB) := by
  intro P t0 w lev pA pB σ τ hpre hlev hp hM hN
  obtain ⟨hP, ⟨ht0, hcB, hcA⟩, hLX, hb4, hb2⟩ := hpre
  have htx := hLX.tx
  have hK := hLX.2.2.1
  have hn2 := hLX.2.1
  obtain ⟨s0, hs0, hTB⟩ := hLX.tb
  have cI : ((t0 + P - 400 : Nat) : Int) = (t0 : Int) + P - 400 := by omega
  have lm := li_m1
  have l0 := li_0
  have l1 := li_1
  have l6 := li_6
  have l8 := li_8
  have rng := sv_rng hK
  -- where the token lies
  have wd : 0 ≤ SV σ → (τ.1 0 6).toInt = 1 ∧ σ.1 2 3 = τ.1 0 5 ∧ WL (σ.2.1 2 7) (τ.2.1 0 7) ∧ (τ.1 0 4).toInt < 1000 ∧ (τ.1 0 4).toInt + 1 ≤ (τ.1 0 5).toInt ∧ uT τ = ((τ.1 0 3).toInt - (τ.1 0 5).toInt).toNat + 1 := fun h => by
    obtain ⟨a1, a2, a3⟩ := hK.wd h
    obtain ⟨hL, m, hR, h5, hm, _⟩ := hTB.word a1
    have hlt := (bt_rng (T := τ.1 1) (n := (τ.1 0 3).toInt) (k := s0)).2.2.mp (by unfold isL at hL; omega)
    have n2 := hn2.2
    refine ⟨a1, a2, a3, by omega, by omega, ?_⟩
    unfold uT
    rw [if_neg (by omega)]
  have t250 : 0 ≤ SV σ → t0 ≤ 650 := fun h => by
    obtain ⟨a1, _, _, a4, _, _⟩ := wd h
    have := hb2 a1
    omega
  have t800 : t0 ≤ 800 := by
    obtain ⟨_, ⟨p1, p2⟩, _, _⟩ := htx
    have n2 := hn2.2
    have h4 : (τ.1 0 4).toInt ≤ 1003 := by
      by_cases e0 : (τ.1 0 6).toInt = 0
      · obtain ⟨_, hc⟩ := hTB
        obtain ⟨_, _, _, pp, ss, hpp, hss, hTT⟩ := hLX
        have := (hTT.left hn2 hpp hss).2.2.1 e0
        have e4 := hTT.1
        rcases hTT.2 with h | h | h | h | h
        · omega
        · have := h.1; obtain ⟨_, _, m, hR, h5, _, _, h6⟩ := h; omega
        · rcases h.2 with ⟨_, m, hm⟩ | ⟨_, m, hm⟩
          · have := hm.2.2.2; omega
          · have := hm.2.2.2; omega
        · obtain ⟨_, _, m, _, _, _, h6⟩ := h; omega
        · omega
      · obtain ⟨_, _, _, pp, ss, hpp, hss, hTT⟩ := hLX
        have e4 := hTT.1
        rcases hTT.2 with h | h | h | h | h
        · omega
        · have hL := h.1
          have hlt := (bt_rng (T := τ.1 1) (n := (τ.1 0 3).toInt) (k := ss)).2.2.mp (by unfold isL at hL; omega)
          clear h; omega
        · have hD := h.1
          have hlt := (bt_rng (T := τ.1 1) (n := (τ.1 0 3).toInt) (k := ss)).2.2.mp (by unfold isD at hD; omega)
          clear h; omega
        · have h34 := h.1
          have hlt := (bt_rng (T := τ.1 1) (n := (τ.1 0 3).toInt) (k := ss)).2.2.mp (by omega)
          clear h; omega
        · have h9 := h.1.1
          have hlt := (bt_rng (T := τ.1 1) (n := (τ.1 0 3).toInt) (k := ss)).2.2.mp h9
          clear h; omega
    omega
  refine a_typeHead lev pA σ τ w (t0 + P - 400) hK hM.1 hp (by omega) (fun g => by have := t250 g.1; omega) _ (fun g y x4 a hy hx4 hA => ?_) (fun hbad qa hqa => ?_)
  rotate_left
  · refine b_typeHead lev pB σ τ w t0 hK hM t800 _ (fun g => absurd g hbad) (fun _ q cq hq1 hx => ⟨cq.fg (by decide), .inl ⟨hqa, hq1, ?_⟩⟩)
    rw [uT_eq (cq.2.1 3 (by decide)) (cq.2.1 5 (by decide)) (cq.2.1 6 (by decide))]
    omega
  refine OK.sw ?_
  refine b_typeHead lev pB σ τ w t0 hK hM t800 _ (fun _ yB x hyB hx => ?_) (fun hbad => absurd g hbad)
  have ey : yB = y := Int32.toInt_inj.mp (by omega)
  subst ey
  obtain ⟨w1, w2, w3, w4, w5, w6⟩ := wd g.1
  have t250 := t250 g.1
  have hb2 := hb2 w1
  unfold f_X11_type_78 f_X11_type_213
  have nt : (τ.1 0 34).toNatClampNeg = t0 := nC hcB
  rw [nt]
  have e34 := il_addE (x := τ.1 0 34) (y := 1) (by omega) (by omega)
  refine OK.ile (fun _ => ?_) (fun h => by omega)
  refine OK.grd ⟨by omega, by omega⟩ ?_
  refine OK.lt (fun z2 h2 => ?_)
  refine OK.lt (fun z3 h3 => ?_)
  -- the reference's row, just laid
  have hz : ∀ z : ST, z = stI z3 3 t0 (-1) → FG t0 τ z ∧ z.1 1 = τ.1 1 ∧ (∀ i, i ≠ 34 → z.1 0 i = τ.1 0 i) ∧ (z.1 0 34).toInt = (t0 : Int) + 1 ∧ z.1 2 t0 = yB ∧ (z.1 4 t0).toInt = 0 ∧ z.2.1 6 t0 = τ.2.1 0 7 ∧ (∀ c, c ≠ 6 → z.2.1 c = τ.2.1 c) ∧ (∀ j, j < t0 → z.2.1 6 j = τ.2.1 6 j) := by
    intro z hz
    subst h2
    subst h3
    subst hz
    refine ⟨⟨?_, ?_, ?_, ?_, ⟨rfl, rfl, rfl, rfl, rfl⟩⟩, rfl, ?_, ?_, ?_, ?_, ?_, ?_, ?_⟩
    · intro d hd
      simp only [List.mem_cons, List.not_mem_nil, or_false, not_or] at hd
      rw [stI_ne hd.2.2.1, stI_ne hd.2.2.2.2.2]
      show (stI (stI (stI τ 0 34 (τ.1 0 34 + 1)) 2 t0 yB) 4 t0 0).1 d = _
      rw [stI_ne hd.2.2.2.1, stI_ne hd.2.1, stI_ne hd.1]
    · intro i hi
      show upd (τ.1 0) 34 _ i = _
      rw [upd_no (fun e => hi (by rw [e]; decide))]
    · intro j hj
      refine ⟨?_, ?_, ?_⟩
      · show upd (τ.1 2) t0 yB j = _
        rw [upd_no (by omega)]
      · show upd (τ.1 3) t0 (-1) j = _
        rw [upd_no (by omega)]
      · show upd (τ.1 4) t0 0 j = _
        rw [upd_no (by omega)]
    · intro j hj
      rfl
    · intro i hi
      show upd (τ.1 0) 34 _ i = _
      rw [upd_no hi]
    · show (upd (τ.1 0) 34 (τ.1 0 34 + 1) 34).toInt = _
      rw [upd_at]
      omega
    · show upd (τ.1 2) t0 yB t0 = _
      rw [upd_at]
    · show (upd (τ.1 4) t0 0 t0).toInt = _
      rw [upd_at]
      exact l0
    · show vp_updL (τ.2.1 6) t0 (τ.2.1 0 7) t0 = _
      rw [updL_at]
    · intro c hc
      show (stL (stI (stI (stI τ 0 34 (τ.1 0 34 + 1)) 2 t0 yB) 4 t0 0) 6 t0 _).2.1 c = _
      rw [stL_ne hc]
      rfl
    · intro j hj
      show vp_updL (τ.2.1 6) t0 (τ.2.1 0 7) j = _
      rw [updL_no (by omega)]
  obtain ⟨zF, z1, z0, z34, zS, zM, zN, zL, zN2⟩ := hz _ rfl
  generalize stI z3 3 t0 (-1) = z at zF z1 z0 z34 zS zM zN zL zN2 ⊢
  obtain ⟨aF, a2, aL2, aS, a20, aN7, aN0, a33⟩ := hA
  have hLz : LX a z := hLX.ext (aF.1 1 (by decide)) a2 (aF.2.2.1 3 (by decide)) aL2 z1 (fun i hi => z0 i (fun e => by rw [e] at hi; exact absurd hi (by decide))) (zL 0 (by decide))
  have hg : a.1 2 3 = z.1 0 5 := by rw [a2, z0 5 (by decide)]; exact w2
  refine OK.sw ?_
  unfold f_X3_parseType_116
  refine OK.bnd2 (ab_go a z hLz hg) (fun a' b' hq => ?_)
  obtain ⟨ca, cb, cL, hLX', hat, hadj, hu⟩ := hq
  rw [z0 5 (by decide), z0 3 (by decide)] at hu
  rw [z0 5 (by decide)] at hat hadj
  rw [z0 6 (by decide)] at hadj
  -- both rows, after the token
  have F' : FA (t0 + P - 400) σ a' := aF.trans ca.fa (Nat.le_refl _)
  have G' : FG t0 τ b' := zF.trans (cb.fg (by decide)) (Nat.le_refl _)
  have a31 : (a'.1 31 (t0 + P - 400)).toInt = SV σ := by rw [ca.1 31 (by decide)]; exact aS
  have a20' : (a'.1 20 1).toInt = ((t0 + 1 : Nat) : Int) + P - 400 := by rw [ca.1 20 (by decide)]; omega
  have a34 : ∀ i, a'.2.1 34 i = a.2.1 34 i := fun i => by rw [ca.2.2.1 34 (by decide)]
  have a33' : (a'.1 33 (t0 + P - 400)).toInt = -1 := by rw [ca.1 33 (by decide)]; exact a33
  have b2 : b'.1 2 t0 = yB := by rw [cb.1 2 (by decide) (by decide)]; exact zS
  have b4 : (b'.1 4 t0).toInt = 0 := by rw [cb.1 4 (by decide) (by decide)]; exact zM
  have b34 : (b'.1 0 34).toInt = ((t0 + 1 : Nat) : Int) := by rw [cb.2.1 34 (by decide)]; omega
  have b6 : ∀ j, b'.2.1 6 j = z.2.1 6 j := fun j => by rw [cL 6 (by decide)]
  have bL : (∀ c, c ∉ [0, 6] → b'.2.1 c = τ.2.1 c) ∧ ∀ j, j < t0 → b'.2.1 6 j = τ.2.1 6 j := ⟨fun c hc => by
    simp only [List.mem_cons, List.not_mem_nil, or_false, not_or] at hc
    rw [cL c hc.1, zL c hc.2], fun j hj => by rw [b6, zN2 j hj]⟩
  have eSb : a'.1 31 (t0 + P - 400) = b'.1 2 t0 := Int32.toInt_inj.mp (by rw [a31, b2]; omega)
  have len : ∀ k : Nat, k < 15 → τ.2.1 0 7 = kwV k → (τ.1 0 5).toInt = (τ.1 0 4).toInt + (kwM k : Int) := fun k hk h7 => hTB.len w1 hk h7
  by_cases h8 : SV σ = 8
  · -- branches
    obtain ⟨k, hk, h7⟩ := sv_word hK (.inr h8)
    have ek : k = 5 := by omega
    have e6 : (kwM 5 : Int) = 6 := by decide
    have hlen := len k (by omega) h7
    rw [ek, e6] at hlen
    refine OK.ieq (fun _ => ?_) (fun h => by omega)
    refine OK.sw ?_
    refine OK.ieq (fun h => by omega) (fun _ => ?_)
    refine OK.ieq (fun _ => ?_) (fun h => by omega)
    refine OK.sw ?_
    have pre' : PRE P (t0 + 1) a' b' := ⟨hP, ⟨by omega, b34, a20'⟩, hLX', by omega, fun h9 => by have := hadj w1 h9; omega⟩
    refine OK.bnd2 (hb P t0 lev x4 (τ.1 0 34) a' b' pre' ht0 ⟨hlev.1, g.2.1⟩ (by omega) hcB (by rw [b2]; omega) eSb (by rw [a34]; exact aN0 (by omega)) a33' b4 (by omega)) (fun qa qb hq => ?_)
    obtain ⟨fq, hq⟩ := hq
    have FGq : FG t0 τ qb.1.2 := G'.trans fq (Nat.le_refl _)
    rcases hq with ⟨qa0, qb0, qc⟩ | ⟨qa1, qb1, hTS, qc⟩
    · refine OK.ieq (fun _ => ?_) (fun h => by omega)
      refine OK.ret ?_
      refine OK.kac ?_
      refine OK.ieq (fun _ => ?_) (fun h => by omega)
      exact OK.ret ⟨FGq, .inl ⟨lm, lm, by show x + (qb.2 + 0) + 40 * uT qb.1.2 ≤ _; omega⟩⟩
    · refine OK.ieq (fun h => by omega) (fun _ => ?_)
      refine OK.ret ?_
      refine OK.kac ?_
      refine OK.ieq (fun h => by omega) (fun _ => ?_)
      refine OK.ret ⟨FGq, .inr ⟨g, ?_, by show x + (qb.2 + 0) + 40 * uT qb.1.2 + 17 ≤ _; omega⟩⟩
      rw [h8]
      exact hTS.tr F' bL
  · by_cases h6 : SV σ = 6
    · -- a list
      obtain ⟨k, hk, h7⟩ := sv_word hK (.inl h6)
      have ek : k = 4 := by omega
      have e4 : (kwM 4 : Int) = 4 := by decide
      have hlen := len k (by omega) h7
      rw [ek, e4] at hlen
      refine OK.ieq (fun h => by omega) (fun _ => ?_)
      refine OK.ieq (fun _ => ?_) (fun h => by omega)
      refine OK.sw ?_
      refine OK.ieq (fun _ => ?_) (fun h => by omega)
      refine OK.sw ?_
      have pre' : PRE P (t0 + 1) a' b' := ⟨hP, ⟨by omega, b34, a20'⟩, hLX', by omega, fun h9 => by have := hadj w1 h9; omega⟩
      have elev := il_addE (x := lev) (y := 1) (by omega) (by omega)
      have hl3 := g.2.1
      refine OK.bnd2 (ht P (t0 + 1) 0 (lev + 1) 0 (-1) a' b' pre' (by omega) rfl ⟨by omega, .inl ⟨by omega, rfl⟩⟩ (by omega)) (fun qa qb hq => ?_)
      obtain ⟨fq, hq⟩ := hq
      have FGq : FG t0 τ (stI qb.1.2 3 t0 qb.1.1) := by
        refine (G'.trans fq (by omega)).trans (c1 := t0) ⟨fun d hd => ?_, fun i hi => rfl, fun j hj => ⟨rfl, ?_, rfl⟩, fun j hj => rfl, L5.eq rfl⟩ (Nat.le_refl _)
        · simp only [List.mem_cons, List.not_mem_nil, or_false, not_or] at hd
          rw [stI_ne hd.2.2.1]
        · show upd (qb.1.2.1 3) t0 _ j = _
          rw [upd_no (by omega)]
      have e3 : (stI qb.1.2 3 t0 qb.1.1).1 3 t0 = qb.1.1 := by
        show upd (qb.1.2.1 3) t0 _ t0 = _
        rw [upd_at]
      have eu : uT (stI qb.1.2 3 t0 qb.1.1) = uT qb.1.2 := uT_eq rfl rfl rfl
      rw [e3]
      rcases hq with ⟨qa0, qb0, qc⟩ | ⟨_, hTS, qc⟩
      · refine OK.bnd (a_setInner0 x4 qa.1 qa.2 ⟨by omega, by omega⟩) (fun s _ => ?_)
        refine OK.ieq (fun _ => ?_) (fun h => by omega)
        refine OK.ret ?_
        refine OK.kac ?_
        refine OK.ile (fun h => by omega) (fun _ => ?_)
        exact OK.ret ⟨FGq, .inl ⟨lm, lm, by show x + (qb.2 + 0) + 40 * uT (stI qb.1.2 3 t0 qb.1.1) ≤ _; rw [eu]; omega⟩⟩
      · obtain ⟨t1, ⟨i1, i2, i3, i4, i5⟩, iF, iX, iL, iR, iV, iS, iB, iB2, iRX, i33⟩ := hTS
        rw [a_setInner x4 qa.1 qa.2 (t0 + P - 400) (by omega) (by omega) (by omega)]
        have hTS : TS P t0 (4 - lev.toInt).toNat (SV σ) σ τ x4 (stI qa.2 32 (t0 + P - 400) qa.1) (τ.1 0 34) (stI qb.1.2 3 t0 qb.1.1) := by
          refine ⟨t1, ⟨by omega, hcB, by omega, i4, i5⟩, ?_, ?_, ?_, ?_, ?_, ?_, iB, iB2, ?_, ?_⟩
          · refine (F'.trans iF (by omega)).trans (c1 := t0 + P - 400) ⟨fun d hd => ?_, fun i hi => rfl, fun d hd => rfl, fun i hi => ⟨rfl, ?_, rfl, rfl⟩⟩ (Nat.le_refl _)
            · simp only [List.mem_cons, List.not_mem_nil, or_false, not_or] at hd
              show (stI qa.2 32 _ _).1 d = _
              rw [stI_ne hd.2.2.2.1]
            · show upd (qa.2.1 32) _ _ i = _
              rw [upd_no (by omega)]
          · exact iX.ext rfl rfl rfl rfl rfl (fun i hi => rfl) rfl
          · exact ⟨fun c hc => (iL.1 c hc).trans (bL.1 c hc), fun j hj => (iL.2 j (by omega)).trans (bL.2 j hj)⟩
          · have r1 := iF.2.2.2 (t0 + P - 400) (by omega)
            have r2 := fq.2.2.1 t0 (by omega)
            intro j hj1 hj2
            by_cases e : j = t0
            · subst e
              have s6 : (qb.1.2.1 2 j).toInt = 6 := by rw [r2.1, b2]; omega
              refine ⟨?_, fun h => ?_, fun _ => ?_, fun h => ?_, ?_⟩
              · show qa.2.1 31 _ = qb.1.2.1 2 j
                rw [r1.1, r2.1]
                exact eSb
              · have h : (qb.1.2.1 2 j).toInt = 7 := h
                omega
              · show qa.2.2.1 34 _ = 0
                rw [r1.2.2.1, a34]
                exact aN0 (by omega)
              · have h : (qb.1.2.1 2 j).toInt = 8 := h
                omega
              · show 0 ≤ (qb.1.2.1 4 j).toInt ∧ (qb.1.2.1 4 j).toInt ≤ 4
                rw [r2.2.2]
                omega
            · obtain ⟨x1, x2, x3, x5, x6⟩ := iR j (by omega) hj2
              refine ⟨x1, x2, x3, fun h => ?_, x6⟩
              have e9 : (stI qa.2 32 (t0 + P - 400) qa.1).1 32 = upd (qa.2.1 32) (t0 + P - 400) qa.1 := rfl
              rw [e9, upd_no (by omega)]
              exact x5 h
          · have ed : (4 - lev.toInt).toNat = (4 - (lev + 1).toInt).toNat + 1 := by omega
            rw [ed]
            have r2 := fq.2.2.1 t0 (by omega)
            have s6 : (qb.1.2.1 2 t0).toInt = 6 := by rw [r2.1, b2]; omega
            rw [← nt] at s6
            refine ⟨by omega, ?_, fun _ => ?_, fun h => ?_⟩
            · show 0 ≤ (qb.1.2.1 2 _).toInt ∧ (qb.1.2.1 2 _).toInt ≤ 8
              omega
            · rw [nt, e3]
              refine VD.ext (by omega) (by omega) (Int.le_refl _) (fun j hj1 hj2 => ⟨rfl, fun _ => ?_, rfl, fun k hk => rfl⟩) _ _ iV
              show upd (qb.1.2.1 3) t0 _ j = _
              rw [upd_no (by omega)]
            · have h : (qb.1.2.1 2 (τ.1 0 34).toNatClampNeg).toInt = 8 := h
              omega
          · have r2 := fq.2.2.1 t0 (by omega)
            show (qb.1.2.1 2 t0).toInt = _
            rw [r2.1, b2]
            omega
          · have r2 := fq.2.2.1 t0 (by omega)
            have s6 : (qb.1.2.1 2 t0).toInt = 6 := by rw [r2.1, b2]; omega
            have e9 : (stI qa.2 32 (t0 + P - 400) qa.1).1 32 = upd (qa.2.1 32) (t0 + P - 400) qa.1 := rfl
            have e10 : (stI qb.1.2 3 t0 qb.1.1).1 3 = upd (qb.1.2.1 3) t0 qb.1.1 := rfl
            refine RX.join (t := t0 + 1) (fun j hj1 hj2 => ?_) (iRX.ext (fun j h1 h2 => (iR j h1 h2).2.2.2.2.2) (fun j h1 h2 _ => by rw [e9, upd_no (by omega)]) (fun j _ _ => rfl) (fun j h1 h2 => ⟨rfl, fun _ => by rw [e10, upd_no (by omega)], rfl, fun _ _ => rfl⟩)) (by omega)
            have e : j = t0 := by omega
            subst e
            refine ⟨fun _ => ?_, fun _ => ?_, fun h => ?_⟩
            · rw [e9, upd_at, e10, upd_at]
              omega
            · show (qb.1.2.1 4 j).toInt = 0
              rw [r2.2.2]
              omega
            · have h : (qb.1.2.1 2 j).toInt = 8 := h
              omega
          · show (qa.2.1 33 (t0 + P - 400)).toInt = -1
            rw [(iF.2.2.2 (t0 + P - 400) (by omega)).2.2.2]
            exact a33'
        refine OK.ieq (fun h => by omega) (fun _ => ?_)
        refine OK.ret ?_
        refine OK.kac ?_
        refine OK.ile (fun _ => ?_) (fun h => by omega)
        exact OK.ret ⟨FGq, .inr ⟨g, hTS, by show x + (qb.2 + 0) + 40 * uT (stI qb.1.2 3 t0 qb.1.1) + 17 ≤ _; rw [eu]; omega⟩⟩
    · -- a word by itself
      have hTS : TS P t0 (4 - lev.toInt).toNat (SV σ) σ τ x4 a' (τ.1 0 34) b' := by
        refine ⟨t0 + 1, ⟨by omega, hcB, by omega, b34, a20'⟩, F', hLX', bL, ?_, ?_, by rw [b2]; omega, by omega, fun h9 => by have := hadj w1 h9; omega, ?_, a33'⟩
        · intro j hj1 hj2
          have e : j = t0 := by omega
          subst e
          refine ⟨eSb, fun h => ⟨?_, ?_⟩, fun h => ?_, fun h => ?_, ?_⟩
          · rw [b2] at h
            rw [a34, aN7 (by omega), b6, zN]
            exact w3
          · rw [b2] at h
            rw [a34, aN7 (by omega)]
            intro e0
            obtain ⟨m, gg, _, hgl, e1, e2⟩ := w3
            obtain ⟨_, mm, hR, _, hm, hw⟩ := hTB.word w1
            have e3 := w27_n mm hm.2 hR.1
            rw [← hw, e2] at e3
            obtain ⟨q1, _⟩ := n27_inj m mm gg (gT (τ.1 1) s0) hgl (gT_L hR.1).1 (by omega)
            rw [e0, l64_0] at e1
            obtain ⟨q2, _⟩ := n5_inj m 0 gg gg hgl (fun i hi => by omega) (by show n5 m gg = 0; omega)
            omega
          · rw [b2] at h
            rw [a34]
            exact aN0 (by omega)
          · rw [b2] at h
            omega
          · omega
        · have ed : (4 - lev.toInt).toNat = (3 - lev.toInt).toNat + 1 := by have := g.2.1; omega
          rw [ed]
          have b2' : (b'.1 2 (τ.1 0 34).toNatClampNeg).toInt = SV σ := by rw [nt, b2]; exact hyB
          have g1 := g.1
          exact ⟨by omega, by omega, fun h => by omega, fun h => by omega⟩
        · intro j hj1 hj2
          have e : j = t0 := by omega
          subst e
          rw [b2]
          exact ⟨fun h => by omega, fun _ => b4, fun h => by omega⟩
      refine OK.ieq (fun h => by omega) (fun _ => ?_)
      refine OK.ieq (fun h => by omega) (fun _ => ?_)
      refine OK.ret ?_
      refine OK.ieq (fun h => by omega) (fun _ => ?_)
      refine OK.ieq (fun h => by omega) (fun _ => ?_)
      exact OK.ret ⟨G', .inr ⟨g, hTS, by show x + 0 + 40 * uT b' + 17 ≤ _; omega⟩⟩
/-! the branches of an either: both read the same ones -/
theorem a_sortOf (p0 : Int32) (σ : ST) (c : Nat) (h : p0.toInt = c) (hc : c < 262) (hn : (c : Int) < (σ.1 20 1).toInt) : OK (f_X5_sortOf 20 p0 σ) (RO σ fun v => v = σ.1 31 c) := by
  unfold f_X5_sortOf
  have l0 := li_0
  have nc : p0.toNatClampNeg = c := nC h
  refine OK.bndR (a_isType p0 σ c h hc hn) (fun v hv => ?_)
  dsimp only
  refine OK.ieq (fun h => by omega) (fun _ => ?_)
  refine OK.grd ⟨by omega, by omega⟩ ?_
  rw [nc]
  exact OK.roret rfl
theorem a_setBranchAfter (p0 p1 : Int32) (σ : ST) (c : Nat) (h : p0.toInt = c) (hc : c < 262) (hn : (c : Int) < (σ.1 20 1).toInt) : f_X5_setBranchAfter 20 p0 p1 σ = some (stI σ 33 c p1) := by
  unfold f_X5_setBranchAfter
  obtain ⟨⟨v, s⟩, e, e2, hv⟩ := a_isType p0 σ c h hc hn
  have e2 : s = σ := e2
  subst e2
  have hv : v.toInt = 1 := hv
  have l0 := li_0
  have nc : p0.toNatClampNeg = c := nC h
  rw [e]
  show (if v = 0 then some s else if 0 ≤ p0.toInt ∧ p0.toInt < 262 then some (stI s (20 + 13) p0.toNatClampNeg p1) else none) = _
  rw [if_neg (fun e9 => by rw [e9] at hv; omega), if_pos ⟨by omega, by omega⟩, nc]
/-- what the branches so far are -/
def BI (P t t1 m d : Nat) (σ τ : ST) : Prop := (τ.1 2 t).toInt = 8 ∧ (τ.1 4 t).toInt = m ∧ σ.1 31 (t + P - 400) = τ.1 2 t ∧ σ.2.1 34 (t + P - 400) = 0 ∧ (∀ k : Nat, k < m → VD (t + 1) t1 (τ.1 2) (τ.1 3) (τ.1 4) (τ.1 5) d (τ.1 5 (4 * t + k)) ∧ ¬ (τ.1 2 (τ.1 5 (4 * t + k)).toNatClampNeg).toInt = 8) ∧ (∀ j k : Nat, j < k → k < m → ¬ (τ.1 2 (τ.1 5 (4 * t + j)).toNatClampNeg).toInt = (τ.1 2 (τ.1 5 (4 * t + k)).toNatClampNeg).toInt) ∧ (1 ≤ m → (σ.1 32 (t + P - 400)).toInt = (τ.1 5 (4 * t)).toInt + P - 400) ∧ RWS P (t + 1) t1 σ τ
/-- how the branches so far hang together; the last one's row -/
def BX (P t t1 m : Nat) (xl : Int32) (σ τ : ST) : Prop := RX P (t + 1) t1 σ τ ∧ (σ.1 33 (t + P - 400)).toInt = -1 ∧ (∀ k : Nat, k < m → (t : Int) < (τ.1 5 (4 * t + k)).toInt ∧ (τ.1 5 (4 * t + k)).toInt < t1 ∧ (k + 1 < m → (τ.1 5 (4 * t + k)).toInt + P - 400 < xl.toInt ∧ (σ.1 33 ((τ.1 5 (4 * t + k)).toNatClampNeg + P - 400)).toInt = (τ.1 5 (4 * t + k + 1)).toInt + P - 400) ∧ (k + 1 = m → xl.toInt = (τ.1 5 (4 * t + k)).toInt + P - 400 ∧ (σ.1 33 ((τ.1 5 (4 * t + k)).toNatClampNeg + P - 400)).toInt = -1)) ∧ (∀ j k : Nat, t < j → j < t1 → (j : Int) + P - 400 < xl.toInt → (τ.1 2 j).toInt = 8 → (k : Int) < (τ.1 4 j).toInt → (τ.1 5 (4 * j + k)).toInt + P - 400 < xl.toInt)
/-- the branches are all: the type is there -/
theorem BI.ts {P t t1 m d : Nat} {σ0 τ0 σ τ : ST} {xA xB xl : Int32} (h : BI P t t1 m d σ τ) (hx : BX P t t1 m xl σ τ) (hm : 1 ≤ m ∧ m ≤ 4) (ht : 400 ≤ t ∧ t < t1) (hA : xA.toInt = (t : Int) + P - 400) (hB : xB.toInt = t) (hc : (τ.1 0 34).toInt = t1 ∧ (σ.1 20 1).toInt = (t1 : Int) + P - 400) (hF : FA (t + P - 400) σ0 σ) (hX : LX σ τ) (hL : (∀ c, c ∉ [0, 6] → τ.2.1 c = τ0.2.1 c) ∧ ∀ j, j < t → τ.2.1 6 j = τ0.2.1 6 j) (h4 : 4 * ((t1 : Int) - 400) ≤ (τ.1 0 4).toInt + 1) (h5 : (τ.1 0 6).toInt = 1 → 4 * ((t1 : Int) - 400) ≤ (τ.1 0 4).toInt) : TS P t (d + 1) 8 σ0 τ0 xA σ xB τ := by
  obtain ⟨b1, b2, b3, b4, b5, b6, b7, b8⟩ := h
  refine ⟨t1, ⟨hA, hB, ht.2, hc.1, hc.2⟩, hF, hX, hL, ?_, ?_, b1, h4, h5, ?_, hx.2.1⟩
  · intro j hj1 hj2
    by_cases e : j = t
    · subst e
      exact ⟨b3, fun h => by omega, fun _ => b4, fun _ => b7 hm.1, by omega⟩
    · exact b8 j (by omega) hj2
  · have nx : xB.toNatClampNeg = t := nC hB
    refine ⟨by omega, by rw [nx]; omega, fun h => by rw [nx] at h; omega, fun _ => ?_⟩
    rw [nx]
    refine ⟨by omega, fun k hk => ⟨?_, (b5 k (by omega)).2⟩, fun j k hjk hk => b6 j k hjk (by omega)⟩
    exact VD.ext (by omega) (by omega) (Int.le_refl _) (fun j _ _ => ⟨rfl, fun _ => rfl, rfl, fun _ _ => rfl⟩) _ _ (b5 k (by omega)).1
  · intro j hj1 hj2
    by_cases e : j = t
    rotate_left
    · exact hx.1 j (by omega) hj2
    subst e
    refine ⟨fun h => by omega, fun h => absurd b1 h, fun _ k hk => ?_⟩
    obtain ⟨x1, x2, x3, x4⟩ := hx.2.2.1 k (by omega)
    exact ⟨⟨x1, x2⟩, fun h => (x3 (by omega)).2, fun h => (x4 (by omega)).2⟩
theorem LX.at {σ τ : ST} (h : LX σ τ) : (τ.1 0 4).toInt ≤ 1001 := by
  obtain ⟨_, hn2, _, pp, ss, hpp, hss, hTT⟩ := h
  have n2 := hn2.2
  have e4 := hTT.1
  have hl := hTT.left hn2 hpp hss
  have hl1 := hl.1.2
  rcases hTT.2 with h | h | h | h | h
  · omega
  · have hL := h.1
    have hlt := (bt_rng (T := τ.1 1) (n := (τ.1 0 3).toInt) (k := ss)).2.2.mp (by unfold isL at hL; omega)
    clear h; omega
  · have hD := h.1
    have hlt := (bt_rng (T := τ.1 1) (n := (τ.1 0 3).toInt) (k := ss)).2.2.mp (by unfold isD at hD; omega)
    clear h; omega
  · have h34 := h.1
    have hlt := (bt_rng (T := τ.1 1) (n := (τ.1 0 3).toInt) (k := ss)).2.2.mp (by omega)
    clear h; omega
  · have h9 := h.1.1
    have hlt := (bt_rng (T := τ.1 1) (n := (τ.1 0 3).toInt) (k := ss)).2.2.mp h9
    clear h; omega
theorem BI.ext {P t t1 m d : Nat} {σ τ a b : ST} (h : BI P t t1 m d σ τ) (a1 : a.1 31 = σ.1 31) (a2 : a.1 32 = σ.1 32) (a3 : a.2.1 34 = σ.2.1 34) (b2 : b.1 2 = τ.1 2) (b3 : b.1 3 = τ.1 3) (b4 : b.1 4 = τ.1 4) (b5 : b.1 5 = τ.1 5) (b6 : b.2.1 6 = τ.2.1 6) : BI P t t1 m d a b := by
  unfold BI RWS at h ⊢
  simp only [a1, a2, a3, b2, b3, b4, b5, b6]
  exact h
theorem BX.ext {P t t1 m : Nat} {xl : Int32} {σ τ a b : ST} (h : BX P t t1 m xl σ τ) (a1 : a.1 32 = σ.1 32) (a2 : a.1 33 = σ.1 33) (b2 : b.1 2 = τ.1 2) (b3 : b.1 3 = τ.1 3) (b4 : b.1 4 = τ.1 4) (b5 : b.1 5 = τ.1 5) : BX P t t1 m xl a b := by
  unfold BX RX at h ⊢
  rw [a1, a2, b2, b3, b4, b5]
  exact h
def BLP (P t : Nat) (lev x4 xB : Int32) (σ0 τ0 τ : ST) (qa : Int32 × ST) (qb : (Int32 × ST) × Nat) : Prop := FG t τ0 qb.1.2 ∧ ((qa.1.toInt = 0 ∧ qb.1.1.toInt = 0 ∧ qb.2 + 40 * uT qb.1.2 ≤ 40 * uT τ + 23) ∨ (qa.1.toInt = 1 ∧ qb.1.1.toInt = 1 ∧ TS P t (4 - lev.toInt).toNat 8 σ0 τ0 x4 qa.2 xB qb.1.2 ∧ qb.2 + 40 * uT qb.1.2 ≤ 40 * uT τ))
theorem ab_br_loop {N : Nat} {rbA rtA : Int32 → Int32 → ST → Option (Int32 × ST)} {rbB rtB : Int32 → Int32 → ST → Option ((Int32 × ST) × Nat)} (ht : cTY N rtA rtB) (P t : Nat) (lev xA xB : Int32) (σ0 τ0 : ST) (h400 : 400 ≤ t) (hlev : 0 ≤ lev.toInt ∧ lev.toInt ≤ 3) (hxA : xA.toInt = (t : Int) + P - 400) (hxB : xB.toInt = t) (hN : 2 * (4 - lev.toInt) ≤ (N : Int)) : ∀ (f m w t1 : Nat) (x3 xl x5 : Int32) (σ τ : ST), 6 < f + m → m ≤ 4 → PRE P t1 σ τ → t < t1 → x3 = Int32.ofNat w → x5.toInt = m → (m = 0 ∧ xl.toInt = -1 ∨ 1 ≤ m ∧ (t : Int) + P - 400 < xl.toInt ∧ xl.toInt < (t1 : Int) + P - 400) → MK w xB t1 τ → BI P t t1 m (3 - lev.toInt).toNat σ τ → BX P t t1 m xl σ τ → FA (t + P - 400) σ0 σ → FG t τ0 τ → ((∀ c, c ∉ [0, 6] → τ.2.1 c = τ0.2.1 c) ∧ ∀ j, j < t → τ.2.1 6 j = τ0.2.1 6 j) → OK (f_X3_parseBranches_10 rbA rtA f xA lev x3 xl x5 σ) (fun qa => OK (f_X11_branches_2 rbB rtB f xB lev 1 τ) (BLP P t lev xA xB σ0 τ0 τ qa)) := by
  intro f
  induction f with
  | zero => intro m w t1 x3 xl x5 σ τ h1 h2; omega
  | succ f ih =>
    intro m w t1 x3 xl x5 σ τ hf hm4 hpre htt hx3 hx5 hxl hMK hBI hBX hFA hFG hLL
    have lm := li_m1
    have l0 := li_0
    have l1 := li_1
    have l4 := li_4
    have l6 := li_6
    have elev := il_addE (x := lev) (y := 1) (by omega) (by omega)
    have e51 := il_addE (x := x5) (y := 1) (by omega) (by omega)
    have hty := ht P t1 w (lev + 1) x3 xB σ τ hpre (by omega) hx3 hMK (by omega)
    have ed : (4 - (lev + 1).toInt).toNat = (3 - lev.toInt).toNat := by omega
    have ed2 : (4 - lev.toInt).toNat = (3 - lev.toInt).toNat + 1 := by omega
    obtain ⟨hP, ⟨ht0, hcB, hcA⟩, hLX, hb4, hb2⟩ := hpre
    have hK := hLX.2.2.1
    have rng := sv_rng hK
    have nB : xB.toNatClampNeg = t := nC hxB
    rw [f_X3_parseBranches_10, f_X11_branches_2]
    refine OK.ilt (fun h => by omega) (fun _ => ?_)
    refine OK.sw ?_
    refine OK.ieq (fun h => by omega) (fun _ => ?_)
    refine OK.sw ?_
    refine OK.bnd2 hty (fun qa qb hq => ?_)
    obtain ⟨fq, hq⟩ := hq
    have FGq : FG t τ0 qb.1.2 := hFG.trans fq (by omega)
    rcases hq with ⟨qa0, qb0, qc⟩ | ⟨g, hTS, qc⟩
    · refine OK.ieq (fun _ => ?_) (fun h => by omega)
      refine OK.ret ?_
      refine OK.kac ?_
      refine OK.ile (fun h => by omega) (fun _ => ?_)
      exact OK.ret ⟨FGq, .inl ⟨l0, l0, by show qb.2 + 0 + 40 * uT qb.1.2 ≤ _; omega⟩⟩
    -- one more branch
    obtain ⟨t2, ⟨i1, i2, i3, i4, i5⟩, iF, iX, iL, iR, iV, iS, iB, iB2, iRX, i33⟩ := hTS
    rw [ed] at iV
    obtain ⟨hw, hMK⟩ := hMK
    obtain ⟨g1, _, g3, gb⟩ := g
    rcases hMK with ⟨h9, _⟩ | ⟨hp1, w8, m', hm', _, hpc, hbr, hbit⟩
    · omega
    obtain ⟨B1, B2, B3, B4, B5, B6, B7, B8⟩ := hBI
    rw [nB] at hm' hbr hbit
    have em : m' = m := by omega
    subst em
    have hm3 : m' ≤ 3 := by omega
    have s8 : SV σ < 8 := by
      by_cases e : SV σ = 8
      · have e8 : (SV σ).toNat = 8 := by omega
        rw [e8, w8] at gb
        cases gb
      · omega
    have hat := iX.at
    have t250 : t2 ≤ 650 := by omega
    have eo : kwV 6 = v_or := rfl
    have q4 : (qb.1.2.1 4 t).toInt = m' := by rw [(fq.2.2.1 t (by omega)).2.2]; exact B2
    have q2 : qb.1.2.1 2 t = τ.1 2 t := (fq.2.2.1 t (by omega)).1
    have rA := iF.2.2.2 (t + P - 400) (by omega)
    have q5 : ∀ k : Nat, k < 4 → qb.1.2.1 5 (4 * t + k) = τ.1 5 (4 * t + k) := fun k hk => fq.2.2.2.1 _ (by omega)
    have srt1 : qa.2.1 31 (t1 + P - 400) = qb.1.2.1 2 t1 := (iR t1 (Nat.le_refl _) i3).1
    have cont : ∀ a3 : ST, (∀ c, c ∉ [32, 33] → a3.1 c = qa.2.1 c) → a3.2.1 = qa.2.2.1 → (∀ i, i ≠ t + P - 400 → a3.1 32 i = qa.2.1 32 i) → (m' = 0 → a3.1 32 (t + P - 400) = qa.1) → (1 ≤ m' → a3.1 32 (t + P - 400) = qa.2.1 32 (t + P - 400)) → (m' = 0 → a3.1 33 = qa.2.1 33) → (1 ≤ m' → a3.1 33 = upd (qa.2.1 33) xl.toNatClampNeg qa.1) → OK (f_X3_parseBranches_64 rbA rtA (f_X3_parseBranches_10 rbA rtA f) xA lev x3 x5 qa.1 a3) (fun u => OK (ac qb.2 (if 0 ≤ qb.1.1 then (if 0 ≤ xB.toInt ∧ xB.toInt < 800 then (if 0 ≤ ((4 * xB) + (qb.1.2.1 4 xB.toNatClampNeg)).toInt ∧ ((4 * xB) + (qb.1.2.1 4 xB.toNatClampNeg)).toInt < 3200 then ((some (stI (stI qb.1.2 5 ((4 * xB) + (qb.1.2.1 4 xB.toNatClampNeg)).toNatClampNeg qb.1.1) 4 xB.toNatClampNeg (((stI qb.1.2 5 ((4 * xB) + (qb.1.2.1 4 xB.toNatClampNeg)).toNatClampNeg qb.1.1).1 4 xB.toNatClampNeg) + 1))).bind fun z5 => if (z5.1 4 xB.toNatClampNeg) = 1 then ((f_X11_isOr z5).bind fun q6 => ac q6.2 (if q6.1.1 = 0 then ((f_X11_wrongHere 1 q6.1.2).bind fun q8 => if q8.1 = 0 ∨ q8.1 = 1 then some ((q8.1, q8.2), 0) else none) else (f_X11_branches_73 rbB rtB (f_X11_branches_2 rbB rtB f) xB lev q6.1.2))) else (f_X11_branches_73 rbB rtB (f_X11_branches_2 rbB rtB f) xB lev z5)) else none) else none) else (some ((0, qb.1.2), 0)))) (BLP P t lev xA xB σ0 τ0 τ u)) := by
      intro a3 hc3 hl3 h32 hm0 hm1 h330 h331
      refine OK.sw ?_
      refine OK.kac ?_
      refine OK.ile (fun _ => ?_) (fun h => by omega)
      refine OK.grd ⟨by omega, by omega⟩ ?_
      rw [nB]
      have e4x := mlE (k := 4) (y := xB) 4 l4 (by omega) (by omega)
      have e5x := il_addE (x := 4 * xB) (y := qb.1.2.1 4 t) (by omega) (by omega)
      have n5 : (4 * xB + qb.1.2.1 4 t).toNatClampNeg = 4 * t + m' := nC (by omega)
      refine OK.grd ⟨by omega, by omega⟩ ?_
      rw [n5]
      have em1 := il_addE (x := qb.1.2.1 4 t) (y := 1) (by omega) (by omega)
      refine OK.lt (fun z hz => ?_)
      have z2 : z.1 2 = qb.1.2.1 2 := by rw [hz]; rfl
      have z3 : z.1 3 = qb.1.2.1 3 := by rw [hz]; rfl
      have z4 : z.1 4 = upd (qb.1.2.1 4) t (qb.1.2.1 4 t + 1) := by rw [hz]; rfl
      have z5 : z.1 5 = upd (qb.1.2.1 5) (4 * t + m') qb.1.1 := by rw [hz]; rfl
      have z0 : z.1 0 = qb.1.2.1 0 := by rw [hz]; rfl
      have z1 : z.1 1 = qb.1.2.1 1 := by rw [hz]; rfl
      have zL : z.2.1 = qb.1.2.2.1 := by rw [hz]; rfl
      have zF : FG t qb.1.2 z := by
        refine ⟨fun c hc => ?_, fun i _ => by rw [z0], fun j hj => ⟨by rw [z2], by rw [z3], by rw [z4, upd_no (by omega)]⟩, fun j hj => by rw [z5, upd_no (by omega)], L5.eq zL⟩
        simp only [List.mem_cons, List.not_mem_nil, or_false, not_or] at hc
        rw [hz, stI_ne hc.2.2.2.1, stI_ne hc.2.2.2.2.1]
      clear hz
      have FGz : FG t τ0 z := FGq.trans zF (Nat.le_refl _)
      have uz : uT z = uT qb.1.2 := uT_eq (by rw [z0]) (by rw [z0]) (by rw [z0])
      have LXz : LX a3 z := iX.ext (hc3 1 (by decide)) (hc3 2 (by decide)) (by rw [hl3]) (by rw [hl3]) z1 (fun i _ => by rw [z0]) (by rw [zL])
      have zm : (z.1 4 t).toInt = ((m' + 1 : Nat) : Int) := by rw [z4, upd_at]; omega
      have zt : ∀ k : Nat, k < m' → z.1 5 (4 * t + k) = τ.1 5 (4 * t + k) := fun k hk => by rw [z5, upd_no (by omega)]; exact q5 k (by omega)
      have zv : z.1 5 (4 * t + m') = qb.1.1 := by rw [z5, upd_at]
      have n1 : qb.1.1.toNatClampNeg = t1 := nC i2
      have srt : ∀ k : Nat, k < m' → (z.1 2 (τ.1 5 (4 * t + k)).toNatClampNeg) = τ.1 2 (τ.1 5 (4 * t + k)).toNatClampNeg := fun k hk => by
        have r := (B5 k hk).1.rng
        have n9 := nN_ (x := τ.1 5 (4 * t + k)) (by omega)
        rw [z2]
        exact (fq.2.2.1 _ (by omega)).1
      have h33 : ∀ i : Nat, (1 ≤ m' → ¬ (i : Int) = xl.toInt) → a3.1 33 i = qa.2.1 33 i := fun i hi => by
        by_cases e : m' = 0
        · rw [h330 e]
        · have n9 := nN_ (x := xl) (by omega)
          have hi := hi (by omega)
          rw [h331 (by omega), upd_no (by omega)]
      have c3A : FA (t + P - 400) σ0 a3 := by
        refine (hFA.trans iF (by omega)).trans (c1 := t + P - 400) ⟨fun c hc => ?_, fun i hi => by rw [hc3 20 (by decide)], fun c _ => by rw [hl3], fun i hi => ⟨by rw [hc3 31 (by decide)], h32 i (by omega), by rw [hl3], h33 i (fun h9 => by have := nN_ (x := xl) (by omega); omega)⟩⟩ (Nat.le_refl _)
        simp only [List.mem_cons, List.not_mem_nil, or_false, not_or] at hc
        exact hc3 c (by simp only [List.mem_cons, List.not_mem_nil, or_false, not_or]; exact ⟨hc.2.2.2.1, hc.2.2.2.2.1⟩)
      have lLz : (∀ c, c ∉ [0, 6] → z.2.1 c = τ0.2.1 c) ∧ ∀ j, j < t → z.2.1 6 j = τ0.2.1 6 j := ⟨fun c hc => by rw [zL, iL.1 c hc, hLL.1 c hc], fun j hj => by rw [zL, iL.2 j (by omega), hLL.2 j hj]⟩
      have BIz : BI P t t2 (m' + 1) (3 - lev.toInt).toNat a3 z := by
        refine ⟨by rw [z2, q2]; exact B1, zm, ?_, ?_, ?_, ?_, ?_, ?_⟩
        · rw [hc3 31 (by decide), rA.1, z2, q2]
          exact B3
        · rw [hl3, rA.2.2.1]
          exact B4
        · intro k hk
          by_cases e : k = m'
          · subst e
            rw [zv, n1, z2]
            refine ⟨VD.ext (by omega) (by omega) (Int.le_refl _) (fun j hj1 hj2 => ⟨rfl, fun _ => by rw [z3], by rw [z4, upd_no (by omega)], fun i hi => by rw [z5, upd_no (by omega)]⟩) _ _ iV, by omega⟩
          · rw [zt k (by omega), srt k (by omega)]
            refine ⟨VD.ext (by omega) (Int.le_refl _) (by omega) (fun j hj1 hj2 => ?_) _ _ (B5 k (by omega)).1, (B5 k (by omega)).2⟩
            have r := fq.2.2.1 j (by omega)
            exact ⟨by rw [z2, r.1], fun _ => by rw [z3, r.2.1], by rw [z4, upd_no (by omega), r.2.2], fun i hi => by rw [z5, upd_no (by omega)]; exact fq.2.2.2.1 _ (by omega)⟩
        · intro j k hjk hk
          by_cases e : k = m'
          · subst e
            rw [zv, n1, zt j hjk, srt j hjk, z2, iS]
            intro h9
            have e7 : (SV σ).toNat < 8 := by omega
            have := (hbit (SV σ).toNat e7).mpr ⟨j, hjk, by omega⟩
            rw [gb] at this
            cases this
          · rw [zt k (by omega), srt k (by omega), zt j (by omega), srt j (by omega)]
            exact B6 j k hjk (by omega)
        · intro _
          by_cases e : m' = 0
          · rw [hm0 e]
            have zv' := zv
            rw [e] at zv'
            have zv' : z.1 5 (4 * t) = qb.1.1 := zv'
            rw [zv']
            omega
          · have e0 := zt 0 (by omega)
            have e0 : z.1 5 (4 * t) = τ.1 5 (4 * t) := e0
            rw [hm1 (by omega), rA.2.1, e0]
            exact B7 (by omega)
        · intro j hj1 hj2
          by_cases e : j < t1
          · obtain ⟨x1, x2, x3', x4'⟩ := B8 j hj1 e
            have rj := fq.2.2.1 j e
            have ra := iF.2.2.2 (j + P - 400) (by omega)
            have e5 : z.1 5 (4 * j) = τ.1 5 (4 * j) := by rw [z5, upd_no (by omega)]; exact fq.2.2.2.1 _ (by omega)
            have e4 : z.1 4 j = τ.1 4 j := by rw [z4, upd_no (by omega)]; exact rj.2.2
            rw [hc3 31 (by decide), hl3, h32 _ (by omega), zL, z2, e5, e4, rj.1, ra.1, ra.2.1, ra.2.2.1, iL.2 j e]
            exact ⟨x1, x2, x3', x4'⟩
          · obtain ⟨x1, x2, x3', x4'⟩ := iR j (by omega) hj2
            have e5 : z.1 5 (4 * j) = qb.1.2.1 5 (4 * j) := by rw [z5, upd_no (by omega)]
            have e4 : z.1 4 j = qb.1.2.1 4 j := by rw [z4, upd_no (by omega)]
            rw [hc3 31 (by decide), hl3, h32 _ (by omega), zL, z2, e5, e4]
            exact ⟨x1, x2, x3', x4'⟩
      have BXz : BX P t t2 (m' + 1) qa.1 a3 z := by
        obtain ⟨X1, X2, X3, X4⟩ := hBX
        have zo : ∀ j : Nat, t < j → z.1 4 j = qb.1.2.1 4 j ∧ ∀ k : Nat, k < 4 → z.1 5 (4 * j + k) = qb.1.2.1 5 (4 * j + k) := fun j hj => ⟨by rw [z4, upd_no (by omega)], fun k hk => by rw [z5, upd_no (by omega)]⟩
        have old : ∀ i : Nat, i < t1 + P - 400 → (1 ≤ m' → ¬ (i : Int) = xl.toInt) → a3.1 33 i = σ.1 33 i := fun i h1 h2 => (h33 i h2).trans (iF.2.2.2 i h1).2.2.2
        refine ⟨RX.join (t := t1) (X1.ext0 (fun j h1 h2 => (B8 j h1 h2).2.2.2.2.2) (fun j h1 h2 _ => ?_) (fun j k h1 h2 h8 hk y1 y2 => ?_) (fun j h1 h2 => ?_)) (iRX.ext0 (fun j h1 h2 => (iR j h1 h2).2.2.2.2.2) (fun j h1 h2 _ => h32 _ (by omega)) (fun j k h1 h2 h8 hk y1 y2 => ?_) (fun j h1 h2 => ?_)) (by omega), ?_, fun k hk => ?_, fun j k h1 h2 h3 h8 hk => ?_⟩
        · rw [h32 _ (by omega)]
          exact (iF.2.2.2 (j + P - 400) (by omega)).2.1
        · have n9 := nN_ (x := τ.1 5 (4 * j + k)) (by omega)
          refine old _ (by omega) (fun hm => ?_)
          by_cases e : (j : Int) + P - 400 < xl.toInt
          · have := X4 j k (by omega) h2 e h8 hk
            omega
          · omega
        · have rj := fq.2.2.1 j h2
          obtain ⟨o1, o2⟩ := zo j (by omega)
          refine ⟨by rw [z2, rj.1], fun _ => by rw [z3, rj.2.1], by rw [o1, rj.2.2], fun k hk => ?_⟩
          rw [o2 k hk]
          exact fq.2.2.2.1 _ (by omega)
        · have n9 := nN_ (x := qb.1.2.1 5 (4 * j + k)) (by omega)
          exact h33 _ (fun hm => by omega)
        · obtain ⟨o1, o2⟩ := zo j (by omega)
          exact ⟨by rw [z2], fun _ => by rw [z3], o1, o2⟩
        · rw [old _ (by omega) (fun hm => by omega)]
          exact X2
        · by_cases e : k = m'
          · subst e
            rw [zv, n1]
            refine ⟨by omega, by omega, fun h => by omega, fun _ => ⟨by omega, ?_⟩⟩
            rw [h33 _ (fun hm => by omega)]
            exact i33
          · obtain ⟨x1, x2, x3, x4⟩ := X3 k (by omega)
            have n9 := nN_ (x := τ.1 5 (4 * t + k)) (by omega)
            rw [zt k (by omega)]
            refine ⟨x1, by omega, fun _ => ⟨by omega, ?_⟩, fun h => by omega⟩
            by_cases e2 : k + 1 = m'
            · obtain ⟨y1, y2⟩ := x4 e2
              have e3 : 4 * t + k + 1 = 4 * t + m' := by omega
              have e4 : xl.toNatClampNeg = (τ.1 5 (4 * t + k)).toNatClampNeg + P - 400 := nC (by omega)
              rw [e3, zv, h331 (by omega), e4, upd_at]
              omega
            · obtain ⟨y1, y2⟩ := x3 (by omega)
              have e3 := zt (k + 1) (by omega)
              rw [← Nat.add_assoc] at e3
              rw [e3, old _ (by omega) (fun hm => by omega)]
              exact y2
        · have hj1 : j < t1 := by omega
          have rj := fq.2.2.1 j hj1
          obtain ⟨o1, o2⟩ := zo j (by omega)
          rw [z2, rj.1] at h8
          rw [o1, rj.2.2] at hk
          have hk4 := (B8 j (by omega) hj1).2.2.2.2.2
          rw [o2 k (by omega), fq.2.2.2.1 _ (by omega)]
          have := ((X1 j (by omega) hj1).2.2 h8 k hk).1
          omega
      have hKz := LXz.2.2.1
      have c20 : (a3.1 20 1).toInt = (t2 : Int) + P - 400 := by rw [hc3 20 (by decide)]; exact i5
      have c34 : (z.1 0 34).toInt = t2 := by rw [z0]; exact i4
      have at0 : z.1 0 4 = qb.1.2.1 0 4 := by rw [z0]
      have tk0 : z.1 0 6 = qb.1.2.1 0 6 := by rw [z0]
      rw [← at0] at iB iB2
      rw [← tk0] at iB2
      -- the class: its sort, and whether one more comes
      refine OK.sw ?_
      unfold f_X3_parseBranches_64 f_X3_parseBranches_110
      refine OK.bndR (a_sortOf qa.1 a3 (t1 + P - 400) (by omega) (by omega) (by omega)) (fun sv hsv => ?_)
      dsimp only
      have hsv2 : sv.toInt = SV σ := by rw [hsv, hc3 31 (by decide), srt1]; exact iS
      refine OK.bndR (a_isKeyword 6 a3 z hKz (k := 6) (by omega) l6) (fun u hu => ?_)
      dsimp only
      rw [eo] at hu
      -- the reference goes on, or ends
      have more : W_ z v_or → ∀ xc : Nat, xc ≤ 1 → OK ((f_X6_advance a3).bind fun q5 => f_X3_parseBranches_10 rbA rtA f xA lev (x3 ||| (1 <<< (sv &&& 31))) qa.1 (x5 + 1) q5) (fun v => OK (f_X11_branches_73 rbB rtB (f_X11_branches_2 rbB rtB f) xB lev z) (fun y => BLP P t lev xA xB σ0 τ0 τ v (y.1, qb.2 + (xc + y.2)))) := by
        intro hW xc hxc
        have hg : a3.1 2 3 = z.1 0 5 := by
          have w1 := hW.1
          obtain ⟨_, h | h | h | h | h | h⟩ := hKz
          · omega
          · have := h.2.2
            omega
          · exact h.2.2.1
          · omega
          · omega
          · omega
        obtain ⟨sz, hsz, hTz⟩ := LXz.tb
        have hlen := hTz.len hW.1 (k := 6) (by omega) hW.2
        have eM : (kwM 6 : Int) = 2 := by decide
        rw [eM] at hlen
        have u1 : uT z = ((z.1 0 3).toInt - (z.1 0 5).toInt).toNat + 1 := by
          unfold uT
          have w1 := hW.1
          rw [if_neg (by omega)]
        unfold f_X11_branches_73
        refine OK.sw ?_
        refine OK.bndK (b_isOr z) (fun v x hv hx => ?_)
        refine OK.kac ?_
        dsimp only
        have hv1 : v.toInt = 1 := by
          rcases hv with hv | hv
          · exact absurd hW hv.2
          · exact hv.1
        refine OK.ieq (fun h => by omega) (fun _ => ?_)
        have ev : v = 1 := Int32.toInt_inj.mp (by omega)
        subst ev
        refine OK.sw ?_
        refine OK.bnd2 (ab_go a3 z LXz hg) (fun a4 b4 hq => ?_)
        obtain ⟨ca, cb, cL, hLX4, hat4, hadj4, hu4⟩ := hq
        have d2 : b4.1 2 = z.1 2 := cb.1 2 (by decide) (by decide)
        have d3 : b4.1 3 = z.1 3 := cb.1 3 (by decide) (by decide)
        have d4 : b4.1 4 = z.1 4 := cb.1 4 (by decide) (by decide)
        have d5 : b4.1 5 = z.1 5 := cb.1 5 (by decide) (by decide)
        have at4 := iB2 hW.1
        have mo := mk_or w hw (SV σ).toNat (by omega) gb
        have esv : sv = Int32.ofNat (SV σ).toNat := intOf (by omega) (by omega)
        have BI4 : BI P t t2 (m' + 1) (3 - lev.toInt).toNat a4 b4 := BIz.ext (ca.1 31 (by decide)) (ca.1 32 (by decide)) (ca.2.2.1 34 (by decide)) d2 d3 d4 d5 (cL 6 (by decide))
        have BX4 : BX P t t2 (m' + 1) qa.1 a4 b4 := BXz.ext (ca.1 32 (by decide)) (ca.1 33 (by decide)) d2 d3 d4 d5
        have MK4 : MK (w + 2 ^ (SV σ).toNat) xB t2 b4 := by
          refine ⟨mo.2.1, .inr ⟨by omega, ?_, m' + 1, ?_, by omega, by omega, ?_, ?_⟩⟩
          · rw [mo.2.2.2 8 (by omega), w8]
            rfl
          · rw [nB, d4]
            exact zm
          · intro k hk
            rw [nB]
            have r := (BI4.2.2.2.2.1 k hk).1.rng
            omega
          · intro s hs
            rw [nB, mo.2.2.2 s (by omega), d5, d2]
            constructor
            · intro h
              rcases Bool.or_eq_true _ _ ▸ h with h | h
              · obtain ⟨k, hk, ek⟩ := (hbit s hs).mp h
                exact ⟨k, by omega, by rw [zt k hk, srt k hk]; exact ek⟩
              · have e : s = (SV σ).toNat := by simpa using h
                refine ⟨m', by omega, ?_⟩
                rw [zv, n1, z2, iS]
                omega
            · rintro ⟨k, hk, ek⟩
              by_cases e : k = m'
              · rw [e, zv, n1, z2, iS] at ek
                have e2 : s = (SV σ).toNat := by omega
                rw [e2]
                simp
              · rw [zt k (by omega), srt k (by omega)] at ek
                rw [(hbit s hs).mpr ⟨k, by omega, ek⟩]
                rfl
        have hxor : x3 ||| (1 <<< (sv &&& 31)) = Int32.ofNat (w + 2 ^ (SV σ).toNat) := by
          rw [hx3, esv]
          exact mo.1
        refine (ih (m' + 1) (w + 2 ^ (SV σ).toNat) t2 _ qa.1 (x5 + 1) a4 b4 (by omega) (by omega) ⟨hP, ⟨by omega, by rw [cb.2.1 34 (by decide)]; exact c34, by rw [ca.1 20 (by decide)]; exact c20⟩, hLX4, by omega, fun h9 => by have := hadj4 hW.1 h9; omega⟩ (by omega) hxor (by omega) (.inr ⟨by omega, by omega, by omega⟩) MK4 BI4 BX4 (c3A.trans ca.fa (Nat.le_refl _)) (FGz.trans (cb.fg (by decide)) (Nat.le_refl _)) ⟨fun c hc => ?_, fun j hj => ?_⟩).mono2 (fun u y hy => ?_)
        · have hc' := hc
          simp only [List.mem_cons, List.not_mem_nil, or_false, not_or] at hc'
          rw [cL c hc'.1]
          exact lLz.1 c hc
        · rw [cL 6 (by decide)]
          exact lLz.2 j hj
        · obtain ⟨y1, y2⟩ := hy
          refine ⟨y1, ?_⟩
          rcases y2 with ⟨r1, r2, r3⟩ | ⟨r1, r2, r3, r4⟩
          · refine .inl ⟨r1, r2, ?_⟩
            show qb.2 + (xc + (x + y.2)) + 40 * uT y.1.2 ≤ _
            omega
          · refine .inr ⟨r1, r2, r3, ?_⟩
            show qb.2 + (xc + (x + y.2)) + 40 * uT y.1.2 ≤ _
            omega
      refine OK.ieq (fun hu0 => ?_) (fun hu1 => ?_)
      · have hnW : ¬ W_ z v_or := by
          rcases hu with hu | hu
          · exact hu.2
          · omega
        refine OK.ilt (fun hx => ?_) (fun hx => ?_)
        · have hTS : TS P t (4 - lev.toInt).toNat 8 σ0 τ0 xA a3 xB z := by
            rw [ed2]
            exact BIz.ts BXz (by omega) (by omega) hxA hxB ⟨c34, c20⟩ c3A LXz lLz iB iB2
          refine OK.ret ?_
          refine OK.ieq (fun h => by omega) (fun _ => ?_)
          unfold f_X11_branches_73
          refine OK.bndK (b_isOr z) (fun v x hv hx => ?_)
          refine OK.kac ?_
          dsimp only
          refine OK.ieq (fun hv0 => ?_) (fun h => ?_)
          · cases f with
            | zero => omega
            | succ f =>
              rw [f_X11_branches_2]
              refine OK.ieq (fun _ => ?_) (fun h => absurd hv0 h)
              refine OK.ret ⟨FGz, .inr ⟨l1, l1, hTS, ?_⟩⟩
              show qb.2 + (x + 0) + 40 * uT z ≤ _
              omega
          · rcases hv with hv | hv
            · exact absurd hv.1 h
            · exact absurd hv.2 hnW
        · refine OK.bnd (a_refuse _ _) (fun q hq => ?_)
          refine OK.ieq (fun _ => ?_) (fun h => by omega)
          refine OK.ret ?_
          refine OK.ieq (fun _ => ?_) (fun h => by omega)
          refine OK.bndK (b_isOr z) (fun v x hv hx => ?_)
          refine OK.kac ?_
          dsimp only
          refine OK.ieq (fun hv0 => ?_) (fun h => ?_)
          · refine OK.bndC (b_wrongHere 1 z) (fun v2 s2 c2 hv2 => ?_)
            refine OK.grd (b01 (.inl hv2)) ?_
            refine OK.ret ⟨FGz.trans (c2.fg (by decide)) (Nat.le_refl _), .inl ⟨l0, hv2, ?_⟩⟩
            show qb.2 + (x + 0) + 40 * uT s2 ≤ _
            rw [uT_eq (c2.2.1 3 (by decide)) (c2.2.1 5 (by decide)) (c2.2.1 6 (by decide))]
            omega
          · rcases hv with hv | hv
            · exact absurd hv.1 h
            · exact absurd hv.2 hnW
      · have hW : W_ z v_or := by
          rcases hu with hu | hu
          · exact absurd hu.1 hu1
          · exact hu.2
        refine OK.sw ?_
        refine OK.ieq (fun _ => ?_) (fun _ => ?_)
        · refine OK.bndK (b_isOr z) (fun v x hv hx => ?_)
          refine OK.kac ?_
          dsimp only
          refine OK.ieq (fun h => ?_) (fun _ => ?_)
          · rcases hv with hv | hv
            · exact absurd hW hv.2
            · omega
          · exact OK.sw (more hW x hx)
        · refine OK.sw ((more hW 0 (by omega)).mono2 (fun v y h => ?_))
          rw [Nat.zero_add] at h
          exact h
    refine OK.ieq (fun h => by omega) (fun _ => ?_)
    refine OK.ieq (fun hl => ?_) (fun hl => ?_)
    · rw [a_setInner xA qa.1 qa.2 (t + P - 400) (by omega) (by omega) (by omega)]
      refine cont _ (fun c hc => ?_) rfl (fun i hi => ?_) (fun _ => ?_) (fun h => by omega) (fun _ => rfl) (fun h => by omega)
      · simp only [List.mem_cons, List.not_mem_nil, or_false, not_or] at hc
        rw [stI_ne hc.1]
      · show upd (qa.2.1 32) _ _ i = _
        rw [upd_no hi]
      · have e9 : (stI qa.2 32 (t + P - 400) qa.1).1 32 = upd (qa.2.1 32) (t + P - 400) qa.1 := rfl
        rw [e9, upd_at]
    · rw [a_setBranchAfter xl qa.1 qa.2 xl.toNatClampNeg (nN_ (by omega)).symm (by have := nN_ (x := xl) (by omega); omega) (by have := nN_ (x := xl) (by omega); omega)]
      refine cont _ (fun c hc => ?_) rfl (fun i hi => rfl) (fun h => by omega) (fun _ => rfl) (fun h => by omega) (fun _ => rfl)
      simp only [List.mem_cons, List.not_mem_nil, or_false, not_or] at hc
      rw [stI_ne hc.2]
theorem ab_br_top {N : Nat} {rbA rtA : Int32 → Int32 → ST → Option (Int32 × ST)} {rbB rtB : Int32 → Int32 → ST → Option ((Int32 × ST) × Nat)} (ht : cTY N rtA rtB) : cBR (N + 1) (f_X3_parseBranches rbA rtA) (f_X11_branches rbB rtB) := by
  intro P t lev x4 xB σ τ hpre h400 hlev hx4 hxB h2 h31 h34 h33 h4 hN
  unfold f_X3_parseBranches f_X11_branches
  have lu := FUi
  have nB : xB.toNatClampNeg = t := nC hxB
  refine (ab_br_loop ht P t lev x4 xB σ τ h400 hlev hx4 hxB (by omega) FU 0 256 (t + 1) 256 (-1) 0 σ τ (by omega) (by omega) hpre (by omega) (by decide) li_0 (.inl ⟨rfl, li_m1⟩) ⟨by omega, .inr ⟨by omega, by decide, 0, by rw [nB]; omega, by omega, by decide, fun k hk => by omega, fun s hs => ?_⟩⟩ ⟨h2, by omega, h31, h34, fun k hk => by omega, fun j k hjk hk => by omega, fun h => by omega, fun j hj1 hj2 => by omega⟩ ⟨fun j hj1 hj2 => by omega, h33, fun k hk => by omega, fun j k h1 h2 => by omega⟩ FA.rf FG.rf ⟨fun _ _ => rfl, fun _ _ => rfl⟩)
  constructor
  · intro h
    exfalso
    have z : ∀ s : Nat, s < 8 → ¬ (256 : Nat).testBit s = true := by decide
    exact z s hs h
  · rintro ⟨k, hk, _⟩
    omega
theorem ab_RT : ∀ N M : Nat, N ≤ M → cBR N (R_X3_parseBranches N).1 (R_X11_branches M).1 ∧ cTY N (R_X3_parseBranches N).2 (R_X11_branches M).2 := by
  intro N
  induction N with
  | zero =>
    intro M _
    refine ⟨?_, ?_⟩
    · intro P t lev x4 xB σ τ _ _ hl _ _ _ _ _ _ _ hN
      omega
    · intro P t0 w lev pA pB σ τ _ hl _ _ hN
      omega
  | succ N ih =>
    intro M hM
    cases M with
    | zero => omega
    | succ M =>
      have h := ih M (by omega)
      exact ⟨ab_br_top h.2, ab_type_top h.1 h.2⟩
/-! the names that there are: both look them up -/
theorem a_isFieldOf (p0 p1 : Int32) (σ : ST) (h0 : 0 ≤ p0.toInt ∧ p0.toInt < 36) (h1 : 0 ≤ p1.toInt ∧ p1.toInt < 8) : OK (f_X5_isFieldOf p0 p1 σ) (RO σ fun v => v.toInt = 1) := by
  unfold f_X5_isFieldOf
  have l0 := li_0
  have l8 := li_8
  have l36 : (36 : Int32).toInt = 36 := by decide
  refine OK.ilt (fun h => by omega) (fun _ => ?_)
  refine OK.ile (fun h => by omega) (fun _ => ?_)
  refine OK.ilt (fun h => by omega) (fun _ => ?_)
  exact OK.ile (fun h => by omega) (fun _ => OK.roret li_1)
theorem a_fieldNamed_29 (x2 : Int64) (x4 x5 : Int32) (σ : ST) (r m : Nat) (hr : r < 36) (h4 : x4.toInt = 8 * (r : Int)) (h5 : x5.toInt = m) (hm : m ≤ 8) : ∀ (f k : Nat) (x6 : Int32), x6.toInt = k → k ≤ m → m < f + k → (∀ i : Nat, i < k → ¬ σ.2.1 27 (8 * r + i) = x2) → OK (f_X5_fieldNamed_29 20 f x2 x4 x5 x6 σ) (RO σ fun v => v.toInt = -1 ∧ (∀ i : Nat, i < m → ¬ σ.2.1 27 (8 * r + i) = x2) ∨ 0 ≤ v.toInt ∧ ∃ i : Nat, i < m ∧ σ.2.1 27 (8 * r + i) = x2) := by
  intro f
  induction f with
  | zero => intro k x6 h1 h2 h3; omega
  | succ f ih =>
    intro k x6 h6 hk hf hn
    rw [f_X5_fieldNamed_29]
    have lm := li_m1
    have l1 := li_1
    have l8 := li_8
    refine OK.ile (fun h => OK.roret (.inl ⟨lm, fun i hi => hn i (by omega)⟩)) (fun h => ?_)
    refine OK.ile (fun h => by omega) (fun _ => ?_)
    have e := il_addE (x := x4) (y := x6) (by omega) (by omega)
    have e1 := il_addE (x := x6) (y := 1) (by omega) (by omega)
    have np : (x4 + x6).toNatClampNeg = 8 * r + k := nC (by omega)
    refine OK.grd ⟨by omega, by omega⟩ ?_
    rw [np]
    refine OK.ite (fun h9 => ?_) (fun h9 => ?_)
    · rw [lg_cmp_eq] at h9
      exact OK.roret (.inr ⟨by omega, k, by omega, h9⟩)
    · rw [lg_cmp_eq] at h9
      refine ih (k + 1) (x6 + 1) (by omega) (by omega) (by omega) (fun i hi => ?_)
      by_cases e9 : i = k
      · rw [e9]; exact h9
      · exact hn i (by omega)
theorem a_fieldNamed (p0 : Int32) (p1 : Int64) (σ : ST) (r m : Nat) (hr : r < 36) (h0 : p0.toInt = r) (hm : (σ.1 23 r).toInt = m) (hm8 : m ≤ 8) : OK (f_X5_fieldNamed 20 p0 p1 σ) (RO σ fun v => v.toInt = -1 ∧ (∀ i : Nat, i < m → ¬ σ.2.1 27 (8 * r + i) = p1) ∨ 0 ≤ v.toInt ∧ ∃ i : Nat, i < m ∧ σ.2.1 27 (8 * r + i) = p1) := by
  unfold f_X5_fieldNamed f_X5_fieldNamed_24
  have l0 := li_0
  have l8 := li_8
  have lu := FUi
  have nr : p0.toNatClampNeg = r := nC h0
  have e8 : (p0 * 8).toInt = 8 * p0.toInt := by
    rw [Int32.mul_comm]
    exact mlE (k := 8) (y := p0) 8 l8 (by omega) (by omega)
  refine OK.bndR (a_isFieldOf p0 0 σ ⟨by omega, by omega⟩ (by omega)) (fun v hv => ?_)
  dsimp only
  refine OK.ieq (fun h => by omega) (fun _ => ?_)
  refine OK.grd ⟨by omega, by omega⟩ ?_
  rw [nr]
  exact a_fieldNamed_29 p1 (p0 * 8) (σ.1 23 r) σ r m hr (by omega) hm hm8 FU 0 0 l0 (by omega) (by omega) (fun i hi => by omega)
theorem bx_fieldOf_3 (x1 : Int32) (x2 : Int64) (τ : ST) (r m : Nat) (hr : r < 72) (h1 : x1.toInt = r) (hm : (τ.1 11 r).toInt = m) (hm8 : m ≤ 8) : ∀ (f k : Nat) (x4 : Int32), x4.toInt = k → k ≤ m → m < f + k → (∀ i : Nat, i < k → ¬ τ.2.1 12 (8 * r + i) = x2) → OK (f_X11_fieldOf_3 f x1 x2 x4 τ) (RO τ fun v => v.toInt = -1 ∧ (∀ i : Nat, i < m → ¬ τ.2.1 12 (8 * r + i) = x2) ∨ 0 ≤ v.toInt ∧ ∃ i : Nat, i < m ∧ τ.2.1 12 (8 * r + i) = x2) := by
  intro f
  induction f with
  | zero => intro k x6 h1 h2 h3; omega
  | succ f ih =>
    intro k x4 h4 hk hf hn
    rw [f_X11_fieldOf_3]
    have lm := li_m1
    have l1 := li_1
    have l8 := li_8
    have nr : x1.toNatClampNeg = r := nC h1
    refine OK.grd ⟨by omega, by omega⟩ ?_
    rw [nr]
    refine OK.ile (fun h => OK.roret (.inl ⟨lm, fun i hi => hn i (by omega)⟩)) (fun h => ?_)
    have e8 := mlE (k := 8) (y := x1) 8 l8 (by omega) (by omega)
    have e := il_addE (x := 8 * x1) (y := x4) (by omega) (by omega)
    have e1 := il_addE (x := x4) (y := 1) (by omega) (by omega)
    have np : (8 * x1 + x4).toNatClampNeg = 8 * r + k := nC (by omega)
    refine OK.grd ⟨by omega, by omega⟩ ?_
    rw [np]
    refine OK.ite (fun h9 => ?_) (fun h9 => ?_)
    · rw [lg_cmp_eq] at h9
      exact OK.roret (.inr ⟨by omega, k, by omega, h9⟩)
    · rw [lg_cmp_eq] at h9
      refine ih (k + 1) (x4 + 1) (by omega) (by omega) (by omega) (fun i hi => ?_)
      by_cases e9 : i = k
      · rw [e9]; exact h9
      · exact hn i (by omega)
theorem bx_fieldOf (p0 : Int32) (p1 : Int64) (τ : ST) (r m : Nat) (hr : r < 72) (h0 : p0.toInt = r) (hm : (τ.1 11 r).toInt = m) (hm8 : m ≤ 8) : OK (f_X11_fieldOf p0 p1 τ) (RO τ fun v => v.toInt = -1 ∧ (∀ i : Nat, i < m → ¬ τ.2.1 12 (8 * r + i) = p1) ∨ 0 ≤ v.toInt ∧ ∃ i : Nat, i < m ∧ τ.2.1 12 (8 * r + i) = p1) := by
  have lu := FUi
  unfold f_X11_fieldOf
  exact bx_fieldOf_3 p0 p1 τ r m hr h0 hm hm8 FU 0 0 li_0 (by omega) (by omega) (fun i hi => by omega)
theorem a_recordNamed_3 (x1 : Int32) (x2 : Int64) (σ : ST) (p m : Nat) (hp : p < 6) (h1 : x1.toInt = p) (hm : (σ.1 21 p).toInt = m) (hm6 : m ≤ 6) : ∀ (f k : Nat) (x4 : Int32), x4.toInt = k → k ≤ m → m < f + k → (∀ i : Nat, i < k → ¬ σ.2.1 24 (6 * p + i) = x2) → OK (f_X5_recordNamed_3 20 f x1 x2 x4 σ) (RO σ fun v => v.toInt = -1 ∧ (∀ i : Nat, i < m → ¬ σ.2.1 24 (6 * p + i) = x2) ∨ ∃ i : Nat, i < m ∧ (σ.2.1 24 (6 * p + i) = x2 ∧ ∀ q : Nat, q < i → ¬ σ.2.1 24 (6 * p + q) = x2) ∧ v.toInt = 6 * (p : Int) + i) := by
  intro f
  induction f with
  | zero => intro k x6 h1 h2 h3; omega
  | succ f ih =>
    intro k x4 h4 hk hf hn
    rw [f_X5_recordNamed_3]
    unfold f_X5_recordsOf f_X5_recordName f_X5_isRecord
    have lm := li_m1
    have l0 := li_0
    have l1 := li_1
    have l6 := li_6
    have l36 : (36 : Int32).toInt = 36 := by decide
    have np1 : x1.toNatClampNeg = p := nC h1
    have e6 : (x1 * 6).toInt = 6 * x1.toInt := by
      rw [Int32.mul_comm]
      exact mlE (k := 6) (y := x1) 6 l6 (by omega) (by omega)
    have e := il_addE (x := x1 * 6) (y := x4) (by omega) (by omega)
    have e1 := il_addE (x := x4) (y := 1) (by omega) (by omega)
    have np : (x1 * 6 + x4).toNatClampNeg = 6 * p + k := nC (by omega)
    refine OK.bndR (s := σ) (Q := fun v => v = σ.1 21 p) ?_ (fun v hv => ?_)
    · refine OK.ilt (fun h => by omega) (fun _ => ?_)
      refine OK.ile (fun h => by omega) (fun _ => ?_)
      refine OK.grd ⟨by omega, by omega⟩ ?_
      rw [np1]
      exact OK.roret rfl
    dsimp only
    rw [hv]
    refine OK.ile (fun h => OK.roret (.inl ⟨lm, fun i hi => hn i (by omega)⟩)) (fun h => ?_)
    refine OK.bndR (s := σ) (Q := fun v => v = σ.2.1 24 (6 * p + k)) ?_ (fun v2 hv2 => ?_)
    · refine OK.bndR (s := σ) (Q := fun v => v.toInt = 1) ?_ (fun v3 hv3 => ?_)
      · refine OK.ilt (fun h => by omega) (fun _ => ?_)
        exact OK.ile (fun h => by omega) (fun _ => OK.roret l1)
      dsimp only
      refine OK.ieq (fun h => by omega) (fun _ => ?_)
      refine OK.grd ⟨by omega, by omega⟩ ?_
      rw [np]
      exact OK.roret rfl
    dsimp only
    rw [hv2]
    refine OK.ite (fun h9 => ?_) (fun h9 => ?_)
    · rw [lg_cmp_eq] at h9
      exact OK.roret (.inr ⟨k, by omega, ⟨h9, hn⟩, by omega⟩)
    · rw [lg_cmp_eq] at h9
      refine ih (k + 1) (x4 + 1) (by omega) (by omega) (by omega) (fun i hi => ?_)
      by_cases e9 : i = k
      · rw [e9]; exact h9
      · exact hn i (by omega)
theorem a_recordNamed (p0 : Int32) (p1 : Int64) (σ : ST) (p m : Nat) (hp : p < 6) (h0 : p0.toInt = p) (hm : (σ.1 21 p).toInt = m) (hm6 : m ≤ 6) : OK (f_X5_recordNamed 20 p0 p1 σ) (RO σ fun v => v.toInt = -1 ∧ (∀ i : Nat, i < m → ¬ σ.2.1 24 (6 * p + i) = p1) ∨ ∃ i : Nat, i < m ∧ (σ.2.1 24 (6 * p + i) = p1 ∧ ∀ q : Nat, q < i → ¬ σ.2.1 24 (6 * p + q) = p1) ∧ v.toInt = 6 * (p : Int) + i) := by
  have lu := FUi
  unfold f_X5_recordNamed
  exact a_recordNamed_3 p0 p1 σ p m hp h0 hm hm6 FU 0 0 li_0 (by omega) (by omega) (fun i hi => by omega)
theorem bx_recordOf_3 (x1 : Int32) (x2 : Int64) (τ : ST) (p m : Nat) (hp : p < 12) (h1 : x1.toInt = p) (hm : (τ.1 8 p).toInt = m) (hm6 : m ≤ 6) : ∀ (f k : Nat) (x4 : Int32), x4.toInt = k → k ≤ m → m < f + k → (∀ i : Nat, i < k → ¬ τ.2.1 9 (6 * p + i) = x2) → OK (f_X11_recordOf_3 f x1 x2 x4 τ) (RO τ fun v => v.toInt = -1 ∧ (∀ i : Nat, i < m → ¬ τ.2.1 9 (6 * p + i) = x2) ∨ ∃ i : Nat, i < m ∧ (τ.2.1 9 (6 * p + i) = x2 ∧ ∀ q : Nat, q < i → ¬ τ.2.1 9 (6 * p + q) = x2) ∧ v.toInt = i) := by
  intro f
  induction f with
  | zero => intro k x6 h1 h2 h3; omega
  | succ f ih =>
    intro k x4 h4 hk hf hn
    rw [f_X11_recordOf_3]
    have lm := li_m1
    have l1 := li_1
    have l6 := li_6
    have nr : x1.toNatClampNeg = p := nC h1
    refine OK.grd ⟨by omega, by omega⟩ ?_
    rw [nr]
    refine OK.ile (fun h => OK.roret (.inl ⟨lm, fun i hi => hn i (by omega)⟩)) (fun h => ?_)
    have e6 := mlE (k := 6) (y := x1) 6 l6 (by omega) (by omega)
    have e := il_addE (x := 6 * x1) (y := x4) (by omega) (by omega)
    have e1 := il_addE (x := x4) (y := 1) (by omega) (by omega)
    have np : (6 * x1 + x4).toNatClampNeg = 6 * p + k := nC (by omega)
    refine OK.grd ⟨by omega, by omega⟩ ?_
    rw [np]
    refine OK.ite (fun h9 => ?_) (fun h9 => ?_)
    · rw [lg_cmp_eq] at h9
      exact OK.roret (.inr ⟨k, by omega, ⟨h9, hn⟩, h4⟩)
    · rw [lg_cmp_eq] at h9
      refine ih (k + 1) (x4 + 1) (by omega) (by omega) (by omega) (fun i hi => ?_)
      by_cases e9 : i = k
      · rw [e9]; exact h9
      · exact hn i (by omega)
theorem bx_recordOf (p0 : Int32) (p1 : Int64) (τ : ST) (p m : Nat) (hp : p < 12) (h0 : p0.toInt = p) (hm : (τ.1 8 p).toInt = m) (hm6 : m ≤ 6) : OK (f_X11_recordOf p0 p1 τ) (RO τ fun v => v.toInt = -1 ∧ (∀ i : Nat, i < m → ¬ τ.2.1 9 (6 * p + i) = p1) ∨ ∃ i : Nat, i < m ∧ (τ.2.1 9 (6 * p + i) = p1 ∧ ∀ q : Nat, q < i → ¬ τ.2.1 9 (6 * p + q) = p1) ∧ v.toInt = i) := by
  have lu := FUi
  unfold f_X11_recordOf
  exact bx_recordOf_3 p0 p1 τ p m hp h0 hm hm6 FU 0 0 li_0 (by omega) (by omega) (fun i hi => by omega)
/-! a literal: both see the same one -/
theorem TK.bw {σ τ : ST} (h : TK σ τ) (h1 : ¬ (σ.1 2 4).toInt = 1) : ((τ.1 0 6).toInt = 2 ↔ (σ.1 2 4).toInt = 4) ∧ ((τ.1 0 6).toInt = 3 ↔ (σ.1 2 4).toInt = 5) ∧ ((σ.1 2 4).toInt = 4 → σ.1 2 10 = τ.1 0 10 ∧ ((σ.1 2 9).toInt = 1 ∧ τ.2.1 0 9 = -(σ.2.1 2 8) ∨ (σ.1 2 9).toInt = 0 ∧ τ.2.1 0 9 = σ.2.1 2 8)) ∧ ((¬ (σ.1 2 4).toInt = 0 ) → σ.1 2 3 = τ.1 0 5) := by
  obtain ⟨_, h | h | h | h | h | h⟩ := h
  · exact ⟨by omega, by omega, fun h9 => by omega, fun h9 => by omega⟩
  · exact absurd h.1 h1
  · have hk : (σ.1 2 4).toInt = 2 ∨ (σ.1 2 4).toInt = 3 := by
      rcases h.2.2.2.2 with ⟨a, _⟩ | ⟨a, _⟩
      · exact .inl a
      · exact .inr a
    have h6 := h.1
    have h3 := h.2.2.1
    clear h
    exact ⟨by omega, by omega, fun h9 => by omega, fun _ => h3⟩
  · obtain ⟨a, b, _, c, d, e⟩ := h
    exact ⟨by omega, by omega, fun _ => ⟨d, e⟩, fun _ => c⟩
  · obtain ⟨a, b, _, c⟩ := h
    exact ⟨by omega, by omega, fun h9 => by omega, fun _ => c⟩
  · obtain ⟨a, b, _, c⟩ := h
    exact ⟨by omega, by omega, fun h9 => by omega, fun _ => c⟩
theorem TK.sg {σ τ : ST} (h : TK σ τ) {c : Int} (hc : c = 123 ∨ c = 125 ∨ c = 91 ∨ c = 93 ∨ c = 44 ∨ c = 59) : (τ.1 0 13).toInt = c ↔ (σ.1 2 4).toInt = c := by
  obtain ⟨_, h | h | h | h | h | h⟩ := h
  · omega
  · have a := h.1
    have b := h.2.1
    clear h
    omega
  · have b := h.2.1
    have hk : (σ.1 2 4).toInt = 2 ∨ (σ.1 2 4).toInt = 3 := by
      rcases h.2.2.2.2 with ⟨a, _⟩ | ⟨a, _⟩
      · exact .inl a
      · exact .inr a
    clear h
    omega
  · have a := h.1
    have b := h.2.2.1
    clear h
    omega
  · have a := h.1
    have b := h.2.2.1
    clear h
    omega
  · have a := h.1
    have b := h.2.2.1
    omega
theorem a_beginsLiteral (σ τ : ST) (h : TK σ τ) : OK (f_X6_beginsLiteral σ) (RO σ fun v => v.toInt = 0 ∧ ((σ.1 2 4).toInt = 1 ∨ ¬ LT_ τ) ∨ v.toInt = 1 ∧ ¬ (σ.1 2 4).toInt = 1 ∧ LT_ τ) := by
  unfold f_X6_beginsLiteral f_X6_beginsLiteral_52
  have l0 := li_0
  have l1 := li_1
  have l4 := li_4
  have l5 := li_5
  have l7 := li_7
  have l13 : (13 : Int32).toInt = 13 := by decide
  have l14 : (14 : Int32).toInt = 14 := by decide
  have l91 : (91 : Int32).toInt = 91 := by decide
  have k7 : W_ τ v_none ↔ _ := h.kw (k := 7) (by omega)
  have k13 : W_ τ v_yes ↔ _ := h.kw (k := 13) (by omega)
  have k14 : W_ τ v_no ↔ _ := h.kw (k := 14) (by omega)
  have s91 := h.sg (c := 91) (by omega)
  refine OK.ieq (fun h4 => OK.roret (.inr ⟨l1, by omega, ?_⟩)) (fun h4 => ?_)
  · exact .inr (.inr (.inr (.inl ((h.bw (by omega)).1.mpr (by omega)))))
  refine OK.ieq (fun h5 => OK.roret (.inr ⟨l1, by omega, ?_⟩)) (fun h5 => ?_)
  · exact .inr (.inr (.inr (.inr (.inl ((h.bw (by omega)).2.1.mpr (by omega))))))
  refine OK.ieq (fun h9 => OK.roret (.inr ⟨l1, by omega, ?_⟩)) (fun h9 => ?_)
  · exact .inr (.inr (.inr (.inr (.inr (s91.mpr (by omega))))))
  refine OK.bndR (a_isKeyword 7 σ τ h (k := 7) (by omega) l7) (fun v hv => ?_)
  dsimp only
  refine OK.ieq (fun hv0 => ?_) (fun hv1 => ?_)
  rotate_left
  · have hw : W_ τ v_none := by
      rcases hv with hv | hv
      · exact absurd hv.1 hv1
      · exact hv.2
    exact OK.roret (.inr ⟨l1, by have := (k7.mp hw).1; omega, .inl hw⟩)
  have n7 : ¬ W_ τ v_none := by
    rcases hv with hv | hv
    · exact hv.2
    · have := hv.1; clear hv; omega
  refine OK.bndR (a_isKeyword 13 σ τ h (k := 13) (by omega) l13) (fun v2 hv2 => ?_)
  dsimp only
  refine OK.ieq (fun hv0' => ?_) (fun hv1 => ?_)
  rotate_left
  · have hw : W_ τ v_yes := by
      rcases hv2 with hv | hv
      · exact absurd hv.1 hv1
      · exact hv.2
    exact OK.roret (.inr ⟨l1, by have := (k13.mp hw).1; omega, .inr (.inl hw)⟩)
  have n13 : ¬ W_ τ v_yes := by
    rcases hv2 with hv | hv
    · exact hv.2
    · have := hv.1; clear hv; omega
  refine OK.bndR (a_isKeyword 14 σ τ h (k := 14) (by omega) l14) (fun v3 hv3 => ?_)
  dsimp only
  refine OK.ieq (fun hv0'' => ?_) (fun hv1 => ?_)
  rotate_left
  · have hw : W_ τ v_no := by
      rcases hv3 with hv | hv
      · exact absurd hv.1 hv1
      · exact hv.2
    exact OK.roret (.inr ⟨l1, by have := (k14.mp hw).1; omega, .inr (.inr (.inl hw))⟩)
  have n14 : ¬ W_ τ v_no := by
    rcases hv3 with hv | hv
    · exact hv.2
    · have := hv.1; clear hv; omega
  refine OK.roret (.inl ⟨l0, ?_⟩)
  by_cases e1 : (σ.1 2 4).toInt = 1
  · exact .inl e1
  · refine .inr (fun hl => ?_)
    have bw := h.bw e1
    rcases hl with hl | hl | hl | hl | hl | hl
    · exact n7 hl
    · exact n13 hl
    · exact n14 hl
    · have := bw.1.mp hl; omega
    · have := bw.2.1.mp hl; omega
    · have := s91.mp hl; omega
/-! a literal fits a sort: both say the same -/
theorem a_isInt (p0 : Int64) (σ : ST) : OK (f_X10_isInt p0 σ) (RO σ fun v => v.toInt = 0 ∧ ¬ (-2147483648 ≤ p0.toInt ∧ p0.toInt ≤ 2147483647) ∨ v.toInt = 1 ∧ -2147483648 ≤ p0.toInt ∧ p0.toInt ≤ 2147483647) := by
  unfold f_X10_isInt
  have lt_0 := li_0
  have lt_1 := li_1
  have a1 : (-2147483648 : Int64).toInt = -2147483648 := by decide
  have a2 : (2147483647 : Int64).toInt = 2147483647 := by decide
  refine OK.ite (fun h => ?_) (fun h => OK.ite (fun k => ?_) (fun k => ?_))
  · have := Int64.lt_iff_toInt_lt.mp ((lg_cmp_lt _ _).mp h)
    exact OK.roret (by omega)
  · have := Int64.lt_iff_toInt_lt.mp ((lg_cmp_gt _ _).mp k)
    exact OK.roret (by omega)
  · rw [lg_cmp_lt, Int64.lt_iff_toInt_lt] at h
    rw [lg_cmp_gt, Int64.lt_iff_toInt_lt] at k
    exact OK.roret (by omega)
theorem ft_0 {τ : ST} : FT_ τ 0 ↔ (W_ τ v_none) := by
  unfold FT_
  constructor
  · intro h
    rcases h with h | h | h | h | h | h | h | h
    · exact h.2
    · exact absurd h.1 (by decide)
    · exact absurd h.1 (by decide)
    · exact absurd h.1 (by decide)
    · exact absurd h.1 (by decide)
    · exact absurd h.1 (by decide)
    · exact absurd h.1 (by decide)
    · exact absurd h.1 (by decide)
  · intro h
    exact .inl ⟨rfl, h⟩
theorem ft_1 {τ : ST} : FT_ τ 1 ↔ (W_ τ v_yes ∨ W_ τ v_no) := by
  unfold FT_
  constructor
  · intro h
    rcases h with h | h | h | h | h | h | h | h
    · exact absurd h.1 (by decide)
    · exact h.2
    · exact absurd h.1 (by decide)
    · exact absurd h.1 (by decide)
    · exact absurd h.1 (by decide)
    · exact absurd h.1 (by decide)
    · exact absurd h.1 (by decide)
    · exact absurd h.1 (by decide)
  · intro h
    exact .inr (.inl ⟨rfl, h⟩)
theorem ft_2 {τ : ST} : FT_ τ 2 ↔ ((τ.1 0 6).toInt = 2 ∧ (τ.1 0 10).toInt = 0 ∧ -2147483648 ≤ (τ.2.1 0 9).toInt ∧ (τ.2.1 0 9).toInt ≤ 2147483647) := by
  unfold FT_
  constructor
  · intro h
    rcases h with h | h | h | h | h | h | h | h
    · exact absurd h.1 (by decide)
    · exact absurd h.1 (by decide)
    · exact h.2
    · exact absurd h.1 (by decide)
    · exact absurd h.1 (by decide)
    · exact absurd h.1 (by decide)
    · exact absurd h.1 (by decide)
    · exact absurd h.1 (by decide)
  · intro h
    exact .inr (.inr (.inl ⟨rfl, h⟩))
theorem ft_3 {τ : ST} : FT_ τ 3 ↔ ((τ.1 0 6).toInt = 2 ∧ (τ.1 0 10).toInt = 0) := by
  unfold FT_
  constructor
  · intro h
    rcases h with h | h | h | h | h | h | h | h
    · exact absurd h.1 (by decide)
    · exact absurd h.1 (by decide)
    · exact absurd h.1 (by decide)
    · exact h.2
    · exact absurd h.1 (by decide)
    · exact absurd h.1 (by decide)
    · exact absurd h.1 (by decide)
    · exact absurd h.1 (by decide)
  · intro h
    exact .inr (.inr (.inr (.inl ⟨rfl, h⟩)))
theorem ft_4 {τ : ST} : FT_ τ 4 ↔ ((τ.1 0 6).toInt = 2) := by
  unfold FT_
  constructor
  · intro h
    rcases h with h | h | h | h | h | h | h | h
    · exact absurd h.1 (by decide)
    · exact absurd h.1 (by decide)
    · exact absurd h.1 (by decide)
    · exact absurd h.1 (by decide)
    · exact h.2
    · exact absurd h.1 (by decide)
    · exact absurd h.1 (by decide)
    · exact absurd h.1 (by decide)
  · intro h
    exact .inr (.inr (.inr (.inr (.inl ⟨rfl, h⟩))))
theorem ft_5 {τ : ST} : FT_ τ 5 ↔ ((τ.1 0 6).toInt = 3) := by
  unfold FT_
  constructor
  · intro h
    rcases h with h | h | h | h | h | h | h | h
    · exact absurd h.1 (by decide)
    · exact absurd h.1 (by decide)
    · exact absurd h.1 (by decide)
    · exact absurd h.1 (by decide)
    · exact absurd h.1 (by decide)
    · exact h.2
    · exact absurd h.1 (by decide)
    · exact absurd h.1 (by decide)
  · intro h
    exact .inr (.inr (.inr (.inr (.inr (.inl ⟨rfl, h⟩)))))
theorem ft_6 {τ : ST} : FT_ τ 6 ↔ ((τ.1 0 13).toInt = 91) := by
  unfold FT_
  constructor
  · intro h
    rcases h with h | h | h | h | h | h | h | h
    · exact absurd h.1 (by decide)
    · exact absurd h.1 (by decide)
    · exact absurd h.1 (by decide)
    · exact absurd h.1 (by decide)
    · exact absurd h.1 (by decide)
    · exact absurd h.1 (by decide)
    · exact h.2
    · exact absurd h.1 (by decide)
  · intro h
    exact .inr (.inr (.inr (.inr (.inr (.inr (.inl ⟨rfl, h⟩))))))
theorem ft_7 {τ : ST} : FT_ τ 7 ↔ ((τ.1 0 13).toInt = 123) := by
  unfold FT_
  constructor
  · intro h
    rcases h with h | h | h | h | h | h | h | h
    · exact absurd h.1 (by decide)
    · exact absurd h.1 (by decide)
    · exact absurd h.1 (by decide)
    · exact absurd h.1 (by decide)
    · exact absurd h.1 (by decide)
    · exact absurd h.1 (by decide)
    · exact absurd h.1 (by decide)
    · exact h.2
  · intro h
    exact .inr (.inr (.inr (.inr (.inr (.inr (.inr (⟨rfl, h⟩)))))))
theorem ft_8 {τ : ST} {s : Int} (hs : ¬ (0 ≤ s ∧ s ≤ 7)) : ¬ FT_ τ s := by
  unfold FT_
  intro h
  rcases h with h | h | h | h | h | h | h | h
  · exact absurd h.1 (by omega)
  · exact absurd h.1 (by omega)
  · exact absurd h.1 (by omega)
  · exact absurd h.1 (by omega)
  · exact absurd h.1 (by omega)
  · exact absurd h.1 (by omega)
  · exact absurd h.1 (by omega)
  · exact absurd h.1 (by omega)
theorem a_fits (p0 : Int32) (σ τ : ST) (h : TK σ τ) (h1 : ¬ (σ.1 2 4).toInt = 1) : OK (f_X6_fits p0 σ) (RO σ fun v => v.toInt = 0 ∧ ¬ FT_ τ p0.toInt ∨ v.toInt = 1 ∧ FT_ τ p0.toInt) := by
  unfold f_X6_fits f_X6_fits_73
  have l0 := li_0
  have l1 := li_1
  have l2 := li_2
  have l3 := li_3
  have l4 := li_4
  have l5 := li_5
  have l6 := li_6
  have l7 := li_7
  have l13 : (13 : Int32).toInt = 13 := by decide
  have l14 : (14 : Int32).toInt = 14 := by decide
  have l91 : (91 : Int32).toInt = 91 := by decide
  have l123 : (123 : Int32).toInt = 123 := by decide
  obtain ⟨w1, w2, w3, _⟩ := h.bw h1
  have s91 := h.sg (c := 91) (by omega)
  have s123 := h.sg (c := 123) (by omega)
  refine OK.ieq (fun e => ?_) (fun e0 => ?_)
  · rw [e, l0, ft_0]
    refine OK.bndR (a_isKeyword 7 σ τ h (k := 7) (by omega) l7) (fun v hv => ?_)
    dsimp only
    exact OK.grd (b01 (hv.elim (fun h => .inl h.1) (fun h => .inr h.1))) (OK.roret hv)
  refine OK.ieq (fun e => ?_) (fun e1 => ?_)
  · rw [e, l1, ft_1]
    refine OK.bndR (a_isKeyword 13 σ τ h (k := 13) (by omega) l13) (fun v hv => ?_)
    dsimp only
    refine OK.ieq (fun hv0 => ?_) (fun hv1 => ?_)
    · have n13 : ¬ W_ τ v_yes := by
        rcases hv with hv | hv
        · exact hv.2
        · have := hv.1; clear hv; omega
      refine OK.bndR (a_isKeyword 14 σ τ h (k := 14) (by omega) l14) (fun v2 hv2 => ?_)
      dsimp only
      refine OK.ieq (fun hv0' => OK.roret (.inl ⟨l0, ?_⟩)) (fun hv1 => OK.roret (.inr ⟨l1, .inr ?_⟩))
      · rcases hv2 with hv2 | hv2
        · exact fun h9 => h9.elim n13 hv2.2
        · have := hv2.1; clear hv hv2; omega
      · rcases hv2 with hv2 | hv2
        · exact absurd hv2.1 hv1
        · exact hv2.2
    · refine OK.roret (.inr ⟨l1, .inl ?_⟩)
      rcases hv with hv | hv
      · exact absurd hv.1 hv1
      · exact hv.2
  refine OK.ieq (fun e => ?_) (fun e2 => ?_)
  · rw [e, l2, ft_2]
    refine OK.ieq (fun k4 => ?_) (fun k4 => OK.roret (.inl ⟨l0, fun h9 => by have := w1.mp h9.1; omega⟩))
    obtain ⟨x10, x9⟩ := w3 (by omega)
    have x10' : (σ.1 2 10).toInt = (τ.1 0 10).toInt := by rw [x10]
    refine OK.ieq (fun k10 => ?_) (fun k10 => OK.roret (.inl ⟨l0, fun h9 => by have := h9.2.1; omega⟩))
    unfold f_X6_whole
    have fin : ∀ y : Int64, y = τ.2.1 0 9 → OK ((f_X10_isInt y σ).bind fun q17 => if q17.1 = 0 then some ((0 : Int32), q17.2) else some ((1 : Int32), q17.2)) (RO σ fun v => v.toInt = 0 ∧ ¬ ((τ.1 0 6).toInt = 2 ∧ (τ.1 0 10).toInt = 0 ∧ -2147483648 ≤ (τ.2.1 0 9).toInt ∧ (τ.2.1 0 9).toInt ≤ 2147483647) ∨ v.toInt = 1 ∧ ((τ.1 0 6).toInt = 2 ∧ (τ.1 0 10).toInt = 0 ∧ -2147483648 ≤ (τ.2.1 0 9).toInt ∧ (τ.2.1 0 9).toInt ≤ 2147483647)) := fun y hy => by
      subst hy
      refine OK.bndR (a_isInt _ σ) (fun v hv => ?_)
      dsimp only
      have t2 := w1.mpr (by omega)
      exact OK.ieq (fun h9 => OK.roret (.inl ⟨l0, by omega⟩)) (fun h9 => OK.roret (.inr ⟨l1, by omega⟩))
    by_cases hneg : σ.1 2 9 = 0
    · rw [if_pos hneg]
      have hneg' : (σ.1 2 9).toInt = 0 := by rw [hneg]; exact l0
      refine fin _ ?_
      rcases x9 with x9 | x9
      · have := x9.1; omega
      · exact x9.2.symm
    · rw [if_neg hneg]
      refine fin _ ?_
      rcases x9 with x9 | x9
      · exact x9.2.symm
      · exact absurd (Int32.toInt_inj.mp (by rw [x9.1, l0])) hneg
  refine OK.ieq (fun e => ?_) (fun e3 => ?_)
  · rw [e, l3, ft_3]
    refine OK.ieq (fun k4 => ?_) (fun k4 => OK.roret (.inl ⟨l0, fun h9 => by have := w1.mp h9.1; omega⟩))
    obtain ⟨x10, _⟩ := w3 (by omega)
    have x10' : (σ.1 2 10).toInt = (τ.1 0 10).toInt := by rw [x10]
    exact OK.ieq (fun k10 => OK.roret (.inr ⟨l1, w1.mpr (by omega), by omega⟩)) (fun k10 => OK.roret (.inl ⟨l0, fun h9 => by have := h9.2; omega⟩))
  refine OK.ieq (fun e => ?_) (fun e4 => ?_)
  · rw [e, l4, ft_4]
    exact OK.ieq (fun k4 => OK.roret (.inr ⟨l1, w1.mpr (by omega)⟩)) (fun k4 => OK.roret (.inl ⟨l0, fun h9 => by have := w1.mp h9; omega⟩))
  refine OK.ieq (fun e => ?_) (fun e5 => ?_)
  · rw [e, l5, ft_5]
    exact OK.ieq (fun k4 => OK.roret (.inr ⟨l1, w2.mpr (by omega)⟩)) (fun k4 => OK.roret (.inl ⟨l0, fun h9 => by have := w2.mp h9; omega⟩))
  refine OK.ieq (fun e => ?_) (fun e6 => ?_)
  · rw [e, l6, ft_6]
    exact OK.ieq (fun k4 => OK.roret (.inr ⟨l1, s91.mpr (by omega)⟩)) (fun k4 => OK.roret (.inl ⟨l0, fun h9 => by have := s91.mp h9; omega⟩))
  refine OK.ieq (fun e => ?_) (fun e7 => ?_)
  · rw [e, l7, ft_7]
    exact OK.ieq (fun k4 => OK.roret (.inr ⟨l1, s123.mpr (by omega)⟩)) (fun k4 => OK.roret (.inl ⟨l0, fun h9 => by have := s123.mp h9; omega⟩))
  exact OK.roret (.inl ⟨l0, ft_8 (by omega)⟩)
/-! the class's stores while a field is read -/
theorem i88 {p0 p1 : Int32} {r j : Nat} (h0 : p0.toInt = r) (h1 : p1.toInt = j) (hr : r < 36) (hj : j < 8) : (p0 * 8 + p1).toInt = 8 * (r : Int) + j ∧ (p0 * 8 + p1).toNatClampNeg = 8 * r + j := by
  have l8 := li_8
  have e8 : (p0 * 8).toInt = 8 * p0.toInt := by
    rw [Int32.mul_comm]
    exact mlE (k := 8) (y := p0) 8 l8 (by omega) (by omega)
  have e := il_addE (x := p0 * 8) (y := p1) (by omega) (by omega)
  exact ⟨by omega, nC (by omega)⟩
theorem a_isFieldE (p0 p1 : Int32) (σ : ST) {r j : Nat} (h0 : p0.toInt = r) (h1 : p1.toInt = j) (hr : r < 36) (hj : j < 8) : ∃ v : Int32, f_X5_isFieldOf p0 p1 σ = some (v, σ) ∧ ¬ v = 0 := by
  obtain ⟨⟨v, s⟩, e, e2, hv⟩ := a_isFieldOf p0 p1 σ ⟨by omega, by omega⟩ ⟨by omega, by omega⟩
  have e2 : s = σ := e2
  subst e2
  have hv : v.toInt = 1 := hv
  have l0 := li_0
  exact ⟨v, e, fun e9 => by rw [e9] at hv; omega⟩
theorem a_setType (p0 p1 p2 : Int32) (σ : ST) {r j : Nat} (h0 : p0.toInt = r) (h1 : p1.toInt = j) (hr : r < 36) (hj : j < 8) : f_X5_setType 20 p0 p1 p2 σ = some (stI σ 29 (8 * r + j) p2) := by
  unfold f_X5_setType
  obtain ⟨v, e, hv⟩ := a_isFieldE p0 p1 σ h0 h1 hr hj
  obtain ⟨i1, i2⟩ := i88 h0 h1 hr hj
  rw [e]
  show (if v = 0 then some σ else if 0 ≤ (p0 * 8 + p1).toInt ∧ (p0 * 8 + p1).toInt < 288 then some (stI σ (20 + 9) (p0 * 8 + p1).toNatClampNeg p2) else none) = _
  rw [if_neg hv, if_pos ⟨by omega, by omega⟩, i2]
theorem a_setFormerName (p0 p1 : Int32) (p2 : Int64) (σ : ST) {r j : Nat} (h0 : p0.toInt = r) (h1 : p1.toInt = j) (hr : r < 36) (hj : j < 8) : f_X5_setFormerName 20 p0 p1 p2 σ = some (stL σ 28 (8 * r + j) p2) := by
  unfold f_X5_setFormerName
  obtain ⟨v, e, hv⟩ := a_isFieldE p0 p1 σ h0 h1 hr hj
  obtain ⟨i1, i2⟩ := i88 h0 h1 hr hj
  rw [e]
  show (if v = 0 then some σ else if 0 ≤ (p0 * 8 + p1).toInt ∧ (p0 * 8 + p1).toInt < 288 then some (stL σ (20 + 8) (p0 * 8 + p1).toNatClampNeg p2) else none) = _
  rw [if_neg hv, if_pos ⟨by omega, by omega⟩, i2]
theorem a_fieldName (p0 p1 : Int32) (σ : ST) {r j : Nat} (h0 : p0.toInt = r) (h1 : p1.toInt = j) (hr : r < 36) (hj : j < 8) : f_X5_fieldName 20 p0 p1 σ = some (σ.2.1 27 (8 * r + j), σ) := by
  unfold f_X5_fieldName
  obtain ⟨v, e, hv⟩ := a_isFieldE p0 p1 σ h0 h1 hr hj
  obtain ⟨i1, i2⟩ := i88 h0 h1 hr hj
  rw [e]
  show (if v = 0 then some (0, σ) else if 0 ≤ (p0 * 8 + p1).toInt ∧ (p0 * 8 + p1).toInt < 288 then some (σ.2.1 (20 + 7) (p0 * 8 + p1).toNatClampNeg, σ) else none) = _
  rw [if_neg hv, if_pos ⟨by omega, by omega⟩, i2]
theorem a_typeOf (p0 p1 : Int32) (σ : ST) {r j : Nat} (h0 : p0.toInt = r) (h1 : p1.toInt = j) (hr : r < 36) (hj : j < 8) : f_X5_typeOf 20 p0 p1 σ = some (σ.1 29 (8 * r + j), σ) := by
  unfold f_X5_typeOf
  obtain ⟨v, e, hv⟩ := a_isFieldE p0 p1 σ h0 h1 hr hj
  obtain ⟨i1, i2⟩ := i88 h0 h1 hr hj
  rw [e]
  show (if v = 0 then some ((-1), σ) else if 0 ≤ (p0 * 8 + p1).toInt ∧ (p0 * 8 + p1).toInt < 288 then some (σ.1 (20 + 9) (p0 * 8 + p1).toNatClampNeg, σ) else none) = _
  rw [if_neg hv, if_pos ⟨by omega, by omega⟩, i2]
/-- the first choice of a type, by the rows of both -/
theorem a_firstChoice (p0 : Int32) (σ : ST) (c : Nat) (h : p0.toInt = c) (hc : c < 262) (hn : (c : Int) < (σ.1 20 1).toInt) : OK (f_X5_firstChoice 20 p0 σ) (RO σ fun v => (σ.1 31 c).toInt = 8 ∧ v = σ.1 32 c ∨ ¬ (σ.1 31 c).toInt = 8 ∧ v = p0) := by
  unfold f_X5_firstChoice f_X5_innerOf
  have l0 := li_0
  have l8 := li_8
  have nc : p0.toNatClampNeg = c := nC h
  refine OK.bndR (a_sortOf p0 σ c h hc hn) (fun v hv => ?_)
  dsimp only
  rw [hv]
  refine OK.ieq (fun h8 => ?_) (fun h8 => OK.roret (.inr ⟨by omega, rfl⟩))
  refine OK.bndR (s := σ) (Q := fun u => u = σ.1 32 c) ?_ (fun u hu => OK.roret (.inl ⟨by omega, hu⟩))
  refine OK.bndR (a_isType p0 σ c h hc hn) (fun w hw => ?_)
  dsimp only
  refine OK.ieq (fun h9 => by omega) (fun _ => ?_)
  refine OK.grd ⟨by omega, by omega⟩ ?_
  rw [nc]
  exact OK.roret rfl
/-! the class: a field is begun; its else is kept -/
theorem a_fieldsOf (p0 : Int32) (σ : ST) {r : Nat} (h0 : p0.toInt = r) (hr : r < 36) : f_X5_fieldsOf 20 p0 σ = some (σ.1 23 r, σ) := by
  unfold f_X5_fieldsOf f_X5_isRecord
  have l0 := li_0
  have l36 : (36 : Int32).toInt = 36 := by decide
  have nr : p0.toNatClampNeg = r := nC h0
  rw [if_neg (by rw [Int32.lt_iff_toInt_lt]; omega), if_neg (by rw [Int32.le_iff_toInt_le]; omega)]
  show (if (1 : Int32) = 0 then some (0, σ) else if 0 ≤ p0.toInt ∧ p0.toInt < 36 then some (σ.1 (20 + 3) p0.toNatClampNeg, σ) else none) = _
  rw [if_neg (by decide), if_pos ⟨by omega, by omega⟩, nr]
theorem a_addField (p0 : Int32) (p1 : Int64) (σ : ST) {r j : Nat} (h0 : p0.toInt = r) (hj : (σ.1 23 r).toInt = j) (hr : r < 36) (hj8 : j < 8) : OK (f_X5_addField 20 p0 p1 σ) (fun a => (∀ c, c ∉ [23, 29] → a.1 c = σ.1 c) ∧ (∀ c, c ∉ [27, 28, 30] → a.2.1 c = σ.2.1 c) ∧ (a.1 23 r).toInt = j + 1 ∧ (∀ i, i ≠ r → a.1 23 i = σ.1 23 i) ∧ a.2.1 27 (8 * r + j) = p1 ∧ (∀ i, i ≠ 8 * r + j → a.2.1 27 i = σ.2.1 27 i) ∧ (∀ i, i ≠ 8 * r + j → a.1 29 i = σ.1 29 i) ∧ a.2.1 28 (8 * r + j) = 0 ∧ (∀ i, i ≠ 8 * r + j → a.2.1 28 i = σ.2.1 28 i ∧ a.2.1 30 i = σ.2.1 30 i)) := by
  unfold f_X5_addField
  have l1 := li_1
  have nr : p0.toNatClampNeg = r := nC h0
  obtain ⟨v, e, hv⟩ := a_isFieldE p0 (σ.1 23 r) σ h0 hj hr hj8
  obtain ⟨i1, i2⟩ := i88 h0 hj hr hj8
  have e1 := il_addE (x := σ.1 23 r) (y := 1) (by omega) (by omega)
  rw [a_fieldsOf p0 σ h0 hr]
  show OK ((f_X5_isFieldOf p0 (σ.1 23 r) σ).bind _) _
  rw [e]
  refine OK.ite (fun h => absurd h hv) (fun _ => ?_)
  refine OK.grd ⟨by show 0 ≤ (p0 * 8 + σ.1 23 r).toInt; omega, by show (p0 * 8 + σ.1 23 r).toInt < 288; omega⟩ ?_
  dsimp only
  rw [i2, nr]
  refine OK.lt (fun z6 h6 => ?_)
  refine OK.lt (fun z7 h7 => ?_)
  refine OK.grd ⟨by omega, by omega⟩ ?_
  subst h6
  subst h7
  refine OK.ret ⟨fun c hc => ?_, fun c hc => ?_, ?_, fun i hi => ?_, ?_, fun i hi => ?_, fun i hi => ?_, ?_, fun i hi => ⟨?_, ?_⟩⟩
  · simp only [List.mem_cons, List.not_mem_nil, or_false, not_or] at hc
    rw [stI_ne hc.1]
    show (stI σ 29 _ _).1 c = _
    rw [stI_ne hc.2]
  · simp only [List.mem_cons, List.not_mem_nil, or_false, not_or] at hc
    show (stL (stL (stL σ 27 _ _) 28 _ _) 30 _ _).2.1 c = _
    rw [stL_ne hc.2.2, stL_ne hc.2.1, stL_ne hc.1]
  · show (upd (σ.1 23) r (σ.1 23 r + 1) r).toInt = _
    rw [upd_at]
    omega
  · show upd (σ.1 23) r _ i = _
    rw [upd_no hi]
  · show vp_updL (σ.2.1 27) (8 * r + j) p1 (8 * r + j) = _
    rw [updL_at]
  · show vp_updL (σ.2.1 27) (8 * r + j) p1 i = _
    rw [updL_no hi]
  · show upd (σ.1 29) (8 * r + j) _ i = _
    rw [upd_no hi]
  · show vp_updL (σ.2.1 28) (8 * r + j) 0 (8 * r + j) = _
    rw [updL_at]
  · show vp_updL (σ.2.1 28) (8 * r + j) 0 i = _
    rw [updL_no hi]
  · show vp_updL (σ.2.1 30) (8 * r + j) 0 i = _
    rw [updL_no hi]
