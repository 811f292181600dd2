/-! the reference: a tree written, told, ordered -/
theorem sm_le_lt {f g : Nat → Nat} : ∀ n, (∀ c, c < n → f c ≤ g c) → sm f n ≤ sm g n := by
  intro n
  induction n with
  | zero => intro _; exact Nat.le_refl _
  | succ n ih =>
    intro h
    rw [sm, sm]
    have := h n (by omega)
    have := ih (fun c hc => h c (by omega))
    omega
/-- a level's rows have below them no more than lie from there on -/
theorem Wt_lv {S : Nat} {P : Nat → Int} {LV : Nat → Nat} (h : ∀ c : Nat, c < S → 0 ≤ P c → LV c = LV (P c).toNat + 1) : ∀ (d l : Nat), sm (fun r => if LV r = l then Wt S P d r else 0) S ≤ sm (fun r => if l ≤ LV r then 1 else 0) S := by
  intro d
  induction d with
  | zero =>
    intro l
    exact sm_le (fun c => by rw [Wt]; split <;> omega) S
  | succ d ih =>
    intro l
    have e1 : (fun r => if LV r = l then Wt S P (d + 1) r else 0) = fun r : Nat => (if LV r = l then 1 else 0) + sm (fun c => if LV r = l ∧ P c = (r : Int) then Wt S P d c else 0) S := by
      funext r
      by_cases e : LV r = l
      · rw [if_pos e, if_pos e, Wt]
        congr 1
        congr 1
        funext c
        by_cases e2 : P c = (r : Int)
        · rw [if_pos e2, if_pos ⟨e, e2⟩]
        · rw [if_neg e2, if_neg (fun h9 => e2 h9.2)]
      · rw [if_neg e, if_neg e]
        have e3 : (fun c => if LV r = l ∧ P c = (r : Int) then Wt S P d c else 0) = fun _ => 0 := by
          funext c
          rw [if_neg (fun h9 => e h9.1)]
        rw [e3, sm_zero]
    rw [e1, sm_add (f := fun r => if LV r = l then 1 else 0) (g := fun r : Nat => sm (fun c => if LV r = l ∧ P c = (r : Int) then Wt S P d c else 0) S), sm_swap (F := fun (r c : Nat) => if LV r = l ∧ P c = (r : Int) then Wt S P d c else 0)]
    have h2 : sm (fun c => sm (fun r : Nat => if LV r = l ∧ P c = (r : Int) then Wt S P d c else 0) S) S ≤ sm (fun c => if LV c = l + 1 then Wt S P d c else 0) S := by
      refine sm_le_lt S (fun c hc => ?_)
      by_cases hp : 0 ≤ P c
      · have e4 : (fun r : Nat => if LV r = l ∧ P c = (r : Int) then Wt S P d c else 0) = fun r : Nat => if P c = (r : Int) then (if LV (P c).toNat = l then Wt S P d c else 0) else 0 := by
          funext r
          by_cases e5 : P c = (r : Int)
          · have e6 : (P c).toNat = r := by omega
            rw [if_pos e5, e6]
            by_cases e7 : LV r = l
            · rw [if_pos e7, if_pos ⟨e7, e5⟩]
            · rw [if_neg e7, if_neg (fun h9 => e7 h9.1)]
          · rw [if_neg e5, if_neg (fun h9 => e5 h9.2)]
        rw [e4]
        have h3 := sm_one (P := P c) (v := if LV (P c).toNat = l then Wt S P d c else 0) S
        have h4 := h c hc hp
        by_cases e8 : LV (P c).toNat = l
        · rw [if_pos e8] at h3 ⊢
          rw [if_pos (show LV c = l + 1 by omega)]
          refine Nat.le_trans h3 ?_
          split <;> omega
        · rw [if_neg e8] at h3 ⊢
          refine Nat.le_trans h3 ?_
          split <;> exact Nat.zero_le _
      · have e4 : (fun r : Nat => if LV r = l ∧ P c = (r : Int) then Wt S P d c else 0) = fun _ => 0 := by
          funext r
          rw [if_neg (fun h9 => by have := h9.2; omega)]
        rw [e4, sm_zero]
        omega
    have h3 := ih (l + 1)
    have h4 : sm (fun r => (if LV r = l then 1 else 0) + (if l + 1 ≤ LV r then 1 else 0)) S ≤ sm (fun r => if l ≤ LV r then 1 else 0) S := sm_le (fun c => by
      by_cases e : LV c = l
      · rw [if_pos e, if_neg (by omega), if_pos (by omega)]
        omega
      · rw [if_neg e]
        by_cases e2 : l + 1 ≤ LV c
        · rw [if_pos e2, if_pos (by omega)]
          omega
        · rw [if_neg e2]
          omega) S
    rw [sm_add (f := fun r => if LV r = l then 1 else 0) (g := fun r => if l + 1 ≤ LV r then 1 else 0)] at h4
    omega
theorem Wt_all {S : Nat} {P : Nat → Int} {LV : Nat → Nat} (h : ∀ c : Nat, c < S → 0 ≤ P c → LV c = LV (P c).toNat + 1) (h0 : LV 0 = 0) (hS : 0 < S) (d : Nat) : Wt S P d 0 ≤ S := by
  have h1 := sm_at (f := fun r => if LV r = 0 then Wt S P d r else 0) S 0 hS
  have e1 : (if LV 0 = 0 then Wt S P d 0 else 0) = Wt S P d 0 := if_pos h0
  have h2 := Wt_lv h d 0
  have h3 : sm (fun r => if 0 ≤ LV r then 1 else 0) S ≤ sm (fun _ => 1) S := sm_le (fun c => by split <;> omega) S
  rw [sm_c1] at h3
  have h1 : (if LV 0 = 0 then Wt S P d 0 else 0) ≤ _ := h1
  rw [e1] at h1
  omega
abbrev wS (ρ : ST) : Nat := (ρ.1 0 46).toInt.toNat
def lft (ρ : ST) (d r : Nat) (x : Int32) : Nat := if x.toInt = -1 then 0 else Rm (wS ρ) (tP ρ) (tC ρ) d (r : Int) x.toNatClampNeg
theorem TO.nextW {ρ : ST} (h : TO ρ) {d r : Nat} {x : Int32} (hx : isC ρ r x) (h0 : ¬ x.toInt = -1) : lft ρ d r (ρ.1 30 x.toNatClampNeg) + Wt (wS ρ) (tP ρ) d x.toNatClampNeg ≤ lft ρ d r x := by
  rcases hx with hx | ⟨⟨x1, x2⟩, x3⟩
  · exact absurd hx h0
  have n1 := nN_ x1
  have n2 : ((wS ρ : Nat) : Int) = (ρ.1 0 46).toInt := Int.toNat_of_nonneg (by omega)
  have e0 : lft ρ d r x = Rm (wS ρ) (tP ρ) (tC ρ) d (r : Int) x.toNatClampNeg := if_neg h0
  rcases (h.2.1 x.toNatClampNeg (by omega)).2.2 with a | ⟨a1, a2, a3, a4⟩
  · have e1 : lft ρ d r (ρ.1 30 x.toNatClampNeg) = 0 := if_pos a
    rw [e0, e1, Nat.zero_add]
    exact Rm_last (by omega) x3
  · have a1 : 0 ≤ (ρ.1 30 x.toNatClampNeg).toInt := a1
    have n3 := nN_ a1
    have a4 : tC ρ x.toNatClampNeg < tC ρ (ρ.1 30 x.toNatClampNeg).toNatClampNeg ∨ tC ρ x.toNatClampNeg = tC ρ (ρ.1 30 x.toNatClampNeg).toNatClampNeg ∧ (ρ.1 30 x.toNatClampNeg).toInt < x.toNatClampNeg := a4
    have e1 : lft ρ d r (ρ.1 30 x.toNatClampNeg) = Rm (wS ρ) (tP ρ) (tC ρ) d (r : Int) (ρ.1 30 x.toNatClampNeg).toNatClampNeg := if_neg (by omega)
    rw [e0, e1]
    exact Rm_step (by omega) x3 (by omega)
theorem TO.firstW {ρ : ST} {d r : Nat} : 1 + lft ρ d r (ρ.1 28 r) ≤ Wt (wS ρ) (tP ρ) (d + 1) r := by
  unfold lft
  split
  · rw [Wt]; omega
  · exact Rm_all
/-- a child lies one level deeper -/
theorem NL.child {LV : Nat → Nat} {ρ : ST} (h : NL LV ρ) {r : Nat} {x : Int32} (hx : isC ρ r x) (h0 : ¬ x.toInt = -1) : (0 ≤ x.toInt ∧ x.toInt < (ρ.1 0 46).toInt) ∧ LV x.toNatClampNeg = LV r + 1 ∧ LV x.toNatClampNeg ≤ 31 := by
  rcases hx with hx | ⟨⟨x1, x2⟩, x3⟩
  · exact absurd hx h0
  have n1 := nN_ x1
  obtain ⟨a1, a2⟩ := h.2.1 x.toNatClampNeg (by omega)
  refine ⟨⟨x1, x2⟩, ?_, a1⟩
  rcases a2 with a2 | a2
  · omega
  · have e : (tP ρ x.toNatClampNeg).toNat = r := by omega
    rw [e] at a2
    exact a2.2
theorem b_writesByte (p0 : Int64) (σ : ST) (h : bI (σ.1 0 48) 0 400) : OK (f_X11_writesByte p0 σ) (RZ [31] [48, 49] σ fun t => bI (t.1 0 48) 0 400) := by
  unfold f_X11_writesByte
  have h' := h
  obtain ⟨h1, h2⟩ := h
  have lt_1 := li_1
  have lt_400 := li_400
  have e1 := il_addE (x := σ.1 0 48) (y := 1) (by omega) (by omega)
  refine OK.ieq (fun _ => OK.zret (CH.rf.o (by decide)) h') (fun hn => ?_)
  refine OK.grd ⟨by omega, by omega⟩ ?_
  exact OK.zret ((CH.rf.i (by decide) (by decide)).o (by decide)) (show bI (σ.1 0 48 + 1) 0 400 from ⟨by omega, by omega⟩)
theorem and128 {x : Int64} (h : x.toUInt64.toNat < 128) : lg_cmp (x &&& (-128)) 0 = 0 := by
  rw [lg_cmp_eq]
  refine Int64.toBitVec_inj.mp (BitVec.eq_of_toNat_eq ?_)
  show ((x.toUInt64 &&& (-128 : Int64).toUInt64)).toNat = (0 : Int64).toUInt64.toNat
  rw [UInt64.toNat_and]
  have e1 : (-128 : Int64).toUInt64.toNat = 18446744073709551488 := by decide
  have e2 : (0 : Int64).toUInt64.toNat = 0 := by decide
  rw [e1, e2]
  refine Nat.eq_of_testBit_eq (fun i => ?_)
  rw [Nat.testBit_and, Nat.zero_testBit]
  by_cases hi : i < 7
  · have : ∀ i, i < 7 → Nat.testBit 18446744073709551488 i = false := by decide
    rw [this i hi, Bool.and_false]
  · have : x.toUInt64.toNat.testBit i = false := Nat.testBit_lt_two_pow (Nat.lt_of_lt_of_le h (by
      have : 2 ^ 7 ≤ 2 ^ i := Nat.pow_le_pow_right (by decide) (by omega)
      omega))
    rw [this, Bool.false_and]
theorem shr7 {x : Int64} : ((x.toUInt64 >>> ((7 : Int32).toInt64.toUInt64 &&& Int64.toUInt64 63)).toInt64).toUInt64.toNat = x.toUInt64.toNat / 128 := by
  have e : ((7 : Int32).toInt64.toUInt64 &&& Int64.toUInt64 63) = 7 := by decide
  rw [e]
  show (x.toUInt64 >>> (7 : UInt64)).toNat = _
  rw [UInt64.toNat_shiftRight]
  have e2 : (7 : UInt64).toNat % 64 = 7 := by decide
  rw [e2, Nat.shiftRight_eq_div_pow]
theorem b_writesNumber_9 : ∀ (k n : Nat) (x3 : Int64) (σ : ST), k ≤ n → x3.toUInt64.toNat < 128 ^ (k + 1) → bI (σ.1 0 48) 0 400 → OK (f_X11_writesNumber_9 (n + 1) x3 σ) (RZ [31] [48, 49] σ fun t => bI (t.1 0 48) 0 400) := by
  intro k
  induction k with
  | zero =>
    intro n x3 σ hk hx h
    rw [f_X11_writesNumber_9, if_pos (and128 (by omega))]
    exact OK.bndZ (b_writesByte _ σ h) (fun t c ht => OK.zret c ht)
  | succ k ih =>
    intro n x3 σ hk hx h
    rw [f_X11_writesNumber_9]
    refine OK.ite (fun _ => OK.bndZ (b_writesByte _ σ h) (fun t c ht => OK.zret c ht)) (fun _ => ?_)
    refine OK.bndZ (b_writesByte _ σ h) (fun t c ht => ?_)
    refine OK.lt (fun z hz => ?_)
    obtain ⟨m, rfl⟩ : ∃ m, n = m + 1 := ⟨n - 1, by omega⟩
    have e : z.toUInt64.toNat < 128 ^ (k + 1) := by
      rw [hz, shr7]
      rw [Nat.pow_succ] at hx
      exact Nat.div_lt_of_lt_mul (by rw [Nat.mul_comm]; exact hx)
    exact OK.trZ (ih m z t (by omega) e ht) c (fun _ h => h) (fun _ h => h) (fun _ _ h => h)
theorem b_writesNumber (p0 : Int64) (σ : ST) (h : bI (σ.1 0 48) 0 400) : OK (f_X11_writesNumber p0 σ) (RZ [31] [48, 49] σ fun t => bI (t.1 0 48) 0 400) := by
  unfold f_X11_writesNumber
  refine OK.lt (fun z hz => ?_)
  have e : z.toUInt64.toNat < 128 ^ (9 + 1) := Nat.lt_of_lt_of_le (UInt64.toNat_lt _) (by decide)
  exact b_writesNumber_9 9 99999 z σ (by decide) e h
theorem p27 : ∀ k : Nat, k ≤ 12 → 27 ^ k ≤ 150094635296999121 := fun k hk => Nat.le_trans (Nat.pow_le_pow_right (by decide) hk) (by decide)
theorem b_writesText_42 : ∀ (n j : Nat) (x1 : Int32) (x2 : Int64) (x4 : Int32) (σ : ST), bI (σ.1 0 48) 0 400 → (0 ≤ x1.toInt ∧ x1.toInt < 4096) → (0 ≤ (σ.1 23 x1.toNatClampNeg).toInt ∧ (σ.1 23 x1.toNatClampNeg).toInt ≤ 12) → (0 ≤ x4.toInt ∧ x4.toInt ≤ 12 ∧ (12 : Int) - x4.toInt < n) → j ≤ 12 → x2.toInt = 27 ^ j → OK (f_X11_writesText_42 n x1 x2 x4 σ) (RZ [31] [48, 49] σ fun t => bI (t.1 0 48) 0 400) := by
  intro n
  induction n with
  | zero => intro j x1 x2 x4 σ h1 h2 h3 h4; omega
  | succ n ih =>
    intro j x1 x2 x4 σ h1 h2 h3 h4 hj hx
    rw [f_X11_writesText_42]
    unfold f_X11_writesText_87
    have lt_1 := li_1
    have lt_0 := li_0
    have a4 := il_addE (x := x4) (y := 1) (by omega) (by omega)
    have hpos : (0 : Int) < 27 ^ j := Int.pow_pos (by decide)
    have l0 := l64_0
    have l1 := l64_1
    refine OK.grd h2 ?_
    refine OK.ile (fun _ => OK.zret CH.rf h1) (fun h => ?_)
    refine OK.grd (fun h0 => by rw [h0, l0] at hx; omega) ?_
    refine OK.bndZ (b_writesByte _ σ h1) (fun t c ht => ?_)
    have e23 : t.1 23 = σ.1 23 := c.1 23 (by decide) (by decide)
    have nx : ∀ (jj : Nat) (y : Int64), jj ≤ 12 → y.toInt = 27 ^ jj → OK (f_X11_writesText_42 n x1 y (x4 + 1) t) (RZ [31] [48, 49] σ fun t => bI (t.1 0 48) 0 400) := fun jj y h5 h6 => OK.trZ (ih jj x1 y (x4 + 1) t ht h2 (by rw [e23]; exact h3) (by omega) h5 h6) c (fun _ h => h) (fun _ h => h) (fun _ _ h => h)
    have l27 : (27 : Int64).toInt = 27 := by decide
    refine OK.ite (fun hle => ?_) (fun hgt => ?_)
    · have hle := Int64.le_iff_toInt_le.mp ((lg_cmp_le _ _).mp hle)
      refine OK.grd (by decide) ?_
      refine nx 0 _ (by decide) ?_
      rw [Int64.toInt_div_of_ne_right _ _ (by decide), l1, Int.tdiv_one]
      rw [l1] at hle
      have : x2.toInt = 1 := by omega
      rw [this]
      rfl
    · rw [lg_cmp_le, Int64.le_iff_toInt_le, l1, hx] at hgt
      refine OK.grd (by decide) ?_
      cases j with
      | zero => exact absurd (by decide : (27 : Int) ^ 0 ≤ 1) hgt
      | succ j =>
        refine nx j _ (by omega) ?_
        rw [Int64.toInt_div_of_ne_right _ _ (by decide), l27, hx, Int.pow_succ]
        exact Int.mul_tdiv_cancel _ (by decide)
theorem b_writesText_16 : ∀ (n j : Nat) (x1 : Int32) (x2 : Int64) (x4 : Int32) (σ : ST), bI (σ.1 0 48) 0 400 → (0 ≤ x1.toInt ∧ x1.toInt < 4096) → (0 ≤ (σ.1 23 x1.toNatClampNeg).toInt ∧ (σ.1 23 x1.toNatClampNeg).toInt ≤ 12) → (1 ≤ x4.toInt ∧ x4.toInt ≤ 12 ∧ (12 : Int) - x4.toInt < n) → (j : Int) + 1 = x4.toInt → x2.toInt = 27 ^ j → OK (f_X11_writesText_16 n x1 x2 x4 σ) (RZ [31] [48, 49] σ fun t => bI (t.1 0 48) 0 400) := by
  intro n
  induction n with
  | zero => intro j x1 x2 x4 σ h1 h2 h3 h4; omega
  | succ n ih =>
    intro j x1 x2 x4 σ h1 h2 h3 h4 hj hx
    rw [f_X11_writesText_16]
    have lt_1 := li_1
    have lt_0 := li_0
    have lu := FUi
    have a4 := il_addE (x := x4) (y := 1) (by omega) (by omega)
    refine OK.grd h2 ?_
    refine OK.ile (fun _ => b_writesText_42 FU j x1 x2 0 σ h1 h2 h3 (by omega) (by omega) hx) (fun h => ?_)
    refine ih (j + 1) x1 (x2 * 27) (x4 + 1) σ h1 h2 h3 (by omega) (by omega) ?_
    have l27 : (27 : Int64).toInt = 27 := by decide
    have hb : (27 : Int) ^ (j + 1) ≤ 150094635296999121 := by
      have h9 := p27 (j + 1) (by omega)
      have e9 : (27 : Int) ^ (j + 1) = ((27 ^ (j + 1) : Nat) : Int) := by rw [Int.natCast_pow]; rfl
      rw [e9]
      generalize 27 ^ (j + 1) = z at h9 ⊢
      omega
    have hpos : (0 : Int) < 27 ^ (j + 1) := Int.pow_pos (by decide)
    rw [Int64.toInt_mul, l27, hx, ← Int.pow_succ]
    exact Int.bmod_eq_of_le (by omega) (by omega)
theorem b_writesText (p0 : Int32) (σ : ST) (h : bI (σ.1 0 48) 0 400) (h2 : 0 ≤ p0.toInt ∧ p0.toInt < 4096) (h3 : 0 ≤ (σ.1 23 p0.toNatClampNeg).toInt ∧ (σ.1 23 p0.toNatClampNeg).toInt ≤ 12) : OK (f_X11_writesText p0 σ) (RZ [31] [48, 49] σ fun t => bI (t.1 0 48) 0 400) := by
  unfold f_X11_writesText
  have lt_1 := li_1
  have lu := FUi
  refine OK.grd h2 ?_
  refine OK.bndZ (b_writesNumber _ σ h) (fun t c ht => ?_)
  have e23 : t.1 23 = σ.1 23 := c.1 23 (by decide) (by decide)
  exact OK.trZ (b_writesText_16 FU 0 p0 1 1 t ht h2 (by rw [e23]; exact h3) (by omega) (by omega) (by decide)) c (fun _ h => h) (fun _ h => h) (fun _ _ h => h)
def cWrites (ρ : ST) (LV : Nat → Nat) (N : Nat) (rw_ : Int32 → ST → Option ST) : Prop := ∀ (v : Int32) (σ : ST), CH [31] [48, 49] ρ σ → bI (σ.1 0 48) 0 400 → (0 ≤ v.toInt ∧ v.toInt < (ρ.1 0 46).toInt) → 32 ≤ N + LV v.toNatClampNeg → OK (rw_ v σ) (RZ [31] [48, 49] ρ fun t => bI (t.1 0 48) 0 400)
theorem b_writes_89 {rw_ : Int32 → ST → Option ST} : ∀ (n : Nat) (x1 x2 : Int32) (σ : ST), bI (σ.1 0 48) 0 400 → (0 ≤ x1.toInt ∧ x1.toInt < 4096) → (-8 ≤ x2.toInt ∧ x2.toInt ≤ 56 ∧ x2.toInt + 8 < 8 * n) → OK (f_X11_writes_89 rw_ n x1 x2 σ) (RZ [31] [48, 49] σ fun t => bI (t.1 0 48) 0 400) := by
  intro n
  induction n with
  | zero => intro x1 x2 σ h1 h2 h3; omega
  | succ n ih =>
    intro x1 x2 σ h1 h2 h3
    rw [f_X11_writes_89]
    have lt_0 := li_0
    have lm : (-8 : Int32).toInt = -8 := by decide
    have a2 := il_addE (x := x2) (y := -8) (by omega) (by omega)
    refine OK.ilt (fun _ => OK.zret CH.rf h1) (fun h => ?_)
    refine OK.grd h2 ?_
    refine OK.bndZ (b_writesByte _ σ h1) (fun t c ht => ?_)
    exact OK.trZ (ih x1 (x2 + (-8)) t ht h2 (by omega)) c (fun _ h => h) (fun _ h => h) (fun _ _ h => h)
theorem b_writes_155 {ρ : ST} {LV : Nat → Nat} {N : Nat} {rw_ : Int32 → ST → Option ST} (hN : NL LV ρ) (hw : cWrites ρ LV N rw_) {r : Nat} (hr : 31 ≤ N + LV r) : ∀ (n : Nat) (x2 : Int32) (σ : ST), CH [31] [48, 49] ρ σ → bI (σ.1 0 48) 0 400 → isC ρ r x2 → msx ρ x2 < n → OK (f_X11_writes_155 rw_ n x2 σ) (RZ [31] [48, 49] ρ fun t => bI (t.1 0 48) 0 400) := by
  intro n
  induction n with
  | zero => intro x2 σ h1 h2 h3 h4; omega
  | succ n ih =>
    intro x2 σ c h48 hx hn
    rw [f_X11_writes_155]
    have lt_0 := li_0
    refine OK.ilt (fun _ => OK.zret c h48) (fun h => ?_)
    refine OK.ieq (fun _ => ?_) (fun _ => OK.zret c h48)
    obtain ⟨x1, x3, x4⟩ := hN.child hx (by omega)
    obtain ⟨a1, a2⟩ := hN.1.next hx (by omega)
    have h46 := hN.1.1.2
    refine OK.bndZ (hw x2 σ c h48 x1 (by omega)) (fun t ct ht => ?_)
    refine OK.grd ⟨by omega, by omega⟩ ?_
    rw [ct.1 30 (by decide) (by decide)]
    exact ih _ t ct ht a1 (by omega)
theorem b_writes_top {ρ : ST} {LV : Nat → Nat} {N : Nat} {rw_ : Int32 → ST → Option ST} (hN : NL LV ρ) (hw : cWrites ρ LV N rw_) : cWrites ρ LV (N + 1) (f_X11_writes rw_) := by
  intro v σ c h48 hv hl
  have h46 := hN.1.1.2
  have gv : 0 ≤ v.toInt ∧ v.toInt < 4096 := by omega
  have nv := nN_ hv.1
  have lt_0 := li_0
  have lt_5 := li_5
  have lu := FUi
  obtain ⟨⟨a1, a2⟩, a3⟩ := hN.2.2 v.toNatClampNeg (by omega)
  have m1 : ∀ x, x ∈ [31] → x ∈ [31] := fun _ h => h
  have k148 : ∀ s : ST, CH [31] [48, 49] ρ s → bI (s.1 0 48) 0 400 → OK (f_X11_writes_148 rw_ v s) (RZ [31] [48, 49] ρ fun t => bI (t.1 0 48) 0 400) := fun s cs hs => by
    unfold f_X11_writes_148
    refine OK.grd gv ?_
    rw [cs.1 28 (by decide) (by decide)]
    have := msx_le hN.1 (x := ρ.1 28 v.toNatClampNeg)
    exact b_writes_155 hN hw (r := v.toNatClampNeg) (by omega) FU _ s cs hs (hN.1.first (by omega)) (by omega)
  have k20 : ∀ s : ST, CH [31] [48, 49] ρ s → bI (s.1 0 48) 0 400 → OK (f_X11_writes_20 rw_ v s) (RZ [31] [48, 49] ρ fun t => bI (t.1 0 48) 0 400) := fun s cs hs => by
    unfold f_X11_writes_20
    have e20 : s.1 20 = ρ.1 20 := cs.1 20 (by decide) (by decide)
    have e23 : s.1 23 = ρ.1 23 := cs.1 23 (by decide) (by decide)
    have fin : ∀ o : Option ST, OK o (RZ [31] [48, 49] s fun t => bI (t.1 0 48) 0 400) → OK (o.bind fun q => some q) (RZ [31] [48, 49] ρ fun t => bI (t.1 0 48) 0 400) := fun o ho => OK.bndZ ho (fun t ct ht => OK.zret (cs.trans ct) ht)
    refine OK.grd gv ?_
    refine OK.ieq (fun _ => fin _ (b_writesByte _ s hs)) (fun _ => ?_)
    refine OK.ieq (fun _ => fin _ (b_writesNumber _ s hs)) (fun _ => ?_)
    refine OK.ieq (fun _ => fin _ (b_writesNumber _ s hs)) (fun _ => ?_)
    refine OK.ieq (fun _ => ?_) (fun _ => ?_)
    · have l56 : (56 : Int32).toInt = 56 := by decide
      exact OK.trZ (b_writes_89 FU v 56 s hs gv (by omega)) cs m1 (fun _ h => h) (fun _ _ h => h)
    refine OK.ieq (fun h5 => ?_) (fun _ => ?_)
    · rw [e20] at h5
      exact fin _ (b_writesText v s hs gv (by rw [e23]; exact ⟨a1, a3 (by omega)⟩))
    refine OK.ieq (fun _ => ?_) (fun _ => k148 s cs hs)
    refine OK.bndZ (b_writesNumber _ s hs) (fun t ct ht => ?_)
    exact k148 t (cs.trans ct) ht
  unfold f_X11_writes
  refine OK.grd gv ?_
  refine OK.ilt (fun _ => k20 σ c h48) (fun _ => ?_)
  refine OK.bndZ (b_writesNumber _ σ h48) (fun t ct ht => ?_)
  exact k20 t (c.trans ct) ht
theorem b_RW {ρ : ST} {LV : Nat → Nat} (hN : NL LV ρ) : ∀ N : Nat, cWrites ρ LV N (R_X11_writes N) := by
  intro N
  induction N with
  | zero =>
    intro v σ c h48 hv hl
    have nv := nN_ hv.1
    have := (hN.2.1 v.toNatClampNeg (by omega)).1
    omega
  | succ N ih => exact b_writes_top hN ih
theorem b_writesTree (σ : ST) {LV : Nat → Nat} (hN : NL LV σ) (h0 : 0 < (σ.1 0 46).toInt) : OK (f_X11_writesTree 0 σ) (RZ [31] [48, 49] σ fun t => bI (t.1 0 48) 0 400) := by
  unfold f_X11_writesTree
  have lt_0 := li_0
  have lr := FRi
  have c : CH [31] [48, 49] σ (stI (stI σ 0 48 0) 0 49 0) := (CH.rf.o (by decide)).o (by decide)
  refine OK.bndZ (b_RW hN FRB 0 _ c (bz (by decide) (by decide)) ⟨by omega, by omega⟩ (by omega)) (fun t ct ht => ?_)
  exact OK.zret ct ht
/-- what was told of how many a node has -/
def TH (σ : ST) : Prop := ∀ i, bI (σ.1 45 i) 0 500
abbrev TC : List Nat := [42, 43, 44, 45, 46]
def cTells (ρ : ST) (LV : Nat → Nat) (N : Nat) (rt : Int32 → Int32 → ST → Option ST) : Prop := ∀ (v p : Int32) (σ : ST) (d : Nat), CH TC [73] ρ σ → TH σ → (0 ≤ v.toInt ∧ v.toInt < (ρ.1 0 46).toInt) → d + LV v.toNatClampNeg = 32 → 0 ≤ (σ.1 0 73).toInt → (σ.1 0 73).toInt + (Wt (wS ρ) (tP ρ) d v.toNatClampNeg : Nat) ≤ 400 → d ≤ N → OK (rt v p σ) (RZ TC [73] ρ fun t => TH t ∧ 0 ≤ (t.1 0 73).toInt ∧ (t.1 0 73).toInt ≤ (σ.1 0 73).toInt + (Wt (wS ρ) (tP ρ) d v.toNatClampNeg : Nat) ∧ (σ.1 0 73).toInt + 1 ≤ (t.1 0 73).toInt)
theorem b_tells_110 {ρ : ST} {LV : Nat → Nat} {N : Nat} {rt : Int32 → Int32 → ST → Option ST} (hN : NL LV ρ) (ht : cTells ρ LV N rt) {r d : Nat} (hd : d + LV r = 31) (hdN : d ≤ N) : ∀ (n : Nat) (x3 x4 : Int32) (σ : ST), CH TC [73] ρ σ → TH σ → isC ρ r x4 → 0 ≤ (σ.1 0 73).toInt → (σ.1 0 73).toInt + (lft ρ d r x4 : Nat) ≤ 400 → msx ρ x4 < n → OK (f_X11_tells_110 rt n x3 x4 σ) (RZ TC [73] ρ fun t => TH t ∧ (σ.1 0 73).toInt ≤ (t.1 0 73).toInt ∧ (t.1 0 73).toInt ≤ (σ.1 0 73).toInt + (lft ρ d r x4 : Nat)) := by
  intro n
  induction n with
  | zero => intro x3 x4 σ h1 h2 h3 h4 h5 h6; omega
  | succ n ih =>
    intro x3 x4 σ c hT hx h0 hb hn
    rw [f_X11_tells_110]
    have lt_0 := li_0
    refine OK.ilt (fun _ => OK.zret c ⟨hT, by omega, by omega⟩) (fun h => ?_)
    obtain ⟨x1, x3', x5⟩ := hN.child hx (by omega)
    obtain ⟨a1, a2⟩ := hN.1.next hx (by omega)
    have a3 := hN.1.nextW (d := d) hx (by omega)
    have h46 := hN.1.1.2
    refine OK.bndZ (ht x4 x3 σ d c hT x1 (by omega) h0 (by omega) hdN) (fun t ct htt => ?_)
    refine OK.grd ⟨by omega, by omega⟩ ?_
    rw [ct.1 30 (by decide) (by decide)]
    refine OK.mono (ih x3 _ t ct htt.1 a1 (by omega) (by omega) (by omega)) (fun q hq => ?_)
    exact ⟨hq.1, hq.2.1, by have := hq.2.2; omega, by have := hq.2.2; omega⟩
theorem b_tells_top {ρ : ST} {LV : Nat → Nat} {N : Nat} {rt : Int32 → Int32 → ST → Option ST} (hN : NL LV ρ) (h400 : (ρ.1 0 46).toInt ≤ 400) (ht : cTells ρ LV N rt) : cTells ρ LV (N + 1) (f_X11_tells rt) := by
  intro v p σ d c hT hv hd h0 hb hdN
  unfold f_X11_tells
  have lt_0 := li_0
  have lt_1 := li_1
  have lu := FUi
  have h460 := hN.1.1.1
  have gv : 0 ≤ v.toInt ∧ v.toInt < 4096 := by omega
  have nv := nN_ hv.1
  obtain ⟨⟨a1, a2⟩, a3⟩ := hN.2.2 v.toNatClampNeg (by omega)
  have hl := (hN.2.1 v.toNatClampNeg (by omega)).1
  obtain ⟨d', rfl⟩ : ∃ d', d = d' + 1 := ⟨d - 1, by omega⟩
  have f1 := TO.firstW (ρ := ρ) (d := d') (r := v.toNatClampNeg)
  have e1 := il_addE (x := σ.1 0 73) (y := 1) (by omega) (by omega)
  have g73 : 0 ≤ (σ.1 0 73).toInt ∧ (σ.1 0 73).toInt < 400 := by omega
  refine OK.grd gv ?_
  refine OK.grd g73 ?_
  refine OK.lt (fun z3 hz => ?_)
  have cz : CH TC [73] ρ (stI z3 43 (σ.1 0 73).toNatClampNeg p) := by rw [hz]; exact ((c.o (by decide)).i (by decide) (by decide)).i (by decide) (by decide)
  have e73 : (stI z3 43 (σ.1 0 73).toNatClampNeg p).1 0 73 = σ.1 0 73 + 1 := by rw [hz]; rfl
  have e45 : (stI z3 43 (σ.1 0 73).toNatClampNeg p).1 45 = σ.1 45 := by rw [hz]; rfl
  generalize stI z3 43 (σ.1 0 73).toNatClampNeg p = s at cz e73 e45 ⊢
  have k53 : ∀ y0 : Int32, OK (f_X11_tells_53 rt v (σ.1 0 73) y0 (σ.1 0 73) s) (RZ TC [73] ρ fun t => TH t ∧ 0 ≤ (t.1 0 73).toInt ∧ (t.1 0 73).toInt ≤ (σ.1 0 73).toInt + (Wt (wS ρ) (tP ρ) (d' + 1) v.toNatClampNeg : Nat) ∧ (σ.1 0 73).toInt + 1 ≤ (t.1 0 73).toInt) := fun y0 => by
    unfold f_X11_tells_53
    refine OK.grd g73 ?_
    refine OK.grd gv ?_
    refine OK.grd g73 ?_
    refine OK.lt (fun z4 hz4 => ?_)
    refine OK.lt (fun z5 hz5 => ?_)
    refine OK.lt (fun x6 hx6 => ?_)
    have c9 : CH TC [73] ρ (stL z5 48 (σ.1 0 73).toNatClampNeg (z5.2.1 22 v.toNatClampNeg)) := by
      rw [hz5, hz4]
      exact ((((cz.i (by decide) (by decide)).i (by decide) (by decide)).i (by decide) (by decide)).l (by decide) (by decide) (by decide) (by decide) (by decide)).l (by decide) (by decide) (by decide) (by decide) (by decide)
    have e9 : (stL z5 48 (σ.1 0 73).toNatClampNeg (z5.2.1 22 v.toNatClampNeg)).1 0 73 = σ.1 0 73 + 1 := by
      rw [hz5, hz4]
      exact e73
    have e28 : x6 = ρ.1 28 v.toNatClampNeg := by
      rw [hx6]
      show (stL z5 48 (σ.1 0 73).toNatClampNeg (z5.2.1 22 v.toNatClampNeg)).1 28 v.toNatClampNeg = _
      rw [c9.1 28 (by decide) (by decide)]
    have T9 : TH (stL z5 48 (σ.1 0 73).toNatClampNeg (z5.2.1 22 v.toNatClampNeg)) := by
      rw [hz5, hz4]
      show ∀ i, bI (upd (s.1 45) (σ.1 0 73).toNatClampNeg (s.1 23 v.toNatClampNeg) i) 0 500
      rw [e45, cz.1 23 (by decide) (by decide)]
      exact upd_all (P := fun x => bI x 0 500) hT ⟨a1, by omega⟩
    generalize stL z5 48 (σ.1 0 73).toNatClampNeg (z5.2.1 22 v.toNatClampNeg) = t at c9 e9 T9 ⊢
    have m := msx_le hN.1 (x := ρ.1 28 v.toNatClampNeg)
    have e9' : (t.1 0 73).toInt = (σ.1 0 73).toInt + 1 := by rw [e9]; omega
    rw [e28]
    refine OK.mono (b_tells_110 hN ht (r := v.toNatClampNeg) (d := d') (by omega) (by omega) FU (σ.1 0 73) _ t c9 T9 (hN.1.first (by omega)) (by omega) (by omega) (by omega)) (fun q hq => ?_)
    exact ⟨hq.1, hq.2.1, by have := hq.2.2; omega, by have := hq.2.2; omega, by have := hq.2.2; omega⟩
  exact OK.ile (fun _ => k53 _) (fun _ => k53 _)
theorem b_RT {ρ : ST} {LV : Nat → Nat} (hN : NL LV ρ) (h400 : (ρ.1 0 46).toInt ≤ 400) : ∀ N : Nat, cTells ρ LV N (R_X11_tells N) := by
  intro N
  induction N with
  | zero =>
    intro v p σ d c hT hv hd h0 hb hdN
    have nv := nN_ hv.1
    have := (hN.2.1 v.toNatClampNeg (by omega)).1
    omega
  | succ N ih => exact b_tells_top hN h400 ih
theorem NL.wt {LV : Nat → Nat} {ρ : ST} (hN : NL LV ρ) (h0 : 0 < (ρ.1 0 46).toInt) : LV 0 = 0 ∧ (Wt (wS ρ) (tP ρ) 32 0 : Int) ≤ (ρ.1 0 46).toInt := by
  have n2 : ((wS ρ : Nat) : Int) = (ρ.1 0 46).toInt := Int.toNat_of_nonneg (by omega)
  have e0 : LV 0 = 0 := by
    rcases (hN.2.1 0 (by omega)).2 with h | h
    · exact h.2
    · omega
  have h := Wt_all (S := wS ρ) (P := tP ρ) (LV := LV) (fun c hc hp => by
    rcases (hN.2.1 c (by omega)).2 with h | h
    · omega
    · exact h.2) e0 (by omega) 32
  exact ⟨e0, by omega⟩
theorem b_tells (σ : ST) {LV : Nat → Nat} (hN : NL LV σ) (h0 : 0 < (σ.1 0 46).toInt) (h400 : (σ.1 0 46).toInt ≤ 400) (hT : TH σ) (h73 : σ.1 0 73 = 0) : OK (f_T_X11_tells 0 (-1) σ) (RZ TC [73] σ fun t => TH t ∧ bI (t.1 0 73) 0 400) := by
  have lt_0 := li_0
  have lr := FRi
  have h73' : (σ.1 0 73).toInt = 0 := by rw [h73]; exact li_0
  have n0 : (0 : Int32).toNatClampNeg = 0 := by decide
  obtain ⟨w1, w2⟩ := hN.wt h0
  refine OK.mono (b_RT hN h400 FRB 0 (-1) σ 32 CH.rf hT ⟨by omega, by omega⟩ (by rw [n0]; omega) (by omega) (by rw [n0]; omega) (by omega)) (fun q hq => ?_)
  obtain ⟨q1, q2, q3, q4, q5⟩ := hq
  rw [n0] at q4
  exact ⟨q1, q2, ⟨q3, by omega⟩⟩
