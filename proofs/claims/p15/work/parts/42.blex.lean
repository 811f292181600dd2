/-! the reference: tokens -/
theorem and255 (x : Int32) : (x &&& 255).toInt = x.toInt % 256 := by
  have h1 : (x &&& 255).toBitVec.toNat = x.toBitVec.toNat % 256 := by
    show (x.toBitVec &&& (255 : Int32).toBitVec).toNat = _
    rw [BitVec.toNat_and]
    exact Nat.and_two_pow_sub_one_eq_mod x.toBitVec.toNat 8
  have h2 : (x &&& 255).toInt = ((x &&& 255).toBitVec.toNat : Int) := BitVec.toInt_eq_toNat_of_lt (by rw [h1]; have := Nat.mod_lt x.toBitVec.toNat (show 0 < 256 by decide); omega)
  have h3 : x.toInt = (x.toBitVec.toNat : Int) ∨ x.toInt = (x.toBitVec.toNat : Int) - 4294967296 := by
    have h4 : x.toInt = x.toBitVec.toInt := rfl
    rw [h4, BitVec.toInt_eq_toNat_cond]
    split
    · exact .inl rfl
    · exact .inr rfl
  rw [h2, h1]
  omega
/-- a byte of the text; none behind it -/
def bt (T : Nat → Int32) (n : Int) (k : Nat) : Int := if (k : Int) < n then (T k).toInt % 256 else -1
theorem bt_rng {T : Nat → Int32} {n : Int} {k : Nat} : -1 ≤ bt T n k ∧ bt T n k ≤ 255 ∧ (0 ≤ bt T n k ↔ (k : Int) < n) := by
  unfold bt
  split <;> omega
def isL (c : Int) : Prop := 97 ≤ c ∧ c ≤ 122
def isD (c : Int) : Prop := 48 ≤ c ∧ c ≤ 57
def isB (c : Int) : Prop := c = 32 ∨ c = 10
/-- so many from there on, and no more -/
def RUN (P : Int → Prop) (T : Nat → Int32) (n : Int) (s m : Nat) : Prop := (∀ i, i < m → P (bt T n (s + i))) ∧ ¬ P (bt T n (s + m))
theorem RUN.uniq {P : Int → Prop} {T : Nat → Int32} {n : Int} {s m k : Nat} (h : RUN P T n s m) (h2 : RUN P T n s k) : m = k := by
  rcases Nat.lt_trichotomy m k with h3 | h3 | h3
  · exact absurd (h2.1 m h3) h.2
  · exact h3
  · exact absurd (h.1 k h3) h2.2
/-- the letters' number, the first ones highest, by 27 -/
def w27 (T : Nat → Int32) (s : Nat) : Nat → Int64
  | 0 => 0
  | k + 1 => 27 * w27 T s k + (T (s + k) &&& 255).toInt64 - 96
/-- the digits' number -/
def dv (T : Nat → Int32) (s : Nat) : Nat → Int64
  | 0 => 0
  | k + 1 => 10 * dv T s k + (T (s + k) &&& 255).toInt64 - 48
theorem b_byteAt (p0 : Int32) (σ : ST) (h0 : 0 ≤ p0.toInt) (hn : bI (σ.1 0 3) 0 1000) : OK (f_X11_byteAt p0 σ) (RO σ fun v => v.toInt = bt (σ.1 1) (σ.1 0 3).toInt p0.toNatClampNeg ∧ ((p0.toNatClampNeg : Int) < (σ.1 0 3).toInt → v = (σ.1 1 p0.toNatClampNeg &&& 255))) := by
  unfold f_X11_byteAt
  obtain ⟨n1, n2⟩ := hn
  have np := nN_ h0
  have lm := li_m1
  refine OK.ile (fun h => OK.roret ⟨?_, fun h9 => by omega⟩) (fun h => ?_)
  · unfold bt
    rw [if_neg (by omega)]
    exact lm
  · refine OK.grd ⟨by omega, by omega⟩ ?_
    refine OK.roret ⟨?_, fun _ => rfl⟩
    unfold bt
    rw [if_pos (by omega), and255]
theorem b_isDigit (p0 : Int32) (σ : ST) : OK (f_X11_isDigit p0 σ) (RO σ fun v => v.toInt = 0 ∧ ¬ isD p0.toInt ∨ v.toInt = 1 ∧ isD p0.toInt) := by
  unfold f_X11_isDigit isD
  have e := i64 p0
  have l1 : (48 : Int64).toInt = 48 := by decide
  have l2 : (57 : Int64).toInt = 57 := by decide
  refine OK.bndR (b_within _ _ _ _) (fun v hv => ?_)
  dsimp only
  refine OK.grd (b01 (by omega)) ?_
  exact OK.roret (by omega)
abbrev GI : List Nat := [4, 5, 6, 8, 10, 13]
theorem b_word_10 (x1 : Int32) (T : Nat → Int32) (n : Int) (s : Nat) (hx1 : 0 ≤ x1.toInt) : ∀ (f k : Nat) (σ : ST), σ.1 1 = T → (σ.1 0 3).toInt = n → (0 ≤ n ∧ n ≤ 1000) → (σ.1 0 5).toInt = s + k → (σ.1 0 8).toInt = k → σ.2.1 0 7 = w27 T s (min k x1.toInt.toNat) → (∀ i, i < k → isL (bt T n (s + i))) → ((s + k : Nat) : Int) ≤ 1001 → 1001 < f + s + k → OK (f_X11_word_10 f x1 σ) (RZ [] [5, 8] σ fun t => ∃ m, RUN isL T n s m ∧ (t.1 0 5).toInt = s + m ∧ (t.1 0 8).toInt = m ∧ t.2.1 0 7 = w27 T s (min m x1.toInt.toNat)) := by
  intro f
  induction f with
  | zero => intro k σ h1 h2 h3 h4 h5 h6 h7 h8 h9; omega
  | succ f ih =>
    intro k σ hT hn hn2 h5 h8 hw hl hk hf
    rw [f_X11_word_10]
    have lt_0 := li_0
    have lt_1 := li_1
    have np : (σ.1 0 5).toNatClampNeg = s + k := nC (by omega)
    have hb := b_byteAt (σ.1 0 5) σ (by omega) ⟨by omega, by omega⟩
    rw [np, hT, hn] at hb
    refine OK.bndR hb (fun v hv => ?_)
    dsimp only
    refine OK.bndR (b_isLetter _ _) (fun w hwl => ?_)
    dsimp only
    refine OK.ieq (fun h0 => ?_) (fun h0 => ?_)
    · refine OK.zret CH.rf ⟨k, ⟨hl, ?_⟩, by omega, h8, hw⟩
      unfold isL
      rw [← hv.1]
      omega
    · have hL : isL (bt T n (s + k)) := by
        unfold isL
        rw [← hv.1]
        omega
      have hlt := (bt_rng (T := T) (n := n) (k := s + k)).2.2.mp (by unfold isL at hL; omega)
      have e5 := il_addE (x := σ.1 0 5) (y := 1) (by omega) (by omega)
      have e8 := il_addE (x := σ.1 0 8) (y := 1) (by omega) (by omega)
      have hl' : ∀ i, i < k + 1 → isL (bt T n (s + i)) := fun i hi => by
        by_cases e : i = k
        · rw [e]; exact hL
        · exact hl i (by omega)
      have nx : ∀ y : Int64, y = w27 T s (min (k + 1) x1.toInt.toNat) → OK (f_X11_word_62 (f_X11_word_10 f) x1 y σ) (RZ [] [5, 8] σ fun t => ∃ m, RUN isL T n s m ∧ (t.1 0 5).toInt = s + m ∧ (t.1 0 8).toInt = m ∧ t.2.1 0 7 = w27 T s (min m x1.toInt.toNat)) := fun y hy => by
        unfold f_X11_word_62
        refine OK.lt (fun z hz => ?_)
        have cz : CH [] [5, 8] σ z := by rw [hz]; exact ((CH.rf.l (by decide) (by decide) (by decide) (by decide) (by decide)).o (by decide)).o (by decide)
        have z1 : z.1 1 = T := by rw [hz]; exact hT
        have z3 : z.1 0 3 = σ.1 0 3 := by rw [hz]; rfl
        have z5 : z.1 0 5 = σ.1 0 5 + 1 := by rw [hz]; rfl
        have z8 : z.1 0 8 = σ.1 0 8 + 1 := by rw [hz]; rfl
        have z7 : z.2.1 0 7 = y := by rw [hz]; rfl
        refine OK.trZ (ih (k + 1) z z1 (by rw [z3]; exact hn) hn2 (by rw [z5]; omega) (by rw [z8]; omega) (by rw [z7]; exact hy) hl' (by omega) (by omega)) cz (fun _ h => h) (fun _ h => h) (fun _ _ h => h)
      refine OK.ile (fun hle => ?_) (fun hgt => ?_)
      · refine nx _ ?_
        rw [hw]
        congr 1
        omega
      · refine OK.bndR hb (fun u hu => ?_)
        dsimp only
        refine nx _ ?_
        have e1 : min k x1.toInt.toNat = k := by omega
        have e2 : min (k + 1) x1.toInt.toNat = k + 1 := by omega
        rw [hw, e1, e2, w27, hu.2 hlt]
theorem b_word (x1 : Int32) (σ : ST) (hx1 : 0 ≤ x1.toInt) (s : Nat) (hn2 : 0 ≤ (σ.1 0 3).toInt ∧ (σ.1 0 3).toInt ≤ 1000) (h5 : (σ.1 0 5).toInt = s) (hs : s ≤ 1001) : OK (f_X11_word x1 σ) (RZ [] [5, 8] σ fun t => ∃ m, RUN isL (σ.1 1) (σ.1 0 3).toInt s m ∧ (t.1 0 5).toInt = s + m ∧ (t.1 0 8).toInt = m ∧ t.2.1 0 7 = w27 (σ.1 1) s (min m x1.toInt.toNat)) := by
  unfold f_X11_word
  have lu := FUi
  refine OK.trZ (b_word_10 x1 (σ.1 1) (σ.1 0 3).toInt s hx1 FU 0 (stI (stL σ 0 7 0) 0 8 0) rfl rfl hn2 (by show (σ.1 0 5).toInt = _; omega) li_0 ?_ (fun i hi => by omega) (by omega) (by omega)) ((CH.rf.l (by decide) (by decide) (by decide) (by decide) (by decide)).o (by decide)) (fun _ h => h) (fun _ h => h) (fun _ _ h => h)
  have e : min 0 x1.toInt.toNat = 0 := by omega
  rw [e]
  rfl
/-- what a number's token is: from its digits on, with a sign ahead or not -/
def NB (T : Nat → Int32) (n : Int) (i m : Nat) (neg : Prop) (t : ST) : Prop := RUN isD T n i m ∧ (t.1 0 13).toInt = 0 ∧
  ((neg ∧ t.2.1 0 9 = -(dv T i (min m 18))) ∨ (¬ neg ∧ t.2.1 0 9 = dv T i (min m 18))) ∧
  ((bt T n (i + m) = 46 ∧ isD (bt T n (i + m + 1)) ∧ (t.1 0 10).toInt = 1 ∧ (t.1 0 5).toInt = i + m + 2 ∧ ((t.1 0 6).toInt = 2 ∧ m ≤ 18 ∧ ¬ isD (bt T n (i + m + 2)) ∨ (t.1 0 6).toInt = 5 ∧ ¬ (m ≤ 18 ∧ ¬ isD (bt T n (i + m + 2))))) ∨
   (¬ (bt T n (i + m) = 46 ∧ isD (bt T n (i + m + 1))) ∧ (t.1 0 10).toInt = 0 ∧ (t.1 0 5).toInt = i + m ∧ ((t.1 0 6).toInt = 2 ∧ m ≤ 18 ∨ (t.1 0 6).toInt = 5 ∧ ¬ m ≤ 18)))
theorem b_number_134 (x1 y0 : Int32) (T : Nat → Int32) (n : Int) (i m : Nat) (σ : ST) (hT : σ.1 1 = T) (hn : (σ.1 0 3).toInt = n) (hn2 : 0 ≤ n ∧ n ≤ 1000) (h5 : (σ.1 0 5).toInt = i + m) (him : ((i + m : Nat) : Int) ≤ 1001) (hR : RUN isD T n i m) (h9 : σ.2.1 0 9 = dv T i (min m 18)) (h13 : (σ.1 0 13).toInt = 0) (hx1 : x1.toInt = 0 ∨ x1.toInt = 1) (hy : y0.toInt = 0 ∧ ¬ m ≤ 18 ∨ y0.toInt = 1 ∧ m ≤ 18) : OK (f_X11_number_134 x1 y0 σ) (RZ [] [5, 6, 10] σ fun t => NB T n i m (x1.toInt = 1) t) := by
  have lt_0 := li_0
  have lt_1 := li_1
  have lt_2 := li_2
  have lt_5 := li_5
  have np : (σ.1 0 5).toNatClampNeg = i + m := nC (by omega)
  have e1 := il_addE (x := σ.1 0 5) (y := 1) (by omega) (by omega)
  have np1 : (σ.1 0 5 + 1).toNatClampNeg = i + m + 1 := nC (by omega)
  have e2 := il_addE (x := σ.1 0 5) (y := 2) (by omega) (by omega)
  have np2 : (σ.1 0 5 + 2).toNatClampNeg = i + m + 2 := nC (by omega)
  -- the end: the sign, and whether all is well
  have k262 : ∀ (x3 : Int32) (s : ST), CH [] [5, 6, 10] σ s → s.2.1 0 9 = dv T i (min m 18) → (∀ t : ST, t.1 0 13 = s.1 0 13 → t.1 0 10 = s.1 0 10 → t.1 0 5 = s.1 0 5 → ((t.1 0 6).toInt = 5 ∧ x3.toInt = 0 ∨ (t.1 0 6).toInt = 2 ∧ ¬ x3.toInt = 0) → ((x1.toInt = 1 ∧ t.2.1 0 9 = -(dv T i (min m 18))) ∨ (¬ x1.toInt = 1 ∧ t.2.1 0 9 = dv T i (min m 18))) → NB T n i m (x1.toInt = 1) t) → OK (f_X11_number_262 x1 x3 s) (RZ [] [5, 6, 10] σ fun t => NB T n i m (x1.toInt = 1) t) := fun x3 s cs hs9 hfin => by
    unfold f_X11_number_262 f_X11_number_279 f_X11_number_292
    have z : ∀ (y : Int64) (w : Int32), (w.toInt = 5 ∧ x3.toInt = 0 ∨ w.toInt = 2 ∧ ¬ x3.toInt = 0) → ((x1.toInt = 1 ∧ y = -(dv T i (min m 18))) ∨ (¬ x1.toInt = 1 ∧ y = dv T i (min m 18))) → OK (some (stI (stL s 0 9 y) 0 6 w)) (RZ [] [5, 6, 10] σ fun t => NB T n i m (x1.toInt = 1) t) := fun y w hw hy => OK.zret ((cs.l (by decide) (by decide) (by decide) (by decide) (by decide)).o (by decide)) (hfin _ rfl rfl rfl hw hy)
    refine OK.ieq (fun h0 => ?_) (fun h0 => ?_)
    · exact OK.ieq (fun h3 => z _ _ (by omega) (.inr ⟨by omega, hs9⟩)) (fun h3 => z _ _ (by omega) (.inr ⟨by omega, hs9⟩))
    · exact OK.ieq (fun h3 => z _ _ (by omega) (.inl ⟨by omega, by rw [hs9]⟩)) (fun h3 => z _ _ (by omega) (.inl ⟨by omega, by rw [hs9]⟩))
  have hb0 := b_byteAt (σ.1 0 5) σ (by omega) ⟨by omega, by omega⟩
  rw [np, hT, hn] at hb0
  have hb1 := b_byteAt (σ.1 0 5 + 1) σ (by omega) ⟨by omega, by omega⟩
  rw [np1, hT, hn] at hb1
  have k169 : ¬ (bt T n (i + m) = 46 ∧ isD (bt T n (i + m + 1))) → OK (f_X11_number_169 x1 y0 σ) (RZ [] [5, 6, 10] σ fun t => NB T n i m (x1.toInt = 1) t) := fun hno => by
    unfold f_X11_number_169 f_X11_number_170
    refine OK.grd (.inl rfl) ?_
    refine OK.ieq (fun _ => ?_) (fun h => absurd li_0 (by have h : ¬ (0 : Int32).toInt = (0 : Int32).toInt := h; exact absurd rfl h))
    refine k262 y0 (stI σ 0 10 0) (CH.rf.o (by decide)) h9 (fun t t13 t10 t5 t6 t9 => ⟨hR, ?_, t9, .inr ⟨hno, ?_, ?_, ?_⟩⟩)
    · rw [t13]; exact h13
    · rw [t10]; exact li_0
    · rw [t5]; exact h5
    · omega
  unfold f_X11_number_134
  refine OK.bndR hb0 (fun v hv => ?_)
  dsimp only
  have l46 : (46 : Int32).toInt = 46 := by decide
  refine OK.ieq (fun h46 => ?_) (fun h46 => k169 (fun h => by have := hv.1; omega))
  refine OK.bndR hb1 (fun v1 hv1 => ?_)
  dsimp only
  refine OK.bndR (b_isDigit _ _) (fun w hw => ?_)
  dsimp only
  refine OK.ieq (fun hw0 => k169 (fun h => ?_)) (fun hw0 => ?_)
  · rw [← hv1.1] at h
    have := h.2
    rcases hw with hw | hw
    · exact hw.2 this
    · omega
  have hD1 : isD (bt T n (i + m + 1)) := by
    rw [← hv1.1]
    rcases hw with hw | hw
    · omega
    · exact hw.2
  have hyes : bt T n (i + m) = 46 ∧ isD (bt T n (i + m + 1)) := ⟨by rw [← hv.1]; omega, hD1⟩
  unfold f_X11_number_170
  refine OK.grd (.inr rfl) ?_
  refine OK.ieq (fun h => by have h : (1 : Int32).toInt = (0 : Int32).toInt := h; omega) (fun _ => ?_)
  have hb1' := b_byteAt (σ.1 0 5 + 1) (stI σ 0 10 1) (by omega) ⟨by show 0 ≤ (σ.1 0 3).toInt; omega, by show (σ.1 0 3).toInt ≤ 1000; omega⟩
  refine OK.bndR hb1' (fun v2 hv2 => ?_)
  dsimp only
  have f1 := FP.Core.ddiv_out (FP.Core.i2d_fin (v2 - 48)).notNaN fp10_fin fp10_nz
  have f2 := FP.Core.dadd_out' (FP.Core.l2d_fin ((stI σ 0 10 1).2.1 0 9)) f1
  refine OK.grd (fl_num f1) ?_
  refine OK.grd (fl_num f2) ?_
  refine OK.lt (fun z6 hz6 => ?_)
  have c6 : CH [] [5, 6, 10] σ z6 := by rw [hz6]; exact (CH.rf.o (by decide)).d
  have a1 : z6.1 1 = T := by rw [hz6]; exact hT
  have a3 : z6.1 0 3 = σ.1 0 3 := by rw [hz6]; rfl
  have a5 : z6.1 0 5 = σ.1 0 5 := by rw [hz6]; rfl
  have a10 : (z6.1 0 10).toInt = 1 := by rw [hz6]; exact li_1
  have a13 : z6.1 0 13 = σ.1 0 13 := by rw [hz6]; rfl
  have a9 : z6.2.1 0 9 = σ.2.1 0 9 := by rw [hz6]; rfl
  have k225 : ∀ y : UInt64, OK (f_X11_number_225 x1 y0 y z6) (RZ [] [5, 6, 10] σ fun t => NB T n i m (x1.toInt = 1) t) := fun y => by
    unfold f_X11_number_225 f_X11_number_260 f_X11_number_261
    have c7 : CH [] [5, 6, 10] σ (stI (stD z6 0 11 y) 0 5 ((stD z6 0 11 y).1 0 5 + 2)) := (c6.d).o (by decide)
    have b1 : (stI (stD z6 0 11 y) 0 5 ((stD z6 0 11 y).1 0 5 + 2)).1 1 = T := a1
    have b3 : ((stI (stD z6 0 11 y) 0 5 ((stD z6 0 11 y).1 0 5 + 2)).1 0 3).toInt = n := by
      show (z6.1 0 3).toInt = n
      rw [a3]; exact hn
    have b5 : (stI (stD z6 0 11 y) 0 5 ((stD z6 0 11 y).1 0 5 + 2)).1 0 5 = σ.1 0 5 + 2 := by
      show z6.1 0 5 + 2 = _
      rw [a5]
    have b10 : ((stI (stD z6 0 11 y) 0 5 ((stD z6 0 11 y).1 0 5 + 2)).1 0 10).toInt = 1 := a10
    have b13 : ((stI (stD z6 0 11 y) 0 5 ((stD z6 0 11 y).1 0 5 + 2)).1 0 13).toInt = 0 := by
      show (z6.1 0 13).toInt = 0
      rw [a13]; exact h13
    have b9 : (stI (stD z6 0 11 y) 0 5 ((stD z6 0 11 y).1 0 5 + 2)).2.1 0 9 = dv T i (min m 18) := by
      show z6.2.1 0 9 = _
      rw [a9]; exact h9
    generalize stI (stD z6 0 11 y) 0 5 ((stD z6 0 11 y).1 0 5 + 2) = s at c7 b1 b3 b5 b10 b13 b9 ⊢
    have fin : ∀ x3 : Int32, (x3.toInt = 0 ∧ ¬ (m ≤ 18 ∧ ¬ isD (bt T n (i + m + 2))) ∨ x3.toInt = 1 ∧ m ≤ 18 ∧ ¬ isD (bt T n (i + m + 2))) → OK (f_X11_number_262 x1 x3 s) (RZ [] [5, 6, 10] σ fun t => NB T n i m (x1.toInt = 1) t) := fun x3 h3 => k262 x3 s c7 b9 (fun t t13 t10 t5 t6 t9 => ⟨hR, by rw [t13]; exact b13, t9, .inl ⟨hyes.1, hyes.2, by rw [t10]; exact b10, by rw [t5, b5]; omega, by
      rcases h3 with h3 | h3
      · exact .inr ⟨by omega, h3.2⟩
      · exact .inl ⟨by omega, h3.2⟩⟩⟩)
    refine OK.ieq (fun hy0 => fin 0 (.inl ⟨lt_0, fun h => by omega⟩)) (fun hy0 => ?_)
    have hb2 := b_byteAt (s.1 0 5) s (by rw [b5]; omega) ⟨by omega, by omega⟩
    have np2' : (s.1 0 5).toNatClampNeg = i + m + 2 := by rw [b5]; exact np2
    rw [np2', b1, b3] at hb2
    refine OK.bndR hb2 (fun v3 hv3 => ?_)
    dsimp only
    refine OK.bndR (b_isDigit _ _) (fun w3 hw3 => ?_)
    dsimp only
    rw [hv3.1] at hw3
    refine OK.ieq (fun h0 => fin 1 (.inr ⟨lt_1, by omega, ?_⟩)) (fun h0 => fin 0 (.inl ⟨lt_0, fun h => ?_⟩))
    · rcases hw3 with hw3 | hw3
      · exact hw3.2
      · omega
    · rcases hw3 with hw3 | hw3
      · omega
      · exact h.2 hw3.2
  exact OK.ieq (fun _ => k225 _) (fun _ => k225 _)
theorem b_number_47 (x1 x2 : Int32) (T : Nat → Int32) (n : Int) (i : Nat) (hn2 : 0 ≤ n ∧ n ≤ 1000) (hx1 : x1.toInt = 0 ∨ x1.toInt = 1) (hx2 : x2.toInt = i) : ∀ (f m : Nat) (σ : ST), σ.1 1 = T → (σ.1 0 3).toInt = n → (σ.1 0 5).toInt = i + m → (σ.1 0 13).toInt = 0 → σ.2.1 0 9 = dv T i (min m 18) → (∀ j, j < m → isD (bt T n (i + j))) → ((i + m : Nat) : Int) ≤ 1001 → 1001 < f + i + m → OK (f_X11_number_47 f x1 x2 σ) (RZ [] [5, 6, 10] σ fun t => ∃ m, NB T n i m (x1.toInt = 1) t) := by
  intro f
  induction f with
  | zero => intro m σ h1 h2 h3 h4 h5 h6 h7 h8; omega
  | succ f ih =>
    intro m σ hT hn h5 h13 h9 hD hm hf
    rw [f_X11_number_47]
    have lt_0 := li_0
    have lt_1 := li_1
    have lt_18 := li_18
    have np : (σ.1 0 5).toNatClampNeg = i + m := nC (by omega)
    have es := il_subE (x := σ.1 0 5) (y := x2) (by omega) (by omega)
    have hb := b_byteAt (σ.1 0 5) σ (by omega) ⟨by omega, by omega⟩
    rw [np, hT, hn] at hb
    refine OK.bndR hb (fun v hv => ?_)
    dsimp only
    refine OK.bndR (b_isDigit _ _) (fun w hw => ?_)
    dsimp only
    rw [hv.1] at hw
    refine OK.ieq (fun h0 => ?_) (fun h0 => ?_)
    · have hR : RUN isD T n i m := ⟨hD, by
        rcases hw with hw | hw
        · exact hw.2
        · omega⟩
      have fin : ∀ y0 : Int32, (y0.toInt = 0 ∧ ¬ m ≤ 18 ∨ y0.toInt = 1 ∧ m ≤ 18) → OK (f_X11_number_134 x1 y0 σ) (RZ [] [5, 6, 10] σ fun t => ∃ m, NB T n i m (x1.toInt = 1) t) := fun y0 hy => (b_number_134 x1 y0 T n i m σ hT hn hn2 h5 hm hR h9 h13 hx1 hy).mono (fun t ht => ⟨ht.1, m, ht.2⟩)
      exact OK.ilt (fun h => fin 0 (by omega)) (fun h => fin 1 (by omega))
    · have hd : isD (bt T n (i + m)) := by
        rcases hw with hw | hw
        · omega
        · exact hw.2
      have hlt := (bt_rng (T := T) (n := n) (k := i + m)).2.2.mp (by unfold isD at hd; omega)
      have e5 := il_addE (x := σ.1 0 5) (y := 1) (by omega) (by omega)
      have hD' : ∀ j, j < m + 1 → isD (bt T n (i + j)) := fun j hj => by
        by_cases e : j = m
        · rw [e]; exact hd
        · exact hD j (by omega)
      have nx : ∀ y : Int64, y = dv T i (min (m + 1) 18) → OK (f_X11_number_102 (f_X11_number_47 f) x1 x2 y σ) (RZ [] [5, 6, 10] σ fun t => ∃ m, NB T n i m (x1.toInt = 1) t) := fun y hy => by
        unfold f_X11_number_102
        refine OK.trZ (ih (m + 1) (stI (stL σ 0 9 y) 0 5 ((stL σ 0 9 y).1 0 5 + 1)) hT hn (by show (σ.1 0 5 + 1).toInt = _; omega) h13 hy hD' (by omega) (by omega)) ((CH.rf.l (by decide) (by decide) (by decide) (by decide) (by decide)).o (by decide)) (fun _ h => h) (fun _ h => h) (fun _ _ h => h)
      refine OK.ile (fun hle => ?_) (fun hgt => ?_)
      · refine nx _ ?_
        rw [h9]
        congr 1
        omega
      · refine OK.bndR hb (fun u hu => ?_)
        dsimp only
        refine nx _ ?_
        have e1 : min m 18 = m := by omega
        have e2 : min (m + 1) 18 = m + 1 := by omega
        rw [h9, e1, e2, dv, hu.2 hlt]
/-- a number's token from there on -/
def NT (T : Nat → Int32) (n : Int) (s : Nat) (t : ST) : Prop := (bt T n s = 45 ∧ ∃ m, NB T n (s + 1) m True t) ∨ (¬ bt T n s = 45 ∧ ∃ m, NB T n s m False t)
theorem NB.iff {T : Nat → Int32} {n : Int} {i m : Nat} {a b : Prop} {t : ST} (hab : a ↔ b) (h : NB T n i m a t) : NB T n i m b t := by
  have e : a = b := propext hab
  rw [← e]; exact h
theorem b_number (σ : ST) (s : Nat) (hn2 : 0 ≤ (σ.1 0 3).toInt ∧ (σ.1 0 3).toInt ≤ 1000) (h5 : (σ.1 0 5).toInt = s) (hs : s ≤ 1000) (h13 : (σ.1 0 13).toInt = 0) : OK (f_X11_number σ) (RZ [] [5, 6, 10] σ fun t => NT (σ.1 1) (σ.1 0 3).toInt s t) := by
  unfold f_X11_number f_X11_number_18 f_X11_number_33
  have lt_0 := li_0
  have lt_1 := li_1
  have lu := FUi
  have l45 : (45 : Int32).toInt = 45 := by decide
  have np : (σ.1 0 5).toNatClampNeg = s := nC (by omega)
  have hb := b_byteAt (σ.1 0 5) σ (by omega) ⟨by omega, by omega⟩
  rw [np] at hb
  have e0 := il_addE (x := σ.1 0 5) (y := 0) (by omega) (by omega)
  have e1 := il_addE (x := σ.1 0 5) (y := 1) (by omega) (by omega)
  have c : ∀ y : Int32, CH [] [5, 6, 10] σ (stL (stI σ 0 5 (σ.1 0 5 + y)) 0 9 0) := fun y => (CH.rf.o (by decide)).l (by decide) (by decide) (by decide) (by decide) (by decide)
  refine OK.bndR hb (fun v hv => ?_)
  dsimp only
  refine OK.ieq (fun h45 => ?_) (fun h45 => ?_)
  · refine OK.ieq (fun h => by omega) (fun _ => ?_)
    refine OK.trZ (b_number_47 1 (σ.1 0 5 + 1) (σ.1 1) (σ.1 0 3).toInt (s + 1) hn2 (.inr lt_1) (by omega) FU 0 (stL (stI σ 0 5 (σ.1 0 5 + 1)) 0 9 0) rfl rfl (by show (σ.1 0 5 + 1).toInt = _; omega) h13 ?_ (fun j hj => by omega) (by omega) (by omega)) (c 1) (fun _ h => h) (fun _ h => h) (fun t _ ht => ?_)
    · show (0 : Int64) = dv (σ.1 1) (s + 1) (min 0 18)
      rfl
    · obtain ⟨m, hm⟩ := ht
      exact .inl ⟨by have := hv.1; omega, m, hm.iff ⟨fun _ => trivial, fun _ => lt_1⟩⟩
  · refine OK.ieq (fun _ => ?_) (fun h => absurd rfl h)
    refine OK.trZ (b_number_47 0 (σ.1 0 5 + 0) (σ.1 1) (σ.1 0 3).toInt s hn2 (.inl lt_0) (by omega) FU 0 (stL (stI σ 0 5 (σ.1 0 5 + 0)) 0 9 0) rfl rfl (by show (σ.1 0 5 + 0).toInt = _; omega) h13 ?_ (fun j hj => by omega) (by omega) (by omega)) (c 0) (fun _ h => h) (fun _ h => h) (fun t _ ht => ?_)
    · show (0 : Int64) = dv (σ.1 1) s (min 0 18)
      rfl
    · obtain ⟨m, hm⟩ := ht
      exact .inr ⟨by have := hv.1; omega, m, hm.iff ⟨fun h => by omega, fun h => h.elim⟩⟩
/-- what the token is that begins at a place -/
def TB_ (T : Nat → Int32) (n : Int) (s : Nat) (t : ST) : Prop := (t.1 0 4).toInt = s ∧
  ((bt T n s < 0 ∧ (t.1 0 6).toInt = 0 ∧ (t.1 0 13).toInt = 0 ∧ (t.1 0 5).toInt = s) ∨
   (isL (bt T n s) ∧ (t.1 0 13).toInt = 0 ∧ ∃ m, RUN isL T n s m ∧ (t.1 0 5).toInt = s + m ∧ (t.1 0 8).toInt = m ∧ t.2.1 0 7 = w27 T s (min m 8) ∧ ((t.1 0 6).toInt = 1 ∧ m ≤ 8 ∨ (t.1 0 6).toInt = 5 ∧ ¬ m ≤ 8)) ∨
   ((isD (bt T n s) ∨ bt T n s = 45 ∧ isD (bt T n (s + 1))) ∧ NT T n s t) ∨
   (bt T n s = 34 ∧ (t.1 0 13).toInt = 0 ∧ ∃ m, RUN isL T n (s + 1) m ∧ (t.1 0 5).toInt = s + 1 + m + 1 ∧ (t.1 0 8).toInt = m ∧ ((t.1 0 6).toInt = 3 ∧ m ≤ 12 ∧ bt T n (s + 1 + m) = 34 ∨ (t.1 0 6).toInt = 5 ∧ ¬ (m ≤ 12 ∧ bt T n (s + 1 + m) = 34))) ∨
   ((0 ≤ bt T n s ∧ ¬ isL (bt T n s) ∧ ¬ isD (bt T n s) ∧ ¬ (bt T n s = 45 ∧ isD (bt T n (s + 1))) ∧ ¬ bt T n s = 34) ∧ (t.1 0 5).toInt = s + 1 ∧ (((bt T n s = 123 ∨ bt T n s = 125 ∨ bt T n s = 91 ∨ bt T n s = 93 ∨ bt T n s = 44 ∨ bt T n s = 59) ∧ (t.1 0 6).toInt = 4 ∧ (t.1 0 13).toInt = bt T n s) ∨ (¬ (bt T n s = 123 ∨ bt T n s = 125 ∨ bt T n s = 91 ∨ bt T n s = 93 ∨ bt T n s = 44 ∨ bt T n s = 59) ∧ (t.1 0 6).toInt = 5 ∧ (t.1 0 13).toInt = 0))))
/-- blanks from there up to there -/
def SK (T : Nat → Int32) (n : Int) (p s : Nat) : Prop := p ≤ s ∧ (∀ i, p ≤ i → i < s → isB (bt T n i)) ∧ ¬ isB (bt T n s)
theorem SK.uniq {T : Nat → Int32} {n : Int} {p s u : Nat} (h : SK T n p s) (k : SK T n p u) : s = u := by
  rcases Nat.lt_trichotomy s u with h3 | h3 | h3
  · exact absurd (k.2.1 s h.1 h3) h.2.2
  · exact h3
  · exact absurd (h.2.1 u k.1 h3) k.2.2
theorem b_quoted (σ : ST) (s : Nat) (hn2 : 0 ≤ (σ.1 0 3).toInt ∧ (σ.1 0 3).toInt ≤ 1000) (h5 : (σ.1 0 5).toInt = s) (hs : s < 1000) : OK (f_X11_quoted σ) (RZ [] [5, 6, 8] σ fun t => ∃ m, RUN isL (σ.1 1) (σ.1 0 3).toInt (s + 1) m ∧ (t.1 0 5).toInt = s + 1 + m + 1 ∧ (t.1 0 8).toInt = m ∧ ((t.1 0 6).toInt = 3 ∧ m ≤ 12 ∧ bt (σ.1 1) (σ.1 0 3).toInt (s + 1 + m) = 34 ∨ (t.1 0 6).toInt = 5 ∧ ¬ (m ≤ 12 ∧ bt (σ.1 1) (σ.1 0 3).toInt (s + 1 + m) = 34))) := by
  unfold f_X11_quoted f_X11_quoted_42
  have lt_0 := li_0
  have lt_1 := li_1
  have lt_12 := li_12
  have l34 : (34 : Int32).toInt = 34 := by decide
  have e1 := il_addE (x := σ.1 0 5) (y := 1) (by omega) (by omega)
  refine OK.bndZ (b_word 12 (stI σ 0 5 (σ.1 0 5 + 1)) (by omega) (s + 1) hn2 (by show (σ.1 0 5 + 1).toInt = _; omega) (by omega)) (fun t c ht => ?_)
  obtain ⟨m, hR, t5, t8, t7⟩ := ht
  have hR : RUN isL (σ.1 1) (σ.1 0 3).toInt (s + 1) m := hR
  have c' : CH [] [5, 6, 8] σ t := (CH.rf.o (by decide)).trans (c.mono (by decide) (by decide))
  have hm : ((s + 1 + m : Nat) : Int) ≤ 1001 := by
    by_cases h0 : m = 0
    · omega
    · have hl := hR.1 (m - 1) (by omega)
      have := (bt_rng (T := σ.1 1) (n := (σ.1 0 3).toInt) (k := s + 1 + (m - 1))).2.2.mp (by unfold isL at hl; omega)
      omega
  have e5 := il_addE (x := t.1 0 5) (y := 1) (by omega) (by omega)
  have k43 : ∀ y0 : Int32, (y0.toInt = 0 ∧ ¬ (m ≤ 12 ∧ bt (σ.1 1) (σ.1 0 3).toInt (s + 1 + m) = 34) ∨ y0.toInt = 1 ∧ (m ≤ 12 ∧ bt (σ.1 1) (σ.1 0 3).toInt (s + 1 + m) = 34)) → OK (f_X11_quoted_43 y0 t) (RZ [] [5, 6, 8] σ fun t => ∃ m, RUN isL (σ.1 1) (σ.1 0 3).toInt (s + 1) m ∧ (t.1 0 5).toInt = s + 1 + m + 1 ∧ (t.1 0 8).toInt = m ∧ ((t.1 0 6).toInt = 3 ∧ m ≤ 12 ∧ bt (σ.1 1) (σ.1 0 3).toInt (s + 1 + m) = 34 ∨ (t.1 0 6).toInt = 5 ∧ ¬ (m ≤ 12 ∧ bt (σ.1 1) (σ.1 0 3).toInt (s + 1 + m) = 34))) := fun y0 hy => by
    unfold f_X11_quoted_43 f_X11_quoted_64
    have l3 := li_3
    have l5 := li_5
    have z : ∀ w : Int32, (w.toInt = 3 ∧ m ≤ 12 ∧ bt (σ.1 1) (σ.1 0 3).toInt (s + 1 + m) = 34 ∨ w.toInt = 5 ∧ ¬ (m ≤ 12 ∧ bt (σ.1 1) (σ.1 0 3).toInt (s + 1 + m) = 34)) → OK (some (stI (stI t 0 5 (t.1 0 5 + 1)) 0 6 w)) (RZ [] [5, 6, 8] σ fun t => ∃ m, RUN isL (σ.1 1) (σ.1 0 3).toInt (s + 1) m ∧ (t.1 0 5).toInt = s + 1 + m + 1 ∧ (t.1 0 8).toInt = m ∧ ((t.1 0 6).toInt = 3 ∧ m ≤ 12 ∧ bt (σ.1 1) (σ.1 0 3).toInt (s + 1 + m) = 34 ∨ (t.1 0 6).toInt = 5 ∧ ¬ (m ≤ 12 ∧ bt (σ.1 1) (σ.1 0 3).toInt (s + 1 + m) = 34))) := fun w hw => OK.zret ((c'.o (by decide)).o (by decide)) ⟨m, hR, (show (t.1 0 5 + 1).toInt = _ by omega), t8, hw⟩
    refine OK.ieq (fun h => z 5 (.inr ⟨l5, ?_⟩)) (fun h => z 3 (.inl ⟨l3, ?_⟩))
    · rcases hy with hy | hy
      · exact hy.2
      · omega
    · rcases hy with hy | hy
      · omega
      · exact hy.2
  refine OK.ilt (fun h => k43 0 (.inl ⟨lt_0, fun h9 => by omega⟩)) (fun h => ?_)
  have t3 : (t.1 0 3).toInt = (σ.1 0 3).toInt := by rw [c'.2.1 3 (by decide)]
  have t1 : t.1 1 = σ.1 1 := c'.1 1 (by decide) (by decide)
  have np : (t.1 0 5).toNatClampNeg = s + 1 + m := nC (by omega)
  have hb := b_byteAt (t.1 0 5) t (by omega) ⟨by omega, by omega⟩
  rw [np, t1, t3] at hb
  refine OK.bndR hb (fun v hv => ?_)
  dsimp only
  exact OK.ieq (fun h9 => k43 1 (.inr ⟨lt_1, by omega, by have := hv.1; omega⟩)) (fun h9 => k43 0 (.inl ⟨lt_0, fun h8 => by have := hv.1; omega⟩))
theorem b_go_0 (T : Nat → Int32) (n : Int) (p : Nat) (hn2 : 0 ≤ n ∧ n ≤ 1000) : ∀ (f k : Nat) (σ : ST), σ.1 1 = T → (σ.1 0 3).toInt = n → (σ.1 0 5).toInt = k → p ≤ k → (∀ i, p ≤ i → i < k → isB (bt T n i)) → ((k : Int) ≤ 1003) → 1003 < f + k → OK (f_X11_go_0 f σ) (RZ [] GI σ fun t => ∃ s, SK T n p s ∧ TB_ T n s t) := by
  intro f
  induction f with
  | zero => intro k σ h1 h2 h3 h4 h5 h6 h7; omega
  | succ f ih =>
    intro k σ hT hn h5 hpk hB hk hf
    rw [f_X11_go_0]
    unfold f_X11_go_26 f_X11_go_136 f_X11_go_101
    have lt_0 := li_0
    have lt_1 := li_1
    have lt_5 := li_5
    have lt_8 := li_8
    have l32 := li_32
    have l10 := li_10
    have l45 : (45 : Int32).toInt = 45 := by decide
    have np : (σ.1 0 5).toNatClampNeg = k := nC (by omega)
    have e1 := il_addE (x := σ.1 0 5) (y := 1) (by omega) (by omega)
    have np1 : (σ.1 0 5 + 1).toNatClampNeg = k + 1 := nC (by omega)
    have hb := b_byteAt (σ.1 0 5) σ (by omega) ⟨by omega, by omega⟩
    rw [np, hT, hn] at hb
    have nx : isB (bt T n k) → OK (f_X11_go_0 f (stI σ 0 5 (σ.1 0 5 + 1))) (RZ [] GI σ fun t => ∃ s, SK T n p s ∧ TB_ T n s t) := fun hb9 => by
      have hlt := (bt_rng (T := T) (n := n) (k := k)).2.2.mp (by unfold isB at hb9; omega)
      refine OK.trZ (ih (k + 1) (stI σ 0 5 (σ.1 0 5 + 1)) hT hn (by show (σ.1 0 5 + 1).toInt = _; omega) (by omega) (fun i i1 i2 => ?_) (by omega) (by omega)) (CH.rf.o (by decide)) (fun _ h => h) (fun _ h => h) (fun _ _ h => h)
      by_cases e : i = k
      · rw [e]; exact hb9
      · exact hB i i1 (by omega)
    refine OK.bndR hb (fun v hv => ?_)
    dsimp only
    refine OK.ieq (fun h => nx (.inl (by have := hv.1; omega))) (fun h32 => ?_)
    refine OK.bndR hb (fun v2 hv2 => ?_)
    dsimp only
    refine OK.ieq (fun h => nx (.inr (by have := hv2.1; omega))) (fun h10 => ?_)
    have hSK : SK T n p k := ⟨hpk, hB, by have a := hv.1; have b := hv2.1; unfold isB; omega⟩
    have z1 : (stI σ 0 4 (σ.1 0 5)).1 1 = T := hT
    have z3 : ((stI σ 0 4 (σ.1 0 5)).1 0 3).toInt = n := hn
    have z5 : (stI σ 0 4 (σ.1 0 5)).1 0 5 = σ.1 0 5 := rfl
    have z4 : ((stI σ 0 4 (σ.1 0 5)).1 0 4).toInt = k := h5
    have cz : CH [] GI σ (stI σ 0 4 (σ.1 0 5)) := CH.rf.o (by decide)
    generalize stI σ 0 4 (σ.1 0 5) = z at z1 z3 z5 z4 cz ⊢
    have hbz := b_byteAt (z.1 0 5) z (by rw [z5]; omega) ⟨by omega, by omega⟩
    have npz : (z.1 0 5).toNatClampNeg = k := by rw [z5]; exact np
    rw [npz, z1, z3] at hbz
    refine OK.bndR hbz (fun c hc => ?_)
    dsimp only
    have y1 : (stI z 0 13 0).1 1 = T := z1
    have y3 : ((stI z 0 13 0).1 0 3).toInt = n := z3
    have y5 : ((stI z 0 13 0).1 0 5).toInt = k := by show (z.1 0 5).toInt = k; rw [z5]; exact h5
    have y4 : ((stI z 0 13 0).1 0 4).toInt = k := z4
    have y13 : ((stI z 0 13 0).1 0 13).toInt = 0 := li_0
    have cy : CH [] GI σ (stI z 0 13 0) := cz.o (by decide)
    refine OK.ile (fun hc0 => ?_) (fun hc0 => ?_)
    · have hc1 := hc.1
      have hlt := (bt_rng (T := T) (n := n) (k := k)).2.2.mp (by omega)
      generalize stI z 0 13 0 = y at y1 y3 y5 y4 y13 cy ⊢
      have done : ∀ t : ST, CH [] GI σ t → (t.1 0 4).toInt = k → TB_ T n k t → OK (some t) (RZ [] GI σ fun t => ∃ s, SK T n p s ∧ TB_ T n s t) := fun t ct t4 ht => OK.zret ct ⟨k, hSK, ht⟩
      have k136 : (isD (bt T n k) ∨ bt T n k = 45 ∧ isD (bt T n (k + 1))) → OK ((f_X11_number y).bind fun q => some q) (RZ [] GI σ fun t => ∃ s, SK T n p s ∧ TB_ T n s t) := fun hd => by
        have hnum := b_number y k (by rw [y3]; exact hn2) y5 (by omega) y13
        rw [y1, y3] at hnum
        refine OK.bndZ hnum (fun t ct ht => ?_)
        have t4 : (t.1 0 4).toInt = k := by rw [ct.2.1 4 (by decide)]; exact y4
        exact done t (cy.trans (ct.mono (by decide) (by decide))) t4 ⟨t4, .inr (.inr (.inl ⟨hd, ht⟩))⟩
      have k143 : ¬ isL (bt T n k) → ¬ isD (bt T n k) → ¬ (bt T n k = 45 ∧ isD (bt T n (k + 1))) → OK (f_X11_go_143 c y) (RZ [] GI σ fun t => ∃ s, SK T n p s ∧ TB_ T n s t) := fun hnl hnd hnm => by
        unfold f_X11_go_143
        have l34 : (34 : Int32).toInt = 34 := by decide
        refine OK.ieq (fun h34 => ?_) (fun h34 => ?_)
        · have hq := b_quoted y k (by rw [y3]; exact hn2) y5 (by omega)
          rw [y1, y3] at hq
          refine OK.bndZ hq (fun t ct ht => ?_)
          have t4 : (t.1 0 4).toInt = k := by rw [ct.2.1 4 (by decide)]; exact y4
          have t13 : (t.1 0 13).toInt = 0 := by rw [ct.2.1 13 (by decide)]; exact y13
          exact done t (cy.trans (ct.mono (by decide) (by decide))) t4 ⟨t4, .inr (.inr (.inr (.inl ⟨by omega, t13, ht⟩)))⟩
        · have ls : (123 : Int32).toInt = 123 ∧ (125 : Int32).toInt = 125 ∧ (91 : Int32).toInt = 91 ∧ (93 : Int32).toInt = 93 ∧ (44 : Int32).toInt = 44 ∧ (59 : Int32).toInt = 59 := by decide
          have ey := il_addE (x := y.1 0 5) (y := 1) (by omega) (by omega)
          have l4 := li_4
          have k169 : ∀ y0 : Int32, ((y0.toInt = c.toInt ∧ (c.toInt = 123 ∨ c.toInt = 125 ∨ c.toInt = 91 ∨ c.toInt = 93 ∨ c.toInt = 44 ∨ c.toInt = 59)) ∨ y0.toInt = 0 ∧ ¬ (c.toInt = 123 ∨ c.toInt = 125 ∨ c.toInt = 91 ∨ c.toInt = 93 ∨ c.toInt = 44 ∨ c.toInt = 59)) → OK (f_X11_go_169 y0 y) (RZ [] GI σ fun t => ∃ s, SK T n p s ∧ TB_ T n s t) := fun y0 hy0 => by
            unfold f_X11_go_169 f_X11_go_185
            have fin : ∀ w : Int32, ((w.toInt = 4 ∧ 0 < y0.toInt) ∨ w.toInt = 5 ∧ y0.toInt ≤ 0) → OK (some (stI (stI (stI y 0 13 y0) 0 6 w) 0 5 ((stI (stI y 0 13 y0) 0 6 w).1 0 5 + 1))) (RZ [] GI σ fun t => ∃ s, SK T n p s ∧ TB_ T n s t) := fun w hw => by
              refine done _ (((cy.o (by decide)).o (by decide)).o (by decide)) y4 ⟨y4, .inr (.inr (.inr (.inr ⟨⟨by omega, hnl, hnd, hnm, by omega⟩, (show (y.1 0 5 + 1).toInt = _ by omega), ?_⟩)))⟩
              rcases hy0 with hy0 | hy0
              · refine .inl ⟨by rw [← hc1]; exact hy0.2, ?_, ?_⟩
                · show w.toInt = 4
                  omega
                · show y0.toInt = _
                  omega
              · refine .inr ⟨by rw [← hc1]; exact hy0.2, ?_, ?_⟩
                · show w.toInt = 5
                  omega
                · show y0.toInt = _
                  omega
            refine OK.ile (fun h => ?_) (fun h => ?_)
            · have h : y0.toInt ≤ (0 : Int32).toInt := h
              exact fin 5 (by omega)
            · have h : (0 : Int32).toInt < y0.toInt := h
              exact fin 4 (by omega)
          unfold f_X11_isSign f_X11_isSign_36
          refine OK.bndR (s := y) (Q := fun v => v.toInt = 1 ∧ (c.toInt = 123 ∨ c.toInt = 125 ∨ c.toInt = 91 ∨ c.toInt = 93 ∨ c.toInt = 44 ∨ c.toInt = 59) ∨ v.toInt = 0 ∧ ¬ (c.toInt = 123 ∨ c.toInt = 125 ∨ c.toInt = 91 ∨ c.toInt = 93 ∨ c.toInt = 44 ∨ c.toInt = 59)) ?_ (fun q hq => ?_)
          · refine OK.ieq (fun _ => OK.roret (by omega)) (fun _ => ?_)
            refine OK.ieq (fun _ => OK.roret (by omega)) (fun _ => ?_)
            refine OK.ieq (fun _ => OK.roret (by omega)) (fun _ => ?_)
            refine OK.ieq (fun _ => OK.roret (by omega)) (fun _ => ?_)
            refine OK.ieq (fun _ => OK.roret (by omega)) (fun _ => ?_)
            exact OK.ieq (fun _ => OK.roret (by omega)) (fun _ => OK.roret (by omega))
          · dsimp only
            exact OK.ieq (fun _ => k169 0 (by omega)) (fun _ => k169 c (by omega))
      refine OK.bndR (b_isLetter _ _) (fun q7 h7 => ?_)
      dsimp only
      refine OK.ieq (fun hl0 => ?_) (fun hl1 => ?_)
      · have hnl : ¬ isL (bt T n k) := by unfold isL; rw [← hc1]; omega
        refine OK.bndR (b_isDigit _ _) (fun q9 h9 => ?_)
        dsimp only
        rw [hc1] at h9
        refine OK.ieq (fun hd0 => ?_) (fun hd1 => ?_)
        · have hnd : ¬ isD (bt T n k) := by
            rcases h9 with h9 | h9
            · exact h9.2
            · omega
          refine OK.ieq (fun h45 => ?_) (fun h45 => k143 hnl hnd (fun h => by omega))
          have ey := il_addE (x := y.1 0 5) (y := 1) (by omega) (by omega)
          have hb1 := b_byteAt (y.1 0 5 + 1) y (by omega) ⟨by omega, by omega⟩
          have npy : (y.1 0 5 + 1).toNatClampNeg = k + 1 := nC (by omega)
          rw [npy, y1, y3] at hb1
          refine OK.bndR hb1 (fun q11 h11 => ?_)
          dsimp only
          refine OK.bndR (b_isDigit _ _) (fun q13 h13 => ?_)
          dsimp only
          rw [h11.1] at h13
          refine OK.ieq (fun h0 => k143 hnl hnd (fun h => ?_)) (fun h1 => k136 (.inr ⟨by omega, ?_⟩))
          · rcases h13 with h13 | h13
            · exact h13.2 h.2
            · omega
          · rcases h13 with h13 | h13
            · omega
            · exact h13.2
        · refine k136 (.inl ?_)
          rcases h9 with h9 | h9
          · omega
          · exact h9.2
      · have hL : isL (bt T n k) := by unfold isL; rw [← hc1]; omega
        have hwd := b_word 8 y (by omega) k (by rw [y3]; exact hn2) y5 (by omega)
        rw [y1, y3] at hwd
        refine OK.bndZ hwd (fun t ct ht => ?_)
        obtain ⟨m, hR, t5, t8, t7⟩ := ht
        have t4 : (t.1 0 4).toInt = k := by rw [ct.2.1 4 (by decide)]; exact y4
        have t13 : (t.1 0 13).toInt = 0 := by rw [ct.2.1 13 (by decide)]; exact y13
        have ct' : CH [] GI σ t := cy.trans (ct.mono (by decide) (by decide))
        have e8 : (8 : Int32).toInt.toNat = 8 := by decide
        rw [e8] at t7
        have fin : ∀ w : Int32, (w.toInt = 1 ∧ m ≤ 8 ∨ w.toInt = 5 ∧ ¬ m ≤ 8) → OK (some (stI t 0 6 w)) (RZ [] GI σ fun t => ∃ s, SK T n p s ∧ TB_ T n s t) := fun w hw => done _ (ct'.o (by decide)) t4 ⟨t4, .inr (.inl ⟨hL, t13, m, hR, t5, t8, t7, hw⟩)⟩
        exact OK.ilt (fun h => fin 5 (by omega)) (fun h => fin 1 (by omega))
    · refine OK.zret (cy.o (by decide)) ⟨k, hSK, y4, .inl ⟨by have := hc.1; omega, li_0, y13, y5⟩⟩
theorem b_go (σ : ST) (p : Nat) (hn2 : 0 ≤ (σ.1 0 3).toInt ∧ (σ.1 0 3).toInt ≤ 1000) (h5 : (σ.1 0 5).toInt = p) (hp : p ≤ 1003) : OK (f_X11_go σ) (RZ [] GI σ fun t => ∃ s, SK (σ.1 1) (σ.1 0 3).toInt p s ∧ TB_ (σ.1 1) (σ.1 0 3).toInt s t) := by
  have lu := FUi
  exact b_go_0 (σ.1 1) (σ.1 0 3).toInt p hn2 FU p σ rfl rfl h5 (Nat.le_refl _) (fun i h1 h2 => by omega) (by omega) (by omega)
