/-! the pairs of plans that are kept, both sides -/
/-- one put to the front, those ahead of it behind it -/
def SHF (f g : Nat → Int32) (v : Int32) (k : Nat) : Prop := ∀ i, g i = if i = 0 then v else if i ≤ k then f (i - 1) else f i
/-- a pair used -/
def USD (v : Int32) (f g : Nat → Int32) (c c' fo fo' nf nf' : Int32) : Prop := ((∀ i : Nat, (i : Int) < c.toInt → ¬ f i = v) ∧ fo' = fo ∧ nf' = nf + 1 ∧ (c.toInt = 4 ∧ c'.toInt = 4 ∨ c.toInt < 4 ∧ c'.toInt = c.toInt + 1) ∧ SHF f g v (c'.toInt.toNat - 1)) ∨ ∃ k : Nat, (k : Int) < c.toInt ∧ f k = v ∧ fo' = fo + 1 ∧ nf' = nf ∧ c' = c ∧ SHF f g v k
/-- the pairs kept, on both sides -/
def KPR (σ τ : ST) : Prop := (σ.1 48 1 = τ.1 0 92 ∧ 0 ≤ (τ.1 0 92).toInt ∧ (τ.1 0 92).toInt ≤ 4) ∧ (σ.1 48 2 = τ.1 0 93 ∧ σ.1 48 3 = τ.1 0 94) ∧ (∀ i : Nat, (i : Int) < (τ.1 0 92).toInt → σ.1 49 i = τ.1 55 i) ∧ ∀ i j : Nat, i < j → (j : Int) < (τ.1 0 92).toInt → ¬ τ.1 55 i = τ.1 55 j
theorem shf_step {f f1 g : Nat → Int32} {v : Int32} {k : Nat} (hk : 0 < k) (h1 : ∀ j, f1 j = if j = k then f (k - 1) else f j) (h : SHF f1 g v (k - 1)) : SHF f g v k := by
  intro i
  rw [h i]
  by_cases h0 : i = 0
  · rw [if_pos h0, if_pos h0]
  · rw [if_neg h0, if_neg h0]
    by_cases h2 : i ≤ k - 1
    · rw [if_pos h2, if_pos (by omega), h1, if_neg (by omega)]
    · rw [if_neg h2, h1]
      by_cases h3 : i = k
      · rw [if_pos h3, if_pos (by omega), h3]
      · rw [if_neg h3, if_neg (by omega)]
theorem a_use97 (v : Int32) : ∀ (n k : Nat) (x5 : Int32) (σ : ST), x5.toInt = k → QT (f_X9_use_97 n v x5 σ) (fun s => (∀ c, c ≠ 49 → s.1 c = σ.1 c) ∧ s.2 = σ.2 ∧ SHF (σ.1 49) (s.1 49) v k) := by
  have l0 := li_0
  have l1 := li_1
  have lm := li_m1
  intro n
  induction n with
  | zero =>
    intro k x5 σ _
    rw [f_X9_use_97]
    exact QT.none
  | succ n ih =>
    intro k x5 σ h5
    rw [f_X9_use_97]
    refine QT.ile (fun hle => QT.ret ⟨fun c hc => stI_ne hc, rfl, fun i => ?_⟩) (fun hlt => ?_)
    · have n0 : (0 : Int32).toNatClampNeg = 0 := by decide
      rw [n0, stI_at]
      by_cases hi : i = 0
      · rw [upA hi, if_pos hi]
      · rw [upN hi, if_neg hi, if_neg (by omega)]
    · refine QT.grd (fun hg1 => QT.grd (fun hg2 => ?_))
      have e1 := il_subE (x := x5) (y := 1) (by omega) (by omega)
      have e2 := il_addE (x := x5) (y := -1) (by omega) (by omega)
      have n1 : (x5 - 1).toNatClampNeg = k - 1 := nC (by omega)
      have n2 : x5.toNatClampNeg = k := nC h5
      rw [n1, n2]
      refine (ih (k - 1) (x5 + -1) (stI σ 49 k (σ.1 49 (k - 1))) (by omega)).mono (fun s hs => ?_)
      obtain ⟨s1, s2, s3⟩ := hs
      refine ⟨fun c hc => (s1 c hc).trans (stI_ne hc), s2, shf_step (f1 := (stI σ 49 k (σ.1 49 (k - 1))).1 49) (by omega) (fun j => ?_) s3⟩
      rw [stI_at]
      by_cases hj : j = k
      · rw [upA hj, if_pos hj]
      · rw [upN hj, if_neg hj]
theorem q_use105 (v : Int32) : ∀ (n k : Nat) (x5 : Int32) (σ : ST), x5.toInt = k → QT (f_X11_uses_105 n v x5 σ) (fun s => (∀ c, c ≠ 55 → s.1 c = σ.1 c) ∧ s.2 = σ.2 ∧ SHF (σ.1 55) (s.1 55) v k) := by
  have l0 := li_0
  have l1 := li_1
  have lm := li_m1
  intro n
  induction n with
  | zero =>
    intro k x5 σ _
    rw [f_X11_uses_105]
    exact QT.none
  | succ n ih =>
    intro k x5 σ h5
    rw [f_X11_uses_105]
    refine QT.ile (fun hle => QT.ret ⟨fun c hc => stI_ne hc, rfl, fun i => ?_⟩) (fun hlt => ?_)
    · have n0 : (0 : Int32).toNatClampNeg = 0 := by decide
      rw [n0, stI_at]
      by_cases hi : i = 0
      · rw [upA hi, if_pos hi]
      · rw [upN hi, if_neg hi, if_neg (by omega)]
    · refine QT.grd (fun hg1 => QT.grd (fun hg2 => ?_))
      have e1 := il_subE (x := x5) (y := 1) (by omega) (by omega)
      have e2 := il_addE (x := x5) (y := -1) (by omega) (by omega)
      have n1 : (x5 - 1).toNatClampNeg = k - 1 := nC (by omega)
      have n2 : x5.toNatClampNeg = k := nC h5
      rw [n1, n2]
      refine (ih (k - 1) (x5 + -1) (stI σ 55 k (σ.1 55 (k - 1))) (by omega)).mono (fun s hs => ?_)
      obtain ⟨s1, s2, s3⟩ := hs
      refine ⟨fun c hc => (s1 c hc).trans (stI_ne hc), s2, shf_step (f1 := (stI σ 55 k (σ.1 55 (k - 1))).1 55) (by omega) (fun j => ?_) s3⟩
      rw [stI_at]
      by_cases hj : j = k
      · rw [upA hj, if_pos hj]
      · rw [upN hj, if_neg hj]
/-- what a use leaves of the class, and of the reference -/
def USA (v : Int32) (σ s : ST) : Prop := (∀ c, c ≠ 48 → c ≠ 49 → s.1 c = σ.1 c) ∧ s.2 = σ.2 ∧ (∀ i, i ≠ 1 → i ≠ 2 → i ≠ 3 → s.1 48 i = σ.1 48 i) ∧ USD v (σ.1 49) (s.1 49) (σ.1 48 1) (s.1 48 1) (σ.1 48 2) (s.1 48 2) (σ.1 48 3) (s.1 48 3)
def USB (v : Int32) (τ w : ST) : Prop := (∀ c, c ≠ 0 → c ≠ 55 → w.1 c = τ.1 c) ∧ w.2 = τ.2 ∧ (∀ i, i ≠ 92 → i ≠ 93 → i ≠ 94 → w.1 0 i = τ.1 0 i) ∧ USD v (τ.1 55) (w.1 55) (τ.1 0 92) (w.1 0 92) (τ.1 0 93) (w.1 0 93) (τ.1 0 94) (w.1 0 94)
theorem a_use (p0 p1 : Int32) (σ : ST) (hc : 0 ≤ (σ.1 48 1).toInt ∧ (σ.1 48 1).toInt ≤ 4) : QT (f_X9_use p0 p1 σ) (fun s => USA (10 * p0 + p1) σ s) := by
  have l0 := li_0
  have l1 := li_1
  have l3 := li_3
  have l4 := li_4
  have lm := li_m1
  unfold f_X9_use
  generalize 10 * p0 + p1 = v
  have key : ∀ (n k : Nat) (x4 : Int32), x4.toInt = k → (k : Int) ≤ (σ.1 48 1).toInt → (∀ i, i < k → ¬ σ.1 49 i = v) → QT (f_X9_use_10 n v x4 σ) (fun s => USA v σ s) := by
    intro n
    induction n with
    | zero =>
      intro k x4 _ _ _
      rw [f_X9_use_10]
      exact QT.none
    | succ n ih =>
      intro k x4 h4 hk hno
      rw [f_X9_use_10]
      unfold f_X9_use_35 f_X9_use_89
      refine QT.ile (fun hle => ?_) (fun hlt => ?_)
      · -- none
        refine QT.ile (fun _ => ?_) (fun h => by omega)
        refine QT.lt (fun z hz => ?_)
        have z1 : (stI σ 48 3 (σ.1 48 3 + 1)).1 48 1 = σ.1 48 1 := by rw [stI_at, upN (by omega)]
        rw [z1] at hz
        have ea := il_addE (x := σ.1 48 1) (y := 1) (by omega) (by omega)
        have zc : ∀ c, c ≠ 48 → z.1 c = σ.1 c := fun c hc9 => by rw [hz, stI_ne hc9, stI_ne hc9]
        have zL : z.2 = σ.2 := by rw [hz]; rfl
        have z48 : z.1 48 = upd (upd (σ.1 48) 3 (σ.1 48 3 + 1)) 1 (if 4 < σ.1 48 1 + 1 then 4 else σ.1 48 1 + 1) := by rw [hz, stI_at, stI_at]
        clear hz
        have zi1 : (z.1 48 1).toInt = if (σ.1 48 1).toInt = 4 then 4 else (σ.1 48 1).toInt + 1 := by
          rw [z48, upA rfl]
          by_cases h9 : 4 < σ.1 48 1 + 1
          · have h9' := il_lt h9
            rw [if_pos h9, if_pos (by omega)]
            exact l4
          · have h9' := il_nlt h9
            rw [if_neg h9, if_neg (by omega)]
            exact ea
        have zr : (σ.1 48 1).toInt = 4 ∧ (z.1 48 1).toInt = 4 ∨ (σ.1 48 1).toInt < 4 ∧ (z.1 48 1).toInt = (σ.1 48 1).toInt + 1 := by
          by_cases h9 : (σ.1 48 1).toInt = 4
          · rw [if_pos h9] at zi1
            exact .inl ⟨h9, zi1⟩
          · rw [if_neg h9] at zi1
            exact .inr ⟨by omega, zi1⟩
        have es := il_subE (x := z.1 48 1) (y := 1) (by omega) (by omega)
        rw [if_neg (fun h9 => by have := il_lt h9; omega)]
        refine (a_use97 v FU ((z.1 48 1).toInt.toNat - 1) _ z (by omega)).mono (fun s hs => ?_)
        obtain ⟨s1, s2, s3⟩ := hs
        have s48 : s.1 48 = z.1 48 := s1 48 (by omega)
        rw [zc 49 (by omega)] at s3
        refine ⟨fun c c8 c9 => (s1 c c9).trans (zc c c8), s2.trans zL, fun i i1 i2 i3 => by rw [s48, z48, upN i1, upN i3], .inl ⟨fun i hi => hno i (by omega), ?_, ?_, ?_, ?_⟩⟩
        · rw [s48, z48, upN (by omega), upN (by omega)]
        · rw [s48, z48, upN (by omega), upA rfl]
        · rw [s48]
          exact zr
        · rw [s48]
          exact s3
      · unfold f_X9_pairAt
        rw [if_neg (fun h9 => by have := il_lt h9; omega), if_neg (fun h9 => by have := il_le h9; omega), if_neg (fun h9 => by have := il_le h9; omega), if_pos (by omega), sbnd]
        dsimp only
        have n4 : x4.toNatClampNeg = k := nC h4
        rw [n4]
        refine QT.ite (fun he => ?_) (fun he => ?_)
        · refine QT.ile (fun h => by omega) (fun _ => ?_)
          rw [if_neg (fun h9 => by have := il_lt h9; omega)]
          refine (a_use97 v FU k x4 _ h4).mono (fun s hs => ?_)
          obtain ⟨s1, s2, s3⟩ := hs
          have s48 : s.1 48 = upd (σ.1 48) 2 (σ.1 48 2 + 1) := by rw [s1 48 (by omega), stI_at]
          rw [stI_ne (by omega)] at s3
          refine ⟨fun c c8 c9 => (s1 c c9).trans (stI_ne c8), s2, fun i i1 i2 i3 => by rw [s48, upN i2], .inr ⟨k, by omega, he, ?_, ?_, ?_, s3⟩⟩
          · rw [s48, upA rfl]
          · rw [s48, upN (by omega)]
          · rw [s48, upN (by omega)]
        · have ea := il_addE (x := x4) (y := 1) (by omega) (by omega)
          refine ih (k + 1) (x4 + 1) (by omega) (by omega) (fun i hi => ?_)
          by_cases h9 : i = k
          · rw [h9]
            exact he
          · exact hno i (by omega)
  exact key FU 0 0 l0 (by omega) (fun i hi => by omega)
theorem q_uses103 (v x2 : Int32) {k : Nat} (τ : ST) (h2 : x2.toInt = k) : QT (f_X11_uses_103 v x2 τ) (fun s => (∀ c, c ≠ 55 → s.1 c = τ.1 c) ∧ s.2 = τ.2 ∧ SHF (τ.1 55) (s.1 55) v k) := q_use105 v FU k x2 τ h2
theorem q_uses (v : Int32) (τ : ST) (hc : 0 ≤ (τ.1 0 92).toInt ∧ (τ.1 0 92).toInt ≤ 4) : QT (f_X11_uses v τ) (fun w => USB v τ w) := by
  have l0 := li_0
  have l1 := li_1
  have l4 := li_4
  have lm := li_m1
  unfold f_X11_uses
  have key : ∀ (n k : Nat) (x2 x3 : Int32), x3.toInt = k → (k : Int) ≤ (τ.1 0 92).toInt → ((x2.toInt = -1 ∧ ∀ i, i < k → ¬ τ.1 55 i = v) ∨ ∃ j : Nat, x2.toInt = j ∧ j < k ∧ τ.1 55 j = v) → QT (f_X11_uses_4 n v x2 x3 τ) (fun w => USB v τ w) := by
    intro n
    induction n with
    | zero =>
      intro k x2 x3 _ _ _
      rw [f_X11_uses_4]
      exact QT.none
    | succ n ih =>
      intro k x2 x3 h3 hk hx
      rw [f_X11_uses_4]
      refine QT.ile (fun hle => ?_) (fun hlt => ?_)
      · unfold f_X11_uses_48 f_X11_uses_66
        refine QT.ilt (fun hn => ?_) (fun hn => ?_)
        · -- none
          have hno : ∀ i, i < k → ¬ τ.1 55 i = v := by
            rcases hx with h | ⟨j, h, _, _⟩
            · exact h.2
            · omega
          refine QT.ile (fun h => by omega) (fun _ => ?_)
          refine QT.ile (fun h => by omega) (fun _ => ?_)
          have y92 : (stI (stI τ 0 93 (τ.1 0 93 + 0)) 0 94 ((stI τ 0 93 (τ.1 0 93 + 0)).1 0 94 + 1)).1 0 92 = τ.1 0 92 := by rw [stI_at, upN (by omega), stI_at, upN (by omega)]
          have y0 : (stI (stI τ 0 93 (τ.1 0 93 + 0)) 0 94 ((stI τ 0 93 (τ.1 0 93 + 0)).1 0 94 + 1)).1 0 = upd (upd (τ.1 0) 93 (τ.1 0 93 + 0)) 94 (τ.1 0 94 + 1) := by
            rw [stI_at, stI_at, upN (by omega)]
          have yc : ∀ c, c ≠ 0 → (stI (stI τ 0 93 (τ.1 0 93 + 0)) 0 94 ((stI τ 0 93 (τ.1 0 93 + 0)).1 0 94 + 1)).1 c = τ.1 c := fun c h => by rw [stI_ne h, stI_ne h]
          have yL : (stI (stI τ 0 93 (τ.1 0 93 + 0)) 0 94 ((stI τ 0 93 (τ.1 0 93 + 0)).1 0 94 + 1)).2 = τ.2 := rfl
          rw [y92]
          generalize stI (stI τ 0 93 (τ.1 0 93 + 0)) 0 94 ((stI τ 0 93 (τ.1 0 93 + 0)).1 0 94 + 1) = y at y0 yc yL
          have e93 : τ.1 0 93 + 0 = τ.1 0 93 := Int32.add_zero _
          have fin : ∀ c' : Int32, ((τ.1 0 92).toInt = 4 ∧ c'.toInt = 4 ∨ (τ.1 0 92).toInt < 4 ∧ c'.toInt = (τ.1 0 92).toInt + 1) → QT (f_X11_uses_93 v c' y) (fun w => USB v τ w) := fun c' hc' => by
            unfold f_X11_uses_93
            have g : (stI y 0 92 c').1 0 92 = c' := by rw [stI_at, upA rfl]
            rw [g]
            have es := il_subE (x := c') (y := 1) (by omega) (by omega)
            refine (q_uses103 v (c' - 1) (k := c'.toInt.toNat - 1) (stI y 0 92 c') (by omega)).mono (fun w hw => ?_)
            obtain ⟨w1, w2, w3⟩ := hw
            rw [stI_ne (by omega), yc 55 (by omega)] at w3
            have w0 : w.1 0 = upd (y.1 0) 92 c' := by rw [w1 0 (by omega), stI_at]
            refine ⟨fun c c0 c55 => (w1 c c55).trans ((stI_ne c0).trans (yc c c0)), w2.trans yL, fun i i2 i3 i4 => by rw [w0, upN i2, y0, upN i4, upN i3], .inl ⟨fun i hi => hno i (by omega), ?_, ?_, ?_, ?_⟩⟩
            · rw [w0, upN (by omega), y0, upN (by omega), upA rfl, e93]
            · rw [w0, upN (by omega), y0, upA rfl]
            · rw [w0, upA rfl]
              exact hc'
            · rw [w0, upA rfl]
              exact w3
          refine QT.ile (fun h4 => fin 4 (.inl ⟨by omega, l4⟩)) (fun h4 => ?_)
          have ea := il_addE (x := τ.1 0 92) (y := 1) (by omega) (by omega)
          exact fin _ (.inr ⟨by omega, ea⟩)
        · have hx : ∃ j : Nat, x2.toInt = j ∧ j < k ∧ τ.1 55 j = v := by
            rcases hx with ⟨h, _⟩ | h
            · omega
            · exact h
          obtain ⟨j, j1, j2, j3⟩ := hx
          refine QT.ile (fun _ => ?_) (fun h => by omega)
          refine QT.ile (fun _ => ?_) (fun h => by omega)
          have y0 : (stI (stI τ 0 93 (τ.1 0 93 + 1)) 0 94 ((stI τ 0 93 (τ.1 0 93 + 1)).1 0 94 + 0)).1 0 = upd (upd (τ.1 0) 93 (τ.1 0 93 + 1)) 94 (τ.1 0 94 + 0) := by
            rw [stI_at, stI_at, upN (by omega)]
          have yc : ∀ c, c ≠ 0 → (stI (stI τ 0 93 (τ.1 0 93 + 1)) 0 94 ((stI τ 0 93 (τ.1 0 93 + 1)).1 0 94 + 0)).1 c = τ.1 c := fun c h => by rw [stI_ne h, stI_ne h]
          have yL : (stI (stI τ 0 93 (τ.1 0 93 + 1)) 0 94 ((stI τ 0 93 (τ.1 0 93 + 1)).1 0 94 + 0)).2 = τ.2 := rfl
          generalize stI (stI τ 0 93 (τ.1 0 93 + 1)) 0 94 ((stI τ 0 93 (τ.1 0 93 + 1)).1 0 94 + 0) = y at y0 yc yL
          have e94 : τ.1 0 94 + 0 = τ.1 0 94 := Int32.add_zero _
          refine (q_uses103 v x2 y j1).mono (fun w hw => ?_)
          obtain ⟨w1, w2, w3⟩ := hw
          rw [yc 55 (by omega)] at w3
          have w0 : w.1 0 = y.1 0 := w1 0 (by omega)
          refine ⟨fun c c0 c55 => (w1 c c55).trans (yc c c0), w2.trans yL, fun i i2 i3 i4 => by rw [w0, y0, upN i4, upN i3], .inr ⟨j, by omega, j3, ?_, ?_, ?_, w3⟩⟩
          · rw [w0, y0, upN (by omega), upA rfl]
          · rw [w0, y0, upA rfl, e94]
          · rw [w0, y0, upN (by omega), upN (by omega)]
      · refine QT.grd (fun _ => ?_)
        have n3 : x3.toNatClampNeg = k := nC h3
        have ea := il_addE (x := x3) (y := 1) (by omega) (by omega)
        unfold f_X11_uses_27
        rw [n3]
        refine QT.ite (fun he => ?_) (fun he => ?_)
        · exact ih (k + 1) x3 (x3 + 1) (by omega) (by omega) (.inr ⟨k, h3, by omega, he⟩)
        · refine ih (k + 1) x2 (x3 + 1) (by omega) (by omega) ?_
          rcases hx with ⟨h, h9⟩ | ⟨j, j1, j2, j3⟩
          · refine .inl ⟨h, fun i hi => ?_⟩
            by_cases e : i = k
            · rw [e]
              exact he
            · exact h9 i (by omega)
          · exact .inr ⟨j, j1, by omega, j3⟩
  exact key FU 0 (-1) 0 l0 (by omega) (.inl ⟨lm, fun i hi => by omega⟩)
/-- the pairs kept stay alike -/
theorem KPR.use {v : Int32} {σ τ s w : ST} (h : KPR σ τ) (hA : USA v σ s) (hB : USB v τ w) : KPR s w := by
  obtain ⟨⟨h1, h2, h3⟩, ⟨h4, h5⟩, h6, h7⟩ := h
  obtain ⟨_, _, _, uA⟩ := hA
  obtain ⟨_, _, _, uB⟩ := hB
  rw [h1] at uA
  rcases uA with ⟨a1, a2, a3, a4, a5⟩ | ⟨k, a1, a2, a3, a4, a5, a6⟩
  · rcases uB with ⟨b1, b2, b3, b4, b5⟩ | ⟨j, b1, b2, _⟩
    · have ec : (s.1 48 1).toInt = (w.1 0 92).toInt := by omega
      have ec' : s.1 48 1 = w.1 0 92 := Int32.toInt_inj.mp ec
      rw [ec] at a5
      refine ⟨⟨ec', by omega, by omega⟩, ⟨by rw [a2, b2, h4], by rw [a3, b3, h5]⟩, fun i hi => ?_, fun i j hij hj => ?_⟩
      · rw [a5 i, b5 i]
        by_cases i0 : i = 0
        · rw [if_pos i0, if_pos i0]
        · rw [if_neg i0, if_neg i0, if_pos (by omega), if_pos (by omega)]
          exact h6 (i - 1) (by omega)
      · rw [b5 i, b5 j, if_neg (show ¬ j = 0 by omega), if_pos (show j ≤ (w.1 0 92).toInt.toNat - 1 by omega)]
        by_cases i0 : i = 0
        · rw [if_pos i0]
          exact fun e => b1 (j - 1) (by omega) e.symm
        · rw [if_neg i0, if_pos (by omega)]
          exact h7 (i - 1) (j - 1) (by omega) (by omega)
    · exact absurd ((h6 j b1).trans b2) (a1 j b1)
  · rcases uB with ⟨b1, _⟩ | ⟨j, b1, b2, b3, b4, b5, b6⟩
    · exact absurd ((h6 k a1).symm.trans a2) (b1 k a1)
    · have ek : k = j := by
        have e9 : τ.1 55 k = τ.1 55 j := ((h6 k a1).symm.trans a2).trans b2.symm
        by_cases c1 : k < j
        · exact absurd e9 (h7 k j c1 b1)
        · by_cases c2 : j < k
          · exact absurd e9.symm (h7 j k c2 a1)
          · omega
      subst ek
      unfold KPR
      rw [b5]
      refine ⟨⟨by rw [a5], h2, h3⟩, ⟨by rw [a3, b3, h4], by rw [a4, b4, h5]⟩, fun i hi => ?_, fun i j hij hj => ?_⟩
      · rw [a6 i, b6 i]
        by_cases i0 : i = 0
        · rw [if_pos i0, if_pos i0]
        · rw [if_neg i0, if_neg i0]
          by_cases ik : i ≤ k
          · rw [if_pos ik, if_pos ik]
            exact h6 (i - 1) (by omega)
          · rw [if_neg ik, if_neg ik]
            exact h6 i (by omega)
      · rw [b6 i, b6 j, if_neg (show ¬ j = 0 by omega)]
        by_cases i0 : i = 0
        · rw [if_pos i0]
          by_cases jk : j ≤ k
          · rw [if_pos jk, ← b2]
            exact fun e => h7 (j - 1) k (by omega) (by omega) e.symm
          · rw [if_neg jk, ← b2]
            exact h7 k j (by omega) (by omega)
        · rw [if_neg i0]
          by_cases ik : i ≤ k
          · rw [if_pos ik]
            by_cases jk : j ≤ k
            · rw [if_pos jk]
              exact h7 (i - 1) (j - 1) (by omega) (by omega)
            · rw [if_neg jk]
              exact h7 (i - 1) j (by omega) (by omega)
          · rw [if_neg ik, if_neg (show ¬ j ≤ k by omega)]
            exact h7 i j hij (by omega)
