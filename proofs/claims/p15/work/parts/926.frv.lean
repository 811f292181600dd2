/-! what a value's text leaves alone (wip/st5/frames8.py) -/
/-- the class's: all but its token and the tree that is being told -/
def KVA (s σ : ST) : Prop := (∀ c, c ≠ 2 → (c < 62 ∨ 71 < c) → σ.1 c = s.1 c) ∧ (σ.1 2 2 = s.1 2 2 ∧ ∀ i, i ≠ 1 → σ.1 62 i = s.1 62 i) ∧ (∀ c, c ≠ 2 → c ≠ 68 → σ.2.1 c = s.2.1 c) ∧ σ.2.2 = s.2.2
theorem KVA.rf {s : ST} : KVA s s := ⟨fun _ _ _ => rfl, ⟨rfl, fun _ _ => rfl⟩, fun _ _ _ => rfl, rfl⟩
theorem KVA.trans {s σ u : ST} (h : KVA s σ) (k : KVA σ u) : KVA s u := ⟨fun c a d => (k.1 c a d).trans (h.1 c a d), ⟨k.2.1.1.trans h.2.1.1, fun i a => (k.2.1.2 i a).trans (h.2.1.2 i a)⟩, fun c a d => (k.2.2.1 c a d).trans (h.2.2.1 c a d), k.2.2.2.trans h.2.2.2⟩
theorem KVA.i {s σ : ST} {c i : Nat} {v : Int32} (hc : c = 2 ∧ i ≠ 2 ∨ 62 ≤ c ∧ c ≤ 71 ∧ (c = 62 → i = 1)) (h : KVA s σ) : KVA s (stI σ c i v) := by
  refine ⟨fun d h1 h2 => ?_, ⟨?_, fun j hj => ?_⟩, h.2.2⟩
  · rw [stI_ne (by omega)]
    exact h.1 d h1 h2
  · by_cases e : c = 2
    · subst e
      rw [stI_at, upN (by omega)]
      exact h.2.1.1
    · rw [stI_ne (fun h => e h.symm)]
      exact h.2.1.1
  · by_cases e : c = 62
    · subst e
      rw [stI_at, upN (by omega)]
      exact h.2.1.2 j hj
    · rw [stI_ne (fun h => e h.symm)]
      exact h.2.1.2 j hj
theorem KVA.l {s σ : ST} {c i : Nat} {v : Int64} (hc : c = 2 ∨ c = 68) (h : KVA s σ) : KVA s (stL σ c i v) := by
  refine ⟨h.1, h.2.1, fun d h1 h2 => ?_, h.2.2.2⟩
  rw [stL_ne (by omega)]
  exact h.2.2.1 d h1 h2
/-- the reference's -/
def KVB (s σ : ST) : Prop := (∀ c, c ≠ 0 → c ≠ 20 → (c < 23 ∨ 30 < c) → σ.1 c = s.1 c) ∧ (∀ i, i ≠ 4 → i ≠ 5 → i ≠ 6 → i ≠ 8 → i ≠ 10 → i ≠ 12 → i ≠ 13 → i ≠ 46 → σ.1 0 i = s.1 0 i) ∧ (∀ c, c ≠ 0 → c ≠ 21 → c ≠ 22 → σ.2.1 c = s.2.1 c)
theorem KVB.rf {s : ST} : KVB s s := ⟨fun _ _ _ _ => rfl, fun _ _ _ _ _ _ _ _ _ => rfl, fun _ _ _ _ => rfl⟩
theorem KVB.trans {s σ u : ST} (h : KVB s σ) (k : KVB σ u) : KVB s u := ⟨fun c a d e => (k.1 c a d e).trans (h.1 c a d e), fun i a b c d e f g j => (k.2.1 i a b c d e f g j).trans (h.2.1 i a b c d e f g j), fun c a d e => (k.2.2 c a d e).trans (h.2.2 c a d e)⟩
theorem KVB.i {s σ : ST} {c i : Nat} {v : Int32} (hc : c = 20 ∨ 23 ≤ c ∧ c ≤ 30 ∨ c = 0 ∧ (i = 4 ∨ i = 5 ∨ i = 6 ∨ i = 8 ∨ i = 10 ∨ i = 12 ∨ i = 13 ∨ i = 46)) (h : KVB s σ) : KVB s (stI σ c i v) := by
  refine ⟨fun d h1 h2 h3 => ?_, fun j a b d e f g k l => ?_, h.2.2⟩
  · rw [stI_ne (by omega)]
    exact h.1 d h1 h2 h3
  · by_cases e : c = 0
    · subst e
      rw [stI_at, upN (by omega)]
      exact h.2.1 j a b d ‹_› f g k l
    · rw [stI_ne (fun h => e h.symm)]
      exact h.2.1 j a b d ‹_› f g k l
theorem KVB.l {s σ : ST} {c i : Nat} {v : Int64} (hc : c = 0 ∨ c = 21 ∨ c = 22) (h : KVB s σ) : KVB s (stL σ c i v) := by
  refine ⟨h.1, h.2.1, fun d h1 h2 h3 => ?_⟩
  rw [stL_ne (by omega)]
  exact h.2.2 d h1 h2 h3
theorem KVB.d {s σ : ST} {c i : Nat} {v : UInt64} (h : KVB s σ) : KVB s (stD σ c i v) := h
theorem wv_X11_spelt {s : ST} {p0 p1 p2 p3 p4 p5 : Int32} {σ : ST} (h : KVB s σ) : PF st2 (KVB s) (f_X11_spelt p0 p1 p2 p3 p4 p5 σ) := by
  unfold f_X11_spelt
  intro q e
  obtain ⟨r, e1, e2⟩ := bnd_some e
  cases e2
  exact h
/-- the text that is left doesn't grow -/
def NUT (s σ : ST) : Prop := TX s → TX σ ∧ uT σ ≤ uT s
theorem NUT.rf {s : ST} : NUT s s := fun h => ⟨h, Nat.le_refl _⟩
theorem NUT.trans {s σ u : ST} (h : NUT s σ) (k : NUT σ u) : NUT s u := fun hx => ⟨(k (h hx).1).1, Nat.le_trans (k (h hx).1).2 (h hx).2⟩
theorem NUT.eq {s σ t : ST} (h : NUT s σ) (e3 : t.1 0 3 = σ.1 0 3) (e5 : t.1 0 5 = σ.1 0 5) (e6 : t.1 0 6 = σ.1 0 6) (e8 : t.1 0 8 = σ.1 0 8) (e13 : t.1 0 13 = σ.1 0 13) : NUT s t := fun hx => by
  obtain ⟨h1, h2⟩ := h hx
  obtain ⟨k1, k2⟩ := TX.of (t := t) h1 e3 e5 e6 e8 e13
  exact ⟨k1, by omega⟩
theorem NUT.i {s σ : ST} {c i : Nat} {v : Int32} (hc : ¬ c = 0 ∨ ¬ (i = 3 ∨ i = 5 ∨ i = 6 ∨ i = 8 ∨ i = 13)) (h : NUT s σ) : NUT s (stI σ c i v) := by
  by_cases e : c = 0
  · subst e
    refine h.eq ?_ ?_ ?_ ?_ ?_ <;> (rw [stI_at, upN (by omega)])
  · refine h.eq ?_ ?_ ?_ ?_ ?_ <;> (rw [stI_ne (fun h => e h.symm)])
theorem NUT.l {s σ : ST} {c i : Nat} {v : Int64} (hc : True ∨ c = 0) (h : NUT s σ) : NUT s (stL σ c i v) := h.eq rfl rfl rfl rfl rfl
theorem NUT.d {s σ : ST} {c i : Nat} {v : UInt64} (h : NUT s σ) : NUT s (stD σ c i v) := h
theorem wn_X11_go {s σ : ST} (h : NUT s σ) : PF st0 (NUT s) (f_X11_go σ) := fun q e hx => by
  obtain ⟨h1, h2⟩ := h hx
  obtain ⟨z, e2, hz⟩ := b_goT σ h1
  rw [e] at e2
  cases e2
  have := uT_le (σ := σ)
  exact ⟨hz.2.1, by have := hz.2.2; show uT q ≤ uT s; omega⟩
theorem wn_X11_spelt {s : ST} {p0 p1 p2 p3 p4 p5 : Int32} {σ : ST} (h : NUT s σ) : PF st2 (NUT s) (f_X11_spelt p0 p1 p2 p3 p4 p5 σ) := by
  unfold f_X11_spelt
  intro q e
  obtain ⟨r, e1, e2⟩ := bnd_some e
  cases e2
  exact h
theorem wv_X5_isRecord {s : ST} {p0 : Int32} {σ : ST}   (h : KVA s σ) : PF st1 (KVA s) (f_X5_isRecord p0 σ) := by
  unfold f_X5_isRecord
  exact (PF.ite (fun _ => (PF.ret1 h)) (fun _ => (PF.ite (fun _ => (PF.ret1 h)) (fun _ => (PF.ret1 h)))))
theorem wv_X5_fieldsOf {s : ST} {b : Nat} {p0 : Int32} {σ : ST}   (h : KVA s σ) : PF st1 (KVA s) (f_X5_fieldsOf b p0 σ) := by
  unfold f_X5_fieldsOf
  exact (PF.bnd (wv_X5_isRecord  h) (fun q1 hq1 => (PF.ite (fun _ => (PF.ret1 hq1)) (fun _ => (PF.ite (fun _ => (PF.ret1 hq1)) (fun _ => PF.none))))))
theorem wv_X6_signAt {s : ST} {p0 : Int32} {σ : ST}   (h : KVA s σ) : PF st1 (KVA s) (f_X6_signAt p0 σ) := by
  unfold f_X6_signAt
  exact (PF.ite (fun _ => (PF.ret1 h)) (fun _ => (PF.ite (fun _ => (PF.ret1 h)) (fun _ => (PF.ite (fun _ => (PF.ret1 h)) (fun _ => (PF.ite (fun _ => (PF.ret1 h)) (fun _ => PF.none))))))))
theorem wv_X6_isLetter {s : ST} {p0 : Int32} {σ : ST}   (h : KVA s σ) : PF st1 (KVA s) (f_X6_isLetter p0 σ) := by
  unfold f_X6_isLetter
  exact (PF.ite (fun _ => (PF.ret1 h)) (fun _ => (PF.ite (fun _ => (PF.ret1 h)) (fun _ => (PF.ret1 h)))))
theorem wv_X6_isDigit {s : ST} {p0 : Int32} {σ : ST}   (h : KVA s σ) : PF st1 (KVA s) (f_X6_isDigit p0 σ) := by
  unfold f_X6_isDigit
  exact (PF.ite (fun _ => (PF.ret1 h)) (fun _ => (PF.ite (fun _ => (PF.ret1 h)) (fun _ => (PF.ret1 h)))))
theorem wv_X6_scanNumber_189 {s : ST} {x1 : Int32} {σ : ST}   (h : KVA s σ) : PF st0 (KVA s) (f_X6_scanNumber_189 x1 σ) := by
  unfold f_X6_scanNumber_189
  exact (PF.ret0 (KVA.i (by omega) (KVA.i (by omega) h)))
theorem wv_X6_scanNumber_119 {s : ST} {x1 : Int32} {x2 : Int32} {σ : ST}   (h : KVA s σ) : PF st0 (KVA s) (f_X6_scanNumber_119 x1 x2 σ) := by
  unfold f_X6_scanNumber_119
  exact (PF.ite (fun _ => (PF.ret0 h)) (fun _ => (PF.ite (fun _ => (PF.bnd (wv_X6_signAt  h) (fun q1 hq1 => (PF.ite (fun _ => (PF.bnd (wv_X6_signAt  hq1) (fun q3 hq3 => (PF.bnd (wv_X6_isDigit  hq3) (fun q5 hq5 => (PF.ite (fun _ => (PF.ret0 hq5)) (fun _ => (PF.bnd (wv_X6_signAt  hq5) (fun q7 hq7 => (PF.bnd (wv_X6_isDigit  hq7) (fun q9 hq9 => (PF.ite (fun _ => (PF.bnd (wv_X6_signAt  (KVA.i (by omega) hq9)) (fun q11 hq11 => (wv_X6_scanNumber_189  (KVA.i (by omega) hq11))))) (fun _ => (PF.ret0 hq9)))))))))))))) (fun _ => (wv_X6_scanNumber_189  hq1)))))) (fun _ => (PF.ret0 h)))))
theorem wv_X6_scanNumber_110 {s : ST} {k65 : Int32 → Int32 → ST → Option (ST)} {x1 : Int32} {x2 : Int32} {σ : ST} (h_k65 : ∀ (x1 : Int32) (x2 : Int32) (σ : ST), KVA s σ → PF st0 (KVA s) (k65 x1 x2 σ))  (h : KVA s σ) : PF st0 (KVA s) (f_X6_scanNumber_110 k65 x1 x2 σ) := by
  unfold f_X6_scanNumber_110
  exact (h_k65 _ _ _ h)
theorem wv_X6_scanNumber_65 {s : ST}    : ∀ (n : Nat) (x1 : Int32) (x2 : Int32) (σ : ST), KVA s σ → PF st0 (KVA s) (f_X6_scanNumber_65  n x1 x2 σ) := by
  intro n
  induction n with
  | zero => intro x1 x2 σ h; rw [f_X6_scanNumber_65]; exact PF.none
  | succ n ih =>
    intro x1 x2 σ h
    rw [f_X6_scanNumber_65]
    exact (PF.ite (fun _ => (wv_X6_scanNumber_119  h)) (fun _ => (PF.bnd (wv_X6_signAt  h) (fun q1 hq1 => (PF.bnd (wv_X6_isDigit  hq1) (fun q3 hq3 => (PF.ite (fun _ => (wv_X6_scanNumber_119  hq3)) (fun _ => (PF.ite (fun _ => (wv_X6_scanNumber_110 ih hq3)) (fun _ => (PF.bnd (wv_X6_signAt  hq3) (fun q5 hq5 => (wv_X6_scanNumber_110 ih (KVA.l (by omega) hq5))))))))))))))
theorem wv_X6_scanNumber_62 {s : ST} {y0 : Int32} {σ : ST}   (h : KVA s σ) : PF st0 (KVA s) (f_X6_scanNumber_62 y0 σ) := by
  unfold f_X6_scanNumber_62
  exact (wv_X6_scanNumber_65  _ _ _ _ h)
theorem wv_X6_scanNumber_19 {s : ST} {y0 : Int32} {σ : ST}   (h : KVA s σ) : PF st0 (KVA s) (f_X6_scanNumber_19 y0 σ) := by
  unfold f_X6_scanNumber_19
  exact (PF.ite (fun _ => (PF.ite (fun _ => (wv_X6_scanNumber_62  (KVA.i (by omega) (KVA.l (by omega) (KVA.i (by omega) (KVA.i (by omega) (KVA.i (by omega) h))))))) (fun _ => (wv_X6_scanNumber_62  (KVA.i (by omega) (KVA.l (by omega) (KVA.i (by omega) (KVA.i (by omega) (KVA.i (by omega) h))))))))) (fun _ => PF.none))
theorem wv_X6_scanNumber {s : ST}  {σ : ST}   (h : KVA s σ) : PF st0 (KVA s) (f_X6_scanNumber σ) := by
  unfold f_X6_scanNumber
  exact (PF.bnd (wv_X6_signAt  h) (fun q1 hq1 => (PF.ite (fun _ => (wv_X6_scanNumber_19  hq1)) (fun _ => (wv_X6_scanNumber_19  hq1)))))
theorem wv_X6_advance_113 {s : ST}  {σ : ST}   (h : KVA s σ) : PF st0 (KVA s) (f_X6_advance_113 σ) := by
  unfold f_X6_advance_113
  exact (PF.bnd (wv_X6_scanNumber  h) (fun q1 hq1 => (PF.ret0 hq1)))
theorem wv_X6_takeLetters_95 {s : ST} {k7 : Int32 → Int32 → Int32 → ST → Option (Int32 × ST)} {x1 : Int32} {x2 : Int32} {x3 : Int32} {σ : ST} (h_k7 : ∀ (x1 : Int32) (x2 : Int32) (x3 : Int32) (σ : ST), KVA s σ → PF st1 (KVA s) (k7 x1 x2 x3 σ))  (h : KVA s σ) : PF st1 (KVA s) (f_X6_takeLetters_95 k7 x1 x2 x3 σ) := by
  unfold f_X6_takeLetters_95
  exact (h_k7 _ _ _ _ h)
theorem wv_X6_takeLetters_57 {s : ST} {k7 : Int32 → Int32 → Int32 → ST → Option (Int32 × ST)} {x1 : Int32} {x2 : Int32} {x3 : Int32} {y0 : Int32} {σ : ST} (h_k7 : ∀ (x1 : Int32) (x2 : Int32) (x3 : Int32) (σ : ST), KVA s σ → PF st1 (KVA s) (k7 x1 x2 x3 σ))  (h : KVA s σ) : PF st1 (KVA s) (f_X6_takeLetters_57 k7 x1 x2 x3 y0 σ) := by
  unfold f_X6_takeLetters_57
  exact (PF.ite (fun _ => (PF.ret1 h)) (fun _ => (PF.ite (fun _ => (PF.ite (fun _ => (wv_X6_takeLetters_95 h_k7 h)) (fun _ => (wv_X6_takeLetters_95 h_k7 (KVA.l (by omega) h))))) (fun _ => (PF.ret1 h)))))
theorem wv_X6_takeLetters_56 {s : ST} {k7 : Int32 → Int32 → Int32 → ST → Option (Int32 × ST)} {x1 : Int32} {x2 : Int32} {x3 : Int32} {σ : ST} (h_k7 : ∀ (x1 : Int32) (x2 : Int32) (x3 : Int32) (σ : ST), KVA s σ → PF st1 (KVA s) (k7 x1 x2 x3 σ))  (h : KVA s σ) : PF st1 (KVA s) (f_X6_takeLetters_56 k7 x1 x2 x3 σ) := by
  unfold f_X6_takeLetters_56
  exact (wv_X6_takeLetters_57 h_k7 h)
theorem wv_X6_takeLetters_7 {s : ST}    : ∀ (n : Nat) (x1 : Int32) (x2 : Int32) (x3 : Int32) (σ : ST), KVA s σ → PF st1 (KVA s) (f_X6_takeLetters_7  n x1 x2 x3 σ) := by
  intro n
  induction n with
  | zero => intro x1 x2 x3 σ h; rw [f_X6_takeLetters_7]; exact PF.none
  | succ n ih =>
    intro x1 x2 x3 σ h
    rw [f_X6_takeLetters_7]
    exact (PF.ite (fun _ => (PF.ret1 h)) (fun _ => (PF.ite (fun _ => (wv_X6_takeLetters_56 ih h)) (fun _ => (PF.ite (fun _ => (wv_X6_takeLetters_56 ih h)) (fun _ => (PF.ite (fun _ => (wv_X6_takeLetters_56 ih h)) (fun _ => (PF.ite (fun _ => (wv_X6_takeLetters_57 ih h)) (fun _ => PF.none))))))))))
theorem wv_X6_takeLetters {s : ST} {p0 : Int32} {p1 : Int32} {σ : ST}   (h : KVA s σ) : PF st1 (KVA s) (f_X6_takeLetters p0 p1 σ) := by
  unfold f_X6_takeLetters
  exact (wv_X6_takeLetters_7  _ _ _ _ _ (KVA.l (by omega) h))
theorem wv_X6_scanLettered_38 {s : ST}  {σ : ST}   (h : KVA s σ) : PF st0 (KVA s) (f_X6_scanLettered_38 σ) := by
  unfold f_X6_scanLettered_38
  exact (PF.ret0 (KVA.i (by omega) h))
theorem wv_X6_scanLettered {s : ST}  {σ : ST}   (h : KVA s σ) : PF st0 (KVA s) (f_X6_scanLettered σ) := by
  unfold f_X6_scanLettered
  exact (PF.bnd (wv_X6_takeLetters  h) (fun q1 hq1 => (PF.ite (fun _ => (wv_X6_scanLettered_38  hq1)) (fun _ => (PF.bnd (wv_X6_signAt  hq1) (fun q3 hq3 => (PF.ite (fun _ => (PF.ret0 (KVA.i (by omega) (KVA.i (by omega) hq3)))) (fun _ => (wv_X6_scanLettered_38  hq3)))))))))
theorem wv_X6_advance_169 {s : ST} {x1 : Int32} {σ : ST}   (h : KVA s σ) : PF st0 (KVA s) (f_X6_advance_169 x1 σ) := by
  unfold f_X6_advance_169
  exact (PF.ret0 (KVA.i (by omega) (KVA.i (by omega) h)))
theorem wv_X6_scanWord_75 {s : ST} {k45 : Int32 → ST → Option (ST)} {x2 : Int32} {σ : ST} (h_k45 : ∀ (x1 : Int32) (σ : ST), KVA s σ → PF st0 (KVA s) (k45 x1 σ))  (h : KVA s σ) : PF st0 (KVA s) (f_X6_scanWord_75 k45 x2 σ) := by
  unfold f_X6_scanWord_75
  exact (h_k45 _ _ h)
theorem wv_X6_scanWord_45 {s : ST}    : ∀ (n : Nat) (x1 : Int32) (σ : ST), KVA s σ → PF st0 (KVA s) (f_X6_scanWord_45  n x1 σ) := by
  intro n
  induction n with
  | zero => intro x1 σ h; rw [f_X6_scanWord_45]; exact PF.none
  | succ n ih =>
    intro x1 σ h
    rw [f_X6_scanWord_45]
    exact (PF.ite (fun _ => (PF.ret0 h)) (fun _ => (PF.ite (fun _ => (PF.ite (fun _ => (wv_X6_scanWord_75 ih (KVA.i (by omega) (KVA.i (by omega) h)))) (fun _ => (wv_X6_scanWord_75 ih h)))) (fun _ => PF.none))))
theorem wv_X6_scanWord {s : ST}  {σ : ST}   (h : KVA s σ) : PF st0 (KVA s) (f_X6_scanWord σ) := by
  unfold f_X6_scanWord
  exact (PF.bnd (wv_X6_takeLetters  h) (fun q1 hq1 => (PF.ite (fun _ => (wv_X6_scanWord_45  _ _ _ (KVA.i (by omega) (KVA.i (by omega) (KVA.i (by omega) hq1))))) (fun _ => (PF.ret0 (KVA.i (by omega) hq1))))))
theorem wv_X6_advance_50 {s : ST}  {σ : ST}   (h : KVA s σ) : PF st0 (KVA s) (f_X6_advance_50 σ) := by
  unfold f_X6_advance_50
  exact (PF.bnd (wv_X6_signAt  (KVA.i (by omega) h)) (fun q1 hq1 => (PF.ite (fun _ => (PF.bnd (wv_X6_isLetter  hq1) (fun q3 hq3 => (PF.ite (fun _ => (PF.ite (fun _ => (wv_X6_advance_113  hq3)) (fun _ => (PF.bnd (wv_X6_isDigit  hq3) (fun q5 hq5 => (PF.ite (fun _ => (PF.ite (fun _ => (PF.bnd (wv_X6_scanLettered  hq5) (fun q7 hq7 => (PF.ret0 hq7)))) (fun _ => (PF.ite (fun _ => (wv_X6_advance_169  hq5)) (fun _ => (PF.ite (fun _ => (wv_X6_advance_169  hq5)) (fun _ => (PF.ite (fun _ => (wv_X6_advance_169  hq5)) (fun _ => (PF.ite (fun _ => (wv_X6_advance_169  hq5)) (fun _ => (PF.ite (fun _ => (wv_X6_advance_169  hq5)) (fun _ => (PF.ite (fun _ => (wv_X6_advance_169  hq5)) (fun _ => (PF.ret0 (KVA.i (by omega) hq5))))))))))))))))) (fun _ => (wv_X6_advance_113  hq5)))))))) (fun _ => (PF.bnd (wv_X6_scanWord  hq3) (fun q9 hq9 => (PF.ret0 hq9)))))))) (fun _ => (PF.ret0 (KVA.i (by omega) hq1))))))
theorem wv_X6_advance_37 {s : ST} {k0 : ST → Option (ST)} {σ : ST} (h_k0 : ∀ (σ : ST), KVA s σ → PF st0 (KVA s) (k0 σ))  (h : KVA s σ) : PF st0 (KVA s) (f_X6_advance_37 k0 σ) := by
  unfold f_X6_advance_37
  exact (h_k0 _ (KVA.i (by omega) h))
theorem wv_X6_advance_0 {s : ST}    : ∀ (n : Nat) (σ : ST), KVA s σ → PF st0 (KVA s) (f_X6_advance_0  n σ) := by
  intro n
  induction n with
  | zero => intro σ h; rw [f_X6_advance_0]; exact PF.none
  | succ n ih =>
    intro σ h
    rw [f_X6_advance_0]
    exact (PF.ite (fun _ => (wv_X6_advance_50  h)) (fun _ => (PF.bnd (wv_X6_signAt  h) (fun q1 hq1 => (PF.ite (fun _ => (wv_X6_advance_37 ih hq1)) (fun _ => (PF.bnd (wv_X6_signAt  hq1) (fun q3 hq3 => (PF.ite (fun _ => (wv_X6_advance_37 ih hq3)) (fun _ => (wv_X6_advance_50  hq3)))))))))))
theorem wv_X6_advance {s : ST}  {σ : ST}   (h : KVA s σ) : PF st0 (KVA s) (f_X6_advance σ) := by
  unfold f_X6_advance
  exact (wv_X6_advance_0  _ _ h)
theorem wv_X5_isFieldOf {s : ST} {p0 : Int32} {p1 : Int32} {σ : ST}   (h : KVA s σ) : PF st1 (KVA s) (f_X5_isFieldOf p0 p1 σ) := by
  unfold f_X5_isFieldOf
  exact (PF.ite (fun _ => (PF.ret1 h)) (fun _ => (PF.ite (fun _ => (PF.ret1 h)) (fun _ => (PF.ite (fun _ => (PF.ret1 h)) (fun _ => (PF.ite (fun _ => (PF.ret1 h)) (fun _ => (PF.ret1 h)))))))))
theorem wv_X5_hasElse {s : ST} {b : Nat} {p0 : Int32} {p1 : Int32} {σ : ST}   (h : KVA s σ) : PF st1 (KVA s) (f_X5_hasElse b p0 p1 σ) := by
  unfold f_X5_hasElse
  exact (PF.bnd (wv_X5_isFieldOf  h) (fun q1 hq1 => (PF.ite (fun _ => (PF.ret1 hq1)) (fun _ => (PF.ite (fun _ => (PF.ite (fun _ => (PF.ret1 hq1)) (fun _ => (PF.ret1 hq1)))) (fun _ => PF.none))))))
theorem wv_X6_refuseAt {s : ST} {p0 : Int32} {p1 : Int32} {σ : ST}   (h : KVA s σ) : PF st1 (KVA s) (f_X6_refuseAt p0 p1 σ) := by
  unfold f_X6_refuseAt
  exact (PF.ite (fun _ => (PF.ret1 (KVA.i (by omega) (KVA.i (by omega) h)))) (fun _ => (PF.ret1 h)))
theorem wv_X6_refuse {s : ST} {p0 : Int32} {σ : ST}   (h : KVA s σ) : PF st1 (KVA s) (f_X6_refuse p0 σ) := by
  unfold f_X6_refuse
  exact (PF.bnd (wv_X6_refuseAt  h) (fun q1 hq1 => (PF.ite (fun _ => (PF.ret1 hq1)) (fun _ => PF.none))))
theorem wv_X8_closeRecord_44 {s : ST} {k2 : Int32 → Int32 → Int32 → ST → Option (Int32 × ST)} {x1 : Int32} {x2 : Int32} {x3 : Int32} {σ : ST} (h_k2 : ∀ (x1 : Int32) (x2 : Int32) (x3 : Int32) (σ : ST), KVA s σ → PF st1 (KVA s) (k2 x1 x2 x3 σ))  (h : KVA s σ) : PF st1 (KVA s) (f_X8_closeRecord_44 k2 x1 x2 x3 σ) := by
  unfold f_X8_closeRecord_44
  exact (h_k2 _ _ _ _ h)
theorem wv_X8_closeRecord_2 {s : ST}    : ∀ (n : Nat) (x1 : Int32) (x2 : Int32) (x3 : Int32) (σ : ST), KVA s σ → PF st1 (KVA s) (f_X8_closeRecord_2  n x1 x2 x3 σ) := by
  intro n
  induction n with
  | zero => intro x1 x2 x3 σ h; rw [f_X8_closeRecord_2]; exact PF.none
  | succ n ih =>
    intro x1 x2 x3 σ h
    rw [f_X8_closeRecord_2]
    exact (PF.bnd (wv_X5_fieldsOf  h) (fun q1 hq1 => (PF.ite (fun _ => (PF.bnd (wv_X6_advance  hq1) (fun q3 hq3 => (PF.ret1 hq3)))) (fun _ => (PF.ite (fun _ => (PF.bnd (wv_X5_hasElse  hq1) (fun q5 hq5 => (PF.ite (fun _ => (PF.bnd (wv_X6_refuse  hq5) (fun q7 hq7 => (PF.ite (fun _ => (PF.ret1 hq7)) (fun _ => PF.none))))) (fun _ => (wv_X8_closeRecord_44 ih hq5)))))) (fun _ => (wv_X8_closeRecord_44 ih hq1)))))))
theorem wv_X8_closeRecord {s : ST} {p0 : Int32} {p1 : Int32} {σ : ST}   (h : KVA s σ) : PF st1 (KVA s) (f_X8_closeRecord p0 p1 σ) := by
  unfold f_X8_closeRecord
  exact (wv_X8_closeRecord_2  _ _ _ _ _ h)
theorem wv_X8_parseFields_210 {s : ST} {r_X8_parseFields : Int32 → Int32 → Int32 → ST → Option (Int32 × ST)} {r_X8_parseItems : Int32 → Int32 → Int32 → ST → Option (Int32 × ST)} {r_X8_parseValue : Int32 → Int32 → Int32 → Int32 → ST → Option (Int32 × ST)} {x1 : Int32} {x4 : Int32} {σ : ST} (h_r_X8_parseFields : ∀ (x1 : Int32) (x2 : Int32) (x3 : Int32) (σ : ST), KVA s σ → PF st1 (KVA s) (r_X8_parseFields x1 x2 x3 σ)) (h_r_X8_parseItems : ∀ (x1 : Int32) (x2 : Int32) (x3 : Int32) (σ : ST), KVA s σ → PF st1 (KVA s) (r_X8_parseItems x1 x2 x3 σ)) (h_r_X8_parseValue : ∀ (x1 : Int32) (x2 : Int32) (x3 : Int32) (x4 : Int32) (σ : ST), KVA s σ → PF st1 (KVA s) (r_X8_parseValue x1 x2 x3 x4 σ))  (h : KVA s σ) : PF st1 (KVA s) (f_X8_parseFields_210 r_X8_parseFields r_X8_parseItems r_X8_parseValue x1 x4 σ) := by
  unfold f_X8_parseFields_210
  exact (PF.bnd (wv_X8_closeRecord  h) (fun q1 hq1 => (PF.ite (fun _ => (PF.ret1 hq1)) (fun _ => PF.none))))
theorem wv_X5_fieldNamed_29 {s : ST} {b : Nat}   : ∀ (n : Nat) (x1 : Int64) (x2 : Int32) (x3 : Int32) (x4 : Int32) (σ : ST), KVA s σ → PF st1 (KVA s) (f_X5_fieldNamed_29 b n x1 x2 x3 x4 σ) := by
  intro n
  induction n with
  | zero => intro x1 x2 x3 x4 σ h; rw [f_X5_fieldNamed_29]; exact PF.none
  | succ n ih =>
    intro x1 x2 x3 x4 σ h
    rw [f_X5_fieldNamed_29]
    exact (PF.ite (fun _ => (PF.ret1 h)) (fun _ => (PF.ite (fun _ => (PF.ret1 h)) (fun _ => (PF.ite (fun _ => (PF.ite (fun _ => (PF.ret1 h)) (fun _ => (ih _ _ _ _ _ h)))) (fun _ => PF.none))))))
theorem wv_X5_fieldNamed_24 {s : ST} {b : Nat} {x2 : Int64} {x4 : Int32} {y0 : Int32} {σ : ST}   (h : KVA s σ) : PF st1 (KVA s) (f_X5_fieldNamed_24 b x2 x4 y0 σ) := by
  unfold f_X5_fieldNamed_24
  exact (wv_X5_fieldNamed_29  _ _ _ _ _ _ h)
theorem wv_X5_fieldNamed {s : ST} {b : Nat} {p0 : Int32} {p1 : Int64} {σ : ST}   (h : KVA s σ) : PF st1 (KVA s) (f_X5_fieldNamed b p0 p1 σ) := by
  unfold f_X5_fieldNamed
  exact (PF.bnd (wv_X5_isFieldOf  h) (fun q1 hq1 => (PF.ite (fun _ => (wv_X5_fieldNamed_24  hq1)) (fun _ => (PF.ite (fun _ => (wv_X5_fieldNamed_24  hq1)) (fun _ => PF.none))))))
theorem wv_X8_parseFields_90 {s : ST} {r_X8_parseFields : Int32 → Int32 → Int32 → ST → Option (Int32 × ST)} {r_X8_parseItems : Int32 → Int32 → Int32 → ST → Option (Int32 × ST)} {r_X8_parseValue : Int32 → Int32 → Int32 → Int32 → ST → Option (Int32 × ST)} {σ : ST} (h_r_X8_parseFields : ∀ (x1 : Int32) (x2 : Int32) (x3 : Int32) (σ : ST), KVA s σ → PF st1 (KVA s) (r_X8_parseFields x1 x2 x3 σ)) (h_r_X8_parseItems : ∀ (x1 : Int32) (x2 : Int32) (x3 : Int32) (σ : ST), KVA s σ → PF st1 (KVA s) (r_X8_parseItems x1 x2 x3 σ)) (h_r_X8_parseValue : ∀ (x1 : Int32) (x2 : Int32) (x3 : Int32) (x4 : Int32) (σ : ST), KVA s σ → PF st1 (KVA s) (r_X8_parseValue x1 x2 x3 x4 σ))  (h : KVA s σ) : PF st1 (KVA s) (f_X8_parseFields_90 r_X8_parseFields r_X8_parseItems r_X8_parseValue σ) := by
  unfold f_X8_parseFields_90
  exact (PF.bnd (wv_X6_refuse  h) (fun q1 hq1 => (PF.ite (fun _ => (PF.ret1 hq1)) (fun _ => PF.none))))
theorem wv_X5_typeOf {s : ST} {b : Nat} {p0 : Int32} {p1 : Int32} {σ : ST}   (h : KVA s σ) : PF st1 (KVA s) (f_X5_typeOf b p0 p1 σ) := by
  unfold f_X5_typeOf
  exact (PF.bnd (wv_X5_isFieldOf  h) (fun q1 hq1 => (PF.ite (fun _ => (PF.ret1 hq1)) (fun _ => (PF.ite (fun _ => (PF.ret1 hq1)) (fun _ => PF.none))))))
theorem wv_X8_parseFields_204 {s : ST} {r_X8_parseFields : Int32 → Int32 → Int32 → ST → Option (Int32 × ST)} {r_X8_parseItems : Int32 → Int32 → Int32 → ST → Option (Int32 × ST)} {r_X8_parseValue : Int32 → Int32 → Int32 → Int32 → ST → Option (Int32 × ST)} {k25 : Int32 → Int32 → Int32 → Int32 → Int32 → Int32 → ST → Option (Int32 × ST)} {x1 : Int32} {x2 : Int32} {x3 : Int32} {x4 : Int32} {x5 : Int32} {x6 : Int32} {σ : ST} (h_r_X8_parseFields : ∀ (x1 : Int32) (x2 : Int32) (x3 : Int32) (σ : ST), KVA s σ → PF st1 (KVA s) (r_X8_parseFields x1 x2 x3 σ)) (h_r_X8_parseItems : ∀ (x1 : Int32) (x2 : Int32) (x3 : Int32) (σ : ST), KVA s σ → PF st1 (KVA s) (r_X8_parseItems x1 x2 x3 σ)) (h_r_X8_parseValue : ∀ (x1 : Int32) (x2 : Int32) (x3 : Int32) (x4 : Int32) (σ : ST), KVA s σ → PF st1 (KVA s) (r_X8_parseValue x1 x2 x3 x4 σ)) (h_k25 : ∀ (x1 : Int32) (x2 : Int32) (x3 : Int32) (x4 : Int32) (x5 : Int32) (x6 : Int32) (σ : ST), KVA s σ → PF st1 (KVA s) (k25 x1 x2 x3 x4 x5 x6 σ))  (h : KVA s σ) : PF st1 (KVA s) (f_X8_parseFields_204 r_X8_parseFields r_X8_parseItems r_X8_parseValue k25 x1 x2 x3 x4 x5 x6 σ) := by
  unfold f_X8_parseFields_204
  exact (h_k25 _ _ _ _ _ _ _ h)
theorem wv_X8_parseFields_190 {s : ST} {r_X8_parseFields : Int32 → Int32 → Int32 → ST → Option (Int32 × ST)} {r_X8_parseItems : Int32 → Int32 → Int32 → ST → Option (Int32 × ST)} {r_X8_parseValue : Int32 → Int32 → Int32 → Int32 → ST → Option (Int32 × ST)} {k25 : Int32 → Int32 → Int32 → Int32 → Int32 → Int32 → ST → Option (Int32 × ST)} {x1 : Int32} {x2 : Int32} {x3 : Int32} {x4 : Int32} {x6 : Int32} {y0 : Int32} {σ : ST} (h_r_X8_parseFields : ∀ (x1 : Int32) (x2 : Int32) (x3 : Int32) (σ : ST), KVA s σ → PF st1 (KVA s) (r_X8_parseFields x1 x2 x3 σ)) (h_r_X8_parseItems : ∀ (x1 : Int32) (x2 : Int32) (x3 : Int32) (σ : ST), KVA s σ → PF st1 (KVA s) (r_X8_parseItems x1 x2 x3 σ)) (h_r_X8_parseValue : ∀ (x1 : Int32) (x2 : Int32) (x3 : Int32) (x4 : Int32) (σ : ST), KVA s σ → PF st1 (KVA s) (r_X8_parseValue x1 x2 x3 x4 σ)) (h_k25 : ∀ (x1 : Int32) (x2 : Int32) (x3 : Int32) (x4 : Int32) (x5 : Int32) (x6 : Int32) (σ : ST), KVA s σ → PF st1 (KVA s) (k25 x1 x2 x3 x4 x5 x6 σ))  (h : KVA s σ) : PF st1 (KVA s) (f_X8_parseFields_190 r_X8_parseFields r_X8_parseItems r_X8_parseValue k25 x1 x2 x3 x4 x6 y0 σ) := by
  unfold f_X8_parseFields_190
  exact (PF.ite (fun _ => (wv_X8_parseFields_204 h_r_X8_parseFields h_r_X8_parseItems h_r_X8_parseValue h_k25 h)) (fun _ => (PF.bnd (wv_X6_advance  h) (fun q1 hq1 => (wv_X8_parseFields_204 h_r_X8_parseFields h_r_X8_parseItems h_r_X8_parseValue h_k25 hq1)))))
theorem wv_X8_parseFields_173 {s : ST} {r_X8_parseFields : Int32 → Int32 → Int32 → ST → Option (Int32 × ST)} {r_X8_parseItems : Int32 → Int32 → Int32 → ST → Option (Int32 × ST)} {r_X8_parseValue : Int32 → Int32 → Int32 → Int32 → ST → Option (Int32 × ST)} {k25 : Int32 → Int32 → Int32 → Int32 → Int32 → Int32 → ST → Option (Int32 × ST)} {x1 : Int32} {x2 : Int32} {x3 : Int32} {x4 : Int32} {x6 : Int32} {σ : ST} (h_r_X8_parseFields : ∀ (x1 : Int32) (x2 : Int32) (x3 : Int32) (σ : ST), KVA s σ → PF st1 (KVA s) (r_X8_parseFields x1 x2 x3 σ)) (h_r_X8_parseItems : ∀ (x1 : Int32) (x2 : Int32) (x3 : Int32) (σ : ST), KVA s σ → PF st1 (KVA s) (r_X8_parseItems x1 x2 x3 σ)) (h_r_X8_parseValue : ∀ (x1 : Int32) (x2 : Int32) (x3 : Int32) (x4 : Int32) (σ : ST), KVA s σ → PF st1 (KVA s) (r_X8_parseValue x1 x2 x3 x4 σ)) (h_k25 : ∀ (x1 : Int32) (x2 : Int32) (x3 : Int32) (x4 : Int32) (x5 : Int32) (x6 : Int32) (σ : ST), KVA s σ → PF st1 (KVA s) (k25 x1 x2 x3 x4 x5 x6 σ))  (h : KVA s σ) : PF st1 (KVA s) (f_X8_parseFields_173 r_X8_parseFields r_X8_parseItems r_X8_parseValue k25 x1 x2 x3 x4 x6 σ) := by
  unfold f_X8_parseFields_173
  exact (PF.ite (fun _ => (wv_X8_parseFields_190 h_r_X8_parseFields h_r_X8_parseItems h_r_X8_parseValue h_k25 h)) (fun _ => (wv_X8_parseFields_190 h_r_X8_parseFields h_r_X8_parseItems h_r_X8_parseValue h_k25 h)))
theorem wv_X8_parseFields_25 {s : ST} {r_X8_parseFields : Int32 → Int32 → Int32 → ST → Option (Int32 × ST)} {r_X8_parseItems : Int32 → Int32 → Int32 → ST → Option (Int32 × ST)} {r_X8_parseValue : Int32 → Int32 → Int32 → Int32 → ST → Option (Int32 × ST)} (h_r_X8_parseFields : ∀ (x1 : Int32) (x2 : Int32) (x3 : Int32) (σ : ST), KVA s σ → PF st1 (KVA s) (r_X8_parseFields x1 x2 x3 σ)) (h_r_X8_parseItems : ∀ (x1 : Int32) (x2 : Int32) (x3 : Int32) (σ : ST), KVA s σ → PF st1 (KVA s) (r_X8_parseItems x1 x2 x3 σ)) (h_r_X8_parseValue : ∀ (x1 : Int32) (x2 : Int32) (x3 : Int32) (x4 : Int32) (σ : ST), KVA s σ → PF st1 (KVA s) (r_X8_parseValue x1 x2 x3 x4 σ))  : ∀ (n : Nat) (x1 : Int32) (x2 : Int32) (x3 : Int32) (x4 : Int32) (x5 : Int32) (x6 : Int32) (σ : ST), KVA s σ → PF st1 (KVA s) (f_X8_parseFields_25 r_X8_parseFields r_X8_parseItems r_X8_parseValue n x1 x2 x3 x4 x5 x6 σ) := by
  intro n
  induction n with
  | zero => intro x1 x2 x3 x4 x5 x6 σ h; rw [f_X8_parseFields_25]; exact PF.none
  | succ n ih =>
    intro x1 x2 x3 x4 x5 x6 σ h
    rw [f_X8_parseFields_25]
    exact (PF.ite (fun _ => (wv_X8_parseFields_210 h_r_X8_parseFields h_r_X8_parseItems h_r_X8_parseValue h)) (fun _ => (PF.ite (fun _ => (wv_X8_parseFields_210 h_r_X8_parseFields h_r_X8_parseItems h_r_X8_parseValue h)) (fun _ => (PF.ite (fun _ => (PF.bnd (wv_X5_fieldNamed  h) (fun q1 hq1 => (PF.ite (fun _ => (wv_X8_parseFields_90 h_r_X8_parseFields h_r_X8_parseItems h_r_X8_parseValue hq1)) (fun _ => (PF.ite (fun _ => (PF.bnd (wv_X6_advance  hq1) (fun q3 hq3 => (PF.bnd (wv_X5_typeOf  hq3) (fun q5 hq5 => (PF.bnd (h_r_X8_parseValue _ _ _ _ _ hq5) (fun q7 hq7 => (PF.ite (fun _ => (PF.ret1 hq7)) (fun _ => (PF.ite (fun _ => (wv_X8_parseFields_173 h_r_X8_parseFields h_r_X8_parseItems h_r_X8_parseValue ih hq7)) (fun _ => (PF.ite (fun _ => (wv_X8_parseFields_173 h_r_X8_parseFields h_r_X8_parseItems h_r_X8_parseValue ih hq7)) (fun _ => (PF.bnd (wv_X6_refuse  hq7) (fun q9 hq9 => (PF.ite (fun _ => (PF.ret1 hq9)) (fun _ => PF.none))))))))))))))))) (fun _ => (wv_X8_parseFields_90 h_r_X8_parseFields h_r_X8_parseItems h_r_X8_parseValue hq1)))))))) (fun _ => (PF.bnd (wv_X6_refuse  h) (fun q11 hq11 => (PF.ite (fun _ => (PF.ret1 hq11)) (fun _ => PF.none))))))))))
theorem wv_X8_parseFields_20 {s : ST} {r_X8_parseFields : Int32 → Int32 → Int32 → ST → Option (Int32 × ST)} {r_X8_parseItems : Int32 → Int32 → Int32 → ST → Option (Int32 × ST)} {r_X8_parseValue : Int32 → Int32 → Int32 → Int32 → ST → Option (Int32 × ST)} {x1 : Int32} {x2 : Int32} {x3 : Int32} {x4 : Int32} {y0 : Int32} {σ : ST} (h_r_X8_parseFields : ∀ (x1 : Int32) (x2 : Int32) (x3 : Int32) (σ : ST), KVA s σ → PF st1 (KVA s) (r_X8_parseFields x1 x2 x3 σ)) (h_r_X8_parseItems : ∀ (x1 : Int32) (x2 : Int32) (x3 : Int32) (σ : ST), KVA s σ → PF st1 (KVA s) (r_X8_parseItems x1 x2 x3 σ)) (h_r_X8_parseValue : ∀ (x1 : Int32) (x2 : Int32) (x3 : Int32) (x4 : Int32) (σ : ST), KVA s σ → PF st1 (KVA s) (r_X8_parseValue x1 x2 x3 x4 σ))  (h : KVA s σ) : PF st1 (KVA s) (f_X8_parseFields_20 r_X8_parseFields r_X8_parseItems r_X8_parseValue x1 x2 x3 x4 y0 σ) := by
  unfold f_X8_parseFields_20
  exact (wv_X8_parseFields_25 h_r_X8_parseFields h_r_X8_parseItems h_r_X8_parseValue _ _ _ _ _ _ _ _ h)
theorem wv_X8_parseFields {s : ST} {r_X8_parseFields : Int32 → Int32 → Int32 → ST → Option (Int32 × ST)} {r_X8_parseItems : Int32 → Int32 → Int32 → ST → Option (Int32 × ST)} {r_X8_parseValue : Int32 → Int32 → Int32 → Int32 → ST → Option (Int32 × ST)} {p0 : Int32} {p1 : Int32} {p2 : Int32} {σ : ST} (h_r_X8_parseFields : ∀ (x1 : Int32) (x2 : Int32) (x3 : Int32) (σ : ST), KVA s σ → PF st1 (KVA s) (r_X8_parseFields x1 x2 x3 σ)) (h_r_X8_parseItems : ∀ (x1 : Int32) (x2 : Int32) (x3 : Int32) (σ : ST), KVA s σ → PF st1 (KVA s) (r_X8_parseItems x1 x2 x3 σ)) (h_r_X8_parseValue : ∀ (x1 : Int32) (x2 : Int32) (x3 : Int32) (x4 : Int32) (σ : ST), KVA s σ → PF st1 (KVA s) (r_X8_parseValue x1 x2 x3 x4 σ))  (h : KVA s σ) : PF st1 (KVA s) (f_X8_parseFields r_X8_parseFields r_X8_parseItems r_X8_parseValue p0 p1 p2 σ) := by
  unfold f_X8_parseFields
  exact (PF.ite (fun _ => (wv_X8_parseFields_20 h_r_X8_parseFields h_r_X8_parseItems h_r_X8_parseValue h)) (fun _ => (wv_X8_parseFields_20 h_r_X8_parseFields h_r_X8_parseItems h_r_X8_parseValue h)))
theorem wv_X7_isRow {s : ST} {b : Nat} {p0 : Int32} {σ : ST}   (h : KVA s σ) : PF st1 (KVA s) (f_X7_isRow b p0 σ) := by
  unfold f_X7_isRow
  exact (PF.ite (fun _ => (PF.ret1 h)) (fun _ => (PF.ite (fun _ => (PF.ret1 h)) (fun _ => (PF.ite (fun _ => (PF.ret1 h)) (fun _ => (PF.ret1 h)))))))
theorem wv_X7_setWorth {s : ST} {b : Nat} {p0 : Int32} {p1 : Int32} {p2 : Int64} {σ : ST}  (h_b : 62 = b) (h : KVA s σ) : PF st0 (KVA s) (f_X7_setWorth b p0 p1 p2 σ) := by
  unfold f_X7_setWorth
  exact (PF.bnd (wv_X7_isRow  h) (fun q1 hq1 => (PF.ite (fun _ => (PF.ret0 hq1)) (fun _ => (PF.ite (fun _ => (PF.ret0 (KVA.l (by omega) (KVA.i (by omega) hq1)))) (fun _ => PF.none))))))
theorem wv_X8_parseItems_24 {s : ST} {r_X8_parseFields : Int32 → Int32 → Int32 → ST → Option (Int32 × ST)} {r_X8_parseItems : Int32 → Int32 → Int32 → ST → Option (Int32 × ST)} {r_X8_parseValue : Int32 → Int32 → Int32 → Int32 → ST → Option (Int32 × ST)} (h_r_X8_parseFields : ∀ (x1 : Int32) (x2 : Int32) (x3 : Int32) (σ : ST), KVA s σ → PF st1 (KVA s) (r_X8_parseFields x1 x2 x3 σ)) (h_r_X8_parseItems : ∀ (x1 : Int32) (x2 : Int32) (x3 : Int32) (σ : ST), KVA s σ → PF st1 (KVA s) (r_X8_parseItems x1 x2 x3 σ)) (h_r_X8_parseValue : ∀ (x1 : Int32) (x2 : Int32) (x3 : Int32) (x4 : Int32) (σ : ST), KVA s σ → PF st1 (KVA s) (r_X8_parseValue x1 x2 x3 x4 σ))  : ∀ (n : Nat) (x1 : Int32) (x2 : Int32) (x3 : Int32) (x4 : Int32) (σ : ST), KVA s σ → PF st1 (KVA s) (f_X8_parseItems_24 r_X8_parseFields r_X8_parseItems r_X8_parseValue n x1 x2 x3 x4 σ) := by
  intro n
  induction n with
  | zero => intro x1 x2 x3 x4 σ h; rw [f_X8_parseItems_24]; exact PF.none
  | succ n ih =>
    intro x1 x2 x3 x4 σ h
    rw [f_X8_parseItems_24]
    exact (PF.ite (fun _ => (PF.ret1 h)) (fun _ => (PF.bnd (h_r_X8_parseValue _ _ _ _ _ h) (fun q1 hq1 => (PF.ite (fun _ => (PF.ret1 hq1)) (fun _ => (PF.ite (fun _ => (PF.bnd (wv_X7_setWorth (by omega) hq1) (fun q7 hq7 => (PF.bnd (wv_X6_advance  hq7) (fun q9 hq9 => (PF.ret1 hq9)))))) (fun _ => (PF.ite (fun _ => (PF.bnd (wv_X6_advance  hq1) (fun q3 hq3 => (ih _ _ _ _ _ hq3)))) (fun _ => (PF.bnd (wv_X6_refuse  hq1) (fun q5 hq5 => (PF.ite (fun _ => (PF.ret1 hq5)) (fun _ => PF.none))))))))))))))
theorem wv_X8_parseItems {s : ST} {r_X8_parseFields : Int32 → Int32 → Int32 → ST → Option (Int32 × ST)} {r_X8_parseItems : Int32 → Int32 → Int32 → ST → Option (Int32 × ST)} {r_X8_parseValue : Int32 → Int32 → Int32 → Int32 → ST → Option (Int32 × ST)} {p0 : Int32} {p1 : Int32} {p2 : Int32} {σ : ST} (h_r_X8_parseFields : ∀ (x1 : Int32) (x2 : Int32) (x3 : Int32) (σ : ST), KVA s σ → PF st1 (KVA s) (r_X8_parseFields x1 x2 x3 σ)) (h_r_X8_parseItems : ∀ (x1 : Int32) (x2 : Int32) (x3 : Int32) (σ : ST), KVA s σ → PF st1 (KVA s) (r_X8_parseItems x1 x2 x3 σ)) (h_r_X8_parseValue : ∀ (x1 : Int32) (x2 : Int32) (x3 : Int32) (x4 : Int32) (σ : ST), KVA s σ → PF st1 (KVA s) (r_X8_parseValue x1 x2 x3 x4 σ))  (h : KVA s σ) : PF st1 (KVA s) (f_X8_parseItems r_X8_parseFields r_X8_parseItems r_X8_parseValue p0 p1 p2 σ) := by
  unfold f_X8_parseItems
  exact (PF.ite (fun _ => (PF.bnd (wv_X6_advance  h) (fun q1 hq1 => (PF.ret1 hq1)))) (fun _ => (wv_X8_parseItems_24 h_r_X8_parseFields h_r_X8_parseItems h_r_X8_parseValue _ _ _ _ _ _ h)))
theorem wv_X6_beginsLiteral_52 {s : ST}  {σ : ST}   (h : KVA s σ) : PF st1 (KVA s) (f_X6_beginsLiteral_52 σ) := by
  unfold f_X6_beginsLiteral_52
  exact (PF.ret1 h)
theorem wv_X6_isKeyword {s : ST} {p0 : Int32} {σ : ST}   (h : KVA s σ) : PF st1 (KVA s) (f_X6_isKeyword p0 σ) := by
  unfold f_X6_isKeyword
  exact (PF.ite (fun _ => (PF.ite (fun _ => (PF.ret1 h)) (fun _ => (PF.ret1 h)))) (fun _ => (PF.ret1 h)))
theorem wv_X6_beginsLiteral {s : ST}  {σ : ST}   (h : KVA s σ) : PF st1 (KVA s) (f_X6_beginsLiteral σ) := by
  unfold f_X6_beginsLiteral
  exact (PF.ite (fun _ => (wv_X6_beginsLiteral_52  h)) (fun _ => (PF.ite (fun _ => (wv_X6_beginsLiteral_52  h)) (fun _ => (PF.ite (fun _ => (wv_X6_beginsLiteral_52  h)) (fun _ => (PF.bnd (wv_X6_isKeyword  h) (fun q1 hq1 => (PF.ite (fun _ => (PF.bnd (wv_X6_isKeyword  hq1) (fun q3 hq3 => (PF.ite (fun _ => (PF.bnd (wv_X6_isKeyword  hq3) (fun q5 hq5 => (PF.ite (fun _ => (PF.ret1 hq5)) (fun _ => (wv_X6_beginsLiteral_52  hq5)))))) (fun _ => (wv_X6_beginsLiteral_52  hq3)))))) (fun _ => (wv_X6_beginsLiteral_52  hq1)))))))))))
theorem wv_X5_isType {s : ST} {b : Nat} {p0 : Int32} {σ : ST}   (h : KVA s σ) : PF st1 (KVA s) (f_X5_isType b p0 σ) := by
  unfold f_X5_isType
  exact (PF.ite (fun _ => (PF.ret1 h)) (fun _ => (PF.ite (fun _ => (PF.ret1 h)) (fun _ => (PF.ite (fun _ => (PF.ret1 h)) (fun _ => (PF.ret1 h)))))))
theorem wv_X5_sortOf {s : ST} {b : Nat} {p0 : Int32} {σ : ST}   (h : KVA s σ) : PF st1 (KVA s) (f_X5_sortOf b p0 σ) := by
  unfold f_X5_sortOf
  exact (PF.bnd (wv_X5_isType  h) (fun q1 hq1 => (PF.ite (fun _ => (PF.ret1 hq1)) (fun _ => (PF.ite (fun _ => (PF.ret1 hq1)) (fun _ => PF.none))))))
theorem wv_X5_innerOf {s : ST} {b : Nat} {p0 : Int32} {σ : ST}   (h : KVA s σ) : PF st1 (KVA s) (f_X5_innerOf b p0 σ) := by
  unfold f_X5_innerOf
  exact (PF.bnd (wv_X5_isType  h) (fun q1 hq1 => (PF.ite (fun _ => (PF.ret1 hq1)) (fun _ => (PF.ite (fun _ => (PF.ret1 hq1)) (fun _ => PF.none))))))
theorem wv_X6_fits_73 {s : ST}  {σ : ST}   (h : KVA s σ) : PF st1 (KVA s) (f_X6_fits_73 σ) := by
  unfold f_X6_fits_73
  exact (PF.ret1 h)
theorem wv_X6_whole {s : ST}  {σ : ST}   (h : KVA s σ) : PF st1 (KVA s) (f_X6_whole σ) := by
  unfold f_X6_whole
  exact (PF.ite (fun _ => (PF.ret1 h)) (fun _ => (PF.ret1 h)))
theorem wv_X10_isInt {s : ST} {p0 : Int64} {σ : ST}   (h : KVA s σ) : PF st1 (KVA s) (f_X10_isInt p0 σ) := by
  unfold f_X10_isInt
  exact (PF.ite (fun _ => (PF.ret1 h)) (fun _ => (PF.ite (fun _ => (PF.ret1 h)) (fun _ => (PF.ret1 h)))))
theorem wv_X6_fits {s : ST} {p0 : Int32} {σ : ST}   (h : KVA s σ) : PF st1 (KVA s) (f_X6_fits p0 σ) := by
  unfold f_X6_fits
  exact (PF.ite (fun _ => (PF.bnd (wv_X6_isKeyword  h) (fun q9 hq9 => (PF.ite (fun _ => (PF.ret1 hq9)) (fun _ => PF.none))))) (fun _ => (PF.ite (fun _ => (PF.bnd (wv_X6_isKeyword  h) (fun q11 hq11 => (PF.ite (fun _ => (PF.bnd (wv_X6_isKeyword  hq11) (fun q13 hq13 => (PF.ite (fun _ => (PF.ret1 hq13)) (fun _ => (wv_X6_fits_73  hq13)))))) (fun _ => (wv_X6_fits_73  hq11)))))) (fun _ => (PF.ite (fun _ => (PF.ite (fun _ => (PF.ite (fun _ => (PF.bnd (wv_X6_whole  h) (fun q15 hq15 => (PF.bnd (wv_X10_isInt  hq15) (fun q17 hq17 => (PF.ite (fun _ => (PF.ret1 hq17)) (fun _ => (PF.ret1 hq17)))))))) (fun _ => (PF.ret1 h)))) (fun _ => (PF.ret1 h)))) (fun _ => (PF.ite (fun _ => (PF.ite (fun _ => (PF.ite (fun _ => (PF.ret1 h)) (fun _ => (PF.ret1 h)))) (fun _ => (PF.ret1 h)))) (fun _ => (PF.ite (fun _ => (PF.ite (fun _ => (PF.ret1 h)) (fun _ => (PF.ret1 h)))) (fun _ => (PF.ite (fun _ => (PF.ite (fun _ => (PF.ret1 h)) (fun _ => (PF.ret1 h)))) (fun _ => (PF.ite (fun _ => (PF.ite (fun _ => (PF.ret1 h)) (fun _ => (PF.ret1 h)))) (fun _ => (PF.ite (fun _ => (PF.ite (fun _ => (PF.ret1 h)) (fun _ => (PF.ret1 h)))) (fun _ => (PF.ret1 h)))))))))))))))))
theorem wv_X5_branchAfter {s : ST} {b : Nat} {p0 : Int32} {σ : ST}   (h : KVA s σ) : PF st1 (KVA s) (f_X5_branchAfter b p0 σ) := by
  unfold f_X5_branchAfter
  exact (PF.bnd (wv_X5_isType  h) (fun q1 hq1 => (PF.ite (fun _ => (PF.ret1 hq1)) (fun _ => (PF.ite (fun _ => (PF.ret1 hq1)) (fun _ => PF.none))))))
theorem wv_X8_fittingType_48 {s : ST}    : ∀ (n : Nat) (x1 : Int32) (x2 : Int32) (σ : ST), KVA s σ → PF st1 (KVA s) (f_X8_fittingType_48  n x1 x2 σ) := by
  intro n
  induction n with
  | zero => intro x1 x2 σ h; rw [f_X8_fittingType_48]; exact PF.none
  | succ n ih =>
    intro x1 x2 σ h
    rw [f_X8_fittingType_48]
    exact (PF.ite (fun _ => (PF.ret1 h)) (fun _ => (PF.ite (fun _ => (PF.ret1 h)) (fun _ => (PF.bnd (wv_X5_sortOf  h) (fun q1 hq1 => (PF.bnd (wv_X6_fits  hq1) (fun q3 hq3 => (PF.ite (fun _ => (PF.bnd (wv_X5_branchAfter  hq3) (fun q5 hq5 => (ih _ _ _ hq5)))) (fun _ => (PF.ret1 hq3)))))))))))
theorem wv_X8_fittingType {s : ST} {p0 : Int32} {σ : ST}   (h : KVA s σ) : PF st1 (KVA s) (f_X8_fittingType p0 σ) := by
  unfold f_X8_fittingType
  exact (PF.bnd (wv_X5_sortOf  h) (fun q1 hq1 => (PF.ite (fun _ => (PF.bnd (wv_X5_innerOf  hq1) (fun q3 hq3 => (wv_X8_fittingType_48  _ _ _ _ hq3)))) (fun _ => (PF.bnd (wv_X5_sortOf  hq1) (fun q5 hq5 => (PF.bnd (wv_X6_fits  hq5) (fun q7 hq7 => (PF.ite (fun _ => (PF.ret1 hq7)) (fun _ => (PF.ret1 hq7)))))))))))
theorem wv_X10_bitsOfPositive_81 {s : ST} {x2 : UInt64} {x4 : Int32} {σ : ST}   (h : KVA s σ) : PF st1 (KVA s) (f_X10_bitsOfPositive_81 x2 x4 σ) := by
  unfold f_X10_bitsOfPositive_81
  exact (PF.ret1 h)
theorem wv_X10_bitsOfPositive_51 {s : ST}    : ∀ (n : Nat) (x1 : UInt64) (x2 : Int32) (x3 : Int32) (σ : ST), KVA s σ → PF st1 (KVA s) (f_X10_bitsOfPositive_51  n x1 x2 x3 σ) := by
  intro n
  induction n with
  | zero => intro x1 x2 x3 σ h; rw [f_X10_bitsOfPositive_51]; exact PF.none
  | succ n ih =>
    intro x1 x2 x3 σ h
    rw [f_X10_bitsOfPositive_51]
    exact (PF.ite (fun _ => (wv_X10_bitsOfPositive_81  h)) (fun _ => (PF.ite (fun _ => (wv_X10_bitsOfPositive_81  h)) (fun _ => (PF.ite (fun _ => (ih _ _ _ _ h)) (fun _ => PF.none))))))
theorem wv_X10_bitsOfPositive_48 {s : ST} {x2 : UInt64} {x4 : Int32} {σ : ST}   (h : KVA s σ) : PF st1 (KVA s) (f_X10_bitsOfPositive_48 x2 x4 σ) := by
  unfold f_X10_bitsOfPositive_48
  exact (wv_X10_bitsOfPositive_51  _ _ _ _ _ h)
theorem wv_X10_bitsOfPositive_18 {s : ST}    : ∀ (n : Nat) (x1 : UInt64) (x2 : Int32) (x3 : Int32) (σ : ST), KVA s σ → PF st1 (KVA s) (f_X10_bitsOfPositive_18  n x1 x2 x3 σ) := by
  intro n
  induction n with
  | zero => intro x1 x2 x3 σ h; rw [f_X10_bitsOfPositive_18]; exact PF.none
  | succ n ih =>
    intro x1 x2 x3 σ h
    rw [f_X10_bitsOfPositive_18]
    exact (PF.ite (fun _ => (wv_X10_bitsOfPositive_48  h)) (fun _ => (PF.ite (fun _ => (wv_X10_bitsOfPositive_48  h)) (fun _ => (PF.ite (fun _ => (ih _ _ _ _ h)) (fun _ => PF.none))))))
theorem wv_X10_bitsOfPositive {s : ST} {p0 : UInt64} {σ : ST}   (h : KVA s σ) : PF st1 (KVA s) (f_X10_bitsOfPositive p0 σ) := by
  unfold f_X10_bitsOfPositive
  exact (PF.ite (fun _ => (wv_X10_bitsOfPositive_18  _ _ _ _ _ h)) (fun _ => (PF.ret1 h)))
theorem wv_X6_realBits_42 {s : ST} {x1 : Int64} {σ : ST}   (h : KVA s σ) : PF st1 (KVA s) (f_X6_realBits_42 x1 σ) := by
  unfold f_X6_realBits_42
  exact (PF.ret1 h)
theorem wv_X6_realBits {s : ST}  {σ : ST}   (h : KVA s σ) : PF st1 (KVA s) (f_X6_realBits σ) := by
  unfold f_X6_realBits
  exact (PF.ite (fun _ => (PF.ite (fun _ => (PF.bnd (wv_X10_bitsOfPositive  h) (fun q3 hq3 => (PF.ite (fun _ => (PF.ret1 hq3)) (fun _ => (PF.ite (fun _ => (PF.ite (fun _ => (PF.ret1 hq3)) (fun _ => (wv_X6_realBits_42  hq3)))) (fun _ => (wv_X6_realBits_42  hq3)))))))) (fun _ => PF.none))) (fun _ => PF.none))
theorem wv_X6_worth {s : ST} {p0 : Int32} {σ : ST}   (h : KVA s σ) : PF st1 (KVA s) (f_X6_worth p0 σ) := by
  unfold f_X6_worth
  exact (PF.ite (fun _ => (PF.bnd (wv_X6_isKeyword  h) (fun q6 hq6 => (PF.ite (fun _ => (PF.ret1 hq6)) (fun _ => (PF.ret1 hq6)))))) (fun _ => (PF.ite (fun _ => (PF.bnd (wv_X6_whole  h) (fun q8 hq8 => (PF.ret1 hq8)))) (fun _ => (PF.ite (fun _ => (PF.bnd (wv_X6_whole  h) (fun q10 hq10 => (PF.ret1 hq10)))) (fun _ => (PF.ite (fun _ => (PF.bnd (wv_X6_realBits  h) (fun q12 hq12 => (PF.ret1 hq12)))) (fun _ => (PF.ite (fun _ => (PF.ret1 h)) (fun _ => (PF.ret1 h)))))))))))
theorem wv_X10_letterOf_10 {s : ST}  {σ : ST}   (h : KVA s σ) : PF st1 (KVA s) (f_X10_letterOf_10 σ) := by
  unfold f_X10_letterOf_10
  exact (PF.ret1 h)
theorem wv_X10_letterOf {s : ST} {p0 : Int64} {p1 : Int32} {σ : ST}   (h : KVA s σ) : PF st1 (KVA s) (f_X10_letterOf p0 p1 σ) := by
  unfold f_X10_letterOf
  exact (PF.ite (fun _ => (wv_X10_letterOf_10  h)) (fun _ => (PF.ite (fun _ => (PF.ret1 h)) (fun _ => (wv_X10_letterOf_10  h)))))
theorem wv_X10_lettersIn_2 {s : ST}    : ∀ (n : Nat) (x1 : Int64) (x2 : Int32) (σ : ST), KVA s σ → PF st1 (KVA s) (f_X10_lettersIn_2  n x1 x2 σ) := by
  intro n
  induction n with
  | zero => intro x1 x2 σ h; rw [f_X10_lettersIn_2]; exact PF.none
  | succ n ih =>
    intro x1 x2 σ h
    rw [f_X10_lettersIn_2]
    exact (PF.ite (fun _ => (PF.ret1 h)) (fun _ => (PF.bnd (wv_X10_letterOf  h) (fun q1 hq1 => (PF.ite (fun _ => (PF.ret1 hq1)) (fun _ => (ih _ _ _ hq1)))))))
theorem wv_X10_lettersIn {s : ST} {p0 : Int64} {σ : ST}   (h : KVA s σ) : PF st1 (KVA s) (f_X10_lettersIn p0 σ) := by
  unfold f_X10_lettersIn
  exact (wv_X10_lettersIn_2  _ _ _ _ h)
theorem wv_X8_parseValue_142 {s : ST} {r_X8_parseFields : Int32 → Int32 → Int32 → ST → Option (Int32 × ST)} {r_X8_parseItems : Int32 → Int32 → Int32 → ST → Option (Int32 × ST)} {r_X8_parseValue : Int32 → Int32 → Int32 → Int32 → ST → Option (Int32 × ST)} {x4 : Int32} {x5 : Int32} {x6 : Int32} {x7 : Int32} {x8 : Int64} {y0 : Int32} {y1 : Int32} {σ : ST} (h_r_X8_parseFields : ∀ (x1 : Int32) (x2 : Int32) (x3 : Int32) (σ : ST), KVA s σ → PF st1 (KVA s) (r_X8_parseFields x1 x2 x3 σ)) (h_r_X8_parseItems : ∀ (x1 : Int32) (x2 : Int32) (x3 : Int32) (σ : ST), KVA s σ → PF st1 (KVA s) (r_X8_parseItems x1 x2 x3 σ)) (h_r_X8_parseValue : ∀ (x1 : Int32) (x2 : Int32) (x3 : Int32) (x4 : Int32) (σ : ST), KVA s σ → PF st1 (KVA s) (r_X8_parseValue x1 x2 x3 x4 σ))  (h : KVA s σ) : PF st1 (KVA s) (f_X8_parseValue_142 r_X8_parseFields r_X8_parseItems r_X8_parseValue x4 x5 x6 x7 x8 y0 y1 σ) := by
  unfold f_X8_parseValue_142
  exact (PF.bnd (wv_X7_setWorth (by omega) h) (fun q1 hq1 => (PF.bnd (wv_X6_advance  hq1) (fun q3 hq3 => (PF.ite (fun _ => (PF.bnd (wv_X5_innerOf  hq3) (fun q9 hq9 => (PF.bnd (h_r_X8_parseItems _ _ _ _ hq9) (fun q11 hq11 => (PF.ite (fun _ => (PF.ret1 hq11)) (fun _ => PF.none))))))) (fun _ => (PF.ite (fun _ => (PF.bnd (wv_X5_innerOf  hq3) (fun q5 hq5 => (PF.bnd (h_r_X8_parseFields _ _ _ _ hq5) (fun q7 hq7 => (PF.ite (fun _ => (PF.ret1 hq7)) (fun _ => PF.none))))))) (fun _ => (PF.ret1 hq3)))))))))
theorem wv_X8_parseValue_93 {s : ST} {r_X8_parseFields : Int32 → Int32 → Int32 → ST → Option (Int32 × ST)} {r_X8_parseItems : Int32 → Int32 → Int32 → ST → Option (Int32 × ST)} {r_X8_parseValue : Int32 → Int32 → Int32 → Int32 → ST → Option (Int32 × ST)} {x4 : Int32} {x5 : Int32} {x6 : Int32} {y0 : Int32} {σ : ST} (h_r_X8_parseFields : ∀ (x1 : Int32) (x2 : Int32) (x3 : Int32) (σ : ST), KVA s σ → PF st1 (KVA s) (r_X8_parseFields x1 x2 x3 σ)) (h_r_X8_parseItems : ∀ (x1 : Int32) (x2 : Int32) (x3 : Int32) (σ : ST), KVA s σ → PF st1 (KVA s) (r_X8_parseItems x1 x2 x3 σ)) (h_r_X8_parseValue : ∀ (x1 : Int32) (x2 : Int32) (x3 : Int32) (x4 : Int32) (σ : ST), KVA s σ → PF st1 (KVA s) (r_X8_parseValue x1 x2 x3 x4 σ))  (h : KVA s σ) : PF st1 (KVA s) (f_X8_parseValue_93 r_X8_parseFields r_X8_parseItems r_X8_parseValue x4 x5 x6 y0 σ) := by
  unfold f_X8_parseValue_93
  exact (PF.ite (fun _ => (PF.bnd (wv_X6_refuse  h) (fun q5 hq5 => (PF.ite (fun _ => (PF.ret1 hq5)) (fun _ => PF.none))))) (fun _ => (PF.bnd (wv_X6_worth  h) (fun q1 hq1 => (PF.ite (fun _ => (PF.bnd (wv_X10_lettersIn  hq1) (fun q3 hq3 => (wv_X8_parseValue_142 h_r_X8_parseFields h_r_X8_parseItems h_r_X8_parseValue hq3)))) (fun _ => (wv_X8_parseValue_142 h_r_X8_parseFields h_r_X8_parseItems h_r_X8_parseValue hq1)))))))
theorem wv_X8_parseValue_78 {s : ST} {r_X8_parseFields : Int32 → Int32 → Int32 → ST → Option (Int32 × ST)} {r_X8_parseItems : Int32 → Int32 → Int32 → ST → Option (Int32 × ST)} {r_X8_parseValue : Int32 → Int32 → Int32 → Int32 → ST → Option (Int32 × ST)} {x4 : Int32} {x5 : Int32} {x6 : Int32} {σ : ST} (h_r_X8_parseFields : ∀ (x1 : Int32) (x2 : Int32) (x3 : Int32) (σ : ST), KVA s σ → PF st1 (KVA s) (r_X8_parseFields x1 x2 x3 σ)) (h_r_X8_parseItems : ∀ (x1 : Int32) (x2 : Int32) (x3 : Int32) (σ : ST), KVA s σ → PF st1 (KVA s) (r_X8_parseItems x1 x2 x3 σ)) (h_r_X8_parseValue : ∀ (x1 : Int32) (x2 : Int32) (x3 : Int32) (x4 : Int32) (σ : ST), KVA s σ → PF st1 (KVA s) (r_X8_parseValue x1 x2 x3 x4 σ))  (h : KVA s σ) : PF st1 (KVA s) (f_X8_parseValue_78 r_X8_parseFields r_X8_parseItems r_X8_parseValue x4 x5 x6 σ) := by
  unfold f_X8_parseValue_78
  exact (wv_X8_parseValue_93 h_r_X8_parseFields h_r_X8_parseItems h_r_X8_parseValue h)
theorem wv_X7_link_155 {s : ST} {b : Nat} {x1 : Int32} {x2 : Int32} {σ : ST}  (h_b : 62 = b) (h : KVA s σ) : PF st0 (KVA s) (f_X7_link_155 b x1 x2 σ) := by
  unfold f_X7_link_155
  exact (PF.ite (fun _ => (PF.ite (fun _ => (PF.ite (fun _ => (PF.ret0 (KVA.i (by omega) h))) (fun _ => PF.none))) (fun _ => (PF.ret0 h)))) (fun _ => PF.none))
theorem wv_X7_link_103 {s : ST} {b : Nat} {x1 : Int32} {x2 : Int32} {x4 : Int32} {σ : ST}  (h_b : 62 = b) (h : KVA s σ) : PF st0 (KVA s) (f_X7_link_103 b x1 x2 x4 σ) := by
  unfold f_X7_link_103
  exact (PF.bnd (wv_X7_isRow  h) (fun q1 hq1 => (PF.ite (fun _ => (PF.ite (fun _ => (PF.ite (fun _ => (PF.bnd (PF.ret0 (KVA.i (by omega) (KVA.i (by omega) hq1))) (fun z5 hz5 => (wv_X7_link_155 (by omega) hz5)))) (fun _ => PF.none))) (fun _ => PF.none))) (fun _ => (PF.ite (fun _ => (PF.ite (fun _ => (PF.bnd (PF.ret0 (KVA.i (by omega) (KVA.i (by omega) hq1))) (fun z8 hz8 => (wv_X7_link_155 (by omega) hz8)))) (fun _ => PF.none))) (fun _ => PF.none))))))
theorem wv_X7_link_50 {s : ST} {b : Nat}  (h_b : 62 = b) : ∀ (n : Nat) (x1 : Int32) (x2 : Int32) (x3 : Int32) (x4 : Int32) (x5 : Int32) (σ : ST), KVA s σ → PF st0 (KVA s) (f_X7_link_50 b n x1 x2 x3 x4 x5 σ) := by
  intro n
  induction n with
  | zero => intro x1 x2 x3 x4 x5 σ h; rw [f_X7_link_50]; exact PF.none
  | succ n ih =>
    intro x1 x2 x3 x4 x5 σ h
    rw [f_X7_link_50]
    exact (PF.ite (fun _ => (wv_X7_link_103 (by omega) h)) (fun _ => (PF.bnd (wv_X7_isRow  h) (fun q1 hq1 => (PF.ite (fun _ => (wv_X7_link_103 (by omega) hq1)) (fun _ => (PF.ite (fun _ => (PF.ite (fun _ => (PF.ite (fun _ => (wv_X7_link_103 (by omega) hq1)) (fun _ => (ih _ _ _ _ _ _ hq1)))) (fun _ => PF.none))) (fun _ => PF.none))))))))
theorem wv_X7_link_39 {s : ST} {b : Nat} {x1 : Int32} {x2 : Int32} {x4 : Int32} {σ : ST}  (h_b : 62 = b) (h : KVA s σ) : PF st0 (KVA s) (f_X7_link_39 b x1 x2 x4 σ) := by
  unfold f_X7_link_39
  exact (PF.ite (fun _ => (wv_X7_link_50 (by omega) _ _ _ _ _ _ _ h)) (fun _ => PF.none))
theorem wv_X7_link {s : ST} {b : Nat} {p0 : Int32} {p1 : Int32} {σ : ST}  (h_b : 62 = b) (h : KVA s σ) : PF st0 (KVA s) (f_X7_link b p0 p1 σ) := by
  unfold f_X7_link
  exact (PF.ite (fun _ => (PF.bnd (wv_X7_isRow  h) (fun q2 hq2 => (PF.ite (fun _ => (wv_X7_link_39 (by omega) hq2)) (fun _ => (PF.ite (fun _ => (PF.ite (fun _ => (PF.ite (fun _ => (wv_X7_link_39 (by omega) hq2)) (fun _ => (wv_X7_link_103 (by omega) hq2)))) (fun _ => PF.none))) (fun _ => PF.none))))))) (fun _ => PF.none))
theorem wv_X7_grow {s : ST} {b : Nat} {p0 : Int32} {p1 : Int32} {p2 : Int32} {σ : ST}  (h_b : 62 = b) (h : KVA s σ) : PF st1 (KVA s) (f_X7_grow b p0 p1 p2 σ) := by
  unfold f_X7_grow
  exact (PF.ite (fun _ => (PF.ite (fun _ => (PF.bnd (PF.ret0 (KVA.i (by omega) (KVA.i (by omega) (KVA.i (by omega) h)))) (fun z2 hz2 => (PF.bnd (PF.ret0 (KVA.i (by omega) (KVA.i (by omega) (KVA.i (by omega) hz2)))) (fun z3 hz3 => (PF.bnd (PF.ret0 (KVA.i (by omega) (KVA.l (by omega) hz3))) (fun z4 hz4 => (PF.bnd (PF.ret0 (KVA.i (by omega) (KVA.i (by omega) hz4))) (fun z5 hz5 => (PF.bnd (wv_X7_isRow  hz5) (fun q6 hq6 => (PF.ite (fun _ => (PF.ret1 hq6)) (fun _ => (PF.bnd (wv_X7_link (by omega) hq6) (fun q8 hq8 => (PF.ret1 hq8)))))))))))))))) (fun _ => PF.none))) (fun _ => (PF.ret1 h)))
theorem wv_X8_parseValue_31 {s : ST} {r_X8_parseFields : Int32 → Int32 → Int32 → ST → Option (Int32 × ST)} {r_X8_parseItems : Int32 → Int32 → Int32 → ST → Option (Int32 × ST)} {r_X8_parseValue : Int32 → Int32 → Int32 → Int32 → ST → Option (Int32 × ST)} {x1 : Int32} {x2 : Int32} {x3 : Int32} {x4 : Int32} {σ : ST} (h_r_X8_parseFields : ∀ (x1 : Int32) (x2 : Int32) (x3 : Int32) (σ : ST), KVA s σ → PF st1 (KVA s) (r_X8_parseFields x1 x2 x3 σ)) (h_r_X8_parseItems : ∀ (x1 : Int32) (x2 : Int32) (x3 : Int32) (σ : ST), KVA s σ → PF st1 (KVA s) (r_X8_parseItems x1 x2 x3 σ)) (h_r_X8_parseValue : ∀ (x1 : Int32) (x2 : Int32) (x3 : Int32) (x4 : Int32) (σ : ST), KVA s σ → PF st1 (KVA s) (r_X8_parseValue x1 x2 x3 x4 σ))  (h : KVA s σ) : PF st1 (KVA s) (f_X8_parseValue_31 r_X8_parseFields r_X8_parseItems r_X8_parseValue x1 x2 x3 x4 σ) := by
  unfold f_X8_parseValue_31
  exact (PF.bnd (wv_X8_fittingType  h) (fun q1 hq1 => (PF.ite (fun _ => (PF.bnd (wv_X6_refuse  hq1) (fun q7 hq7 => (PF.ite (fun _ => (PF.ret1 hq7)) (fun _ => PF.none))))) (fun _ => (PF.bnd (wv_X5_sortOf  hq1) (fun q3 hq3 => (PF.ite (fun _ => (wv_X8_parseValue_78 h_r_X8_parseFields h_r_X8_parseItems h_r_X8_parseValue hq3)) (fun _ => (PF.ite (fun _ => (PF.bnd (wv_X7_grow (by omega) hq3) (fun q5 hq5 => (wv_X8_parseValue_93 h_r_X8_parseFields h_r_X8_parseItems h_r_X8_parseValue hq5)))) (fun _ => (wv_X8_parseValue_78 h_r_X8_parseFields h_r_X8_parseItems h_r_X8_parseValue hq3)))))))))))
theorem wv_X8_parseValue {s : ST} {r_X8_parseFields : Int32 → Int32 → Int32 → ST → Option (Int32 × ST)} {r_X8_parseItems : Int32 → Int32 → Int32 → ST → Option (Int32 × ST)} {r_X8_parseValue : Int32 → Int32 → Int32 → Int32 → ST → Option (Int32 × ST)} {p0 : Int32} {p1 : Int32} {p2 : Int32} {p3 : Int32} {σ : ST} (h_r_X8_parseFields : ∀ (x1 : Int32) (x2 : Int32) (x3 : Int32) (σ : ST), KVA s σ → PF st1 (KVA s) (r_X8_parseFields x1 x2 x3 σ)) (h_r_X8_parseItems : ∀ (x1 : Int32) (x2 : Int32) (x3 : Int32) (σ : ST), KVA s σ → PF st1 (KVA s) (r_X8_parseItems x1 x2 x3 σ)) (h_r_X8_parseValue : ∀ (x1 : Int32) (x2 : Int32) (x3 : Int32) (x4 : Int32) (σ : ST), KVA s σ → PF st1 (KVA s) (r_X8_parseValue x1 x2 x3 x4 σ))  (h : KVA s σ) : PF st1 (KVA s) (f_X8_parseValue r_X8_parseFields r_X8_parseItems r_X8_parseValue p0 p1 p2 p3 σ) := by
  unfold f_X8_parseValue
  exact (PF.bnd (wv_X6_beginsLiteral  h) (fun q1 hq1 => (PF.ite (fun _ => (PF.ite (fun _ => (wv_X8_parseValue_31 h_r_X8_parseFields h_r_X8_parseItems h_r_X8_parseValue hq1)) (fun _ => (PF.bnd (wv_X6_refuse  hq1) (fun q3 hq3 => (PF.ite (fun _ => (PF.ret1 hq3)) (fun _ => PF.none))))))) (fun _ => (wv_X8_parseValue_31 h_r_X8_parseFields h_r_X8_parseItems h_r_X8_parseValue hq1)))))
theorem wvR_X8_parseFields {s : ST} : ∀ n : Nat, (∀ (p0 : Int32) (p1 : Int32) (p2 : Int32) (σ : ST), KVA s σ → PF st1 (KVA s) ((R_X8_parseFields n).1 p0 p1 p2 σ)) ∧ (∀ (p0 : Int32) (p1 : Int32) (p2 : Int32) (σ : ST), KVA s σ → PF st1 (KVA s) ((R_X8_parseFields n).2.1 p0 p1 p2 σ)) ∧ (∀ (p0 : Int32) (p1 : Int32) (p2 : Int32) (p3 : Int32) (σ : ST), KVA s σ → PF st1 (KVA s) ((R_X8_parseFields n).2.2 p0 p1 p2 p3 σ)) := by
  intro n
  induction n with
  | zero => exact ⟨fun _ _ _ _ _ => PF.none, fun _ _ _ _ _ => PF.none, fun _ _ _ _ _ _ => PF.none⟩
  | succ n ih => exact ⟨fun _ _ _ _ h => wv_X8_parseFields (ih.1) (ih.2.1) (ih.2.2)  h, fun _ _ _ _ h => wv_X8_parseItems (ih.1) (ih.2.1) (ih.2.2)  h, fun _ _ _ _ _ h => wv_X8_parseValue (ih.1) (ih.2.1) (ih.2.2)  h⟩
theorem wv_T_X8_parseValue {s : ST} {p0 : Int32} {p1 : Int32} {p2 : Int32} {p3 : Int32} {σ : ST} (h : KVA s σ) : PF st1 (KVA s) (f_T_X8_parseValue p0 p1 p2 p3 σ) := (wvR_X8_parseFields FR).2.2 _ _ _ _ _  h
theorem wv_X11_byteAt {s : ST} {p0 : Int32} {σ : ST}   (h : KVB s σ) : PF st1 (KVB s) (f_X11_byteAt p0 σ) := by
  unfold f_X11_byteAt
  exact (PF.ite (fun _ => (PF.ret1 h)) (fun _ => (PF.ite (fun _ => (PF.ret1 h)) (fun _ => PF.none))))
theorem wv_X11_go_26 {s : ST} {k0 : ST → Option (ST)} {σ : ST} (h_k0 : ∀ (σ : ST), KVB s σ → PF st0 (KVB s) (k0 σ))  (h : KVB s σ) : PF st0 (KVB s) (f_X11_go_26 k0 σ) := by
  unfold f_X11_go_26
  exact (h_k0 _ (KVB.i (by omega) h))
theorem wv_X11_within {s : ST} {p0 : Int64} {p1 : Int64} {p2 : Int64} {σ : ST}   (h : KVB s σ) : PF st1 (KVB s) (f_X11_within p0 p1 p2 σ) := by
  unfold f_X11_within
  exact (PF.ite (fun _ => (PF.ret1 h)) (fun _ => (PF.ite (fun _ => (PF.ret1 h)) (fun _ => (PF.ret1 h)))))
theorem wv_X11_isLetter {s : ST} {p0 : Int32} {σ : ST}   (h : KVB s σ) : PF st1 (KVB s) (f_X11_isLetter p0 σ) := by
  unfold f_X11_isLetter
  exact (PF.bnd (wv_X11_within  h) (fun q1 hq1 => (PF.ite (fun _ => (PF.ret1 hq1)) (fun _ => PF.none))))
theorem wv_X11_isDigit {s : ST} {p0 : Int32} {σ : ST}   (h : KVB s σ) : PF st1 (KVB s) (f_X11_isDigit p0 σ) := by
  unfold f_X11_isDigit
  exact (PF.bnd (wv_X11_within  h) (fun q1 hq1 => (PF.ite (fun _ => (PF.ret1 hq1)) (fun _ => PF.none))))
theorem wv_X11_word_62 {s : ST} {k10 : Int32 → ST → Option (ST)} {x1 : Int32} {y0 : Int64} {σ : ST} (h_k10 : ∀ (x1 : Int32) (σ : ST), KVB s σ → PF st0 (KVB s) (k10 x1 σ))  (h : KVB s σ) : PF st0 (KVB s) (f_X11_word_62 k10 x1 y0 σ) := by
  unfold f_X11_word_62
  exact (PF.bnd (PF.ret0 (KVB.i (by omega) (KVB.i (by omega) (KVB.l (by omega) h)))) (fun z1 hz1 => (h_k10 _ _ hz1)))
theorem wv_X11_word_10 {s : ST}    : ∀ (n : Nat) (x1 : Int32) (σ : ST), KVB s σ → PF st0 (KVB s) (f_X11_word_10  n x1 σ) := by
  intro n
  induction n with
  | zero => intro x1 σ h; rw [f_X11_word_10]; exact PF.none
  | succ n ih =>
    intro x1 σ h
    rw [f_X11_word_10]
    exact (PF.bnd (wv_X11_byteAt  h) (fun q1 hq1 => (PF.bnd (wv_X11_isLetter  hq1) (fun q3 hq3 => (PF.ite (fun _ => (PF.ret0 hq3)) (fun _ => (PF.ite (fun _ => (wv_X11_word_62 ih hq3)) (fun _ => (PF.bnd (wv_X11_byteAt  hq3) (fun q5 hq5 => (wv_X11_word_62 ih hq5)))))))))))
theorem wv_X11_word {s : ST} {p0 : Int32} {σ : ST}   (h : KVB s σ) : PF st0 (KVB s) (f_X11_word p0 σ) := by
  unfold f_X11_word
  exact (wv_X11_word_10  _ _ _ (KVB.i (by omega) (KVB.l (by omega) h)))
theorem wv_X11_quoted_64 {s : ST} {y0 : Int32} {σ : ST}   (h : KVB s σ) : PF st0 (KVB s) (f_X11_quoted_64 y0 σ) := by
  unfold f_X11_quoted_64
  exact (PF.ret0 (KVB.i (by omega) h))
theorem wv_X11_quoted_43 {s : ST} {y0 : Int32} {σ : ST}   (h : KVB s σ) : PF st0 (KVB s) (f_X11_quoted_43 y0 σ) := by
  unfold f_X11_quoted_43
  exact (PF.ite (fun _ => (wv_X11_quoted_64  (KVB.i (by omega) h))) (fun _ => (wv_X11_quoted_64  (KVB.i (by omega) h))))
theorem wv_X11_quoted_42 {s : ST}  {σ : ST}   (h : KVB s σ) : PF st0 (KVB s) (f_X11_quoted_42 σ) := by
  unfold f_X11_quoted_42
  exact (wv_X11_quoted_43  h)
theorem wv_X11_quoted {s : ST}  {σ : ST}   (h : KVB s σ) : PF st0 (KVB s) (f_X11_quoted σ) := by
  unfold f_X11_quoted
  exact (PF.bnd (wv_X11_word  (KVB.i (by omega) h)) (fun q1 hq1 => (PF.ite (fun _ => (wv_X11_quoted_42  hq1)) (fun _ => (PF.bnd (wv_X11_byteAt  hq1) (fun q3 hq3 => (PF.ite (fun _ => (wv_X11_quoted_43  hq3)) (fun _ => (wv_X11_quoted_42  hq3)))))))))
theorem wv_X11_isSign_36 {s : ST}  {σ : ST}   (h : KVB s σ) : PF st1 (KVB s) (f_X11_isSign_36 σ) := by
  unfold f_X11_isSign_36
  exact (PF.ret1 h)
theorem wv_X11_isSign {s : ST} {p0 : Int32} {σ : ST}   (h : KVB s σ) : PF st1 (KVB s) (f_X11_isSign p0 σ) := by
  unfold f_X11_isSign
  exact (PF.ite (fun _ => (wv_X11_isSign_36  h)) (fun _ => (PF.ite (fun _ => (wv_X11_isSign_36  h)) (fun _ => (PF.ite (fun _ => (wv_X11_isSign_36  h)) (fun _ => (PF.ite (fun _ => (wv_X11_isSign_36  h)) (fun _ => (PF.ite (fun _ => (wv_X11_isSign_36  h)) (fun _ => (PF.ite (fun _ => (wv_X11_isSign_36  h)) (fun _ => (PF.ret1 h)))))))))))))
theorem wv_X11_go_185 {s : ST} {y0 : Int32} {σ : ST}   (h : KVB s σ) : PF st0 (KVB s) (f_X11_go_185 y0 σ) := by
  unfold f_X11_go_185
  exact (PF.ret0 (KVB.i (by omega) (KVB.i (by omega) h)))
theorem wv_X11_go_169 {s : ST} {y0 : Int32} {σ : ST}   (h : KVB s σ) : PF st0 (KVB s) (f_X11_go_169 y0 σ) := by
  unfold f_X11_go_169
  exact (PF.ite (fun _ => (wv_X11_go_185  (KVB.i (by omega) h))) (fun _ => (wv_X11_go_185  (KVB.i (by omega) h))))
theorem wv_X11_go_143 {s : ST} {x1 : Int32} {σ : ST}   (h : KVB s σ) : PF st0 (KVB s) (f_X11_go_143 x1 σ) := by
  unfold f_X11_go_143
  exact (PF.ite (fun _ => (PF.bnd (wv_X11_quoted  h) (fun q3 hq3 => (PF.ret0 hq3)))) (fun _ => (PF.bnd (wv_X11_isSign  h) (fun q1 hq1 => (PF.ite (fun _ => (wv_X11_go_169  hq1)) (fun _ => (wv_X11_go_169  hq1)))))))
theorem wv_X11_number_292 {s : ST} {y0 : Int32} {σ : ST}   (h : KVB s σ) : PF st0 (KVB s) (f_X11_number_292 y0 σ) := by
  unfold f_X11_number_292
  exact (PF.ret0 (KVB.i (by omega) h))
theorem wv_X11_number_279 {s : ST} {x3 : Int32} {y0 : Int64} {σ : ST}   (h : KVB s σ) : PF st0 (KVB s) (f_X11_number_279 x3 y0 σ) := by
  unfold f_X11_number_279
  exact (PF.ite (fun _ => (wv_X11_number_292  (KVB.l (by omega) h))) (fun _ => (wv_X11_number_292  (KVB.l (by omega) h))))
theorem wv_X11_number_262 {s : ST} {x1 : Int32} {x3 : Int32} {σ : ST}   (h : KVB s σ) : PF st0 (KVB s) (f_X11_number_262 x1 x3 σ) := by
  unfold f_X11_number_262
  exact (PF.ite (fun _ => (wv_X11_number_279  h)) (fun _ => (wv_X11_number_279  h)))
theorem wv_X11_number_261 {s : ST} {x1 : Int32} {y0 : Int32} {σ : ST}   (h : KVB s σ) : PF st0 (KVB s) (f_X11_number_261 x1 y0 σ) := by
  unfold f_X11_number_261
  exact (wv_X11_number_262  h)
theorem wv_X11_number_260 {s : ST} {x1 : Int32} {σ : ST}   (h : KVB s σ) : PF st0 (KVB s) (f_X11_number_260 x1 σ) := by
  unfold f_X11_number_260
  exact (wv_X11_number_261  h)
theorem wv_X11_number_225 {s : ST} {x1 : Int32} {x3 : Int32} {y0 : UInt64} {σ : ST}   (h : KVB s σ) : PF st0 (KVB s) (f_X11_number_225 x1 x3 y0 σ) := by
  unfold f_X11_number_225
  exact (PF.ite (fun _ => (wv_X11_number_260  (KVB.i (by omega) (KVB.d h)))) (fun _ => (PF.bnd (wv_X11_byteAt  (KVB.i (by omega) (KVB.d h))) (fun q1 hq1 => (PF.bnd (wv_X11_isDigit  hq1) (fun q3 hq3 => (PF.ite (fun _ => (wv_X11_number_261  hq3)) (fun _ => (wv_X11_number_260  hq3)))))))))
theorem wv_X11_number_170 {s : ST} {x1 : Int32} {x3 : Int32} {y0 : Int32} {σ : ST}   (h : KVB s σ) : PF st0 (KVB s) (f_X11_number_170 x1 x3 y0 σ) := by
  unfold f_X11_number_170
  exact (PF.ite (fun _ => (PF.ite (fun _ => (wv_X11_number_262  (KVB.i (by omega) h))) (fun _ => (PF.bnd (wv_X11_byteAt  (KVB.i (by omega) h)) (fun q2 hq2 => (PF.ite (fun _ => (PF.ite (fun _ => (PF.bnd (PF.ret0 (KVB.d hq2)) (fun z6 hz6 => (PF.ite (fun _ => (wv_X11_number_225  hz6)) (fun _ => (wv_X11_number_225  hz6)))))) (fun _ => PF.none))) (fun _ => PF.none))))))) (fun _ => PF.none))
theorem wv_X11_number_169 {s : ST} {x1 : Int32} {x3 : Int32} {σ : ST}   (h : KVB s σ) : PF st0 (KVB s) (f_X11_number_169 x1 x3 σ) := by
  unfold f_X11_number_169
  exact (wv_X11_number_170  h)
theorem wv_X11_number_134 {s : ST} {x1 : Int32} {y0 : Int32} {σ : ST}   (h : KVB s σ) : PF st0 (KVB s) (f_X11_number_134 x1 y0 σ) := by
  unfold f_X11_number_134
  exact (PF.bnd (wv_X11_byteAt  h) (fun q1 hq1 => (PF.ite (fun _ => (PF.bnd (wv_X11_byteAt  hq1) (fun q3 hq3 => (PF.bnd (wv_X11_isDigit  hq3) (fun q5 hq5 => (PF.ite (fun _ => (wv_X11_number_169  hq5)) (fun _ => (wv_X11_number_170  hq5)))))))) (fun _ => (wv_X11_number_169  hq1)))))
theorem wv_X11_number_102 {s : ST} {k47 : Int32 → Int32 → ST → Option (ST)} {x1 : Int32} {x2 : Int32} {y0 : Int64} {σ : ST} (h_k47 : ∀ (x1 : Int32) (x2 : Int32) (σ : ST), KVB s σ → PF st0 (KVB s) (k47 x1 x2 σ))  (h : KVB s σ) : PF st0 (KVB s) (f_X11_number_102 k47 x1 x2 y0 σ) := by
  unfold f_X11_number_102
  exact (h_k47 _ _ _ (KVB.i (by omega) (KVB.l (by omega) h)))
theorem wv_X11_number_47 {s : ST}    : ∀ (n : Nat) (x1 : Int32) (x2 : Int32) (σ : ST), KVB s σ → PF st0 (KVB s) (f_X11_number_47  n x1 x2 σ) := by
  intro n
  induction n with
  | zero => intro x1 x2 σ h; rw [f_X11_number_47]; exact PF.none
  | succ n ih =>
    intro x1 x2 σ h
    rw [f_X11_number_47]
    exact (PF.bnd (wv_X11_byteAt  h) (fun q1 hq1 => (PF.bnd (wv_X11_isDigit  hq1) (fun q3 hq3 => (PF.ite (fun _ => (PF.ite (fun _ => (wv_X11_number_134  hq3)) (fun _ => (wv_X11_number_134  hq3)))) (fun _ => (PF.ite (fun _ => (wv_X11_number_102 ih hq3)) (fun _ => (PF.bnd (wv_X11_byteAt  hq3) (fun q5 hq5 => (wv_X11_number_102 ih hq5)))))))))))
theorem wv_X11_number_33 {s : ST} {x1 : Int32} {y0 : Int32} {y1 : Int32} {σ : ST}   (h : KVB s σ) : PF st0 (KVB s) (f_X11_number_33 x1 y0 y1 σ) := by
  unfold f_X11_number_33
  exact (wv_X11_number_47  _ _ _ _ (KVB.l (by omega) (KVB.i (by omega) h)))
theorem wv_X11_number_18 {s : ST} {y0 : Int32} {σ : ST}   (h : KVB s σ) : PF st0 (KVB s) (f_X11_number_18 y0 σ) := by
  unfold f_X11_number_18
  exact (PF.ite (fun _ => (wv_X11_number_33  h)) (fun _ => (wv_X11_number_33  h)))
theorem wv_X11_number {s : ST}  {σ : ST}   (h : KVB s σ) : PF st0 (KVB s) (f_X11_number σ) := by
  unfold f_X11_number
  exact (PF.bnd (wv_X11_byteAt  h) (fun q1 hq1 => (PF.ite (fun _ => (wv_X11_number_18  hq1)) (fun _ => (wv_X11_number_18  hq1)))))
theorem wv_X11_go_136 {s : ST}  {σ : ST}   (h : KVB s σ) : PF st0 (KVB s) (f_X11_go_136 σ) := by
  unfold f_X11_go_136
  exact (PF.bnd (wv_X11_number  h) (fun q1 hq1 => (PF.ret0 hq1)))
theorem wv_X11_go_101 {s : ST} {y0 : Int32} {σ : ST}   (h : KVB s σ) : PF st0 (KVB s) (f_X11_go_101 y0 σ) := by
  unfold f_X11_go_101
  exact (PF.ret0 (KVB.i (by omega) h))
theorem wv_X11_go_0 {s : ST}    : ∀ (n : Nat) (σ : ST), KVB s σ → PF st0 (KVB s) (f_X11_go_0  n σ) := by
  intro n
  induction n with
  | zero => intro σ h; rw [f_X11_go_0]; exact PF.none
  | succ n ih =>
    intro σ h
    rw [f_X11_go_0]
    exact (PF.bnd (wv_X11_byteAt  h) (fun q1 hq1 => (PF.ite (fun _ => (wv_X11_go_26 ih hq1)) (fun _ => (PF.bnd (wv_X11_byteAt  hq1) (fun q3 hq3 => (PF.ite (fun _ => (wv_X11_go_26 ih hq3)) (fun _ => (PF.bnd (wv_X11_byteAt  (KVB.i (by omega) hq3)) (fun q5 hq5 => (PF.ite (fun _ => (PF.bnd (wv_X11_isLetter  (KVB.i (by omega) hq5)) (fun q7 hq7 => (PF.ite (fun _ => (PF.bnd (wv_X11_isDigit  hq7) (fun q9 hq9 => (PF.ite (fun _ => (PF.ite (fun _ => (PF.bnd (wv_X11_byteAt  hq9) (fun q11 hq11 => (PF.bnd (wv_X11_isDigit  hq11) (fun q13 hq13 => (PF.ite (fun _ => (wv_X11_go_143  hq13)) (fun _ => (wv_X11_go_136  hq13)))))))) (fun _ => (wv_X11_go_143  hq9)))) (fun _ => (wv_X11_go_136  hq9)))))) (fun _ => (PF.bnd (wv_X11_word  hq7) (fun q15 hq15 => (PF.ite (fun _ => (wv_X11_go_101  hq15)) (fun _ => (wv_X11_go_101  hq15)))))))))) (fun _ => (PF.ret0 (KVB.i (by omega) (KVB.i (by omega) hq5)))))))))))))))
theorem wv_X11_go {s : ST}  {σ : ST}   (h : KVB s σ) : PF st0 (KVB s) (f_X11_go σ) := by
  unfold f_X11_go
  exact (wv_X11_go_0  _ _ h)
theorem wv_X11_wrong_21 {s : ST} {y0 : Int32} {σ : ST}   (h : KVB s σ) : PF st1 (KVB s) (f_X11_wrong_21 y0 σ) := by
  unfold f_X11_wrong_21
  exact (PF.ret1 (KVB.i (by omega) h))
theorem wv_X11_wrong {s : ST} {p0 : Int32} {p1 : Int32} {σ : ST}   (h : KVB s σ) : PF st1 (KVB s) (f_X11_wrong p0 p1 σ) := by
  unfold f_X11_wrong
  exact (PF.ite (fun _ => (wv_X11_wrong_21  h)) (fun _ => (wv_X11_wrong_21  h)))
theorem wv_X11_wrongHere {s : ST} {p0 : Int32} {σ : ST}   (h : KVB s σ) : PF st1 (KVB s) (f_X11_wrongHere p0 σ) := by
  unfold f_X11_wrongHere
  exact (PF.bnd (wv_X11_wrong  h) (fun q1 hq1 => (PF.ite (fun _ => (PF.ret1 hq1)) (fun _ => PF.none))))
theorem wv_X11_mark {s : ST} {p0 : Int32} {σ : ST}   (h : KVB s σ) : PF st1 (KVB s) (f_X11_mark p0 σ) := by
  unfold f_X11_mark
  exact (PF.ite (fun _ => (PF.bnd (wv_X11_go  h) (fun q1 hq1 => (PF.ret1 hq1)))) (fun _ => (PF.bnd (wv_X11_wrongHere  h) (fun q3 hq3 => (PF.ite (fun _ => (PF.ret1 hq3)) (fun _ => PF.none))))))
theorem wv_X11_items_70 {s : ST} {r_X11_items : Int32 → Int32 → Int32 → Int32 → ST → Option ((Int32 × ST) × Nat)} {r_X11_parts : Int32 → Int32 → Int32 → Int32 → ST → Option ((Int32 × ST) × Nat)} {r_X11_value : Int32 → Int32 → Int32 → Int32 → Int32 → ST → Option ((Int32 × ST) × Nat)} {k25 : Int32 → Int32 → Int32 → Int32 → Int32 → Int32 → ST → Option ((Int32 × ST) × Nat)} {x1 : Int32} {x2 : Int32} {x3 : Int32} {x4 : Int32} {x5 : Int32} {y0 : Int32} {σ : ST} (h_r_X11_items : ∀ (x1 : Int32) (x2 : Int32) (x3 : Int32) (x4 : Int32) (σ : ST), KVB s σ → PF st2 (KVB s) (r_X11_items x1 x2 x3 x4 σ)) (h_r_X11_parts : ∀ (x1 : Int32) (x2 : Int32) (x3 : Int32) (x4 : Int32) (σ : ST), KVB s σ → PF st2 (KVB s) (r_X11_parts x1 x2 x3 x4 σ)) (h_r_X11_value : ∀ (x1 : Int32) (x2 : Int32) (x3 : Int32) (x4 : Int32) (x5 : Int32) (σ : ST), KVB s σ → PF st2 (KVB s) (r_X11_value x1 x2 x3 x4 x5 σ)) (h_k25 : ∀ (x1 : Int32) (x2 : Int32) (x3 : Int32) (x4 : Int32) (x5 : Int32) (x6 : Int32) (σ : ST), KVB s σ → PF st2 (KVB s) (k25 x1 x2 x3 x4 x5 x6 σ))  (h : KVB s σ) : PF st2 (KVB s) (f_X11_items_70 r_X11_items r_X11_parts r_X11_value k25 x1 x2 x3 x4 x5 y0 σ) := by
  unfold f_X11_items_70
  exact (PF.ite (fun _ => (h_k25 _ _ _ _ _ _ _ h)) (fun _ => (PF.bnd (wv_X11_go  h) (fun q1 hq1 => (h_k25 _ _ _ _ _ _ _ hq1)))))
theorem wv_X11_items_25 {s : ST} {r_X11_items : Int32 → Int32 → Int32 → Int32 → ST → Option ((Int32 × ST) × Nat)} {r_X11_parts : Int32 → Int32 → Int32 → Int32 → ST → Option ((Int32 × ST) × Nat)} {r_X11_value : Int32 → Int32 → Int32 → Int32 → Int32 → ST → Option ((Int32 × ST) × Nat)} (h_r_X11_items : ∀ (x1 : Int32) (x2 : Int32) (x3 : Int32) (x4 : Int32) (σ : ST), KVB s σ → PF st2 (KVB s) (r_X11_items x1 x2 x3 x4 σ)) (h_r_X11_parts : ∀ (x1 : Int32) (x2 : Int32) (x3 : Int32) (x4 : Int32) (σ : ST), KVB s σ → PF st2 (KVB s) (r_X11_parts x1 x2 x3 x4 σ)) (h_r_X11_value : ∀ (x1 : Int32) (x2 : Int32) (x3 : Int32) (x4 : Int32) (x5 : Int32) (σ : ST), KVB s σ → PF st2 (KVB s) (r_X11_value x1 x2 x3 x4 x5 σ))  : ∀ (n : Nat) (x1 : Int32) (x2 : Int32) (x3 : Int32) (x4 : Int32) (x5 : Int32) (x6 : Int32) (σ : ST), KVB s σ → PF st2 (KVB s) (f_X11_items_25 r_X11_items r_X11_parts r_X11_value n x1 x2 x3 x4 x5 x6 σ) := by
  intro n
  induction n with
  | zero => intro x1 x2 x3 x4 x5 x6 σ h; rw [f_X11_items_25]; exact PF.none
  | succ n ih =>
    intro x1 x2 x3 x4 x5 x6 σ h
    rw [f_X11_items_25]
    exact (PF.ite (fun _ => (PF.bnd (wv_X11_mark  h) (fun q1 hq1 => (PF.ite (fun _ => (PF.ret2 hq1)) (fun _ => PF.none))))) (fun _ => (PF.ite (fun _ => (PF.bnd (h_r_X11_value _ _ _ _ _ _ h) (fun q4 hq4 => (PF.ac (PF.ite (fun _ => (PF.ret2 hq4)) (fun _ => (PF.ite (fun _ => (wv_X11_items_70 h_r_X11_items h_r_X11_parts h_r_X11_value ih hq4)) (fun _ => (wv_X11_items_70 h_r_X11_items h_r_X11_parts h_r_X11_value ih hq4))))))))) (fun _ => PF.none))))
theorem wv_X11_items {s : ST} {r_X11_items : Int32 → Int32 → Int32 → Int32 → ST → Option ((Int32 × ST) × Nat)} {r_X11_parts : Int32 → Int32 → Int32 → Int32 → ST → Option ((Int32 × ST) × Nat)} {r_X11_value : Int32 → Int32 → Int32 → Int32 → Int32 → ST → Option ((Int32 × ST) × Nat)} {p0 : Int32} {p1 : Int32} {p2 : Int32} {p3 : Int32} {σ : ST} (h_r_X11_items : ∀ (x1 : Int32) (x2 : Int32) (x3 : Int32) (x4 : Int32) (σ : ST), KVB s σ → PF st2 (KVB s) (r_X11_items x1 x2 x3 x4 σ)) (h_r_X11_parts : ∀ (x1 : Int32) (x2 : Int32) (x3 : Int32) (x4 : Int32) (σ : ST), KVB s σ → PF st2 (KVB s) (r_X11_parts x1 x2 x3 x4 σ)) (h_r_X11_value : ∀ (x1 : Int32) (x2 : Int32) (x3 : Int32) (x4 : Int32) (x5 : Int32) (σ : ST), KVB s σ → PF st2 (KVB s) (r_X11_value x1 x2 x3 x4 x5 σ))  (h : KVB s σ) : PF st2 (KVB s) (f_X11_items r_X11_items r_X11_parts r_X11_value p0 p1 p2 p3 σ) := by
  unfold f_X11_items
  exact (PF.bnd (wv_X11_go  h) (fun q1 hq1 => (PF.ite (fun _ => (PF.bnd (wv_X11_go  hq1) (fun q3 hq3 => (PF.ret2 hq3)))) (fun _ => (wv_X11_items_25 h_r_X11_items h_r_X11_parts h_r_X11_value _ _ _ _ _ _ _ _ hq1)))))
theorem wv_X11_hasChild_35 {s : ST} {k10 : Int32 → Int32 → Int32 → ST → Option (Int32 × ST)} {x2 : Int32} {x4 : Int32} {y0 : Int32} {σ : ST} (h_k10 : ∀ (x1 : Int32) (x2 : Int32) (x3 : Int32) (σ : ST), KVB s σ → PF st1 (KVB s) (k10 x1 x2 x3 σ))  (h : KVB s σ) : PF st1 (KVB s) (f_X11_hasChild_35 k10 x2 x4 y0 σ) := by
  unfold f_X11_hasChild_35
  exact (PF.ite (fun _ => (h_k10 _ _ _ _ h)) (fun _ => PF.none))
theorem wv_X11_hasChild_30 {s : ST} {k10 : Int32 → Int32 → Int32 → ST → Option (Int32 × ST)} {x2 : Int32} {x4 : Int32} {σ : ST} (h_k10 : ∀ (x1 : Int32) (x2 : Int32) (x3 : Int32) (σ : ST), KVB s σ → PF st1 (KVB s) (k10 x1 x2 x3 σ))  (h : KVB s σ) : PF st1 (KVB s) (f_X11_hasChild_30 k10 x2 x4 σ) := by
  unfold f_X11_hasChild_30
  exact (wv_X11_hasChild_35 h_k10 h)
theorem wv_X11_hasChild_10 {s : ST}    : ∀ (n : Nat) (x1 : Int32) (x2 : Int32) (x3 : Int32) (σ : ST), KVB s σ → PF st1 (KVB s) (f_X11_hasChild_10  n x1 x2 x3 σ) := by
  intro n
  induction n with
  | zero => intro x1 x2 x3 σ h; rw [f_X11_hasChild_10]; exact PF.none
  | succ n ih =>
    intro x1 x2 x3 σ h
    rw [f_X11_hasChild_10]
    exact (PF.ite (fun _ => (PF.ite (fun _ => (PF.ret1 h)) (fun _ => PF.none))) (fun _ => (PF.ite (fun _ => (PF.ite (fun _ => (PF.ite (fun _ => (wv_X11_hasChild_30 ih h)) (fun _ => (wv_X11_hasChild_35 ih h)))) (fun _ => PF.none))) (fun _ => (wv_X11_hasChild_30 ih h)))))
theorem wv_X11_hasChild {s : ST} {p0 : Int32} {p1 : Int32} {σ : ST}   (h : KVB s σ) : PF st1 (KVB s) (f_X11_hasChild p0 p1 σ) := by
  unfold f_X11_hasChild
  exact (PF.ite (fun _ => (wv_X11_hasChild_10  _ _ _ _ _ h)) (fun _ => PF.none))
theorem wv_X11_firstOf {s : ST} {p0 : Int32} {σ : ST}   (h : KVB s σ) : PF st1 (KVB s) (f_X11_firstOf p0 σ) := by
  unfold f_X11_firstOf
  exact (PF.ite (fun _ => (PF.ite (fun _ => (PF.ite (fun _ => (PF.ret1 h)) (fun _ => PF.none))) (fun _ => (PF.ret1 h)))) (fun _ => PF.none))
theorem wv_X11_joins_147 {s : ST} {x1 : Int32} {x2 : Int32} {σ : ST}   (h : KVB s σ) : PF st0 (KVB s) (f_X11_joins_147 x1 x2 σ) := by
  unfold f_X11_joins_147
  exact (PF.ite (fun _ => (PF.ite (fun _ => (PF.ret0 h)) (fun _ => (PF.ite (fun _ => (PF.ret0 (KVB.i (by omega) h))) (fun _ => PF.none))))) (fun _ => PF.none))
theorem wv_X11_joins_125 {s : ST} {x1 : Int32} {x2 : Int32} {x3 : Int32} {y0 : Int32} {y1 : Int32} {σ : ST}   (h : KVB s σ) : PF st0 (KVB s) (f_X11_joins_125 x1 x2 x3 y0 y1 σ) := by
  unfold f_X11_joins_125
  exact (PF.ite (fun _ => (PF.ite (fun _ => (PF.ite (fun _ => (wv_X11_joins_147  (KVB.i (by omega) (KVB.i (by omega) h)))) (fun _ => PF.none))) (fun _ => (PF.ite (fun _ => (wv_X11_joins_147  (KVB.i (by omega) (KVB.i (by omega) h)))) (fun _ => PF.none))))) (fun _ => PF.none))
theorem wv_X11_joins_101 {s : ST} {x1 : Int32} {x2 : Int32} {x3 : Int32} {σ : ST}   (h : KVB s σ) : PF st0 (KVB s) (f_X11_joins_101 x1 x2 x3 σ) := by
  unfold f_X11_joins_101
  exact (PF.ite (fun _ => (PF.ite (fun _ => (wv_X11_joins_125  h)) (fun _ => PF.none))) (fun _ => (PF.ite (fun _ => (wv_X11_joins_125  h)) (fun _ => PF.none))))
theorem wv_X11_joins_65 {s : ST}    : ∀ (n : Nat) (x1 : Int32) (x2 : Int32) (x3 : Int32) (x4 : Int32) (σ : ST), KVB s σ → PF st0 (KVB s) (f_X11_joins_65  n x1 x2 x3 x4 σ) := by
  intro n
  induction n with
  | zero => intro x1 x2 x3 x4 σ h; rw [f_X11_joins_65]; exact PF.none
  | succ n ih =>
    intro x1 x2 x3 x4 σ h
    rw [f_X11_joins_65]
    exact (PF.ite (fun _ => (wv_X11_joins_101  h)) (fun _ => (PF.ite (fun _ => (PF.ite (fun _ => (PF.ite (fun _ => (wv_X11_joins_101  h)) (fun _ => (ih _ _ _ _ _ h)))) (fun _ => PF.none))) (fun _ => PF.none))))
theorem wv_X11_joins_51 {s : ST} {x1 : Int32} {x2 : Int32} {x3 : Int32} {y0 : Int32} {σ : ST}   (h : KVB s σ) : PF st0 (KVB s) (f_X11_joins_51 x1 x2 x3 y0 σ) := by
  unfold f_X11_joins_51
  exact (PF.ite (fun _ => (wv_X11_joins_65  _ _ _ _ _ _ h)) (fun _ => (PF.ite (fun _ => (wv_X11_joins_65  _ _ _ _ _ _ h)) (fun _ => PF.none))))
theorem wv_X11_joins_45 {s : ST} {x1 : Int32} {x2 : Int32} {x3 : Int32} {σ : ST}   (h : KVB s σ) : PF st0 (KVB s) (f_X11_joins_45 x1 x2 x3 σ) := by
  unfold f_X11_joins_45
  exact (PF.ite (fun _ => (wv_X11_joins_51  h)) (fun _ => PF.none))
theorem wv_X11_joins {s : ST} {p0 : Int32} {p1 : Int32} {σ : ST}   (h : KVB s σ) : PF st0 (KVB s) (f_X11_joins p0 p1 σ) := by
  unfold f_X11_joins
  exact (PF.ite (fun _ => (PF.ite (fun _ => (wv_X11_joins_45  (KVB.i (by omega) h))) (fun _ => (PF.ite (fun _ => (PF.ite (fun _ => (PF.ite (fun _ => (wv_X11_joins_45  (KVB.i (by omega) h))) (fun _ => (wv_X11_joins_51  (KVB.i (by omega) h))))) (fun _ => PF.none))) (fun _ => PF.none))))) (fun _ => PF.none))
theorem wv_X11_laysNode {s : ST} {p0 : Int32} {p1 : Int32} {p2 : Int32} {p3 : Int32} {σ : ST}   (h : KVB s σ) : PF st1 (KVB s) (f_X11_laysNode p0 p1 p2 p3 σ) := by
  unfold f_X11_laysNode
  exact (PF.ite (fun _ => (PF.bnd (PF.ret0 (KVB.l (by omega) (KVB.i (by omega) (KVB.i (by omega) h)))) (fun z2 hz2 => (PF.bnd (PF.ret0 (KVB.i (by omega) (KVB.i (by omega) (KVB.l (by omega) hz2)))) (fun z3 hz3 => (PF.bnd (PF.ret0 (KVB.i (by omega) (KVB.i (by omega) (KVB.i (by omega) hz3)))) (fun z4 hz4 => (PF.bnd (PF.ret0 (KVB.i (by omega) (KVB.i (by omega) (KVB.i (by omega) hz4)))) (fun z5 hz5 => (PF.ite (fun _ => (PF.ret1 hz5)) (fun _ => (PF.bnd (wv_X11_joins  hz5) (fun q6 hq6 => (PF.ret1 hq6)))))))))))))) (fun _ => PF.none))
theorem wv_X11_fills_103 {s : ST} {x6 : Int32} {y0 : Int32} {y1 : Int32} {σ : ST}   (h : KVB s σ) : PF st0 (KVB s) (f_X11_fills_103 x6 y0 y1 σ) := by
  unfold f_X11_fills_103
  exact (PF.ite (fun _ => (PF.ite (fun _ => (PF.ret0 (KVB.i (by omega) (KVB.i (by omega) h)))) (fun _ => PF.none))) (fun _ => PF.none))
theorem wv_X11_fills_45 {s : ST} {x1 : Int32} {x5 : Int32} {y0 : Int32} {y1 : Int32} {y2 : Int32} {y3 : Int32} {σ : ST}   (h : KVB s σ) : PF st0 (KVB s) (f_X11_fills_45 x1 x5 y0 y1 y2 y3 σ) := by
  unfold f_X11_fills_45
  exact (PF.bnd (wv_X11_laysNode  h) (fun q1 hq1 => (PF.ite (fun _ => (PF.ite (fun _ => (PF.bnd (PF.ret0 (KVB.l (by omega) (KVB.l (by omega) hq1))) (fun z5 hz5 => (PF.ite (fun _ => (PF.ite (fun _ => (wv_X11_fills_103  hz5)) (fun _ => (wv_X11_fills_103  hz5)))) (fun _ => PF.none))))) (fun _ => PF.none))) (fun _ => PF.none))))
theorem wv_X11_fills {s : ST} {p0 : Int32} {p1 : Int32} {p2 : Int32} {σ : ST}   (h : KVB s σ) : PF st0 (KVB s) (f_X11_fills p0 p1 p2 σ) := by
  unfold f_X11_fills
  exact (PF.ite (fun _ => (PF.bnd (wv_X11_firstOf  h) (fun q2 hq2 => (PF.ite (fun _ => (PF.ite (fun _ => (wv_X11_fills_45  hq2)) (fun _ => (wv_X11_fills_45  hq2)))) (fun _ => PF.none))))) (fun _ => PF.none))
theorem wv_X11_parts_233 {s : ST} {r_X11_items : Int32 → Int32 → Int32 → Int32 → ST → Option ((Int32 × ST) × Nat)} {r_X11_parts : Int32 → Int32 → Int32 → Int32 → ST → Option ((Int32 × ST) × Nat)} {r_X11_value : Int32 → Int32 → Int32 → Int32 → Int32 → ST → Option ((Int32 × ST) × Nat)} {k171 : Int32 → Int32 → Int32 → ST → Option ((Int32 × ST) × Nat)} {x4 : Int32} {x5 : Int32} {x7 : Int32} {σ : ST} (h_r_X11_items : ∀ (x1 : Int32) (x2 : Int32) (x3 : Int32) (x4 : Int32) (σ : ST), KVB s σ → PF st2 (KVB s) (r_X11_items x1 x2 x3 x4 σ)) (h_r_X11_parts : ∀ (x1 : Int32) (x2 : Int32) (x3 : Int32) (x4 : Int32) (σ : ST), KVB s σ → PF st2 (KVB s) (r_X11_parts x1 x2 x3 x4 σ)) (h_r_X11_value : ∀ (x1 : Int32) (x2 : Int32) (x3 : Int32) (x4 : Int32) (x5 : Int32) (σ : ST), KVB s σ → PF st2 (KVB s) (r_X11_value x1 x2 x3 x4 x5 σ)) (h_k171 : ∀ (x1 : Int32) (x2 : Int32) (x3 : Int32) (σ : ST), KVB s σ → PF st2 (KVB s) (k171 x1 x2 x3 σ))  (h : KVB s σ) : PF st2 (KVB s) (f_X11_parts_233 r_X11_items r_X11_parts r_X11_value k171 x4 x5 x7 σ) := by
  unfold f_X11_parts_233
  exact (h_k171 _ _ _ _ h)
theorem wv_X11_parts_171 {s : ST} {r_X11_items : Int32 → Int32 → Int32 → Int32 → ST → Option ((Int32 × ST) × Nat)} {r_X11_parts : Int32 → Int32 → Int32 → Int32 → ST → Option ((Int32 × ST) × Nat)} {r_X11_value : Int32 → Int32 → Int32 → Int32 → Int32 → ST → Option ((Int32 × ST) × Nat)} (h_r_X11_items : ∀ (x1 : Int32) (x2 : Int32) (x3 : Int32) (x4 : Int32) (σ : ST), KVB s σ → PF st2 (KVB s) (r_X11_items x1 x2 x3 x4 σ)) (h_r_X11_parts : ∀ (x1 : Int32) (x2 : Int32) (x3 : Int32) (x4 : Int32) (σ : ST), KVB s σ → PF st2 (KVB s) (r_X11_parts x1 x2 x3 x4 σ)) (h_r_X11_value : ∀ (x1 : Int32) (x2 : Int32) (x3 : Int32) (x4 : Int32) (x5 : Int32) (σ : ST), KVB s σ → PF st2 (KVB s) (r_X11_value x1 x2 x3 x4 x5 σ))  : ∀ (n : Nat) (x1 : Int32) (x2 : Int32) (x3 : Int32) (σ : ST), KVB s σ → PF st2 (KVB s) (f_X11_parts_171 r_X11_items r_X11_parts r_X11_value n x1 x2 x3 σ) := by
  intro n
  induction n with
  | zero => intro x1 x2 x3 σ h; rw [f_X11_parts_171]; exact PF.none
  | succ n ih =>
    intro x1 x2 x3 σ h
    rw [f_X11_parts_171]
    exact (PF.ite (fun _ => (PF.ite (fun _ => (PF.bnd (wv_X11_go  h) (fun q2 hq2 => (PF.ret2 hq2)))) (fun _ => (PF.bnd (wv_X11_hasChild  h) (fun q4 hq4 => (PF.ite (fun _ => (PF.ite (fun _ => (PF.ite (fun _ => (PF.bnd (wv_X11_wrongHere  hq4) (fun q9 hq9 => (PF.ite (fun _ => (PF.ret2 hq9)) (fun _ => PF.none))))) (fun _ => (PF.bnd (wv_X11_fills  hq4) (fun q7 hq7 => (wv_X11_parts_233 h_r_X11_items h_r_X11_parts h_r_X11_value ih hq7)))))) (fun _ => PF.none))) (fun _ => (wv_X11_parts_233 h_r_X11_items h_r_X11_parts h_r_X11_value ih hq4)))))))) (fun _ => PF.none))
theorem wv_X11_isWord {s : ST} {p0 : Int64} {σ : ST}   (h : KVB s σ) : PF st1 (KVB s) (f_X11_isWord p0 σ) := by
  unfold f_X11_isWord
  exact (PF.ite (fun _ => (PF.ite (fun _ => (PF.ret1 h)) (fun _ => (PF.ret1 h)))) (fun _ => (PF.ret1 h)))
theorem wv_X11_sortHere {s : ST}  {σ : ST}   (h : KVB s σ) : PF st2 (KVB s) (f_X11_sortHere σ) := by
  unfold f_X11_sortHere
  exact (PF.bnd (wv_X11_spelt h) (fun q1 hq1 => (PF.ac (PF.bnd (wv_X11_isWord  hq1) (fun q3 hq3 => (PF.ite (fun _ => (PF.bnd (wv_X11_spelt hq3) (fun q5 hq5 => (PF.ac (PF.bnd (wv_X11_isWord  hq5) (fun q7 hq7 => (PF.ite (fun _ => (PF.bnd (wv_X11_spelt hq7) (fun q9 hq9 => (PF.ac (PF.bnd (wv_X11_isWord  hq9) (fun q11 hq11 => (PF.ite (fun _ => (PF.bnd (wv_X11_spelt hq11) (fun q13 hq13 => (PF.ac (PF.bnd (wv_X11_isWord  hq13) (fun q15 hq15 => (PF.ite (fun _ => (PF.bnd (wv_X11_spelt hq15) (fun q17 hq17 => (PF.ac (PF.bnd (wv_X11_isWord  hq17) (fun q19 hq19 => (PF.ite (fun _ => (PF.bnd (wv_X11_spelt hq19) (fun q21 hq21 => (PF.ac (PF.bnd (wv_X11_isWord  hq21) (fun q23 hq23 => (PF.ite (fun _ => (PF.bnd (wv_X11_spelt hq23) (fun q25 hq25 => (PF.ac (PF.bnd (wv_X11_isWord  hq25) (fun q27 hq27 => (PF.ite (fun _ => (PF.bnd (wv_X11_spelt hq27) (fun q29 hq29 => (PF.ac (PF.bnd (wv_X11_isWord  hq29) (fun q31 hq31 => (PF.ite (fun _ => (PF.ret2 hq31)) (fun _ => (PF.ret2 hq31))))))))) (fun _ => (PF.ret2 hq27))))))))) (fun _ => (PF.ret2 hq23))))))))) (fun _ => (PF.ret2 hq19))))))))) (fun _ => (PF.ret2 hq15))))))))) (fun _ => (PF.ret2 hq11))))))))) (fun _ => (PF.ret2 hq7))))))))) (fun _ => (PF.ret2 hq3))))))))
theorem wv_X11_isName_61 {s : ST} {y0 : Int32} {σ : ST}   (h : KVB s σ) : PF st2 (KVB s) (f_X11_isName_61 y0 σ) := by
  unfold f_X11_isName_61
  exact (PF.ite (fun _ => (PF.ite (fun _ => (PF.ret2 h)) (fun _ => (PF.ret2 h)))) (fun _ => (PF.ret2 h)))
theorem wv_X11_isName_56 {s : ST}  {σ : ST}   (h : KVB s σ) : PF st2 (KVB s) (f_X11_isName_56 σ) := by
  unfold f_X11_isName_56
  exact (wv_X11_isName_61  h)
theorem wv_X11_isPlan {s : ST}  {σ : ST}   (h : KVB s σ) : PF st2 (KVB s) (f_X11_isPlan σ) := by
  unfold f_X11_isPlan
  exact (PF.bnd (wv_X11_spelt h) (fun q1 hq1 => (PF.ac (PF.bnd (wv_X11_isWord  hq1) (fun q3 hq3 => (PF.ite (fun _ => (PF.ret2 hq3)) (fun _ => PF.none)))))))
theorem wv_X11_isRecord {s : ST}  {σ : ST}   (h : KVB s σ) : PF st2 (KVB s) (f_X11_isRecord σ) := by
  unfold f_X11_isRecord
  exact (PF.bnd (wv_X11_spelt h) (fun q1 hq1 => (PF.ac (PF.bnd (wv_X11_isWord  hq1) (fun q3 hq3 => (PF.ite (fun _ => (PF.ret2 hq3)) (fun _ => PF.none)))))))
theorem wv_X11_isWas {s : ST}  {σ : ST}   (h : KVB s σ) : PF st2 (KVB s) (f_X11_isWas σ) := by
  unfold f_X11_isWas
  exact (PF.bnd (wv_X11_spelt h) (fun q1 hq1 => (PF.ac (PF.bnd (wv_X11_isWord  hq1) (fun q3 hq3 => (PF.ite (fun _ => (PF.ret2 hq3)) (fun _ => PF.none)))))))
theorem wv_X11_isElse {s : ST}  {σ : ST}   (h : KVB s σ) : PF st2 (KVB s) (f_X11_isElse σ) := by
  unfold f_X11_isElse
  exact (PF.bnd (wv_X11_spelt h) (fun q1 hq1 => (PF.ac (PF.bnd (wv_X11_isWord  hq1) (fun q3 hq3 => (PF.ite (fun _ => (PF.ret2 hq3)) (fun _ => PF.none)))))))
theorem wv_X11_isOr {s : ST}  {σ : ST}   (h : KVB s σ) : PF st2 (KVB s) (f_X11_isOr σ) := by
  unfold f_X11_isOr
  exact (PF.bnd (wv_X11_spelt h) (fun q1 hq1 => (PF.ac (PF.bnd (wv_X11_isWord  hq1) (fun q3 hq3 => (PF.ite (fun _ => (PF.ret2 hq3)) (fun _ => PF.none)))))))
theorem wv_X11_isYes {s : ST}  {σ : ST}   (h : KVB s σ) : PF st2 (KVB s) (f_X11_isYes σ) := by
  unfold f_X11_isYes
  exact (PF.bnd (wv_X11_spelt h) (fun q1 hq1 => (PF.ac (PF.bnd (wv_X11_isWord  hq1) (fun q3 hq3 => (PF.ite (fun _ => (PF.ret2 hq3)) (fun _ => PF.none)))))))
theorem wv_X11_isNo {s : ST}  {σ : ST}   (h : KVB s σ) : PF st2 (KVB s) (f_X11_isNo σ) := by
  unfold f_X11_isNo
  exact (PF.bnd (wv_X11_spelt h) (fun q1 hq1 => (PF.ac (PF.bnd (wv_X11_isWord  hq1) (fun q3 hq3 => (PF.ite (fun _ => (PF.ret2 hq3)) (fun _ => PF.none)))))))
theorem wv_X11_isName {s : ST}  {σ : ST}   (h : KVB s σ) : PF st2 (KVB s) (f_X11_isName σ) := by
  unfold f_X11_isName
  exact (PF.bnd (wv_X11_sortHere  h) (fun q1 hq1 => (PF.ac (PF.ite (fun _ => (wv_X11_isName_56  hq1)) (fun _ => (PF.bnd (wv_X11_isPlan  hq1) (fun q3 hq3 => (PF.ac (PF.ite (fun _ => (PF.bnd (wv_X11_isRecord  hq3) (fun q5 hq5 => (PF.ac (PF.ite (fun _ => (PF.bnd (wv_X11_isWas  hq5) (fun q7 hq7 => (PF.ac (PF.ite (fun _ => (PF.bnd (wv_X11_isElse  hq7) (fun q9 hq9 => (PF.ac (PF.ite (fun _ => (PF.bnd (wv_X11_isOr  hq9) (fun q11 hq11 => (PF.ac (PF.ite (fun _ => (PF.bnd (wv_X11_isYes  hq11) (fun q13 hq13 => (PF.ac (PF.ite (fun _ => (PF.bnd (wv_X11_isNo  hq13) (fun q15 hq15 => (PF.ac (PF.ite (fun _ => (wv_X11_isName_61  hq15)) (fun _ => (wv_X11_isName_56  hq15))))))) (fun _ => (wv_X11_isName_56  hq13))))))) (fun _ => (wv_X11_isName_56  hq11))))))) (fun _ => (wv_X11_isName_56  hq9))))))) (fun _ => (wv_X11_isName_56  hq7))))))) (fun _ => (wv_X11_isName_56  hq5))))))) (fun _ => (wv_X11_isName_56  hq3)))))))))))
theorem wv_X11_fieldOf_3 {s : ST}    : ∀ (n : Nat) (x1 : Int32) (x2 : Int64) (x3 : Int32) (σ : ST), KVB s σ → PF st1 (KVB s) (f_X11_fieldOf_3  n x1 x2 x3 σ) := by
  intro n
  induction n with
  | zero => intro x1 x2 x3 σ h; rw [f_X11_fieldOf_3]; exact PF.none
  | succ n ih =>
    intro x1 x2 x3 σ h
    rw [f_X11_fieldOf_3]
    exact (PF.ite (fun _ => (PF.ite (fun _ => (PF.ret1 h)) (fun _ => (PF.ite (fun _ => (PF.ite (fun _ => (PF.ret1 h)) (fun _ => (ih _ _ _ _ h)))) (fun _ => PF.none))))) (fun _ => PF.none))
theorem wv_X11_fieldOf {s : ST} {p0 : Int32} {p1 : Int64} {σ : ST}   (h : KVB s σ) : PF st1 (KVB s) (f_X11_fieldOf p0 p1 σ) := by
  unfold f_X11_fieldOf
  exact (wv_X11_fieldOf_3  _ _ _ _ _ h)
theorem wv_X11_parts_85 {s : ST} {r_X11_items : Int32 → Int32 → Int32 → Int32 → ST → Option ((Int32 × ST) × Nat)} {r_X11_parts : Int32 → Int32 → Int32 → Int32 → ST → Option ((Int32 × ST) × Nat)} {r_X11_value : Int32 → Int32 → Int32 → Int32 → Int32 → ST → Option ((Int32 × ST) × Nat)} {σ : ST} (h_r_X11_items : ∀ (x1 : Int32) (x2 : Int32) (x3 : Int32) (x4 : Int32) (σ : ST), KVB s σ → PF st2 (KVB s) (r_X11_items x1 x2 x3 x4 σ)) (h_r_X11_parts : ∀ (x1 : Int32) (x2 : Int32) (x3 : Int32) (x4 : Int32) (σ : ST), KVB s σ → PF st2 (KVB s) (r_X11_parts x1 x2 x3 x4 σ)) (h_r_X11_value : ∀ (x1 : Int32) (x2 : Int32) (x3 : Int32) (x4 : Int32) (x5 : Int32) (σ : ST), KVB s σ → PF st2 (KVB s) (r_X11_value x1 x2 x3 x4 x5 σ))  (h : KVB s σ) : PF st2 (KVB s) (f_X11_parts_85 r_X11_items r_X11_parts r_X11_value σ) := by
  unfold f_X11_parts_85
  exact (PF.bnd (wv_X11_wrongHere  h) (fun q1 hq1 => (PF.ite (fun _ => (PF.ret2 hq1)) (fun _ => PF.none))))
theorem wv_X11_parts_139 {s : ST} {r_X11_items : Int32 → Int32 → Int32 → Int32 → ST → Option ((Int32 × ST) × Nat)} {r_X11_parts : Int32 → Int32 → Int32 → Int32 → ST → Option ((Int32 × ST) × Nat)} {r_X11_value : Int32 → Int32 → Int32 → Int32 → Int32 → ST → Option ((Int32 × ST) × Nat)} {k33 : Int32 → Int32 → Int32 → Int32 → Int32 → ST → Option ((Int32 × ST) × Nat)} {x1 : Int32} {x3 : Int32} {x4 : Int32} {x5 : Int32} {y0 : Int32} {σ : ST} (h_r_X11_items : ∀ (x1 : Int32) (x2 : Int32) (x3 : Int32) (x4 : Int32) (σ : ST), KVB s σ → PF st2 (KVB s) (r_X11_items x1 x2 x3 x4 σ)) (h_r_X11_parts : ∀ (x1 : Int32) (x2 : Int32) (x3 : Int32) (x4 : Int32) (σ : ST), KVB s σ → PF st2 (KVB s) (r_X11_parts x1 x2 x3 x4 σ)) (h_r_X11_value : ∀ (x1 : Int32) (x2 : Int32) (x3 : Int32) (x4 : Int32) (x5 : Int32) (σ : ST), KVB s σ → PF st2 (KVB s) (r_X11_value x1 x2 x3 x4 x5 σ)) (h_k33 : ∀ (x1 : Int32) (x2 : Int32) (x3 : Int32) (x4 : Int32) (x5 : Int32) (σ : ST), KVB s σ → PF st2 (KVB s) (k33 x1 x2 x3 x4 x5 σ))  (h : KVB s σ) : PF st2 (KVB s) (f_X11_parts_139 r_X11_items r_X11_parts r_X11_value k33 x1 x3 x4 x5 y0 σ) := by
  unfold f_X11_parts_139
  exact (PF.ite (fun _ => (h_k33 _ _ _ _ _ _ h)) (fun _ => (PF.bnd (wv_X11_go  h) (fun q1 hq1 => (h_k33 _ _ _ _ _ _ hq1)))))
theorem wv_X11_parts_33 {s : ST} {r_X11_items : Int32 → Int32 → Int32 → Int32 → ST → Option ((Int32 × ST) × Nat)} {r_X11_parts : Int32 → Int32 → Int32 → Int32 → ST → Option ((Int32 × ST) × Nat)} {r_X11_value : Int32 → Int32 → Int32 → Int32 → Int32 → ST → Option ((Int32 × ST) × Nat)} (h_r_X11_items : ∀ (x1 : Int32) (x2 : Int32) (x3 : Int32) (x4 : Int32) (σ : ST), KVB s σ → PF st2 (KVB s) (r_X11_items x1 x2 x3 x4 σ)) (h_r_X11_parts : ∀ (x1 : Int32) (x2 : Int32) (x3 : Int32) (x4 : Int32) (σ : ST), KVB s σ → PF st2 (KVB s) (r_X11_parts x1 x2 x3 x4 σ)) (h_r_X11_value : ∀ (x1 : Int32) (x2 : Int32) (x3 : Int32) (x4 : Int32) (x5 : Int32) (σ : ST), KVB s σ → PF st2 (KVB s) (r_X11_value x1 x2 x3 x4 x5 σ))  : ∀ (n : Nat) (x1 : Int32) (x2 : Int32) (x3 : Int32) (x4 : Int32) (x5 : Int32) (σ : ST), KVB s σ → PF st2 (KVB s) (f_X11_parts_33 r_X11_items r_X11_parts r_X11_value n x1 x2 x3 x4 x5 σ) := by
  intro n
  induction n with
  | zero => intro x1 x2 x3 x4 x5 σ h; rw [f_X11_parts_33]; exact PF.none
  | succ n ih =>
    intro x1 x2 x3 x4 x5 σ h
    rw [f_X11_parts_33]
    exact (PF.ite (fun _ => (PF.ite (fun _ => (wv_X11_parts_171 h_r_X11_items h_r_X11_parts h_r_X11_value _ _ _ _ _ h)) (fun _ => (PF.bnd (wv_X11_wrongHere  h) (fun q1 hq1 => (PF.ite (fun _ => (PF.ret2 hq1)) (fun _ => PF.none))))))) (fun _ => (PF.bnd (wv_X11_isName  h) (fun q3 hq3 => (PF.ac (PF.ite (fun _ => (PF.bnd (wv_X11_wrongHere  hq3) (fun q14 hq14 => (PF.ite (fun _ => (PF.ret2 hq14)) (fun _ => PF.none))))) (fun _ => (PF.bnd (wv_X11_fieldOf  hq3) (fun q5 hq5 => (PF.ite (fun _ => (wv_X11_parts_85 h_r_X11_items h_r_X11_parts h_r_X11_value hq5)) (fun _ => (PF.bnd (wv_X11_hasChild  hq5) (fun q7 hq7 => (PF.ite (fun _ => (PF.bnd (wv_X11_go  hq7) (fun q9 hq9 => (PF.ite (fun _ => (PF.bnd (h_r_X11_value _ _ _ _ _ _ hq9) (fun q12 hq12 => (PF.ac (PF.ite (fun _ => (PF.ret2 hq12)) (fun _ => (PF.ite (fun _ => (wv_X11_parts_139 h_r_X11_items h_r_X11_parts h_r_X11_value ih hq12)) (fun _ => (wv_X11_parts_139 h_r_X11_items h_r_X11_parts h_r_X11_value ih hq12))))))))) (fun _ => PF.none))))) (fun _ => (wv_X11_parts_85 h_r_X11_items h_r_X11_parts h_r_X11_value hq7))))))))))))))))
theorem wv_X11_parts_31 {s : ST} {r_X11_items : Int32 → Int32 → Int32 → Int32 → ST → Option ((Int32 × ST) × Nat)} {r_X11_parts : Int32 → Int32 → Int32 → Int32 → ST → Option ((Int32 × ST) × Nat)} {r_X11_value : Int32 → Int32 → Int32 → Int32 → Int32 → ST → Option ((Int32 × ST) × Nat)} {x1 : Int32} {x3 : Int32} {x4 : Int32} {x5 : Int32} {y0 : Int32} {σ : ST} (h_r_X11_items : ∀ (x1 : Int32) (x2 : Int32) (x3 : Int32) (x4 : Int32) (σ : ST), KVB s σ → PF st2 (KVB s) (r_X11_items x1 x2 x3 x4 σ)) (h_r_X11_parts : ∀ (x1 : Int32) (x2 : Int32) (x3 : Int32) (x4 : Int32) (σ : ST), KVB s σ → PF st2 (KVB s) (r_X11_parts x1 x2 x3 x4 σ)) (h_r_X11_value : ∀ (x1 : Int32) (x2 : Int32) (x3 : Int32) (x4 : Int32) (x5 : Int32) (σ : ST), KVB s σ → PF st2 (KVB s) (r_X11_value x1 x2 x3 x4 x5 σ))  (h : KVB s σ) : PF st2 (KVB s) (f_X11_parts_31 r_X11_items r_X11_parts r_X11_value x1 x3 x4 x5 y0 σ) := by
  unfold f_X11_parts_31
  exact (wv_X11_parts_33 h_r_X11_items h_r_X11_parts h_r_X11_value _ _ _ _ _ _ _ h)
theorem wv_X11_parts {s : ST} {r_X11_items : Int32 → Int32 → Int32 → Int32 → ST → Option ((Int32 × ST) × Nat)} {r_X11_parts : Int32 → Int32 → Int32 → Int32 → ST → Option ((Int32 × ST) × Nat)} {r_X11_value : Int32 → Int32 → Int32 → Int32 → Int32 → ST → Option ((Int32 × ST) × Nat)} {p0 : Int32} {p1 : Int32} {p2 : Int32} {p3 : Int32} {σ : ST} (h_r_X11_items : ∀ (x1 : Int32) (x2 : Int32) (x3 : Int32) (x4 : Int32) (σ : ST), KVB s σ → PF st2 (KVB s) (r_X11_items x1 x2 x3 x4 σ)) (h_r_X11_parts : ∀ (x1 : Int32) (x2 : Int32) (x3 : Int32) (x4 : Int32) (σ : ST), KVB s σ → PF st2 (KVB s) (r_X11_parts x1 x2 x3 x4 σ)) (h_r_X11_value : ∀ (x1 : Int32) (x2 : Int32) (x3 : Int32) (x4 : Int32) (x5 : Int32) (σ : ST), KVB s σ → PF st2 (KVB s) (r_X11_value x1 x2 x3 x4 x5 σ))  (h : KVB s σ) : PF st2 (KVB s) (f_X11_parts r_X11_items r_X11_parts r_X11_value p0 p1 p2 p3 σ) := by
  unfold f_X11_parts
  exact (PF.ite (fun _ => (PF.bnd (wv_X11_go  h) (fun q2 hq2 => (PF.ite (fun _ => (wv_X11_parts_31 h_r_X11_items h_r_X11_parts h_r_X11_value hq2)) (fun _ => (wv_X11_parts_31 h_r_X11_items h_r_X11_parts h_r_X11_value hq2)))))) (fun _ => PF.none))
theorem wv_X11_fits_75 {s : ST}  {σ : ST}   (h : KVB s σ) : PF st2 (KVB s) (f_X11_fits_75 σ) := by
  unfold f_X11_fits_75
  exact (PF.ret2 h)
theorem wv_X11_fits {s : ST} {p0 : Int32} {σ : ST}   (h : KVB s σ) : PF st2 (KVB s) (f_X11_fits p0 σ) := by
  unfold f_X11_fits
  exact (PF.ite (fun _ => (PF.ite (fun _ => (PF.bnd (wv_X11_sortHere  h) (fun q9 hq9 => (PF.ac (PF.ite (fun _ => (PF.ret2 hq9)) (fun _ => (PF.ret2 hq9))))))) (fun _ => (PF.ite (fun _ => (PF.bnd (wv_X11_isYes  h) (fun q11 hq11 => (PF.ac (PF.ite (fun _ => (PF.bnd (wv_X11_isNo  hq11) (fun q13 hq13 => (PF.ac (PF.ite (fun _ => (PF.ret2 hq13)) (fun _ => (wv_X11_fits_75  hq13))))))) (fun _ => (wv_X11_fits_75  hq11))))))) (fun _ => (PF.ite (fun _ => (PF.ite (fun _ => (PF.ite (fun _ => (PF.bnd (wv_X11_within  h) (fun q15 hq15 => (PF.ite (fun _ => (PF.ret2 hq15)) (fun _ => (PF.ret2 hq15)))))) (fun _ => (PF.ret2 h)))) (fun _ => (PF.ret2 h)))) (fun _ => (PF.ite (fun _ => (PF.ite (fun _ => (PF.ite (fun _ => (PF.ret2 h)) (fun _ => (PF.ret2 h)))) (fun _ => (PF.ret2 h)))) (fun _ => (PF.ite (fun _ => (PF.ite (fun _ => (PF.ret2 h)) (fun _ => (PF.ret2 h)))) (fun _ => (PF.ite (fun _ => (PF.ite (fun _ => (PF.ret2 h)) (fun _ => (PF.ret2 h)))) (fun _ => (PF.ite (fun _ => (PF.ite (fun _ => (PF.ret2 h)) (fun _ => (PF.ret2 h)))) (fun _ => (PF.ite (fun _ => (PF.ite (fun _ => (PF.ret2 h)) (fun _ => (PF.ret2 h)))) (fun _ => (PF.ret2 h)))))))))))))))))) (fun _ => PF.none))
theorem wv_X11_branchFor_2 {s : ST}    : ∀ (n : Nat) (x1 : Int32) (x2 : Int32) (σ : ST), KVB s σ → PF st2 (KVB s) (f_X11_branchFor_2  n x1 x2 σ) := by
  intro n
  induction n with
  | zero => intro x1 x2 σ h; rw [f_X11_branchFor_2]; exact PF.none
  | succ n ih =>
    intro x1 x2 σ h
    rw [f_X11_branchFor_2]
    exact (PF.ite (fun _ => (PF.ite (fun _ => (PF.ret2 h)) (fun _ => (PF.ite (fun _ => (PF.bnd (wv_X11_fits  h) (fun q3 hq3 => (PF.ac (PF.ite (fun _ => (ih _ _ _ hq3)) (fun _ => (PF.ret2 hq3))))))) (fun _ => PF.none))))) (fun _ => PF.none))
theorem wv_X11_branchFor {s : ST} {p0 : Int32} {σ : ST}   (h : KVB s σ) : PF st2 (KVB s) (f_X11_branchFor p0 σ) := by
  unfold f_X11_branchFor
  exact (wv_X11_branchFor_2  _ _ _ _ h)
theorem wv_X11_isLiteral_46 {s : ST}  {σ : ST}   (h : KVB s σ) : PF st2 (KVB s) (f_X11_isLiteral_46 σ) := by
  unfold f_X11_isLiteral_46
  exact (PF.ret2 h)
theorem wv_X11_isLiteral {s : ST}  {σ : ST}   (h : KVB s σ) : PF st2 (KVB s) (f_X11_isLiteral σ) := by
  unfold f_X11_isLiteral
  exact (PF.bnd (wv_X11_sortHere  h) (fun q1 hq1 => (PF.ac (PF.ite (fun _ => (wv_X11_isLiteral_46  hq1)) (fun _ => (PF.bnd (wv_X11_isYes  hq1) (fun q3 hq3 => (PF.ac (PF.ite (fun _ => (PF.bnd (wv_X11_isNo  hq3) (fun q5 hq5 => (PF.ac (PF.ite (fun _ => (PF.ite (fun _ => (wv_X11_isLiteral_46  hq5)) (fun _ => (PF.ite (fun _ => (wv_X11_isLiteral_46  hq5)) (fun _ => (PF.ite (fun _ => (wv_X11_isLiteral_46  hq5)) (fun _ => (PF.ret2 hq5)))))))) (fun _ => (wv_X11_isLiteral_46  hq5))))))) (fun _ => (wv_X11_isLiteral_46  hq3)))))))))))
theorem wv_X11_isValue_16 {s : ST}  {σ : ST}   (h : KVB s σ) : PF st2 (KVB s) (f_X11_isValue_16 σ) := by
  unfold f_X11_isValue_16
  exact (PF.ret2 h)
theorem wv_X11_isValue {s : ST}  {σ : ST}   (h : KVB s σ) : PF st2 (KVB s) (f_X11_isValue σ) := by
  unfold f_X11_isValue
  exact (PF.bnd (wv_X11_isLiteral  h) (fun q1 hq1 => (PF.ac (PF.ite (fun _ => (PF.ite (fun _ => (wv_X11_isValue_16  hq1)) (fun _ => (PF.ret2 hq1)))) (fun _ => (wv_X11_isValue_16  hq1))))))
theorem wv_Jxe99ae_isNaN_b9ae7 {s : ST} {p0 : UInt64} {σ : ST}   (h : KVB s σ) : PF st1 (KVB s) (f_Jxe99ae_isNaN_b9ae7 p0 σ) := by
  unfold f_Jxe99ae_isNaN_b9ae7
  exact (PF.ite (fun _ => (PF.ret1 h)) (fun _ => (PF.ret1 h)))
theorem wv_Jxe99ae_doubleToLongBits_ccdee {s : ST} {p0 : UInt64} {σ : ST}   (h : KVB s σ) : PF st1 (KVB s) (f_Jxe99ae_doubleToLongBits_ccdee p0 σ) := by
  unfold f_Jxe99ae_doubleToLongBits_ccdee
  exact (PF.bnd (wv_Jxe99ae_isNaN_b9ae7  h) (fun q1 hq1 => (PF.ite (fun _ => (PF.ret1 hq1)) (fun _ => (PF.ret1 hq1)))))
theorem wv_X11_bitsOf_31 {s : ST} {y0 : UInt64} {σ : ST}   (h : KVB s σ) : PF st2 (KVB s) (f_X11_bitsOf_31 y0 σ) := by
  unfold f_X11_bitsOf_31
  exact (PF.bnd (wv_Jxe99ae_doubleToLongBits_ccdee  h) (fun q1 hq1 => (PF.ret2 hq1)))
theorem wv_X11_bitsOf_65 {s : ST}  {σ : ST}   (h : KVB s σ) : PF st2 (KVB s) (f_X11_bitsOf_65 σ) := by
  unfold f_X11_bitsOf_65
  exact (PF.ret2 h)
theorem wv_X11_bitsOf {s : ST} {p0 : Int32} {σ : ST}   (h : KVB s σ) : PF st2 (KVB s) (f_X11_bitsOf p0 σ) := by
  unfold f_X11_bitsOf
  exact (PF.ite (fun _ => (PF.ite (fun _ => (PF.ite (fun _ => (wv_X11_bitsOf_31  h)) (fun _ => (wv_X11_bitsOf_31  h)))) (fun _ => (PF.ite (fun _ => (PF.bnd (wv_X11_isYes  h) (fun q2 hq2 => (PF.ac (PF.ite (fun _ => (PF.ret2 hq2)) (fun _ => (PF.ret2 hq2))))))) (fun _ => (PF.ite (fun _ => (wv_X11_bitsOf_65  h)) (fun _ => (PF.ite (fun _ => (wv_X11_bitsOf_65  h)) (fun _ => (PF.ret2 h)))))))))) (fun _ => PF.none))
theorem wv_X11_value_247 {s : ST} {r_X11_items : Int32 → Int32 → Int32 → Int32 → ST → Option ((Int32 × ST) × Nat)} {r_X11_parts : Int32 → Int32 → Int32 → Int32 → ST → Option ((Int32 × ST) × Nat)} {r_X11_value : Int32 → Int32 → Int32 → Int32 → Int32 → ST → Option ((Int32 × ST) × Nat)} {y0 : Int32} {y1 : Int32} {σ : ST} (h_r_X11_items : ∀ (x1 : Int32) (x2 : Int32) (x3 : Int32) (x4 : Int32) (σ : ST), KVB s σ → PF st2 (KVB s) (r_X11_items x1 x2 x3 x4 σ)) (h_r_X11_parts : ∀ (x1 : Int32) (x2 : Int32) (x3 : Int32) (x4 : Int32) (σ : ST), KVB s σ → PF st2 (KVB s) (r_X11_parts x1 x2 x3 x4 σ)) (h_r_X11_value : ∀ (x1 : Int32) (x2 : Int32) (x3 : Int32) (x4 : Int32) (x5 : Int32) (σ : ST), KVB s σ → PF st2 (KVB s) (r_X11_value x1 x2 x3 x4 x5 σ))  (h : KVB s σ) : PF st2 (KVB s) (f_X11_value_247 r_X11_items r_X11_parts r_X11_value y0 y1 σ) := by
  unfold f_X11_value_247
  exact (PF.ite (fun _ => (PF.bnd (wv_X11_go  (KVB.i (by omega) h)) (fun q2 hq2 => (PF.ret2 hq2)))) (fun _ => PF.none))
theorem wv_X11_value_221 {s : ST} {r_X11_items : Int32 → Int32 → Int32 → Int32 → ST → Option ((Int32 × ST) × Nat)} {r_X11_parts : Int32 → Int32 → Int32 → Int32 → ST → Option ((Int32 × ST) × Nat)} {r_X11_value : Int32 → Int32 → Int32 → Int32 → Int32 → ST → Option ((Int32 × ST) × Nat)} {x7 : Int32} {x9 : Int32} {y0 : Int64} {y1 : Int32} {σ : ST} (h_r_X11_items : ∀ (x1 : Int32) (x2 : Int32) (x3 : Int32) (x4 : Int32) (σ : ST), KVB s σ → PF st2 (KVB s) (r_X11_items x1 x2 x3 x4 σ)) (h_r_X11_parts : ∀ (x1 : Int32) (x2 : Int32) (x3 : Int32) (x4 : Int32) (σ : ST), KVB s σ → PF st2 (KVB s) (r_X11_parts x1 x2 x3 x4 σ)) (h_r_X11_value : ∀ (x1 : Int32) (x2 : Int32) (x3 : Int32) (x4 : Int32) (x5 : Int32) (σ : ST), KVB s σ → PF st2 (KVB s) (r_X11_value x1 x2 x3 x4 x5 σ))  (h : KVB s σ) : PF st2 (KVB s) (f_X11_value_221 r_X11_items r_X11_parts r_X11_value x7 x9 y0 y1 σ) := by
  unfold f_X11_value_221
  exact (PF.ite (fun _ => (PF.ite (fun _ => (PF.ite (fun _ => (wv_X11_value_247 h_r_X11_items h_r_X11_parts h_r_X11_value (KVB.l (by omega) h))) (fun _ => (wv_X11_value_247 h_r_X11_items h_r_X11_parts h_r_X11_value (KVB.l (by omega) h))))) (fun _ => PF.none))) (fun _ => PF.none))
theorem wv_X11_value_104 {s : ST} {r_X11_items : Int32 → Int32 → Int32 → Int32 → ST → Option ((Int32 × ST) × Nat)} {r_X11_parts : Int32 → Int32 → Int32 → Int32 → ST → Option ((Int32 × ST) × Nat)} {r_X11_value : Int32 → Int32 → Int32 → Int32 → Int32 → ST → Option ((Int32 × ST) × Nat)} {x1 : Int32} {x3 : Int32} {x4 : Int32} {x5 : Int32} {x6 : Int32} {x7 : Int32} {y0 : Int32} {σ : ST} (h_r_X11_items : ∀ (x1 : Int32) (x2 : Int32) (x3 : Int32) (x4 : Int32) (σ : ST), KVB s σ → PF st2 (KVB s) (r_X11_items x1 x2 x3 x4 σ)) (h_r_X11_parts : ∀ (x1 : Int32) (x2 : Int32) (x3 : Int32) (x4 : Int32) (σ : ST), KVB s σ → PF st2 (KVB s) (r_X11_parts x1 x2 x3 x4 σ)) (h_r_X11_value : ∀ (x1 : Int32) (x2 : Int32) (x3 : Int32) (x4 : Int32) (x5 : Int32) (σ : ST), KVB s σ → PF st2 (KVB s) (r_X11_value x1 x2 x3 x4 x5 σ))  (h : KVB s σ) : PF st2 (KVB s) (f_X11_value_104 r_X11_items r_X11_parts r_X11_value x1 x3 x4 x5 x6 x7 y0 σ) := by
  unfold f_X11_value_104
  exact (PF.ite (fun _ => (PF.ite (fun _ => (PF.bnd (wv_X11_laysNode  h) (fun q2 hq2 => (PF.ite (fun _ => (PF.bnd (h_r_X11_items _ _ _ _ _ hq2) (fun q9 hq9 => (PF.ac (PF.ite (fun _ => (PF.ret2 hq9)) (fun _ => PF.none)))))) (fun _ => (PF.ite (fun _ => (PF.bnd (h_r_X11_parts _ _ _ _ _ hq2) (fun q7 hq7 => (PF.ac (PF.ite (fun _ => (PF.ret2 hq7)) (fun _ => PF.none)))))) (fun _ => (PF.bnd (wv_X11_bitsOf  hq2) (fun q4 hq4 => (PF.ac (PF.ite (fun _ => (PF.ite (fun _ => (wv_X11_value_221 h_r_X11_items h_r_X11_parts h_r_X11_value (KVB.l (by omega) hq4))) (fun _ => (wv_X11_value_221 h_r_X11_items h_r_X11_parts h_r_X11_value (KVB.l (by omega) hq4))))) (fun _ => PF.none)))))))))))) (fun _ => PF.none))) (fun _ => (PF.bnd (wv_X11_wrongHere  h) (fun q11 hq11 => (PF.ite (fun _ => (PF.ret2 hq11)) (fun _ => PF.none))))))
theorem wv_X11_value_99 {s : ST} {r_X11_items : Int32 → Int32 → Int32 → Int32 → ST → Option ((Int32 × ST) × Nat)} {r_X11_parts : Int32 → Int32 → Int32 → Int32 → ST → Option ((Int32 × ST) × Nat)} {r_X11_value : Int32 → Int32 → Int32 → Int32 → Int32 → ST → Option ((Int32 × ST) × Nat)} {x1 : Int32} {x3 : Int32} {x4 : Int32} {x5 : Int32} {x6 : Int32} {x7 : Int32} {σ : ST} (h_r_X11_items : ∀ (x1 : Int32) (x2 : Int32) (x3 : Int32) (x4 : Int32) (σ : ST), KVB s σ → PF st2 (KVB s) (r_X11_items x1 x2 x3 x4 σ)) (h_r_X11_parts : ∀ (x1 : Int32) (x2 : Int32) (x3 : Int32) (x4 : Int32) (σ : ST), KVB s σ → PF st2 (KVB s) (r_X11_parts x1 x2 x3 x4 σ)) (h_r_X11_value : ∀ (x1 : Int32) (x2 : Int32) (x3 : Int32) (x4 : Int32) (x5 : Int32) (σ : ST), KVB s σ → PF st2 (KVB s) (r_X11_value x1 x2 x3 x4 x5 σ))  (h : KVB s σ) : PF st2 (KVB s) (f_X11_value_99 r_X11_items r_X11_parts r_X11_value x1 x3 x4 x5 x6 x7 σ) := by
  unfold f_X11_value_99
  exact (wv_X11_value_104 h_r_X11_items h_r_X11_parts h_r_X11_value h)
theorem wv_X11_value_103 {s : ST} {r_X11_items : Int32 → Int32 → Int32 → Int32 → ST → Option ((Int32 × ST) × Nat)} {r_X11_parts : Int32 → Int32 → Int32 → Int32 → ST → Option ((Int32 × ST) × Nat)} {r_X11_value : Int32 → Int32 → Int32 → Int32 → Int32 → ST → Option ((Int32 × ST) × Nat)} {x1 : Int32} {x3 : Int32} {x4 : Int32} {x5 : Int32} {x6 : Int32} {x7 : Int32} {σ : ST} (h_r_X11_items : ∀ (x1 : Int32) (x2 : Int32) (x3 : Int32) (x4 : Int32) (σ : ST), KVB s σ → PF st2 (KVB s) (r_X11_items x1 x2 x3 x4 σ)) (h_r_X11_parts : ∀ (x1 : Int32) (x2 : Int32) (x3 : Int32) (x4 : Int32) (σ : ST), KVB s σ → PF st2 (KVB s) (r_X11_parts x1 x2 x3 x4 σ)) (h_r_X11_value : ∀ (x1 : Int32) (x2 : Int32) (x3 : Int32) (x4 : Int32) (x5 : Int32) (σ : ST), KVB s σ → PF st2 (KVB s) (r_X11_value x1 x2 x3 x4 x5 σ))  (h : KVB s σ) : PF st2 (KVB s) (f_X11_value_103 r_X11_items r_X11_parts r_X11_value x1 x3 x4 x5 x6 x7 σ) := by
  unfold f_X11_value_103
  exact (wv_X11_value_104 h_r_X11_items h_r_X11_parts h_r_X11_value h)
theorem wv_X11_value_42 {s : ST} {r_X11_items : Int32 → Int32 → Int32 → Int32 → ST → Option ((Int32 × ST) × Nat)} {r_X11_parts : Int32 → Int32 → Int32 → Int32 → ST → Option ((Int32 × ST) × Nat)} {r_X11_value : Int32 → Int32 → Int32 → Int32 → Int32 → ST → Option ((Int32 × ST) × Nat)} {x1 : Int32} {x3 : Int32} {x4 : Int32} {x5 : Int32} {x6 : Int32} {y0 : Int32} {σ : ST} (h_r_X11_items : ∀ (x1 : Int32) (x2 : Int32) (x3 : Int32) (x4 : Int32) (σ : ST), KVB s σ → PF st2 (KVB s) (r_X11_items x1 x2 x3 x4 σ)) (h_r_X11_parts : ∀ (x1 : Int32) (x2 : Int32) (x3 : Int32) (x4 : Int32) (σ : ST), KVB s σ → PF st2 (KVB s) (r_X11_parts x1 x2 x3 x4 σ)) (h_r_X11_value : ∀ (x1 : Int32) (x2 : Int32) (x3 : Int32) (x4 : Int32) (x5 : Int32) (σ : ST), KVB s σ → PF st2 (KVB s) (r_X11_value x1 x2 x3 x4 x5 σ))  (h : KVB s σ) : PF st2 (KVB s) (f_X11_value_42 r_X11_items r_X11_parts r_X11_value x1 x3 x4 x5 x6 y0 σ) := by
  unfold f_X11_value_42
  exact (PF.bnd (wv_X11_isValue  h) (fun q1 hq1 => (PF.ac (PF.ite (fun _ => (wv_X11_value_104 h_r_X11_items h_r_X11_parts h_r_X11_value hq1)) (fun _ => (PF.bnd (wv_X11_fits  hq1) (fun q3 hq3 => (PF.ac (PF.ite (fun _ => (wv_X11_value_104 h_r_X11_items h_r_X11_parts h_r_X11_value hq3)) (fun _ => (PF.ite (fun _ => (wv_X11_value_99 h_r_X11_items h_r_X11_parts h_r_X11_value hq3)) (fun _ => (PF.ite (fun _ => (wv_X11_value_103 h_r_X11_items h_r_X11_parts h_r_X11_value hq3)) (fun _ => (PF.ite (fun _ => (wv_X11_value_103 h_r_X11_items h_r_X11_parts h_r_X11_value hq3)) (fun _ => (PF.ite (fun _ => (PF.ite (fun _ => (wv_X11_value_99 h_r_X11_items h_r_X11_parts h_r_X11_value hq3)) (fun _ => (wv_X11_value_103 h_r_X11_items h_r_X11_parts h_r_X11_value hq3)))) (fun _ => PF.none))))))))))))))))))
theorem wv_X11_value_20 {s : ST} {r_X11_items : Int32 → Int32 → Int32 → Int32 → ST → Option ((Int32 × ST) × Nat)} {r_X11_parts : Int32 → Int32 → Int32 → Int32 → ST → Option ((Int32 × ST) × Nat)} {r_X11_value : Int32 → Int32 → Int32 → Int32 → Int32 → ST → Option ((Int32 × ST) × Nat)} {x1 : Int32} {x2 : Int32} {x3 : Int32} {x4 : Int32} {x5 : Int32} {y0 : Int32} {σ : ST} (h_r_X11_items : ∀ (x1 : Int32) (x2 : Int32) (x3 : Int32) (x4 : Int32) (σ : ST), KVB s σ → PF st2 (KVB s) (r_X11_items x1 x2 x3 x4 σ)) (h_r_X11_parts : ∀ (x1 : Int32) (x2 : Int32) (x3 : Int32) (x4 : Int32) (σ : ST), KVB s σ → PF st2 (KVB s) (r_X11_parts x1 x2 x3 x4 σ)) (h_r_X11_value : ∀ (x1 : Int32) (x2 : Int32) (x3 : Int32) (x4 : Int32) (x5 : Int32) (σ : ST), KVB s σ → PF st2 (KVB s) (r_X11_value x1 x2 x3 x4 x5 σ))  (h : KVB s σ) : PF st2 (KVB s) (f_X11_value_20 r_X11_items r_X11_parts r_X11_value x1 x2 x3 x4 x5 y0 σ) := by
  unfold f_X11_value_20
  exact (PF.ite (fun _ => (PF.ite (fun _ => (wv_X11_value_42 h_r_X11_items h_r_X11_parts h_r_X11_value h)) (fun _ => PF.none))) (fun _ => (wv_X11_value_42 h_r_X11_items h_r_X11_parts h_r_X11_value h)))
theorem wv_X11_value {s : ST} {r_X11_items : Int32 → Int32 → Int32 → Int32 → ST → Option ((Int32 × ST) × Nat)} {r_X11_parts : Int32 → Int32 → Int32 → Int32 → ST → Option ((Int32 × ST) × Nat)} {r_X11_value : Int32 → Int32 → Int32 → Int32 → Int32 → ST → Option ((Int32 × ST) × Nat)} {p0 : Int32} {p1 : Int32} {p2 : Int32} {p3 : Int32} {p4 : Int32} {σ : ST} (h_r_X11_items : ∀ (x1 : Int32) (x2 : Int32) (x3 : Int32) (x4 : Int32) (σ : ST), KVB s σ → PF st2 (KVB s) (r_X11_items x1 x2 x3 x4 σ)) (h_r_X11_parts : ∀ (x1 : Int32) (x2 : Int32) (x3 : Int32) (x4 : Int32) (σ : ST), KVB s σ → PF st2 (KVB s) (r_X11_parts x1 x2 x3 x4 σ)) (h_r_X11_value : ∀ (x1 : Int32) (x2 : Int32) (x3 : Int32) (x4 : Int32) (x5 : Int32) (σ : ST), KVB s σ → PF st2 (KVB s) (r_X11_value x1 x2 x3 x4 x5 σ))  (h : KVB s σ) : PF st2 (KVB s) (f_X11_value r_X11_items r_X11_parts r_X11_value p0 p1 p2 p3 p4 σ) := by
  unfold f_X11_value
  exact (PF.ite (fun _ => (PF.ite (fun _ => (PF.bnd (wv_X11_branchFor  h) (fun q2 hq2 => (PF.ac (wv_X11_value_20 h_r_X11_items h_r_X11_parts h_r_X11_value hq2))))) (fun _ => (wv_X11_value_20 h_r_X11_items h_r_X11_parts h_r_X11_value h)))) (fun _ => PF.none))
theorem wvR_X11_items {s : ST} : ∀ n : Nat, (∀ (p0 : Int32) (p1 : Int32) (p2 : Int32) (p3 : Int32) (σ : ST), KVB s σ → PF st2 (KVB s) ((R_X11_items n).1 p0 p1 p2 p3 σ)) ∧ (∀ (p0 : Int32) (p1 : Int32) (p2 : Int32) (p3 : Int32) (σ : ST), KVB s σ → PF st2 (KVB s) ((R_X11_items n).2.1 p0 p1 p2 p3 σ)) ∧ (∀ (p0 : Int32) (p1 : Int32) (p2 : Int32) (p3 : Int32) (p4 : Int32) (σ : ST), KVB s σ → PF st2 (KVB s) ((R_X11_items n).2.2 p0 p1 p2 p3 p4 σ)) := by
  intro n
  induction n with
  | zero => exact ⟨fun _ _ _ _ _ _ => PF.none, fun _ _ _ _ _ _ => PF.none, fun _ _ _ _ _ _ _ => PF.none⟩
  | succ n ih => exact ⟨fun _ _ _ _ _ h => wv_X11_items (ih.1) (ih.2.1) (ih.2.2)  h, fun _ _ _ _ _ h => wv_X11_parts (ih.1) (ih.2.1) (ih.2.2)  h, fun _ _ _ _ _ _ h => wv_X11_value (ih.1) (ih.2.1) (ih.2.2)  h⟩
theorem wv_T_X11_value {s : ST} {p0 : Int32} {p1 : Int32} {p2 : Int32} {p3 : Int32} {p4 : Int32} {σ : ST} (h : KVB s σ) : PF st2 (KVB s) (f_T_X11_value p0 p1 p2 p3 p4 σ) := (wvR_X11_items FRB).2.2 _ _ _ _ _ _  h
theorem wn_X11_wrong_21 {s : ST} {y0 : Int32} {σ : ST}   (h : NUT s σ) : PF st1 (NUT s) (f_X11_wrong_21 y0 σ) := by
  unfold f_X11_wrong_21
  exact (PF.ret1 (NUT.i (by omega) h))
theorem wn_X11_wrong {s : ST} {p0 : Int32} {p1 : Int32} {σ : ST}   (h : NUT s σ) : PF st1 (NUT s) (f_X11_wrong p0 p1 σ) := by
  unfold f_X11_wrong
  exact (PF.ite (fun _ => (wn_X11_wrong_21  h)) (fun _ => (wn_X11_wrong_21  h)))
theorem wn_X11_wrongHere {s : ST} {p0 : Int32} {σ : ST}   (h : NUT s σ) : PF st1 (NUT s) (f_X11_wrongHere p0 σ) := by
  unfold f_X11_wrongHere
  exact (PF.bnd (wn_X11_wrong  h) (fun q1 hq1 => (PF.ite (fun _ => (PF.ret1 hq1)) (fun _ => PF.none))))
theorem wn_X11_mark {s : ST} {p0 : Int32} {σ : ST}   (h : NUT s σ) : PF st1 (NUT s) (f_X11_mark p0 σ) := by
  unfold f_X11_mark
  exact (PF.ite (fun _ => (PF.bnd (wn_X11_go  h) (fun q1 hq1 => (PF.ret1 hq1)))) (fun _ => (PF.bnd (wn_X11_wrongHere  h) (fun q3 hq3 => (PF.ite (fun _ => (PF.ret1 hq3)) (fun _ => PF.none))))))
theorem wn_X11_items_70 {s : ST} {r_X11_items : Int32 → Int32 → Int32 → Int32 → ST → Option ((Int32 × ST) × Nat)} {r_X11_parts : Int32 → Int32 → Int32 → Int32 → ST → Option ((Int32 × ST) × Nat)} {r_X11_value : Int32 → Int32 → Int32 → Int32 → Int32 → ST → Option ((Int32 × ST) × Nat)} {k25 : Int32 → Int32 → Int32 → Int32 → Int32 → Int32 → ST → Option ((Int32 × ST) × Nat)} {x1 : Int32} {x2 : Int32} {x3 : Int32} {x4 : Int32} {x5 : Int32} {y0 : Int32} {σ : ST} (h_r_X11_items : ∀ (x1 : Int32) (x2 : Int32) (x3 : Int32) (x4 : Int32) (σ : ST), NUT s σ → PF st2 (NUT s) (r_X11_items x1 x2 x3 x4 σ)) (h_r_X11_parts : ∀ (x1 : Int32) (x2 : Int32) (x3 : Int32) (x4 : Int32) (σ : ST), NUT s σ → PF st2 (NUT s) (r_X11_parts x1 x2 x3 x4 σ)) (h_r_X11_value : ∀ (x1 : Int32) (x2 : Int32) (x3 : Int32) (x4 : Int32) (x5 : Int32) (σ : ST), NUT s σ → PF st2 (NUT s) (r_X11_value x1 x2 x3 x4 x5 σ)) (h_k25 : ∀ (x1 : Int32) (x2 : Int32) (x3 : Int32) (x4 : Int32) (x5 : Int32) (x6 : Int32) (σ : ST), NUT s σ → PF st2 (NUT s) (k25 x1 x2 x3 x4 x5 x6 σ))  (h : NUT s σ) : PF st2 (NUT s) (f_X11_items_70 r_X11_items r_X11_parts r_X11_value k25 x1 x2 x3 x4 x5 y0 σ) := by
  unfold f_X11_items_70
  exact (PF.ite (fun _ => (h_k25 _ _ _ _ _ _ _ h)) (fun _ => (PF.bnd (wn_X11_go  h) (fun q1 hq1 => (h_k25 _ _ _ _ _ _ _ hq1)))))
theorem wn_X11_items_25 {s : ST} {r_X11_items : Int32 → Int32 → Int32 → Int32 → ST → Option ((Int32 × ST) × Nat)} {r_X11_parts : Int32 → Int32 → Int32 → Int32 → ST → Option ((Int32 × ST) × Nat)} {r_X11_value : Int32 → Int32 → Int32 → Int32 → Int32 → ST → Option ((Int32 × ST) × Nat)} (h_r_X11_items : ∀ (x1 : Int32) (x2 : Int32) (x3 : Int32) (x4 : Int32) (σ : ST), NUT s σ → PF st2 (NUT s) (r_X11_items x1 x2 x3 x4 σ)) (h_r_X11_parts : ∀ (x1 : Int32) (x2 : Int32) (x3 : Int32) (x4 : Int32) (σ : ST), NUT s σ → PF st2 (NUT s) (r_X11_parts x1 x2 x3 x4 σ)) (h_r_X11_value : ∀ (x1 : Int32) (x2 : Int32) (x3 : Int32) (x4 : Int32) (x5 : Int32) (σ : ST), NUT s σ → PF st2 (NUT s) (r_X11_value x1 x2 x3 x4 x5 σ))  : ∀ (n : Nat) (x1 : Int32) (x2 : Int32) (x3 : Int32) (x4 : Int32) (x5 : Int32) (x6 : Int32) (σ : ST), NUT s σ → PF st2 (NUT s) (f_X11_items_25 r_X11_items r_X11_parts r_X11_value n x1 x2 x3 x4 x5 x6 σ) := by
  intro n
  induction n with
  | zero => intro x1 x2 x3 x4 x5 x6 σ h; rw [f_X11_items_25]; exact PF.none
  | succ n ih =>
    intro x1 x2 x3 x4 x5 x6 σ h
    rw [f_X11_items_25]
    exact (PF.ite (fun _ => (PF.bnd (wn_X11_mark  h) (fun q1 hq1 => (PF.ite (fun _ => (PF.ret2 hq1)) (fun _ => PF.none))))) (fun _ => (PF.ite (fun _ => (PF.bnd (h_r_X11_value _ _ _ _ _ _ h) (fun q4 hq4 => (PF.ac (PF.ite (fun _ => (PF.ret2 hq4)) (fun _ => (PF.ite (fun _ => (wn_X11_items_70 h_r_X11_items h_r_X11_parts h_r_X11_value ih hq4)) (fun _ => (wn_X11_items_70 h_r_X11_items h_r_X11_parts h_r_X11_value ih hq4))))))))) (fun _ => PF.none))))
theorem wn_X11_items {s : ST} {r_X11_items : Int32 → Int32 → Int32 → Int32 → ST → Option ((Int32 × ST) × Nat)} {r_X11_parts : Int32 → Int32 → Int32 → Int32 → ST → Option ((Int32 × ST) × Nat)} {r_X11_value : Int32 → Int32 → Int32 → Int32 → Int32 → ST → Option ((Int32 × ST) × Nat)} {p0 : Int32} {p1 : Int32} {p2 : Int32} {p3 : Int32} {σ : ST} (h_r_X11_items : ∀ (x1 : Int32) (x2 : Int32) (x3 : Int32) (x4 : Int32) (σ : ST), NUT s σ → PF st2 (NUT s) (r_X11_items x1 x2 x3 x4 σ)) (h_r_X11_parts : ∀ (x1 : Int32) (x2 : Int32) (x3 : Int32) (x4 : Int32) (σ : ST), NUT s σ → PF st2 (NUT s) (r_X11_parts x1 x2 x3 x4 σ)) (h_r_X11_value : ∀ (x1 : Int32) (x2 : Int32) (x3 : Int32) (x4 : Int32) (x5 : Int32) (σ : ST), NUT s σ → PF st2 (NUT s) (r_X11_value x1 x2 x3 x4 x5 σ))  (h : NUT s σ) : PF st2 (NUT s) (f_X11_items r_X11_items r_X11_parts r_X11_value p0 p1 p2 p3 σ) := by
  unfold f_X11_items
  exact (PF.bnd (wn_X11_go  h) (fun q1 hq1 => (PF.ite (fun _ => (PF.bnd (wn_X11_go  hq1) (fun q3 hq3 => (PF.ret2 hq3)))) (fun _ => (wn_X11_items_25 h_r_X11_items h_r_X11_parts h_r_X11_value _ _ _ _ _ _ _ _ hq1)))))
theorem wn_X11_hasChild_35 {s : ST} {k10 : Int32 → Int32 → Int32 → ST → Option (Int32 × ST)} {x2 : Int32} {x4 : Int32} {y0 : Int32} {σ : ST} (h_k10 : ∀ (x1 : Int32) (x2 : Int32) (x3 : Int32) (σ : ST), NUT s σ → PF st1 (NUT s) (k10 x1 x2 x3 σ))  (h : NUT s σ) : PF st1 (NUT s) (f_X11_hasChild_35 k10 x2 x4 y0 σ) := by
  unfold f_X11_hasChild_35
  exact (PF.ite (fun _ => (h_k10 _ _ _ _ h)) (fun _ => PF.none))
theorem wn_X11_hasChild_30 {s : ST} {k10 : Int32 → Int32 → Int32 → ST → Option (Int32 × ST)} {x2 : Int32} {x4 : Int32} {σ : ST} (h_k10 : ∀ (x1 : Int32) (x2 : Int32) (x3 : Int32) (σ : ST), NUT s σ → PF st1 (NUT s) (k10 x1 x2 x3 σ))  (h : NUT s σ) : PF st1 (NUT s) (f_X11_hasChild_30 k10 x2 x4 σ) := by
  unfold f_X11_hasChild_30
  exact (wn_X11_hasChild_35 h_k10 h)
theorem wn_X11_hasChild_10 {s : ST}    : ∀ (n : Nat) (x1 : Int32) (x2 : Int32) (x3 : Int32) (σ : ST), NUT s σ → PF st1 (NUT s) (f_X11_hasChild_10  n x1 x2 x3 σ) := by
  intro n
  induction n with
  | zero => intro x1 x2 x3 σ h; rw [f_X11_hasChild_10]; exact PF.none
  | succ n ih =>
    intro x1 x2 x3 σ h
    rw [f_X11_hasChild_10]
    exact (PF.ite (fun _ => (PF.ite (fun _ => (PF.ret1 h)) (fun _ => PF.none))) (fun _ => (PF.ite (fun _ => (PF.ite (fun _ => (PF.ite (fun _ => (wn_X11_hasChild_30 ih h)) (fun _ => (wn_X11_hasChild_35 ih h)))) (fun _ => PF.none))) (fun _ => (wn_X11_hasChild_30 ih h)))))
theorem wn_X11_hasChild {s : ST} {p0 : Int32} {p1 : Int32} {σ : ST}   (h : NUT s σ) : PF st1 (NUT s) (f_X11_hasChild p0 p1 σ) := by
  unfold f_X11_hasChild
  exact (PF.ite (fun _ => (wn_X11_hasChild_10  _ _ _ _ _ h)) (fun _ => PF.none))
theorem wn_X11_firstOf {s : ST} {p0 : Int32} {σ : ST}   (h : NUT s σ) : PF st1 (NUT s) (f_X11_firstOf p0 σ) := by
  unfold f_X11_firstOf
  exact (PF.ite (fun _ => (PF.ite (fun _ => (PF.ite (fun _ => (PF.ret1 h)) (fun _ => PF.none))) (fun _ => (PF.ret1 h)))) (fun _ => PF.none))
theorem wn_X11_joins_147 {s : ST} {x1 : Int32} {x2 : Int32} {σ : ST}   (h : NUT s σ) : PF st0 (NUT s) (f_X11_joins_147 x1 x2 σ) := by
  unfold f_X11_joins_147
  exact (PF.ite (fun _ => (PF.ite (fun _ => (PF.ret0 h)) (fun _ => (PF.ite (fun _ => (PF.ret0 (NUT.i (by omega) h))) (fun _ => PF.none))))) (fun _ => PF.none))
theorem wn_X11_joins_125 {s : ST} {x1 : Int32} {x2 : Int32} {x3 : Int32} {y0 : Int32} {y1 : Int32} {σ : ST}   (h : NUT s σ) : PF st0 (NUT s) (f_X11_joins_125 x1 x2 x3 y0 y1 σ) := by
  unfold f_X11_joins_125
  exact (PF.ite (fun _ => (PF.ite (fun _ => (PF.ite (fun _ => (wn_X11_joins_147  (NUT.i (by omega) (NUT.i (by omega) h)))) (fun _ => PF.none))) (fun _ => (PF.ite (fun _ => (wn_X11_joins_147  (NUT.i (by omega) (NUT.i (by omega) h)))) (fun _ => PF.none))))) (fun _ => PF.none))
theorem wn_X11_joins_101 {s : ST} {x1 : Int32} {x2 : Int32} {x3 : Int32} {σ : ST}   (h : NUT s σ) : PF st0 (NUT s) (f_X11_joins_101 x1 x2 x3 σ) := by
  unfold f_X11_joins_101
  exact (PF.ite (fun _ => (PF.ite (fun _ => (wn_X11_joins_125  h)) (fun _ => PF.none))) (fun _ => (PF.ite (fun _ => (wn_X11_joins_125  h)) (fun _ => PF.none))))
theorem wn_X11_joins_65 {s : ST}    : ∀ (n : Nat) (x1 : Int32) (x2 : Int32) (x3 : Int32) (x4 : Int32) (σ : ST), NUT s σ → PF st0 (NUT s) (f_X11_joins_65  n x1 x2 x3 x4 σ) := by
  intro n
  induction n with
  | zero => intro x1 x2 x3 x4 σ h; rw [f_X11_joins_65]; exact PF.none
  | succ n ih =>
    intro x1 x2 x3 x4 σ h
    rw [f_X11_joins_65]
    exact (PF.ite (fun _ => (wn_X11_joins_101  h)) (fun _ => (PF.ite (fun _ => (PF.ite (fun _ => (PF.ite (fun _ => (wn_X11_joins_101  h)) (fun _ => (ih _ _ _ _ _ h)))) (fun _ => PF.none))) (fun _ => PF.none))))
theorem wn_X11_joins_51 {s : ST} {x1 : Int32} {x2 : Int32} {x3 : Int32} {y0 : Int32} {σ : ST}   (h : NUT s σ) : PF st0 (NUT s) (f_X11_joins_51 x1 x2 x3 y0 σ) := by
  unfold f_X11_joins_51
  exact (PF.ite (fun _ => (wn_X11_joins_65  _ _ _ _ _ _ h)) (fun _ => (PF.ite (fun _ => (wn_X11_joins_65  _ _ _ _ _ _ h)) (fun _ => PF.none))))
theorem wn_X11_joins_45 {s : ST} {x1 : Int32} {x2 : Int32} {x3 : Int32} {σ : ST}   (h : NUT s σ) : PF st0 (NUT s) (f_X11_joins_45 x1 x2 x3 σ) := by
  unfold f_X11_joins_45
  exact (PF.ite (fun _ => (wn_X11_joins_51  h)) (fun _ => PF.none))
theorem wn_X11_joins {s : ST} {p0 : Int32} {p1 : Int32} {σ : ST}   (h : NUT s σ) : PF st0 (NUT s) (f_X11_joins p0 p1 σ) := by
  unfold f_X11_joins
  exact (PF.ite (fun _ => (PF.ite (fun _ => (wn_X11_joins_45  (NUT.i (by omega) h))) (fun _ => (PF.ite (fun _ => (PF.ite (fun _ => (PF.ite (fun _ => (wn_X11_joins_45  (NUT.i (by omega) h))) (fun _ => (wn_X11_joins_51  (NUT.i (by omega) h))))) (fun _ => PF.none))) (fun _ => PF.none))))) (fun _ => PF.none))
theorem wn_X11_laysNode {s : ST} {p0 : Int32} {p1 : Int32} {p2 : Int32} {p3 : Int32} {σ : ST}   (h : NUT s σ) : PF st1 (NUT s) (f_X11_laysNode p0 p1 p2 p3 σ) := by
  unfold f_X11_laysNode
  exact (PF.ite (fun _ => (PF.bnd (PF.ret0 (NUT.l (.inl trivial) (NUT.i (by omega) (NUT.i (by omega) h)))) (fun z2 hz2 => (PF.bnd (PF.ret0 (NUT.i (by omega) (NUT.i (by omega) (NUT.l (.inl trivial) hz2)))) (fun z3 hz3 => (PF.bnd (PF.ret0 (NUT.i (by omega) (NUT.i (by omega) (NUT.i (by omega) hz3)))) (fun z4 hz4 => (PF.bnd (PF.ret0 (NUT.i (by omega) (NUT.i (by omega) (NUT.i (by omega) hz4)))) (fun z5 hz5 => (PF.ite (fun _ => (PF.ret1 hz5)) (fun _ => (PF.bnd (wn_X11_joins  hz5) (fun q6 hq6 => (PF.ret1 hq6)))))))))))))) (fun _ => PF.none))
theorem wn_X11_fills_103 {s : ST} {x6 : Int32} {y0 : Int32} {y1 : Int32} {σ : ST}   (h : NUT s σ) : PF st0 (NUT s) (f_X11_fills_103 x6 y0 y1 σ) := by
  unfold f_X11_fills_103
  exact (PF.ite (fun _ => (PF.ite (fun _ => (PF.ret0 (NUT.i (by omega) (NUT.i (by omega) h)))) (fun _ => PF.none))) (fun _ => PF.none))
theorem wn_X11_fills_45 {s : ST} {x1 : Int32} {x5 : Int32} {y0 : Int32} {y1 : Int32} {y2 : Int32} {y3 : Int32} {σ : ST}   (h : NUT s σ) : PF st0 (NUT s) (f_X11_fills_45 x1 x5 y0 y1 y2 y3 σ) := by
  unfold f_X11_fills_45
  exact (PF.bnd (wn_X11_laysNode  h) (fun q1 hq1 => (PF.ite (fun _ => (PF.ite (fun _ => (PF.bnd (PF.ret0 (NUT.l (.inl trivial) (NUT.l (.inl trivial) hq1))) (fun z5 hz5 => (PF.ite (fun _ => (PF.ite (fun _ => (wn_X11_fills_103  hz5)) (fun _ => (wn_X11_fills_103  hz5)))) (fun _ => PF.none))))) (fun _ => PF.none))) (fun _ => PF.none))))
theorem wn_X11_fills {s : ST} {p0 : Int32} {p1 : Int32} {p2 : Int32} {σ : ST}   (h : NUT s σ) : PF st0 (NUT s) (f_X11_fills p0 p1 p2 σ) := by
  unfold f_X11_fills
  exact (PF.ite (fun _ => (PF.bnd (wn_X11_firstOf  h) (fun q2 hq2 => (PF.ite (fun _ => (PF.ite (fun _ => (wn_X11_fills_45  hq2)) (fun _ => (wn_X11_fills_45  hq2)))) (fun _ => PF.none))))) (fun _ => PF.none))
theorem wn_X11_parts_233 {s : ST} {r_X11_items : Int32 → Int32 → Int32 → Int32 → ST → Option ((Int32 × ST) × Nat)} {r_X11_parts : Int32 → Int32 → Int32 → Int32 → ST → Option ((Int32 × ST) × Nat)} {r_X11_value : Int32 → Int32 → Int32 → Int32 → Int32 → ST → Option ((Int32 × ST) × Nat)} {k171 : Int32 → Int32 → Int32 → ST → Option ((Int32 × ST) × Nat)} {x4 : Int32} {x5 : Int32} {x7 : Int32} {σ : ST} (h_r_X11_items : ∀ (x1 : Int32) (x2 : Int32) (x3 : Int32) (x4 : Int32) (σ : ST), NUT s σ → PF st2 (NUT s) (r_X11_items x1 x2 x3 x4 σ)) (h_r_X11_parts : ∀ (x1 : Int32) (x2 : Int32) (x3 : Int32) (x4 : Int32) (σ : ST), NUT s σ → PF st2 (NUT s) (r_X11_parts x1 x2 x3 x4 σ)) (h_r_X11_value : ∀ (x1 : Int32) (x2 : Int32) (x3 : Int32) (x4 : Int32) (x5 : Int32) (σ : ST), NUT s σ → PF st2 (NUT s) (r_X11_value x1 x2 x3 x4 x5 σ)) (h_k171 : ∀ (x1 : Int32) (x2 : Int32) (x3 : Int32) (σ : ST), NUT s σ → PF st2 (NUT s) (k171 x1 x2 x3 σ))  (h : NUT s σ) : PF st2 (NUT s) (f_X11_parts_233 r_X11_items r_X11_parts r_X11_value k171 x4 x5 x7 σ) := by
  unfold f_X11_parts_233
  exact (h_k171 _ _ _ _ h)
theorem wn_X11_parts_171 {s : ST} {r_X11_items : Int32 → Int32 → Int32 → Int32 → ST → Option ((Int32 × ST) × Nat)} {r_X11_parts : Int32 → Int32 → Int32 → Int32 → ST → Option ((Int32 × ST) × Nat)} {r_X11_value : Int32 → Int32 → Int32 → Int32 → Int32 → ST → Option ((Int32 × ST) × Nat)} (h_r_X11_items : ∀ (x1 : Int32) (x2 : Int32) (x3 : Int32) (x4 : Int32) (σ : ST), NUT s σ → PF st2 (NUT s) (r_X11_items x1 x2 x3 x4 σ)) (h_r_X11_parts : ∀ (x1 : Int32) (x2 : Int32) (x3 : Int32) (x4 : Int32) (σ : ST), NUT s σ → PF st2 (NUT s) (r_X11_parts x1 x2 x3 x4 σ)) (h_r_X11_value : ∀ (x1 : Int32) (x2 : Int32) (x3 : Int32) (x4 : Int32) (x5 : Int32) (σ : ST), NUT s σ → PF st2 (NUT s) (r_X11_value x1 x2 x3 x4 x5 σ))  : ∀ (n : Nat) (x1 : Int32) (x2 : Int32) (x3 : Int32) (σ : ST), NUT s σ → PF st2 (NUT s) (f_X11_parts_171 r_X11_items r_X11_parts r_X11_value n x1 x2 x3 σ) := by
  intro n
  induction n with
  | zero => intro x1 x2 x3 σ h; rw [f_X11_parts_171]; exact PF.none
  | succ n ih =>
    intro x1 x2 x3 σ h
    rw [f_X11_parts_171]
    exact (PF.ite (fun _ => (PF.ite (fun _ => (PF.bnd (wn_X11_go  h) (fun q2 hq2 => (PF.ret2 hq2)))) (fun _ => (PF.bnd (wn_X11_hasChild  h) (fun q4 hq4 => (PF.ite (fun _ => (PF.ite (fun _ => (PF.ite (fun _ => (PF.bnd (wn_X11_wrongHere  hq4) (fun q9 hq9 => (PF.ite (fun _ => (PF.ret2 hq9)) (fun _ => PF.none))))) (fun _ => (PF.bnd (wn_X11_fills  hq4) (fun q7 hq7 => (wn_X11_parts_233 h_r_X11_items h_r_X11_parts h_r_X11_value ih hq7)))))) (fun _ => PF.none))) (fun _ => (wn_X11_parts_233 h_r_X11_items h_r_X11_parts h_r_X11_value ih hq4)))))))) (fun _ => PF.none))
theorem wn_X11_isWord {s : ST} {p0 : Int64} {σ : ST}   (h : NUT s σ) : PF st1 (NUT s) (f_X11_isWord p0 σ) := by
  unfold f_X11_isWord
  exact (PF.ite (fun _ => (PF.ite (fun _ => (PF.ret1 h)) (fun _ => (PF.ret1 h)))) (fun _ => (PF.ret1 h)))
theorem wn_X11_sortHere {s : ST}  {σ : ST}   (h : NUT s σ) : PF st2 (NUT s) (f_X11_sortHere σ) := by
  unfold f_X11_sortHere
  exact (PF.bnd (wn_X11_spelt h) (fun q1 hq1 => (PF.ac (PF.bnd (wn_X11_isWord  hq1) (fun q3 hq3 => (PF.ite (fun _ => (PF.bnd (wn_X11_spelt hq3) (fun q5 hq5 => (PF.ac (PF.bnd (wn_X11_isWord  hq5) (fun q7 hq7 => (PF.ite (fun _ => (PF.bnd (wn_X11_spelt hq7) (fun q9 hq9 => (PF.ac (PF.bnd (wn_X11_isWord  hq9) (fun q11 hq11 => (PF.ite (fun _ => (PF.bnd (wn_X11_spelt hq11) (fun q13 hq13 => (PF.ac (PF.bnd (wn_X11_isWord  hq13) (fun q15 hq15 => (PF.ite (fun _ => (PF.bnd (wn_X11_spelt hq15) (fun q17 hq17 => (PF.ac (PF.bnd (wn_X11_isWord  hq17) (fun q19 hq19 => (PF.ite (fun _ => (PF.bnd (wn_X11_spelt hq19) (fun q21 hq21 => (PF.ac (PF.bnd (wn_X11_isWord  hq21) (fun q23 hq23 => (PF.ite (fun _ => (PF.bnd (wn_X11_spelt hq23) (fun q25 hq25 => (PF.ac (PF.bnd (wn_X11_isWord  hq25) (fun q27 hq27 => (PF.ite (fun _ => (PF.bnd (wn_X11_spelt hq27) (fun q29 hq29 => (PF.ac (PF.bnd (wn_X11_isWord  hq29) (fun q31 hq31 => (PF.ite (fun _ => (PF.ret2 hq31)) (fun _ => (PF.ret2 hq31))))))))) (fun _ => (PF.ret2 hq27))))))))) (fun _ => (PF.ret2 hq23))))))))) (fun _ => (PF.ret2 hq19))))))))) (fun _ => (PF.ret2 hq15))))))))) (fun _ => (PF.ret2 hq11))))))))) (fun _ => (PF.ret2 hq7))))))))) (fun _ => (PF.ret2 hq3))))))))
theorem wn_X11_isName_61 {s : ST} {y0 : Int32} {σ : ST}   (h : NUT s σ) : PF st2 (NUT s) (f_X11_isName_61 y0 σ) := by
  unfold f_X11_isName_61
  exact (PF.ite (fun _ => (PF.ite (fun _ => (PF.ret2 h)) (fun _ => (PF.ret2 h)))) (fun _ => (PF.ret2 h)))
theorem wn_X11_isName_56 {s : ST}  {σ : ST}   (h : NUT s σ) : PF st2 (NUT s) (f_X11_isName_56 σ) := by
  unfold f_X11_isName_56
  exact (wn_X11_isName_61  h)
theorem wn_X11_isPlan {s : ST}  {σ : ST}   (h : NUT s σ) : PF st2 (NUT s) (f_X11_isPlan σ) := by
  unfold f_X11_isPlan
  exact (PF.bnd (wn_X11_spelt h) (fun q1 hq1 => (PF.ac (PF.bnd (wn_X11_isWord  hq1) (fun q3 hq3 => (PF.ite (fun _ => (PF.ret2 hq3)) (fun _ => PF.none)))))))
theorem wn_X11_isRecord {s : ST}  {σ : ST}   (h : NUT s σ) : PF st2 (NUT s) (f_X11_isRecord σ) := by
  unfold f_X11_isRecord
  exact (PF.bnd (wn_X11_spelt h) (fun q1 hq1 => (PF.ac (PF.bnd (wn_X11_isWord  hq1) (fun q3 hq3 => (PF.ite (fun _ => (PF.ret2 hq3)) (fun _ => PF.none)))))))
theorem wn_X11_isWas {s : ST}  {σ : ST}   (h : NUT s σ) : PF st2 (NUT s) (f_X11_isWas σ) := by
  unfold f_X11_isWas
  exact (PF.bnd (wn_X11_spelt h) (fun q1 hq1 => (PF.ac (PF.bnd (wn_X11_isWord  hq1) (fun q3 hq3 => (PF.ite (fun _ => (PF.ret2 hq3)) (fun _ => PF.none)))))))
theorem wn_X11_isElse {s : ST}  {σ : ST}   (h : NUT s σ) : PF st2 (NUT s) (f_X11_isElse σ) := by
  unfold f_X11_isElse
  exact (PF.bnd (wn_X11_spelt h) (fun q1 hq1 => (PF.ac (PF.bnd (wn_X11_isWord  hq1) (fun q3 hq3 => (PF.ite (fun _ => (PF.ret2 hq3)) (fun _ => PF.none)))))))
theorem wn_X11_isOr {s : ST}  {σ : ST}   (h : NUT s σ) : PF st2 (NUT s) (f_X11_isOr σ) := by
  unfold f_X11_isOr
  exact (PF.bnd (wn_X11_spelt h) (fun q1 hq1 => (PF.ac (PF.bnd (wn_X11_isWord  hq1) (fun q3 hq3 => (PF.ite (fun _ => (PF.ret2 hq3)) (fun _ => PF.none)))))))
theorem wn_X11_isYes {s : ST}  {σ : ST}   (h : NUT s σ) : PF st2 (NUT s) (f_X11_isYes σ) := by
  unfold f_X11_isYes
  exact (PF.bnd (wn_X11_spelt h) (fun q1 hq1 => (PF.ac (PF.bnd (wn_X11_isWord  hq1) (fun q3 hq3 => (PF.ite (fun _ => (PF.ret2 hq3)) (fun _ => PF.none)))))))
theorem wn_X11_isNo {s : ST}  {σ : ST}   (h : NUT s σ) : PF st2 (NUT s) (f_X11_isNo σ) := by
  unfold f_X11_isNo
  exact (PF.bnd (wn_X11_spelt h) (fun q1 hq1 => (PF.ac (PF.bnd (wn_X11_isWord  hq1) (fun q3 hq3 => (PF.ite (fun _ => (PF.ret2 hq3)) (fun _ => PF.none)))))))
theorem wn_X11_isName {s : ST}  {σ : ST}   (h : NUT s σ) : PF st2 (NUT s) (f_X11_isName σ) := by
  unfold f_X11_isName
  exact (PF.bnd (wn_X11_sortHere  h) (fun q1 hq1 => (PF.ac (PF.ite (fun _ => (wn_X11_isName_56  hq1)) (fun _ => (PF.bnd (wn_X11_isPlan  hq1) (fun q3 hq3 => (PF.ac (PF.ite (fun _ => (PF.bnd (wn_X11_isRecord  hq3) (fun q5 hq5 => (PF.ac (PF.ite (fun _ => (PF.bnd (wn_X11_isWas  hq5) (fun q7 hq7 => (PF.ac (PF.ite (fun _ => (PF.bnd (wn_X11_isElse  hq7) (fun q9 hq9 => (PF.ac (PF.ite (fun _ => (PF.bnd (wn_X11_isOr  hq9) (fun q11 hq11 => (PF.ac (PF.ite (fun _ => (PF.bnd (wn_X11_isYes  hq11) (fun q13 hq13 => (PF.ac (PF.ite (fun _ => (PF.bnd (wn_X11_isNo  hq13) (fun q15 hq15 => (PF.ac (PF.ite (fun _ => (wn_X11_isName_61  hq15)) (fun _ => (wn_X11_isName_56  hq15))))))) (fun _ => (wn_X11_isName_56  hq13))))))) (fun _ => (wn_X11_isName_56  hq11))))))) (fun _ => (wn_X11_isName_56  hq9))))))) (fun _ => (wn_X11_isName_56  hq7))))))) (fun _ => (wn_X11_isName_56  hq5))))))) (fun _ => (wn_X11_isName_56  hq3)))))))))))
theorem wn_X11_fieldOf_3 {s : ST}    : ∀ (n : Nat) (x1 : Int32) (x2 : Int64) (x3 : Int32) (σ : ST), NUT s σ → PF st1 (NUT s) (f_X11_fieldOf_3  n x1 x2 x3 σ) := by
  intro n
  induction n with
  | zero => intro x1 x2 x3 σ h; rw [f_X11_fieldOf_3]; exact PF.none
  | succ n ih =>
    intro x1 x2 x3 σ h
    rw [f_X11_fieldOf_3]
    exact (PF.ite (fun _ => (PF.ite (fun _ => (PF.ret1 h)) (fun _ => (PF.ite (fun _ => (PF.ite (fun _ => (PF.ret1 h)) (fun _ => (ih _ _ _ _ h)))) (fun _ => PF.none))))) (fun _ => PF.none))
theorem wn_X11_fieldOf {s : ST} {p0 : Int32} {p1 : Int64} {σ : ST}   (h : NUT s σ) : PF st1 (NUT s) (f_X11_fieldOf p0 p1 σ) := by
  unfold f_X11_fieldOf
  exact (wn_X11_fieldOf_3  _ _ _ _ _ h)
theorem wn_X11_parts_85 {s : ST} {r_X11_items : Int32 → Int32 → Int32 → Int32 → ST → Option ((Int32 × ST) × Nat)} {r_X11_parts : Int32 → Int32 → Int32 → Int32 → ST → Option ((Int32 × ST) × Nat)} {r_X11_value : Int32 → Int32 → Int32 → Int32 → Int32 → ST → Option ((Int32 × ST) × Nat)} {σ : ST} (h_r_X11_items : ∀ (x1 : Int32) (x2 : Int32) (x3 : Int32) (x4 : Int32) (σ : ST), NUT s σ → PF st2 (NUT s) (r_X11_items x1 x2 x3 x4 σ)) (h_r_X11_parts : ∀ (x1 : Int32) (x2 : Int32) (x3 : Int32) (x4 : Int32) (σ : ST), NUT s σ → PF st2 (NUT s) (r_X11_parts x1 x2 x3 x4 σ)) (h_r_X11_value : ∀ (x1 : Int32) (x2 : Int32) (x3 : Int32) (x4 : Int32) (x5 : Int32) (σ : ST), NUT s σ → PF st2 (NUT s) (r_X11_value x1 x2 x3 x4 x5 σ))  (h : NUT s σ) : PF st2 (NUT s) (f_X11_parts_85 r_X11_items r_X11_parts r_X11_value σ) := by
  unfold f_X11_parts_85
  exact (PF.bnd (wn_X11_wrongHere  h) (fun q1 hq1 => (PF.ite (fun _ => (PF.ret2 hq1)) (fun _ => PF.none))))
theorem wn_X11_parts_139 {s : ST} {r_X11_items : Int32 → Int32 → Int32 → Int32 → ST → Option ((Int32 × ST) × Nat)} {r_X11_parts : Int32 → Int32 → Int32 → Int32 → ST → Option ((Int32 × ST) × Nat)} {r_X11_value : Int32 → Int32 → Int32 → Int32 → Int32 → ST → Option ((Int32 × ST) × Nat)} {k33 : Int32 → Int32 → Int32 → Int32 → Int32 → ST → Option ((Int32 × ST) × Nat)} {x1 : Int32} {x3 : Int32} {x4 : Int32} {x5 : Int32} {y0 : Int32} {σ : ST} (h_r_X11_items : ∀ (x1 : Int32) (x2 : Int32) (x3 : Int32) (x4 : Int32) (σ : ST), NUT s σ → PF st2 (NUT s) (r_X11_items x1 x2 x3 x4 σ)) (h_r_X11_parts : ∀ (x1 : Int32) (x2 : Int32) (x3 : Int32) (x4 : Int32) (σ : ST), NUT s σ → PF st2 (NUT s) (r_X11_parts x1 x2 x3 x4 σ)) (h_r_X11_value : ∀ (x1 : Int32) (x2 : Int32) (x3 : Int32) (x4 : Int32) (x5 : Int32) (σ : ST), NUT s σ → PF st2 (NUT s) (r_X11_value x1 x2 x3 x4 x5 σ)) (h_k33 : ∀ (x1 : Int32) (x2 : Int32) (x3 : Int32) (x4 : Int32) (x5 : Int32) (σ : ST), NUT s σ → PF st2 (NUT s) (k33 x1 x2 x3 x4 x5 σ))  (h : NUT s σ) : PF st2 (NUT s) (f_X11_parts_139 r_X11_items r_X11_parts r_X11_value k33 x1 x3 x4 x5 y0 σ) := by
  unfold f_X11_parts_139
  exact (PF.ite (fun _ => (h_k33 _ _ _ _ _ _ h)) (fun _ => (PF.bnd (wn_X11_go  h) (fun q1 hq1 => (h_k33 _ _ _ _ _ _ hq1)))))
theorem wn_X11_parts_33 {s : ST} {r_X11_items : Int32 → Int32 → Int32 → Int32 → ST → Option ((Int32 × ST) × Nat)} {r_X11_parts : Int32 → Int32 → Int32 → Int32 → ST → Option ((Int32 × ST) × Nat)} {r_X11_value : Int32 → Int32 → Int32 → Int32 → Int32 → ST → Option ((Int32 × ST) × Nat)} (h_r_X11_items : ∀ (x1 : Int32) (x2 : Int32) (x3 : Int32) (x4 : Int32) (σ : ST), NUT s σ → PF st2 (NUT s) (r_X11_items x1 x2 x3 x4 σ)) (h_r_X11_parts : ∀ (x1 : Int32) (x2 : Int32) (x3 : Int32) (x4 : Int32) (σ : ST), NUT s σ → PF st2 (NUT s) (r_X11_parts x1 x2 x3 x4 σ)) (h_r_X11_value : ∀ (x1 : Int32) (x2 : Int32) (x3 : Int32) (x4 : Int32) (x5 : Int32) (σ : ST), NUT s σ → PF st2 (NUT s) (r_X11_value x1 x2 x3 x4 x5 σ))  : ∀ (n : Nat) (x1 : Int32) (x2 : Int32) (x3 : Int32) (x4 : Int32) (x5 : Int32) (σ : ST), NUT s σ → PF st2 (NUT s) (f_X11_parts_33 r_X11_items r_X11_parts r_X11_value n x1 x2 x3 x4 x5 σ) := by
  intro n
  induction n with
  | zero => intro x1 x2 x3 x4 x5 σ h; rw [f_X11_parts_33]; exact PF.none
  | succ n ih =>
    intro x1 x2 x3 x4 x5 σ h
    rw [f_X11_parts_33]
    exact (PF.ite (fun _ => (PF.ite (fun _ => (wn_X11_parts_171 h_r_X11_items h_r_X11_parts h_r_X11_value _ _ _ _ _ h)) (fun _ => (PF.bnd (wn_X11_wrongHere  h) (fun q1 hq1 => (PF.ite (fun _ => (PF.ret2 hq1)) (fun _ => PF.none))))))) (fun _ => (PF.bnd (wn_X11_isName  h) (fun q3 hq3 => (PF.ac (PF.ite (fun _ => (PF.bnd (wn_X11_wrongHere  hq3) (fun q14 hq14 => (PF.ite (fun _ => (PF.ret2 hq14)) (fun _ => PF.none))))) (fun _ => (PF.bnd (wn_X11_fieldOf  hq3) (fun q5 hq5 => (PF.ite (fun _ => (wn_X11_parts_85 h_r_X11_items h_r_X11_parts h_r_X11_value hq5)) (fun _ => (PF.bnd (wn_X11_hasChild  hq5) (fun q7 hq7 => (PF.ite (fun _ => (PF.bnd (wn_X11_go  hq7) (fun q9 hq9 => (PF.ite (fun _ => (PF.bnd (h_r_X11_value _ _ _ _ _ _ hq9) (fun q12 hq12 => (PF.ac (PF.ite (fun _ => (PF.ret2 hq12)) (fun _ => (PF.ite (fun _ => (wn_X11_parts_139 h_r_X11_items h_r_X11_parts h_r_X11_value ih hq12)) (fun _ => (wn_X11_parts_139 h_r_X11_items h_r_X11_parts h_r_X11_value ih hq12))))))))) (fun _ => PF.none))))) (fun _ => (wn_X11_parts_85 h_r_X11_items h_r_X11_parts h_r_X11_value hq7))))))))))))))))
theorem wn_X11_parts_31 {s : ST} {r_X11_items : Int32 → Int32 → Int32 → Int32 → ST → Option ((Int32 × ST) × Nat)} {r_X11_parts : Int32 → Int32 → Int32 → Int32 → ST → Option ((Int32 × ST) × Nat)} {r_X11_value : Int32 → Int32 → Int32 → Int32 → Int32 → ST → Option ((Int32 × ST) × Nat)} {x1 : Int32} {x3 : Int32} {x4 : Int32} {x5 : Int32} {y0 : Int32} {σ : ST} (h_r_X11_items : ∀ (x1 : Int32) (x2 : Int32) (x3 : Int32) (x4 : Int32) (σ : ST), NUT s σ → PF st2 (NUT s) (r_X11_items x1 x2 x3 x4 σ)) (h_r_X11_parts : ∀ (x1 : Int32) (x2 : Int32) (x3 : Int32) (x4 : Int32) (σ : ST), NUT s σ → PF st2 (NUT s) (r_X11_parts x1 x2 x3 x4 σ)) (h_r_X11_value : ∀ (x1 : Int32) (x2 : Int32) (x3 : Int32) (x4 : Int32) (x5 : Int32) (σ : ST), NUT s σ → PF st2 (NUT s) (r_X11_value x1 x2 x3 x4 x5 σ))  (h : NUT s σ) : PF st2 (NUT s) (f_X11_parts_31 r_X11_items r_X11_parts r_X11_value x1 x3 x4 x5 y0 σ) := by
  unfold f_X11_parts_31
  exact (wn_X11_parts_33 h_r_X11_items h_r_X11_parts h_r_X11_value _ _ _ _ _ _ _ h)
theorem wn_X11_parts {s : ST} {r_X11_items : Int32 → Int32 → Int32 → Int32 → ST → Option ((Int32 × ST) × Nat)} {r_X11_parts : Int32 → Int32 → Int32 → Int32 → ST → Option ((Int32 × ST) × Nat)} {r_X11_value : Int32 → Int32 → Int32 → Int32 → Int32 → ST → Option ((Int32 × ST) × Nat)} {p0 : Int32} {p1 : Int32} {p2 : Int32} {p3 : Int32} {σ : ST} (h_r_X11_items : ∀ (x1 : Int32) (x2 : Int32) (x3 : Int32) (x4 : Int32) (σ : ST), NUT s σ → PF st2 (NUT s) (r_X11_items x1 x2 x3 x4 σ)) (h_r_X11_parts : ∀ (x1 : Int32) (x2 : Int32) (x3 : Int32) (x4 : Int32) (σ : ST), NUT s σ → PF st2 (NUT s) (r_X11_parts x1 x2 x3 x4 σ)) (h_r_X11_value : ∀ (x1 : Int32) (x2 : Int32) (x3 : Int32) (x4 : Int32) (x5 : Int32) (σ : ST), NUT s σ → PF st2 (NUT s) (r_X11_value x1 x2 x3 x4 x5 σ))  (h : NUT s σ) : PF st2 (NUT s) (f_X11_parts r_X11_items r_X11_parts r_X11_value p0 p1 p2 p3 σ) := by
  unfold f_X11_parts
  exact (PF.ite (fun _ => (PF.bnd (wn_X11_go  h) (fun q2 hq2 => (PF.ite (fun _ => (wn_X11_parts_31 h_r_X11_items h_r_X11_parts h_r_X11_value hq2)) (fun _ => (wn_X11_parts_31 h_r_X11_items h_r_X11_parts h_r_X11_value hq2)))))) (fun _ => PF.none))
theorem wn_X11_fits_75 {s : ST}  {σ : ST}   (h : NUT s σ) : PF st2 (NUT s) (f_X11_fits_75 σ) := by
  unfold f_X11_fits_75
  exact (PF.ret2 h)
theorem wn_X11_within {s : ST} {p0 : Int64} {p1 : Int64} {p2 : Int64} {σ : ST}   (h : NUT s σ) : PF st1 (NUT s) (f_X11_within p0 p1 p2 σ) := by
  unfold f_X11_within
  exact (PF.ite (fun _ => (PF.ret1 h)) (fun _ => (PF.ite (fun _ => (PF.ret1 h)) (fun _ => (PF.ret1 h)))))
theorem wn_X11_fits {s : ST} {p0 : Int32} {σ : ST}   (h : NUT s σ) : PF st2 (NUT s) (f_X11_fits p0 σ) := by
  unfold f_X11_fits
  exact (PF.ite (fun _ => (PF.ite (fun _ => (PF.bnd (wn_X11_sortHere  h) (fun q9 hq9 => (PF.ac (PF.ite (fun _ => (PF.ret2 hq9)) (fun _ => (PF.ret2 hq9))))))) (fun _ => (PF.ite (fun _ => (PF.bnd (wn_X11_isYes  h) (fun q11 hq11 => (PF.ac (PF.ite (fun _ => (PF.bnd (wn_X11_isNo  hq11) (fun q13 hq13 => (PF.ac (PF.ite (fun _ => (PF.ret2 hq13)) (fun _ => (wn_X11_fits_75  hq13))))))) (fun _ => (wn_X11_fits_75  hq11))))))) (fun _ => (PF.ite (fun _ => (PF.ite (fun _ => (PF.ite (fun _ => (PF.bnd (wn_X11_within  h) (fun q15 hq15 => (PF.ite (fun _ => (PF.ret2 hq15)) (fun _ => (PF.ret2 hq15)))))) (fun _ => (PF.ret2 h)))) (fun _ => (PF.ret2 h)))) (fun _ => (PF.ite (fun _ => (PF.ite (fun _ => (PF.ite (fun _ => (PF.ret2 h)) (fun _ => (PF.ret2 h)))) (fun _ => (PF.ret2 h)))) (fun _ => (PF.ite (fun _ => (PF.ite (fun _ => (PF.ret2 h)) (fun _ => (PF.ret2 h)))) (fun _ => (PF.ite (fun _ => (PF.ite (fun _ => (PF.ret2 h)) (fun _ => (PF.ret2 h)))) (fun _ => (PF.ite (fun _ => (PF.ite (fun _ => (PF.ret2 h)) (fun _ => (PF.ret2 h)))) (fun _ => (PF.ite (fun _ => (PF.ite (fun _ => (PF.ret2 h)) (fun _ => (PF.ret2 h)))) (fun _ => (PF.ret2 h)))))))))))))))))) (fun _ => PF.none))
theorem wn_X11_branchFor_2 {s : ST}    : ∀ (n : Nat) (x1 : Int32) (x2 : Int32) (σ : ST), NUT s σ → PF st2 (NUT s) (f_X11_branchFor_2  n x1 x2 σ) := by
  intro n
  induction n with
  | zero => intro x1 x2 σ h; rw [f_X11_branchFor_2]; exact PF.none
  | succ n ih =>
    intro x1 x2 σ h
    rw [f_X11_branchFor_2]
    exact (PF.ite (fun _ => (PF.ite (fun _ => (PF.ret2 h)) (fun _ => (PF.ite (fun _ => (PF.bnd (wn_X11_fits  h) (fun q3 hq3 => (PF.ac (PF.ite (fun _ => (ih _ _ _ hq3)) (fun _ => (PF.ret2 hq3))))))) (fun _ => PF.none))))) (fun _ => PF.none))
theorem wn_X11_branchFor {s : ST} {p0 : Int32} {σ : ST}   (h : NUT s σ) : PF st2 (NUT s) (f_X11_branchFor p0 σ) := by
  unfold f_X11_branchFor
  exact (wn_X11_branchFor_2  _ _ _ _ h)
theorem wn_X11_isLiteral_46 {s : ST}  {σ : ST}   (h : NUT s σ) : PF st2 (NUT s) (f_X11_isLiteral_46 σ) := by
  unfold f_X11_isLiteral_46
  exact (PF.ret2 h)
theorem wn_X11_isLiteral {s : ST}  {σ : ST}   (h : NUT s σ) : PF st2 (NUT s) (f_X11_isLiteral σ) := by
  unfold f_X11_isLiteral
  exact (PF.bnd (wn_X11_sortHere  h) (fun q1 hq1 => (PF.ac (PF.ite (fun _ => (wn_X11_isLiteral_46  hq1)) (fun _ => (PF.bnd (wn_X11_isYes  hq1) (fun q3 hq3 => (PF.ac (PF.ite (fun _ => (PF.bnd (wn_X11_isNo  hq3) (fun q5 hq5 => (PF.ac (PF.ite (fun _ => (PF.ite (fun _ => (wn_X11_isLiteral_46  hq5)) (fun _ => (PF.ite (fun _ => (wn_X11_isLiteral_46  hq5)) (fun _ => (PF.ite (fun _ => (wn_X11_isLiteral_46  hq5)) (fun _ => (PF.ret2 hq5)))))))) (fun _ => (wn_X11_isLiteral_46  hq5))))))) (fun _ => (wn_X11_isLiteral_46  hq3)))))))))))
theorem wn_X11_isValue_16 {s : ST}  {σ : ST}   (h : NUT s σ) : PF st2 (NUT s) (f_X11_isValue_16 σ) := by
  unfold f_X11_isValue_16
  exact (PF.ret2 h)
theorem wn_X11_isValue {s : ST}  {σ : ST}   (h : NUT s σ) : PF st2 (NUT s) (f_X11_isValue σ) := by
  unfold f_X11_isValue
  exact (PF.bnd (wn_X11_isLiteral  h) (fun q1 hq1 => (PF.ac (PF.ite (fun _ => (PF.ite (fun _ => (wn_X11_isValue_16  hq1)) (fun _ => (PF.ret2 hq1)))) (fun _ => (wn_X11_isValue_16  hq1))))))
theorem wn_Jxe99ae_isNaN_b9ae7 {s : ST} {p0 : UInt64} {σ : ST}   (h : NUT s σ) : PF st1 (NUT s) (f_Jxe99ae_isNaN_b9ae7 p0 σ) := by
  unfold f_Jxe99ae_isNaN_b9ae7
  exact (PF.ite (fun _ => (PF.ret1 h)) (fun _ => (PF.ret1 h)))
theorem wn_Jxe99ae_doubleToLongBits_ccdee {s : ST} {p0 : UInt64} {σ : ST}   (h : NUT s σ) : PF st1 (NUT s) (f_Jxe99ae_doubleToLongBits_ccdee p0 σ) := by
  unfold f_Jxe99ae_doubleToLongBits_ccdee
  exact (PF.bnd (wn_Jxe99ae_isNaN_b9ae7  h) (fun q1 hq1 => (PF.ite (fun _ => (PF.ret1 hq1)) (fun _ => (PF.ret1 hq1)))))
theorem wn_X11_bitsOf_31 {s : ST} {y0 : UInt64} {σ : ST}   (h : NUT s σ) : PF st2 (NUT s) (f_X11_bitsOf_31 y0 σ) := by
  unfold f_X11_bitsOf_31
  exact (PF.bnd (wn_Jxe99ae_doubleToLongBits_ccdee  h) (fun q1 hq1 => (PF.ret2 hq1)))
theorem wn_X11_bitsOf_65 {s : ST}  {σ : ST}   (h : NUT s σ) : PF st2 (NUT s) (f_X11_bitsOf_65 σ) := by
  unfold f_X11_bitsOf_65
  exact (PF.ret2 h)
theorem wn_X11_bitsOf {s : ST} {p0 : Int32} {σ : ST}   (h : NUT s σ) : PF st2 (NUT s) (f_X11_bitsOf p0 σ) := by
  unfold f_X11_bitsOf
  exact (PF.ite (fun _ => (PF.ite (fun _ => (PF.ite (fun _ => (wn_X11_bitsOf_31  h)) (fun _ => (wn_X11_bitsOf_31  h)))) (fun _ => (PF.ite (fun _ => (PF.bnd (wn_X11_isYes  h) (fun q2 hq2 => (PF.ac (PF.ite (fun _ => (PF.ret2 hq2)) (fun _ => (PF.ret2 hq2))))))) (fun _ => (PF.ite (fun _ => (wn_X11_bitsOf_65  h)) (fun _ => (PF.ite (fun _ => (wn_X11_bitsOf_65  h)) (fun _ => (PF.ret2 h)))))))))) (fun _ => PF.none))
theorem wn_X11_value_247 {s : ST} {r_X11_items : Int32 → Int32 → Int32 → Int32 → ST → Option ((Int32 × ST) × Nat)} {r_X11_parts : Int32 → Int32 → Int32 → Int32 → ST → Option ((Int32 × ST) × Nat)} {r_X11_value : Int32 → Int32 → Int32 → Int32 → Int32 → ST → Option ((Int32 × ST) × Nat)} {y0 : Int32} {y1 : Int32} {σ : ST} (h_r_X11_items : ∀ (x1 : Int32) (x2 : Int32) (x3 : Int32) (x4 : Int32) (σ : ST), NUT s σ → PF st2 (NUT s) (r_X11_items x1 x2 x3 x4 σ)) (h_r_X11_parts : ∀ (x1 : Int32) (x2 : Int32) (x3 : Int32) (x4 : Int32) (σ : ST), NUT s σ → PF st2 (NUT s) (r_X11_parts x1 x2 x3 x4 σ)) (h_r_X11_value : ∀ (x1 : Int32) (x2 : Int32) (x3 : Int32) (x4 : Int32) (x5 : Int32) (σ : ST), NUT s σ → PF st2 (NUT s) (r_X11_value x1 x2 x3 x4 x5 σ))  (h : NUT s σ) : PF st2 (NUT s) (f_X11_value_247 r_X11_items r_X11_parts r_X11_value y0 y1 σ) := by
  unfold f_X11_value_247
  exact (PF.ite (fun _ => (PF.bnd (wn_X11_go  (NUT.i (by omega) h)) (fun q2 hq2 => (PF.ret2 hq2)))) (fun _ => PF.none))
theorem wn_X11_value_221 {s : ST} {r_X11_items : Int32 → Int32 → Int32 → Int32 → ST → Option ((Int32 × ST) × Nat)} {r_X11_parts : Int32 → Int32 → Int32 → Int32 → ST → Option ((Int32 × ST) × Nat)} {r_X11_value : Int32 → Int32 → Int32 → Int32 → Int32 → ST → Option ((Int32 × ST) × Nat)} {x7 : Int32} {x9 : Int32} {y0 : Int64} {y1 : Int32} {σ : ST} (h_r_X11_items : ∀ (x1 : Int32) (x2 : Int32) (x3 : Int32) (x4 : Int32) (σ : ST), NUT s σ → PF st2 (NUT s) (r_X11_items x1 x2 x3 x4 σ)) (h_r_X11_parts : ∀ (x1 : Int32) (x2 : Int32) (x3 : Int32) (x4 : Int32) (σ : ST), NUT s σ → PF st2 (NUT s) (r_X11_parts x1 x2 x3 x4 σ)) (h_r_X11_value : ∀ (x1 : Int32) (x2 : Int32) (x3 : Int32) (x4 : Int32) (x5 : Int32) (σ : ST), NUT s σ → PF st2 (NUT s) (r_X11_value x1 x2 x3 x4 x5 σ))  (h : NUT s σ) : PF st2 (NUT s) (f_X11_value_221 r_X11_items r_X11_parts r_X11_value x7 x9 y0 y1 σ) := by
  unfold f_X11_value_221
  exact (PF.ite (fun _ => (PF.ite (fun _ => (PF.ite (fun _ => (wn_X11_value_247 h_r_X11_items h_r_X11_parts h_r_X11_value (NUT.l (.inl trivial) h))) (fun _ => (wn_X11_value_247 h_r_X11_items h_r_X11_parts h_r_X11_value (NUT.l (.inl trivial) h))))) (fun _ => PF.none))) (fun _ => PF.none))
theorem wn_X11_value_104 {s : ST} {r_X11_items : Int32 → Int32 → Int32 → Int32 → ST → Option ((Int32 × ST) × Nat)} {r_X11_parts : Int32 → Int32 → Int32 → Int32 → ST → Option ((Int32 × ST) × Nat)} {r_X11_value : Int32 → Int32 → Int32 → Int32 → Int32 → ST → Option ((Int32 × ST) × Nat)} {x1 : Int32} {x3 : Int32} {x4 : Int32} {x5 : Int32} {x6 : Int32} {x7 : Int32} {y0 : Int32} {σ : ST} (h_r_X11_items : ∀ (x1 : Int32) (x2 : Int32) (x3 : Int32) (x4 : Int32) (σ : ST), NUT s σ → PF st2 (NUT s) (r_X11_items x1 x2 x3 x4 σ)) (h_r_X11_parts : ∀ (x1 : Int32) (x2 : Int32) (x3 : Int32) (x4 : Int32) (σ : ST), NUT s σ → PF st2 (NUT s) (r_X11_parts x1 x2 x3 x4 σ)) (h_r_X11_value : ∀ (x1 : Int32) (x2 : Int32) (x3 : Int32) (x4 : Int32) (x5 : Int32) (σ : ST), NUT s σ → PF st2 (NUT s) (r_X11_value x1 x2 x3 x4 x5 σ))  (h : NUT s σ) : PF st2 (NUT s) (f_X11_value_104 r_X11_items r_X11_parts r_X11_value x1 x3 x4 x5 x6 x7 y0 σ) := by
  unfold f_X11_value_104
  exact (PF.ite (fun _ => (PF.ite (fun _ => (PF.bnd (wn_X11_laysNode  h) (fun q2 hq2 => (PF.ite (fun _ => (PF.bnd (h_r_X11_items _ _ _ _ _ hq2) (fun q9 hq9 => (PF.ac (PF.ite (fun _ => (PF.ret2 hq9)) (fun _ => PF.none)))))) (fun _ => (PF.ite (fun _ => (PF.bnd (h_r_X11_parts _ _ _ _ _ hq2) (fun q7 hq7 => (PF.ac (PF.ite (fun _ => (PF.ret2 hq7)) (fun _ => PF.none)))))) (fun _ => (PF.bnd (wn_X11_bitsOf  hq2) (fun q4 hq4 => (PF.ac (PF.ite (fun _ => (PF.ite (fun _ => (wn_X11_value_221 h_r_X11_items h_r_X11_parts h_r_X11_value (NUT.l (.inl trivial) hq4))) (fun _ => (wn_X11_value_221 h_r_X11_items h_r_X11_parts h_r_X11_value (NUT.l (.inl trivial) hq4))))) (fun _ => PF.none)))))))))))) (fun _ => PF.none))) (fun _ => (PF.bnd (wn_X11_wrongHere  h) (fun q11 hq11 => (PF.ite (fun _ => (PF.ret2 hq11)) (fun _ => PF.none))))))
theorem wn_X11_value_99 {s : ST} {r_X11_items : Int32 → Int32 → Int32 → Int32 → ST → Option ((Int32 × ST) × Nat)} {r_X11_parts : Int32 → Int32 → Int32 → Int32 → ST → Option ((Int32 × ST) × Nat)} {r_X11_value : Int32 → Int32 → Int32 → Int32 → Int32 → ST → Option ((Int32 × ST) × Nat)} {x1 : Int32} {x3 : Int32} {x4 : Int32} {x5 : Int32} {x6 : Int32} {x7 : Int32} {σ : ST} (h_r_X11_items : ∀ (x1 : Int32) (x2 : Int32) (x3 : Int32) (x4 : Int32) (σ : ST), NUT s σ → PF st2 (NUT s) (r_X11_items x1 x2 x3 x4 σ)) (h_r_X11_parts : ∀ (x1 : Int32) (x2 : Int32) (x3 : Int32) (x4 : Int32) (σ : ST), NUT s σ → PF st2 (NUT s) (r_X11_parts x1 x2 x3 x4 σ)) (h_r_X11_value : ∀ (x1 : Int32) (x2 : Int32) (x3 : Int32) (x4 : Int32) (x5 : Int32) (σ : ST), NUT s σ → PF st2 (NUT s) (r_X11_value x1 x2 x3 x4 x5 σ))  (h : NUT s σ) : PF st2 (NUT s) (f_X11_value_99 r_X11_items r_X11_parts r_X11_value x1 x3 x4 x5 x6 x7 σ) := by
  unfold f_X11_value_99
  exact (wn_X11_value_104 h_r_X11_items h_r_X11_parts h_r_X11_value h)
theorem wn_X11_value_103 {s : ST} {r_X11_items : Int32 → Int32 → Int32 → Int32 → ST → Option ((Int32 × ST) × Nat)} {r_X11_parts : Int32 → Int32 → Int32 → Int32 → ST → Option ((Int32 × ST) × Nat)} {r_X11_value : Int32 → Int32 → Int32 → Int32 → Int32 → ST → Option ((Int32 × ST) × Nat)} {x1 : Int32} {x3 : Int32} {x4 : Int32} {x5 : Int32} {x6 : Int32} {x7 : Int32} {σ : ST} (h_r_X11_items : ∀ (x1 : Int32) (x2 : Int32) (x3 : Int32) (x4 : Int32) (σ : ST), NUT s σ → PF st2 (NUT s) (r_X11_items x1 x2 x3 x4 σ)) (h_r_X11_parts : ∀ (x1 : Int32) (x2 : Int32) (x3 : Int32) (x4 : Int32) (σ : ST), NUT s σ → PF st2 (NUT s) (r_X11_parts x1 x2 x3 x4 σ)) (h_r_X11_value : ∀ (x1 : Int32) (x2 : Int32) (x3 : Int32) (x4 : Int32) (x5 : Int32) (σ : ST), NUT s σ → PF st2 (NUT s) (r_X11_value x1 x2 x3 x4 x5 σ))  (h : NUT s σ) : PF st2 (NUT s) (f_X11_value_103 r_X11_items r_X11_parts r_X11_value x1 x3 x4 x5 x6 x7 σ) := by
  unfold f_X11_value_103
  exact (wn_X11_value_104 h_r_X11_items h_r_X11_parts h_r_X11_value h)
theorem wn_X11_value_42 {s : ST} {r_X11_items : Int32 → Int32 → Int32 → Int32 → ST → Option ((Int32 × ST) × Nat)} {r_X11_parts : Int32 → Int32 → Int32 → Int32 → ST → Option ((Int32 × ST) × Nat)} {r_X11_value : Int32 → Int32 → Int32 → Int32 → Int32 → ST → Option ((Int32 × ST) × Nat)} {x1 : Int32} {x3 : Int32} {x4 : Int32} {x5 : Int32} {x6 : Int32} {y0 : Int32} {σ : ST} (h_r_X11_items : ∀ (x1 : Int32) (x2 : Int32) (x3 : Int32) (x4 : Int32) (σ : ST), NUT s σ → PF st2 (NUT s) (r_X11_items x1 x2 x3 x4 σ)) (h_r_X11_parts : ∀ (x1 : Int32) (x2 : Int32) (x3 : Int32) (x4 : Int32) (σ : ST), NUT s σ → PF st2 (NUT s) (r_X11_parts x1 x2 x3 x4 σ)) (h_r_X11_value : ∀ (x1 : Int32) (x2 : Int32) (x3 : Int32) (x4 : Int32) (x5 : Int32) (σ : ST), NUT s σ → PF st2 (NUT s) (r_X11_value x1 x2 x3 x4 x5 σ))  (h : NUT s σ) : PF st2 (NUT s) (f_X11_value_42 r_X11_items r_X11_parts r_X11_value x1 x3 x4 x5 x6 y0 σ) := by
  unfold f_X11_value_42
  exact (PF.bnd (wn_X11_isValue  h) (fun q1 hq1 => (PF.ac (PF.ite (fun _ => (wn_X11_value_104 h_r_X11_items h_r_X11_parts h_r_X11_value hq1)) (fun _ => (PF.bnd (wn_X11_fits  hq1) (fun q3 hq3 => (PF.ac (PF.ite (fun _ => (wn_X11_value_104 h_r_X11_items h_r_X11_parts h_r_X11_value hq3)) (fun _ => (PF.ite (fun _ => (wn_X11_value_99 h_r_X11_items h_r_X11_parts h_r_X11_value hq3)) (fun _ => (PF.ite (fun _ => (wn_X11_value_103 h_r_X11_items h_r_X11_parts h_r_X11_value hq3)) (fun _ => (PF.ite (fun _ => (wn_X11_value_103 h_r_X11_items h_r_X11_parts h_r_X11_value hq3)) (fun _ => (PF.ite (fun _ => (PF.ite (fun _ => (wn_X11_value_99 h_r_X11_items h_r_X11_parts h_r_X11_value hq3)) (fun _ => (wn_X11_value_103 h_r_X11_items h_r_X11_parts h_r_X11_value hq3)))) (fun _ => PF.none))))))))))))))))))
theorem wn_X11_value_20 {s : ST} {r_X11_items : Int32 → Int32 → Int32 → Int32 → ST → Option ((Int32 × ST) × Nat)} {r_X11_parts : Int32 → Int32 → Int32 → Int32 → ST → Option ((Int32 × ST) × Nat)} {r_X11_value : Int32 → Int32 → Int32 → Int32 → Int32 → ST → Option ((Int32 × ST) × Nat)} {x1 : Int32} {x2 : Int32} {x3 : Int32} {x4 : Int32} {x5 : Int32} {y0 : Int32} {σ : ST} (h_r_X11_items : ∀ (x1 : Int32) (x2 : Int32) (x3 : Int32) (x4 : Int32) (σ : ST), NUT s σ → PF st2 (NUT s) (r_X11_items x1 x2 x3 x4 σ)) (h_r_X11_parts : ∀ (x1 : Int32) (x2 : Int32) (x3 : Int32) (x4 : Int32) (σ : ST), NUT s σ → PF st2 (NUT s) (r_X11_parts x1 x2 x3 x4 σ)) (h_r_X11_value : ∀ (x1 : Int32) (x2 : Int32) (x3 : Int32) (x4 : Int32) (x5 : Int32) (σ : ST), NUT s σ → PF st2 (NUT s) (r_X11_value x1 x2 x3 x4 x5 σ))  (h : NUT s σ) : PF st2 (NUT s) (f_X11_value_20 r_X11_items r_X11_parts r_X11_value x1 x2 x3 x4 x5 y0 σ) := by
  unfold f_X11_value_20
  exact (PF.ite (fun _ => (PF.ite (fun _ => (wn_X11_value_42 h_r_X11_items h_r_X11_parts h_r_X11_value h)) (fun _ => PF.none))) (fun _ => (wn_X11_value_42 h_r_X11_items h_r_X11_parts h_r_X11_value h)))
theorem wn_X11_value {s : ST} {r_X11_items : Int32 → Int32 → Int32 → Int32 → ST → Option ((Int32 × ST) × Nat)} {r_X11_parts : Int32 → Int32 → Int32 → Int32 → ST → Option ((Int32 × ST) × Nat)} {r_X11_value : Int32 → Int32 → Int32 → Int32 → Int32 → ST → Option ((Int32 × ST) × Nat)} {p0 : Int32} {p1 : Int32} {p2 : Int32} {p3 : Int32} {p4 : Int32} {σ : ST} (h_r_X11_items : ∀ (x1 : Int32) (x2 : Int32) (x3 : Int32) (x4 : Int32) (σ : ST), NUT s σ → PF st2 (NUT s) (r_X11_items x1 x2 x3 x4 σ)) (h_r_X11_parts : ∀ (x1 : Int32) (x2 : Int32) (x3 : Int32) (x4 : Int32) (σ : ST), NUT s σ → PF st2 (NUT s) (r_X11_parts x1 x2 x3 x4 σ)) (h_r_X11_value : ∀ (x1 : Int32) (x2 : Int32) (x3 : Int32) (x4 : Int32) (x5 : Int32) (σ : ST), NUT s σ → PF st2 (NUT s) (r_X11_value x1 x2 x3 x4 x5 σ))  (h : NUT s σ) : PF st2 (NUT s) (f_X11_value r_X11_items r_X11_parts r_X11_value p0 p1 p2 p3 p4 σ) := by
  unfold f_X11_value
  exact (PF.ite (fun _ => (PF.ite (fun _ => (PF.bnd (wn_X11_branchFor  h) (fun q2 hq2 => (PF.ac (wn_X11_value_20 h_r_X11_items h_r_X11_parts h_r_X11_value hq2))))) (fun _ => (wn_X11_value_20 h_r_X11_items h_r_X11_parts h_r_X11_value h)))) (fun _ => PF.none))
theorem wnR_X11_items {s : ST} : ∀ n : Nat, (∀ (p0 : Int32) (p1 : Int32) (p2 : Int32) (p3 : Int32) (σ : ST), NUT s σ → PF st2 (NUT s) ((R_X11_items n).1 p0 p1 p2 p3 σ)) ∧ (∀ (p0 : Int32) (p1 : Int32) (p2 : Int32) (p3 : Int32) (σ : ST), NUT s σ → PF st2 (NUT s) ((R_X11_items n).2.1 p0 p1 p2 p3 σ)) ∧ (∀ (p0 : Int32) (p1 : Int32) (p2 : Int32) (p3 : Int32) (p4 : Int32) (σ : ST), NUT s σ → PF st2 (NUT s) ((R_X11_items n).2.2 p0 p1 p2 p3 p4 σ)) := by
  intro n
  induction n with
  | zero => exact ⟨fun _ _ _ _ _ _ => PF.none, fun _ _ _ _ _ _ => PF.none, fun _ _ _ _ _ _ _ => PF.none⟩
  | succ n ih => exact ⟨fun _ _ _ _ _ h => wn_X11_items (ih.1) (ih.2.1) (ih.2.2)  h, fun _ _ _ _ _ h => wn_X11_parts (ih.1) (ih.2.1) (ih.2.2)  h, fun _ _ _ _ _ _ h => wn_X11_value (ih.1) (ih.2.1) (ih.2.2)  h⟩
theorem wn_T_X11_value {s : ST} {p0 : Int32} {p1 : Int32} {p2 : Int32} {p3 : Int32} {p4 : Int32} {σ : ST} (h : NUT s σ) : PF st2 (NUT s) (f_T_X11_value p0 p1 p2 p3 p4 σ) := (wnR_X11_items FRB).2.2 _ _ _ _ _ _  h
