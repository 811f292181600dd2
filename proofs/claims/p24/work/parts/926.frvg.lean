/-! what a value's text leaves alone (wip/st5/frames8.py) -/
/-- the class's: all but its token and the tree that is being told -/
def KVA (s σ : ST) : Prop := (∀ c, c ≠ 2 → (c < 62 ∨ 71 < c) → σ.1 c = s.1 c) ∧ (σ.1 2 2 = s.1 2 2 ∧ ∀ i, i ≠ 1 → σ.1 62 i = s.1 62 i) ∧ (∀ c, c ≠ 2 → c ≠ 68 → σ.2.1 c = s.2.1 c) ∧ σ.2.2 = s.2.2
theorem KVA.rf {s : ST} : KVA s s := ⟨fun _ _ _ => rfl, ⟨rfl, fun _ _ => rfl⟩, fun _ _ _ => rfl, rfl⟩
theorem KVA.trans {s σ u : ST} (h : KVA s σ) (k : KVA σ u) : KVA s u := ⟨fun c a d => (k.1 c a d).trans (h.1 c a d), ⟨k.2.1.1.trans h.2.1.1, fun i a => (k.2.1.2 i a).trans (h.2.1.2 i a)⟩, fun c a d => (k.2.2.1 c a d).trans (h.2.2.1 c a d), k.2.2.2.trans h.2.2.2⟩
theorem KVA.i {s σ : ST} {c i : Nat} {v : Int32} (hc : c = 2 ∧ i ≠ 2 ∨ 62 ≤ c ∧ c ≤ 71 ∧ (c = 62 → i = 1)) (h : KVA s σ) : KVA s (stI σ c i v) := by
  refine ⟨fun d h1 h2 => ?_, ⟨?_, fun j hj => ?_⟩, h.2.2⟩
  · rw [stI_ne (by omega)]
    exact h.1 d h1 h2
  · by_cases e : c = 2
    · subst e
      rw [stI_at, upN (by omega)]
      exact h.2.1.1
    · rw [stI_ne (fun h => e h.symm)]
      exact h.2.1.1
  · by_cases e : c = 62
    · subst e
      rw [stI_at, upN (by omega)]
      exact h.2.1.2 j hj
    · rw [stI_ne (fun h => e h.symm)]
      exact h.2.1.2 j hj
theorem KVA.l {s σ : ST} {c i : Nat} {v : Int64} (hc : c = 2 ∨ c = 68) (h : KVA s σ) : KVA s (stL σ c i v) := by
  refine ⟨h.1, h.2.1, fun d h1 h2 => ?_, h.2.2.2⟩
  rw [stL_ne (by omega)]
  exact h.2.2.1 d h1 h2
/-- the reference's -/
def KVB (s σ : ST) : Prop := (∀ c, c ≠ 0 → c ≠ 20 → (c < 23 ∨ 30 < c) → σ.1 c = s.1 c) ∧ (∀ i, i ≠ 4 → i ≠ 5 → i ≠ 6 → i ≠ 8 → i ≠ 10 → i ≠ 12 → i ≠ 13 → i ≠ 46 → σ.1 0 i = s.1 0 i) ∧ (∀ c, c ≠ 0 → c ≠ 21 → c ≠ 22 → σ.2.1 c = s.2.1 c)
theorem KVB.rf {s : ST} : KVB s s := ⟨fun _ _ _ _ => rfl, fun _ _ _ _ _ _ _ _ _ => rfl, fun _ _ _ _ => rfl⟩
theorem KVB.trans {s σ u : ST} (h : KVB s σ) (k : KVB σ u) : KVB s u := ⟨fun c a d e => (k.1 c a d e).trans (h.1 c a d e), fun i a b c d e f g j => (k.2.1 i a b c d e f g j).trans (h.2.1 i a b c d e f g j), fun c a d e => (k.2.2 c a d e).trans (h.2.2 c a d e)⟩
theorem KVB.i {s σ : ST} {c i : Nat} {v : Int32} (hc : c = 20 ∨ 23 ≤ c ∧ c ≤ 30 ∨ c = 0 ∧ (i = 4 ∨ i = 5 ∨ i = 6 ∨ i = 8 ∨ i = 10 ∨ i = 12 ∨ i = 13 ∨ i = 46)) (h : KVB s σ) : KVB s (stI σ c i v) := by
  refine ⟨fun d h1 h2 h3 => ?_, fun j a b d e f g k l => ?_, h.2.2⟩
  · rw [stI_ne (by omega)]
    exact h.1 d h1 h2 h3
  · by_cases e : c = 0
    · subst e
      rw [stI_at, upN (by omega)]
      exact h.2.1 j a b d ‹_› f g k l
    · rw [stI_ne (fun h => e h.symm)]
      exact h.2.1 j a b d ‹_› f g k l
theorem KVB.l {s σ : ST} {c i : Nat} {v : Int64} (hc : c = 0 ∨ c = 21 ∨ c = 22) (h : KVB s σ) : KVB s (stL σ c i v) := by
  refine ⟨h.1, h.2.1, fun d h1 h2 h3 => ?_⟩
  rw [stL_ne (by omega)]
  exact h.2.2 d h1 h2 h3
theorem KVB.d {s σ : ST} {c i : Nat} {v : UInt64} (h : KVB s σ) : KVB s (stD σ c i v) := h
theorem wv_X11_spelt {s : ST} {p0 p1 p2 p3 p4 p5 : Int32} {σ : ST} (h : KVB s σ) : PF st2 (KVB s) (f_X11_spelt p0 p1 p2 p3 p4 p5 σ) := by
  unfold f_X11_spelt
  intro q e
  obtain ⟨r, e1, e2⟩ := bnd_some e
  cases e2
  exact h
/-- the text that is left doesn't grow -/
def NUT (s σ : ST) : Prop := TX s → TX σ ∧ uT σ ≤ uT s
theorem NUT.rf {s : ST} : NUT s s := fun h => ⟨h, Nat.le_refl _⟩
theorem NUT.trans {s σ u : ST} (h : NUT s σ) (k : NUT σ u) : NUT s u := fun hx => ⟨(k (h hx).1).1, Nat.le_trans (k (h hx).1).2 (h hx).2⟩
theorem NUT.eq {s σ t : ST} (h : NUT s σ) (e3 : t.1 0 3 = σ.1 0 3) (e5 : t.1 0 5 = σ.1 0 5) (e6 : t.1 0 6 = σ.1 0 6) (e8 : t.1 0 8 = σ.1 0 8) (e13 : t.1 0 13 = σ.1 0 13) : NUT s t := fun hx => by
  obtain ⟨h1, h2⟩ := h hx
  obtain ⟨k1, k2⟩ := TX.of (t := t) h1 e3 e5 e6 e8 e13
  exact ⟨k1, by omega⟩
theorem NUT.i {s σ : ST} {c i : Nat} {v : Int32} (hc : ¬ c = 0 ∨ ¬ (i = 3 ∨ i = 5 ∨ i = 6 ∨ i = 8 ∨ i = 13)) (h : NUT s σ) : NUT s (stI σ c i v) := by
  by_cases e : c = 0
  · subst e
    refine h.eq ?_ ?_ ?_ ?_ ?_ <;> (rw [stI_at, upN (by omega)])
  · refine h.eq ?_ ?_ ?_ ?_ ?_ <;> (rw [stI_ne (fun h => e h.symm)])
theorem NUT.l {s σ : ST} {c i : Nat} {v : Int64} (hc : True ∨ c = 0) (h : NUT s σ) : NUT s (stL σ c i v) := h.eq rfl rfl rfl rfl rfl
theorem NUT.d {s σ : ST} {c i : Nat} {v : UInt64} (h : NUT s σ) : NUT s (stD σ c i v) := h
theorem wn_X11_go {s σ : ST} (h : NUT s σ) : PF st0 (NUT s) (f_X11_go σ) := fun q e hx => by
  obtain ⟨h1, h2⟩ := h hx
  obtain ⟨z, e2, hz⟩ := b_goT σ h1
  rw [e] at e2
  cases e2
  have := uT_le (σ := σ)
  exact ⟨hz.2.1, by have := hz.2.2; show uT q ≤ uT s; omega⟩
theorem wn_X11_spelt {s : ST} {p0 p1 p2 p3 p4 p5 : Int32} {σ : ST} (h : NUT s σ) : PF st2 (NUT s) (f_X11_spelt p0 p1 p2 p3 p4 p5 σ) := by
  unfold f_X11_spelt
  intro q e
  obtain ⟨r, e1, e2⟩ := bnd_some e
  cases e2
  exact h
theorem wv_X5_isRecord {s : ST} {p0 : Int32} {σ : ST}   (h : KVA s σ) : PF st1 (KVA s) (f_X5_isRecord p0 σ) := by
  unfold f_X5_isRecord
  exact (PF.ite (fun _ => (PF.ret1 h)) (fun _ => (PF.ite (fun _ => (PF.ret1 h)) (fun _ => (PF.ret1 h)))))
theorem wv_X5_fieldsOf {s : ST} {b : Nat} {p0 : Int32} {σ : ST}   (h : KVA s σ) : PF st1 (KVA s) (f_X5_fieldsOf b p0 σ) := by
  unfold f_X5_fieldsOf
  exact (PF.bnd (wv_X5_isRecord  h) (fun q1 hq1 => (PF.ite (fun _ => (PF.ret1 hq1)) (fun _ => (PF.ite (fun _ => (PF.ret1 hq1)) (fun _ => PF.none))))))
theorem wv_X6_signAt {s : ST} {p0 : Int32} {σ : ST}   (h : KVA s σ) : PF st1 (KVA s) (f_X6_signAt p0 σ) := by
  unfold f_X6_signAt
  exact (PF.ite (fun _ => (PF.ret1 h)) (fun _ => (PF.ite (fun _ => (PF.ret1 h)) (fun _ => (PF.ite (fun _ => (PF.ret1 h)) (fun _ => (PF.ite (fun _ => (PF.ret1 h)) (fun _ => PF.none))))))))
theorem wv_X6_isLetter {s : ST} {p0 : Int32} {σ : ST}   (h : KVA s σ) : PF st1 (KVA s) (f_X6_isLetter p0 σ) := by
  unfold f_X6_isLetter
  exact (PF.ite (fun _ => (PF.ret1 h)) (fun _ => (PF.ite (fun _ => (PF.ret1 h)) (fun _ => (PF.ret1 h)))))
theorem wv_X6_isDigit {s : ST} {p0 : Int32} {σ : ST}   (h : KVA s σ) : PF st1 (KVA s) (f_X6_isDigit p0 σ) := by
  unfold f_X6_isDigit
  exact (PF.ite (fun _ => (PF.ret1 h)) (fun _ => (PF.ite (fun _ => (PF.ret1 h)) (fun _ => (PF.ret1 h)))))
theorem wv_X6_scanNumber_189 {s : ST} {x1 : Int32} {σ : ST}   (h : KVA s σ) : PF st0 (KVA s) (f_X6_scanNumber_189 x1 σ) := by
  unfold f_X6_scanNumber_189
  exact (PF.ret0 (KVA.i (by omega) (KVA.i (by omega) h)))
theorem wv_X6_scanNumber_119 {s : ST} {x1 : Int32} {x2 : Int32} {σ : ST}   (h : KVA s σ) : PF st0 (KVA s) (f_X6_scanNumber_119 x1 x2 σ) := by
  unfold f_X6_scanNumber_119
  exact (PF.ite (fun _ => (PF.ret0 h)) (fun _ => (PF.ite (fun _ => (PF.bnd (wv_X6_signAt  h) (fun q1 hq1 => (PF.ite (fun _ => (PF.bnd (wv_X6_signAt  hq1) (fun q3 hq3 => (PF.bnd (wv_X6_isDigit  hq3) (fun q5 hq5 => (PF.ite (fun _ => (PF.ret0 hq5)) (fun _ => (PF.bnd (wv_X6_signAt  hq5) (fun q7 hq7 => (PF.bnd (wv_X6_isDigit  hq7) (fun q9 hq9 => (PF.ite (fun _ => (PF.bnd (wv_X6_signAt  (KVA.i (by omega) hq9)) (fun q11 hq11 => (wv_X6_scanNumber_189  (KVA.i (by omega) hq11))))) (fun _ => (PF.ret0 hq9)))))))))))))) (fun _ => (wv_X6_scanNumber_189  hq1)))))) (fun _ => (PF.ret0 h)))))
theorem wv_X6_scanNumber_110 {s : ST} {k65 : Int32 → Int32 → ST → Option (ST)} {x1 : Int32} {x2 : Int32} {σ : ST} (h_k65 : ∀ (x1 : Int32) (x2 : Int32) (σ : ST), KVA s σ → PF st0 (KVA s) (k65 x1 x2 σ))  (h : KVA s σ) : PF st0 (KVA s) (f_X6_scanNumber_110 k65 x1 x2 σ) := by
  unfold f_X6_scanNumber_110
  exact (h_k65 _ _ _ h)
theorem wv_X6_scanNumber_65 {s : ST}    : ∀ (n : Nat) (x1 : Int32) (x2 : Int32) (σ : ST), KVA s σ → PF st0 (KVA s) (f_X6_scanNumber_65  n x1 x2 σ) := by
  intro n
  induction n with
  | zero => intro x1 x2 σ h; rw [f_X6_scanNumber_65]; exact PF.none
  | succ n ih =>
    intro x1 x2 σ h
    rw [f_X6_scanNumber_65]
    exact (PF.ite (fun _ => (wv_X6_scanNumber_119  h)) (fun _ => (PF.bnd (wv_X6_signAt  h) (fun q1 hq1 => (PF.bnd (wv_X6_isDigit  hq1) (fun q3 hq3 => (PF.ite (fun _ => (wv_X6_scanNumber_119  hq3)) (fun _ => (PF.ite (fun _ => (wv_X6_scanNumber_110 ih hq3)) (fun _ => (PF.bnd (wv_X6_signAt  hq3) (fun q5 hq5 => (wv_X6_scanNumber_110 ih (KVA.l (by omega) hq5))))))))))))))
theorem wv_X6_scanNumber_62 {s : ST} {y0 : Int32} {σ : ST}   (h : KVA s σ) : PF st0 (KVA s) (f_X6_scanNumber_62 y0 σ) := by
  unfold f_X6_scanNumber_62
  exact (wv_X6_scanNumber_65  _ _ _ _ h)
theorem wv_X6_scanNumber_19 {s : ST} {y0 : Int32} {σ : ST}   (h : KVA s σ) : PF st0 (KVA s) (f_X6_scanNumber_19 y0 σ) := by
  unfold f_X6_scanNumber_19
  exact (PF.ite (fun _ => (PF.ite (fun _ => (wv_X6_scanNumber_62  (KVA.i (by omega) (KVA.l (by omega) (KVA.i (by omega) (KVA.i (by omega) (KVA.i (by omega) h))))))) (fun _ => (wv_X6_scanNumber_62  (KVA.i (by omega) (KVA.l (by omega) (KVA.i (by omega) (KVA.i (by omega) (KVA.i (by omega) h))))))))) (fun _ => PF.none))
theorem wv_X6_scanNumber {s : ST}  {σ : ST}   (h : KVA s σ) : PF st0 (KVA s) (f_X6_scanNumber σ) := by
  unfold f_X6_scanNumber
  exact (PF.bnd (wv_X6_signAt  h) (fun q1 hq1 => (PF.ite (fun _ => (wv_X6_scanNumber_19  hq1)) (fun _ => (wv_X6_scanNumber_19  hq1)))))
theorem wv_X6_advance_113 {s : ST}  {σ : ST}   (h : KVA s σ) : PF st0 (KVA s) (f_X6_advance_113 σ) := by
  unfold f_X6_advance_113
  exact (PF.bnd (wv_X6_scanNumber  h) (fun q1 hq1 => (PF.ret0 hq1)))
theorem wv_X6_takeLetters_95 {s : ST} {k7 : Int32 → Int32 → Int32 → ST → Option (Int32 × ST)} {x1 : Int32} {x2 : Int32} {x3 : Int32} {σ : ST} (h_k7 : ∀ (x1 : Int32) (x2 : Int32) (x3 : Int32) (σ : ST), KVA s σ → PF st1 (KVA s) (k7 x1 x2 x3 σ))  (h : KVA s σ) : PF st1 (KVA s) (f_X6_takeLetters_95 k7 x1 x2 x3 σ) := by
  unfold f_X6_takeLetters_95
  exact (h_k7 _ _ _ _ h)
theorem wv_X6_takeLetters_57 {s : ST} {k7 : Int32 → Int32 → Int32 → ST → Option (Int32 × ST)} {x1 : Int32} {x2 : Int32} {x3 : Int32} {y0 : Int32} {σ : ST} (h_k7 : ∀ (x1 : Int32) (x2 : Int32) (x3 : Int32) (σ : ST), KVA s σ → PF st1 (KVA s) (k7 x1 x2 x3 σ))  (h : KVA s σ) : PF st1 (KVA s) (f_X6_takeLetters_57 k7 x1 x2 x3 y0 σ) := by
  unfold f_X6_takeLetters_57
  exact (PF.ite (fun _ => (PF.ret1 h)) (fun _ => (PF.ite (fun _ => (PF.ite (fun _ => (wv_X6_takeLetters_95 h_k7 h)) (fun _ => (wv_X6_takeLetters_95 h_k7 (KVA.l (by omega) h))))) (fun _ => (PF.ret1 h)))))
theorem wv_X6_takeLetters_56 {s : ST} {k7 : Int32 → Int32 → Int32 → ST → Option (Int32 × ST)} {x1 : Int32} {x2 : Int32} {x3 : Int32} {σ : ST} (h_k7 : ∀ (x1 : Int32) (x2 : Int32) (x3 : Int32) (σ : ST), KVA s σ → PF st1 (KVA s) (k7 x1 x2 x3 σ))  (h : KVA s σ) : PF st1 (KVA s) (f_X6_takeLetters_56 k7 x1 x2 x3 σ) := by
  unfold f_X6_takeLetters_56
  exact (wv_X6_takeLetters_57 h_k7 h)
theorem wv_X6_takeLetters_7 {s : ST}    : ∀ (n : Nat) (x1 : Int32) (x2 : Int32) (x3 : Int32) (σ : ST), KVA s σ → PF st1 (KVA s) (f_X6_takeLetters_7  n x1 x2 x3 σ) := by
  intro n
  induction n with
  | zero => intro x1 x2 x3 σ h; rw [f_X6_takeLetters_7]; exact PF.none
  | succ n ih =>
    intro x1 x2 x3 σ h
    rw [f_X6_takeLetters_7]
    exact (PF.ite (fun _ => (PF.ret1 h)) (fun _ => (PF.ite (fun _ => (wv_X6_takeLetters_56 ih h)) (fun _ => (PF.ite (fun _ => (wv_X6_takeLetters_56 ih h)) (fun _ => (PF.ite (fun _ => (wv_X6_takeLetters_56 ih h)) (fun _ => (PF.ite (fun _ => (wv_X6_takeLetters_57 ih h)) (fun _ => PF.none))))))))))
theorem wv_X6_takeLetters {s : ST} {p0 : Int32} {p1 : Int32} {σ : ST}   (h : KVA s σ) : PF st1 (KVA s) (f_X6_takeLetters p0 p1 σ) := by
  unfold f_X6_takeLetters
  exact (wv_X6_takeLetters_7  _ _ _ _ _ (KVA.l (by omega) h))
theorem wv_X6_scanLettered_38 {s : ST}  {σ : ST}   (h : KVA s σ) : PF st0 (KVA s) (f_X6_scanLettered_38 σ) := by
  unfold f_X6_scanLettered_38
  exact (PF.ret0 (KVA.i (by omega) h))
theorem wv_X6_scanLettered {s : ST}  {σ : ST}   (h : KVA s σ) : PF st0 (KVA s) (f_X6_scanLettered σ) := by
  unfold f_X6_scanLettered
  exact (PF.bnd (wv_X6_takeLetters  h) (fun q1 hq1 => (PF.ite (fun _ => (wv_X6_scanLettered_38  hq1)) (fun _ => (PF.bnd (wv_X6_signAt  hq1) (fun q3 hq3 => (PF.ite (fun _ => (PF.ret0 (KVA.i (by omega) (KVA.i (by omega) hq3)))) (fun _ => (wv_X6_scanLettered_38  hq3)))))))))
theorem wv_X6_advance_169 {s : ST} {x1 : Int32} {σ : ST}   (h : KVA s σ) : PF st0 (KVA s) (f_X6_advance_169 x1 σ) := by
  unfold f_X6_advance_169
  exact (PF.ret0 (KVA.i (by omega) (KVA.i (by omega) h)))
theorem wv_X6_scanWord_75 {s : ST} {k45 : Int32 → ST → Option (ST)} {x2 : Int32} {σ : ST} (h_k45 : ∀ (x1 : Int32) (σ : ST), KVA s σ → PF st0 (KVA s) (k45 x1 σ))  (h : KVA s σ) : PF st0 (KVA s) (f_X6_scanWord_75 k45 x2 σ) := by
  unfold f_X6_scanWord_75
  exact (h_k45 _ _ h)
theorem wv_X6_scanWord_45 {s : ST}    : ∀ (n : Nat) (x1 : Int32) (σ : ST), KVA s σ → PF st0 (KVA s) (f_X6_scanWord_45  n x1 σ) := by
  intro n
  induction n with
  | zero => intro x1 σ h; rw [f_X6_scanWord_45]; exact PF.none
  | succ n ih =>
    intro x1 σ h
    rw [f_X6_scanWord_45]
    exact (PF.ite (fun _ => (PF.ret0 h)) (fun _ => (PF.ite (fun _ => (PF.ite (fun _ => (wv_X6_scanWord_75 ih (KVA.i (by omega) (KVA.i (by omega) h)))) (fun _ => (wv_X6_scanWord_75 ih h)))) (fun _ => PF.none))))
theorem wv_X6_scanWord {s : ST}  {σ : ST}   (h : KVA s σ) : PF st0 (KVA s) (f_X6_scanWord σ) := by
  unfold f_X6_scanWord
  exact (PF.bnd (wv_X6_takeLetters  h) (fun q1 hq1 => (PF.ite (fun _ => (wv_X6_scanWord_45  _ _ _ (KVA.i (by omega) (KVA.i (by omega) (KVA.i (by omega) hq1))))) (fun _ => (PF.ret0 (KVA.i (by omega) hq1))))))
theorem wv_X6_advance_50 {s : ST}  {σ : ST}   (h : KVA s σ) : PF st0 (KVA s) (f_X6_advance_50 σ) := by
  unfold f_X6_advance_50
  exact (PF.bnd (wv_X6_signAt  (KVA.i (by omega) h)) (fun q1 hq1 => (PF.ite (fun _ => (PF.bnd (wv_X6_isLetter  hq1) (fun q3 hq3 => (PF.ite (fun _ => (PF.ite (fun _ => (wv_X6_advance_113  hq3)) (fun _ => (PF.bnd (wv_X6_isDigit  hq3) (fun q5 hq5 => (PF.ite (fun _ => (PF.ite (fun _ => (PF.bnd (wv_X6_scanLettered  hq5) (fun q7 hq7 => (PF.ret0 hq7)))) (fun _ => (PF.ite (fun _ => (wv_X6_advance_169  hq5)) (fun _ => (PF.ite (fun _ => (wv_X6_advance_169  hq5)) (fun _ => (PF.ite (fun _ => (wv_X6_advance_169  hq5)) (fun _ => (PF.ite (fun _ => (wv_X6_advance_169  hq5)) (fun _ => (PF.ite (fun _ => (wv_X6_advance_169  hq5)) (fun _ => (PF.ite (fun _ => (wv_X6_advance_169  hq5)) (fun _ => (PF.ret0 (KVA.i (by omega) hq5))))))))))))))))) (fun _ => (wv_X6_advance_113  hq5)))))))) (fun _ => (PF.bnd (wv_X6_scanWord  hq3) (fun q9 hq9 => (PF.ret0 hq9)))))))) (fun _ => (PF.ret0 (KVA.i (by omega) hq1))))))
theorem wv_X6_advance_37 {s : ST} {k0 : ST → Option (ST)} {σ : ST} (h_k0 : ∀ (σ : ST), KVA s σ → PF st0 (KVA s) (k0 σ))  (h : KVA s σ) : PF st0 (KVA s) (f_X6_advance_37 k0 σ) := by
  unfold f_X6_advance_37
  exact (h_k0 _ (KVA.i (by omega) h))
theorem wv_X6_advance_0 {s : ST}    : ∀ (n : Nat) (σ : ST), KVA s σ → PF st0 (KVA s) (f_X6_advance_0  n σ) := by
  intro n
  induction n with
  | zero => intro σ h; rw [f_X6_advance_0]; exact PF.none
  | succ n ih =>
    intro σ h
    rw [f_X6_advance_0]
    exact (PF.ite (fun _ => (wv_X6_advance_50  h)) (fun _ => (PF.bnd (wv_X6_signAt  h) (fun q1 hq1 => (PF.ite (fun _ => (wv_X6_advance_37 ih hq1)) (fun _ => (PF.bnd (wv_X6_signAt  hq1) (fun q3 hq3 => (PF.ite (fun _ => (wv_X6_advance_37 ih hq3)) (fun _ => (wv_X6_advance_50  hq3)))))))))))
theorem wv_X6_advance {s : ST}  {σ : ST}   (h : KVA s σ) : PF st0 (KVA s) (f_X6_advance σ) := by
  unfold f_X6_advance
  exact (wv_X6_advance_0  _ _ h)
theorem wv_X5_isFieldOf {s : ST} {p0 : Int32} {p1 : Int32} {σ : ST}   (h : KVA s σ) : PF st1 (KVA s) (f_X5_isFieldOf p0 p1 σ) := by
  unfold f_X5_isFieldOf
  exact (PF.ite (fun _ => (PF.ret1 h)) (fun _ => (PF.ite (fun _ => (PF.ret1 h)) (fun _ => (PF.ite (fun _ => (PF.ret1 h)) (fun _ => (PF.ite (fun _ => (PF.ret1 h)) (fun _ => (PF.ret1 h)))))))))
theorem wv_X5_hasElse {s : ST} {b : Nat} {p0 : Int32} {p1 : Int32} {σ : ST}   (h : KVA s σ) : PF st1 (KVA s) (f_X5_hasElse b p0 p1 σ) := by
  unfold f_X5_hasElse
  exact (PF.bnd (wv_X5_isFieldOf  h) (fun q1 hq1 => (PF.ite (fun _ => (PF.ret1 hq1)) (fun _ => (PF.ite (fun _ => (PF.ite (fun _ => (PF.ret1 hq1)) (fun _ => (PF.ret1 hq1)))) (fun _ => PF.none))))))
theorem wv_X6_refuseAt {s : ST} {p0 : Int32} {p1 : Int32} {σ : ST}   (h : KVA s σ) : PF st1 (KVA s) (f_X6_refuseAt p0 p1 σ) := by
  unfold f_X6_refuseAt
  exact (PF.ite (fun _ => (PF.ret1 (KVA.i (by omega) (KVA.i (by omega) h)))) (fun _ => (PF.ret1 h)))
theorem wv_X6_refuse {s : ST} {p0 : Int32} {σ : ST}   (h : KVA s σ) : PF st1 (KVA s) (f_X6_refuse p0 σ) := by
  unfold f_X6_refuse
  exact (PF.bnd (wv_X6_refuseAt  h) (fun q1 hq1 => (PF.ite (fun _ => (PF.ret1 hq1)) (fun _ => PF.none))))
theorem wv_X8_closeRecord_44 {s : ST} {k2 : Int32 → Int32 → Int32 → ST → Option (Int32 × ST)} {x1 : Int32} {x2 : Int32} {x3 : Int32} {σ : ST} (h_k2 : ∀ (x1 : Int32) (x2 : Int32) (x3 : Int32) (σ : ST), KVA s σ → PF st1 (KVA s) (k2 x1 x2 x3 σ))  (h : KVA s σ) : PF st1 (KVA s) (f_X8_closeRecord_44 k2 x1 x2 x3 σ) := by
  unfold f_X8_closeRecord_44
  exact (h_k2 _ _ _ _ h)
theorem wv_X8_closeRecord_2 {s : ST}    : ∀ (n : Nat) (x1 : Int32) (x2 : Int32) (x3 : Int32) (σ : ST), KVA s σ → PF st1 (KVA s) (f_X8_closeRecord_2  n x1 x2 x3 σ) := by
  intro n
  induction n with
  | zero => intro x1 x2 x3 σ h; rw [f_X8_closeRecord_2]; exact PF.none
  | succ n ih =>
    intro x1 x2 x3 σ h
    rw [f_X8_closeRecord_2]
    exact (PF.bnd (wv_X5_fieldsOf  h) (fun q1 hq1 => (PF.ite (fun _ => (PF.bnd (wv_X6_advance  hq1) (fun q3 hq3 => (PF.ret1 hq3)))) (fun _ => (PF.ite (fun _ => (PF.bnd (wv_X5_hasElse  hq1) (fun q5 hq5 => (PF.ite (fun _ => (PF.bnd (wv_X6_refuse  hq5) (fun q7 hq7 => (PF.ite (fun _ => (PF.ret1 hq7)) (fun _ => PF.none))))) (fun _ => (wv_X8_closeRecord_44 ih hq5)))))) (fun _ => (wv_X8_closeRecord_44 ih hq1)))))))
theorem wv_X8_closeRecord {s : ST} {p0 : Int32} {p1 : Int32} {σ : ST}   (h : KVA s σ) : PF st1 (KVA s) (f_X8_closeRecord p0 p1 σ) := by
  unfold f_X8_closeRecord
  exact (wv_X8_closeRecord_2  _ _ _ _ _ h)
theorem wv_X8_parseFields_210 {s : ST} {r_X8_parseFields : Int32 → Int32 → Int32 → ST → Option (Int32 × ST)} {r_X8_parseItems : Int32 → Int32 → Int32 → ST → Option (Int32 × ST)} {r_X8_parseValue : Int32 → Int32 → Int32 → Int32 → ST → Option (Int32 × ST)} {x1 : Int32} {x4 : Int32} {σ : ST} (h_r_X8_parseFields : ∀ (x1 : Int32) (x2 : Int32) (x3 : Int32) (σ : ST), KVA s σ → PF st1 (KVA s) (r_X8_parseFields x1 x2 x3 σ)) (h_r_X8_parseItems : ∀ (x1 : Int32) (x2 : Int32) (x3 : Int32) (σ : ST), KVA s σ → PF st1 (KVA s) (r_X8_parseItems x1 x2 x3 σ)) (h_r_X8_parseValue : ∀ (x1 : Int32) (x2 : Int32) (x3 : Int32) (x4 : Int32) (σ : ST), KVA s σ → PF st1 (KVA s) (r_X8_parseValue x1 x2 x3 x4 σ))  (h : KVA s σ) : PF st1 (KVA s) (f_X8_parseFields_210 r_X8_parseFields r_X8_parseItems r_X8_parseValue x1 x4 σ) := by
  unfold f_X8_parseFields_210
  exact (PF.bnd (wv_X8_closeRecord  h) (fun q1 hq1 => (PF.ite (fun _ => (PF.ret1 hq1)) (fun _ => PF.none))))
theorem wv_X5_fieldNamed_29 {s : ST} {b : Nat}   : ∀ (n : Nat) (x1 : Int64) (x2 : Int32) (x3 : Int32) (x4 : Int32) (σ : ST), KVA s σ → PF st1 (KVA s) (f_X5_fieldNamed_29 b n x1 x2 x3 x4 σ) := by
  intro n
  induction n with
  | zero => intro x1 x2 x3 x4 σ h; rw [f_X5_fieldNamed_29]; exact PF.none
  | succ n ih =>
    intro x1 x2 x3 x4 σ h
    rw [f_X5_fieldNamed_29]
    exact (PF.ite (fun _ => (PF.ret1 h)) (fun _ => (PF.ite (fun _ => (PF.ret1 h)) (fun _ => (PF.ite (fun _ => (PF.ite (fun _ => (PF.ret1 h)) (fun _ => (ih _ _ _ _ _ h)))) (fun _ => PF.none))))))
theorem wv_X5_fieldNamed_24 {s : ST} {b : Nat} {x2 : Int64} {x4 : Int32} {y0 : Int32} {σ : ST}   (h : KVA s σ) : PF st1 (KVA s) (f_X5_fieldNamed_24 b x2 x4 y0 σ) := by
  unfold f_X5_fieldNamed_24
  exact (wv_X5_fieldNamed_29  _ _ _ _ _ _ h)
theorem wv_X5_fieldNamed {s : ST} {b : Nat} {p0 : Int32} {p1 : Int64} {σ : ST}   (h : KVA s σ) : PF st1 (KVA s) (f_X5_fieldNamed b p0 p1 σ) := by
  unfold f_X5_fieldNamed
  exact (PF.bnd (wv_X5_isFieldOf  h) (fun q1 hq1 => (PF.ite (fun _ => (wv_X5_fieldNamed_24  hq1)) (fun _ => (PF.ite (fun _ => (wv_X5_fieldNamed_24  hq1)) (fun _ => PF.none))))))
theorem wv_X8_parseFields_90 {s : ST} {r_X8_parseFields : Int32 → Int32 → Int32 → ST → Option (Int32 × ST)} {r_X8_parseItems : Int32 → Int32 → Int32 → ST → Option (Int32 × ST)} {r_X8_parseValue : Int32 → Int32 → Int32 → Int32 → ST → Option (Int32 × ST)} {σ : ST} (h_r_X8_parseFields : ∀ (x1 : Int32) (x2 : Int32) (x3 : Int32) (σ : ST), KVA s σ → PF st1 (KVA s) (r_X8_parseFields x1 x2 x3 σ)) (h_r_X8_parseItems : ∀ (x1 : Int32) (x2 : Int32) (x3 : Int32) (σ : ST), KVA s σ → PF st1 (KVA s) (r_X8_parseItems x1 x2 x3 σ)) (h_r_X8_parseValue : ∀ (x1 : Int32) (x2 : Int32) (x3 : Int32) (x4 : Int32) (σ : ST), KVA s σ → PF st1 (KVA s) (r_X8_parseValue x1 x2 x3 x4 σ))  (h : KVA s σ) : PF st1 (KVA s) (f_X8_parseFields_90 r_X8_parseFields r_X8_parseItems r_X8_parseValue σ) := by
  unfold f_X8_parseFields_90
  exact (PF.bnd (wv_X6_refuse  h) (fun q1 hq1 => (PF.ite (fun _ => (PF.ret1 hq1)) (fun _ => PF.none))))
theorem wv_X5_typeOf {s : ST} {b : Nat} {p0 : Int32} {p1 : Int32} {σ : ST}   (h : KVA s σ) : PF st1 (KVA s) (f_X5_typeOf b p0 p1 σ) := by
  unfold f_X5_typeOf
  exact (PF.bnd (wv_X5_isFieldOf  h) (fun q1 hq1 => (PF.ite (fun _ => (PF.ret1 hq1)) (fun _ => (PF.ite (fun _ => (PF.ret1 hq1)) (fun _ => PF.none))))))
theorem wv_X8_parseFields_204 {s : ST} {r_X8_parseFields : Int32 → Int32 → Int32 → ST → Option (Int32 × ST)} {r_X8_parseItems : Int32 → Int32 → Int32 → ST → Option (Int32 × ST)} {r_X8_parseValue : Int32 → Int32 → Int32 → Int32 → ST → Option (Int32 × ST)} {k25 : Int32 → Int32 → Int32 → Int32 → Int32 → Int32 → ST → Option (Int32 × ST)} {x1 : Int32} {x2 : Int32} {x3 : Int32} {x4 : Int32} {x5 : Int32} {x6 : Int32} {σ : ST} (h_r_X8_parseFields : ∀ (x1 : Int32) (x2 : Int32) (x3 : Int32) (σ : ST), KVA s σ → PF st1 (KVA s) (r_X8_parseFields x1 x2 x3 σ)) (h_r_X8_parseItems : ∀ (x1 : Int32) (x2 : Int32) (x3 : Int32) (σ : ST), KVA s σ → PF st1 (KVA s) (r_X8_parseItems x1 x2 x3 σ)) (h_r_X8_parseValue : ∀ (x1 : Int32) (x2 : Int32) (x3 : Int32) (x4 : Int32) (σ : ST), KVA s σ → PF st1 (KVA s) (r_X8_parseValue x1 x2 x3 x4 σ)) (h_k25 : ∀ (x1 : Int32) (x2 : Int32) (x3 : Int32) (x4 : Int32) (x5 : Int32) (x6 : Int32) (σ : ST), KVA s σ → PF st1 (KVA s) (k25 x1 x2 x3 x4 x5 x6 σ))  (h : KVA s σ) : PF st1 (KVA s) (f_X8_parseFields_204 r_X8_parseFields r_X8_parseItems r_X8_parseValue k25 x1 x2 x3 x4 x5 x6 σ) := by
  unfold f_X8_parseFields_204
  exact (h_k25 _ _ _ _ _ _ _ h)
theorem wv_X8_parseFields_190 {s : ST} {r_X8_parseFields : Int32 → Int32 → Int32 → ST → Option (Int32 × ST)} {r_X8_parseItems : Int32 → Int32 → Int32 → ST → Option (Int32 × ST)} {r_X8_parseValue : Int32 → Int32 → Int32 → Int32 → ST → Option (Int32 × ST)} {k25 : Int32 → Int32 → Int32 → Int32 → Int32 → Int32 → ST → Option (Int32 × ST)} {x1 : Int32} {x2 : Int32} {x3 : Int32} {x4 : Int32} {x6 : Int32} {y0 : Int32} {σ : ST} (h_r_X8_parseFields : ∀ (x1 : Int32) (x2 : Int32) (x3 : Int32) (σ : ST), KVA s σ → PF st1 (KVA s) (r_X8_parseFields x1 x2 x3 σ)) (h_r_X8_parseItems : ∀ (x1 : Int32) (x2 : Int32) (x3 : Int32) (σ : ST), KVA s σ → PF st1 (KVA s) (r_X8_parseItems x1 x2 x3 σ)) (h_r_X8_parseValue : ∀ (x1 : Int32) (x2 : Int32) (x3 : Int32) (x4 : Int32) (σ : ST), KVA s σ → PF st1 (KVA s) (r_X8_parseValue x1 x2 x3 x4 σ)) (h_k25 : ∀ (x1 : Int32) (x2 : Int32) (x3 : Int32) (x4 : Int32) (x5 : Int32) (x6 : Int32) (σ : ST), KVA s σ → PF st1 (KVA s) (k25 x1 x2 x3 x4 x5 x6 σ))  (h : KVA s σ) : PF st1 (KVA s) (f_X8_parseFields_190 r_X8_parseFields r_X8_parseItems r_X8_parseValue k25 x1 x2 x3 x4 x6 y0 σ) := by
  unfold f_X8_parseFields_190
  exact (PF.ite (fun _ => (wv_X8_parseFields_204 h_r_X8_parseFields h_r_X8_parseItems h_r_X8_parseValue h_k25 h)) (fun _ => (PF.bnd (wv_X6_advance  h) (fun q1 hq1 => (wv_X8_parseFields_204 h_r_X8_parseFields h_r_X8_parseItems h_r_X8_parseValue h_k25 hq1)))))
theorem wv_X8_parseFields_173 {s : ST} {r_X8_parseFields : Int32 → Int32 → Int32 → ST → Option (Int32 × ST)} {r_X8_parseItems : Int32 → Int32 → Int32 → ST → Option (Int32 × ST)} {r_X8_parseValue : Int32 → Int32 → Int32 → Int32 → ST → Option (Int32 × ST)} {k25 : Int32 → Int32 → Int32 → Int32 → Int32 → Int32 → ST → Option (Int32 × ST)} {x1 : Int32} {x2 : Int32} {x3 : Int32} {x4 : Int32} {x6 : Int32} {σ : ST} (h_r_X8_parseFields : ∀ (x1 : Int32) (x2 : Int32) (x3 : Int32) (σ : ST), KVA s σ → PF st1 (KVA s) (r_X8_parseFields x1 x2 x3 σ)) (h_r_X8_parseItems : ∀ (x1 : Int32) (x2 : Int32) (x3 : Int32) (σ : ST), KVA s σ → PF st1 (KVA s) (r_X8_parseItems x1 x2 x3 σ)) (h_r_X8_parseValue : ∀ (x1 : Int32) (x2 : Int32) (x3 : Int32) (x4 : Int32) (σ : ST), KVA s σ → PF st1 (KVA s) (r_X8_parseValue x1 x2 x3 x4 σ)) (h_k25 : ∀ (x1 : Int32) (x2 : Int32) (x3 : Int32) (x4 : Int32) (x5 : Int32) (x6 : Int32) (σ : ST), KVA s σ → PF st1 (KVA s) (k25 x1 x2 x3 x4 x5 x6 σ))  (h : KVA s σ) : PF st1 (KVA s) (f_X8_parseFields_173 r_X8_parseFields r_X8_parseItems r_X8_parseValue k25 x1 x2 x3 x4 x6 σ) := by
  unfold f_X8_parseFields_173
  exact (PF.ite (fun _ => (wv_X8_parseFields_190 h_r_X8_parseFields h_r_X8_parseItems h_r_X8_parseValue h_k25 h)) (fun _ => (wv_X8_parseFields_190 h_r_X8_parseFields h_r_X8_parseItems h_r_X8_parseValue h_k25 h)))
theorem wv_X8_parseFields_25 {s : ST} {r_X8_parseFields : Int32 → Int32 → Int32 → ST → Option (Int32 × ST)} {r_X8_parseItems : Int32 → Int32 → Int32 → ST → Option (Int32 × ST)} {r_X8_parseValue : Int32 → Int32 → Int32 → Int32 → ST → Option (Int32 × ST)} (h_r_X8_parseFields : ∀ (x1 : Int32) (x2 : Int32) (x3 : Int32) (σ : ST), KVA s σ → PF st1 (KVA s) (r_X8_parseFields x1 x2 x3 σ)) (h_r_X8_parseItems : ∀ (x1 : Int32) (x2 : Int32) (x3 : Int32) (σ : ST), KVA s σ → PF st1 (KVA s) (r_X8_parseItems x1 x2 x3 σ)) (h_r_X8_parseValue : ∀ (x1 : Int32) (x2 : Int32) (x3 : Int32) (x4 : Int32) (σ : ST), KVA s σ → PF st1 (KVA s) (r_X8_parseValue x1 x2 x3 x4 σ))  : ∀ (n : Nat) (x1 : Int32) (x2 : Int32) (x3 : Int32) (x4 : Int32) (x5 : Int32) (x6 : Int32) (σ : ST), KVA s σ → PF st1 (KVA s) (f_X8_parseFields_25 r_X8_parseFields r_X8_parseItems r_X8_parseValue n x1 x2 x3 x4 x5 x6 σ) := by
  intro n
  induction n with
  | zero => intro x1 x2 x3 x4 x5 x6 σ h; rw [f_X8_parseFields_25]; exact PF.none
  | succ n ih =>
    intro x1 x2 x3 x4 x5 x6 σ h
    rw [f_X8_parseFields_25]
    exact (PF.ite (fun _ => (wv_X8_parseFields_210 h_r_X8_parseFields h_r_X8_parseItems h_r_X8_parseValue h)) (fun _ => (PF.ite (fun _ => (wv_X8_parseFields_210 h_r_X8_parseFields h_r_X8_parseItems h_r_X8_parseValue h)) (fun _ => (PF.ite (fun _ => (PF.bnd (wv_X5_fieldNamed  h) (fun q1 hq1 => (PF.ite (fun _ => (wv_X8_parseFields_90 h_r_X8_parseFields h_r_X8_parseItems h_r_X8_parseValue hq1)) (fun _ => (PF.ite (fun _ => (PF.bnd (wv_X6_advance  hq1) (fun q3 hq3 => (PF.bnd (wv_X5_typeOf  hq3) (fun q5 hq5 => (PF.bnd (h_r_X8_parseValue _ _ _ _ _ hq5) (fun q7 hq7 => (PF.ite (fun _ => (PF.ret1 hq7)) (fun _ => (PF.ite (fun _ => (wv_X8_parseFields_173 h_r_X8_parseFields h_r_X8_parseItems h_r_X8_parseValue ih hq7)) (fun _ => (PF.ite (fun _ => (wv_X8_parseFields_173 h_r_X8_parseFields h_r_X8_parseItems h_r_X8_parseValue ih hq7)) (fun _ => (PF.bnd (wv_X6_refuse  hq7) (fun q9 hq9 => (PF.ite (fun _ => (PF.ret1 hq9)) (fun _ => PF.none))))))))))))))))) (fun _ => (wv_X8_parseFields_90 h_r_X8_parseFields h_r_X8_parseItems h_r_X8_parseValue hq1)))))))) (fun _ => (PF.bnd (wv_X6_refuse  h) (fun q11 hq11 => (PF.ite (fun _ => (PF.ret1 hq11)) (fun _ => PF.none))))))))))
theorem wv_X8_parseFields_20 {s : ST} {r_X8_parseFields : Int32 → Int32 → Int32 → ST → Option (Int32 × ST)} {r_X8_parseItems : Int32 → Int32 → Int32 → ST → Option (Int32 × ST)} {r_X8_parseValue : Int32 → Int32 → Int32 → Int32 → ST → Option (Int32 × ST)} {x1 : Int32} {x2 : Int32} {x3 : Int32} {x4 : Int32} {y0 : Int32} {σ : ST} (h_r_X8_parseFields : ∀ (x1 : Int32) (x2 : Int32) (x3 : Int32) (σ : ST), KVA s σ → PF st1 (KVA s) (r_X8_parseFields x1 x2 x3 σ)) (h_r_X8_parseItems : ∀ (x1 : Int32) (x2 : Int32) (x3 : Int32) (σ : ST), KVA s σ → PF st1 (KVA s) (r_X8_parseItems x1 x2 x3 σ)) (h_r_X8_parseValue : ∀ (x1 : Int32) (x2 : Int32) (x3 : Int32) (x4 : Int32) (σ : ST), KVA s σ → PF st1 (KVA s) (r_X8_parseValue x1 x2 x3 x4 σ))  (h : KVA s σ) : PF st1 (KVA s) (f_X8_parseFields_20 r_X8_parseFields r_X8_parseItems r_X8_parseValue x1 x2 x3 x4 y0 σ) := by
  unfold f_X8_parseFields_20
  exact (wv_X8_parseFields_25 h_r_X8_parseFields h_r_X8_parseItems h_r_X8_parseValue _ _ _ _ _ _ _ _ h)
theorem wv_X8_parseFields {s : ST} {r_X8_parseFields : Int32 → Int32 → Int32 → ST → Option (Int32 × ST)} {r_X8_parseItems : Int32 → Int32 → Int32 → ST → Option (Int32 × ST)} {r_X8_parseValue : Int32 → Int32 → Int32 → Int32 → ST → Option (Int32 × ST)} {p0 : Int32} {p1 : Int32} {p2 : Int32} {σ : ST} (h_r_X8_parseFields : ∀ (x1 : Int32) (x2 : Int32) (x3 : Int32) (σ : ST), KVA s σ → PF st1 (KVA s) (r_X8_parseFields x1 x2 x3 σ)) (h_r_X8_parseItems : ∀ (x1 : Int32) (x2 : Int32) (x3 : Int32) (σ : ST), KVA s σ → PF st1 (KVA s) (r_X8_parseItems x1 x2 x3 σ)) (h_r_X8_parseValue : ∀ (x1 : Int32) (x2 : Int32) (x3 : Int32) (x4 : Int32) (σ : ST), KVA s σ → PF st1 (KVA s) (r_X8_parseValue x1 x2 x3 x4 σ))  (h : KVA s σ) : PF st1 (KVA s) (f_X8_parseFields r_X8_parseFields r_X8_parseItems r_X8_parseValue p0 p1 p2 σ) := by
  unfold f_X8_parseFields
  exact (PF.ite (fun _ => (wv_X8_parseFields_20 h_r_X8_parseFields h_r_X8_parseItems h_r_X8_parseValue h)) (fun _ => (wv_X8_parseFields_20 h_r_X8_parseFields h_r_X8_parseItems h_r_X8_parseValue h)))
theorem wv_X7_isRow {s : ST} {b : Nat} {p0 : Int32} {σ : ST}   (h : KVA s σ) : PF st1 (KVA s) (f_X7_isRow b p0 σ) := by
  unfold f_X7_isRow
  exact (PF.ite (fun _ => (PF.ret1 h)) (fun _ => (PF.ite (fun _ => (PF.ret1 h)) (fun _ => (PF.ite (fun _ => (PF.ret1 h)) (fun _ => (PF.ret1 h)))))))
theorem wv_X7_setWorth {s : ST} {b : Nat} {p0 : Int32} {p1 : Int32} {p2 : Int64} {σ : ST}  (h_b : 62 = b) (h : KVA s σ) : PF st0 (KVA s) (f_X7_setWorth b p0 p1 p2 σ) := by
  unfold f_X7_setWorth
  exact (PF.bnd (wv_X7_isRow  h) (fun q1 hq1 => (PF.ite (fun _ => (PF.ret0 hq1)) (fun _ => (PF.ite (fun _ => (PF.ret0 (KVA.l (by omega) (KVA.i (by omega) hq1)))) (fun _ => PF.none))))))
theorem wv_X8_parseItems_24 {s : ST} {r_X8_parseFields : Int32 → Int32 → Int32 → ST → Option (Int32 × ST)} {r_X8_parseItems : Int32 → Int32 → Int32 → ST → Option (Int32 × ST)} {r_X8_parseValue : Int32 → Int32 → Int32 → Int32 → ST → Option (Int32 × ST)} (h_r_X8_parseFields : ∀ (x1 : Int32) (x2 : Int32) (x3 : Int32) (σ : ST), KVA s σ → PF st1 (KVA s) (r_X8_parseFields x1 x2 x3 σ)) (h_r_X8_parseItems : ∀ (x1 : Int32) (x2 : Int32) (x3 : Int32) (σ : ST), KVA s σ → PF st1 (KVA s) (r_X8_parseItems x1 x2 x3 σ)) (h_r_X8_parseValue : ∀ (x1 : Int32) (x2 : Int32) (x3 : Int32) (x4 : Int32) (σ : ST), KVA s σ → PF st1 (KVA s) (r_X8_parseValue x1 x2 x3 x4 σ))  : ∀ (n : Nat) (x1 : Int32) (x2 : Int32) (x3 : Int32) (x4 : Int32) (σ : ST), KVA s σ → PF st1 (KVA s) (f_X8_parseItems_24 r_X8_parseFields r_X8_parseItems r_X8_parseValue n x1 x2 x3 x4 σ) := by
  intro n
  induction n with
  | zero => intro x1 x2 x3 x4 σ h; rw [f_X8_parseItems_24]; exact PF.none
  | succ n ih =>
    intro x1 x2 x3 x4 σ h
    rw [f_X8_parseItems_24]
    exact (PF.ite (fun _ => (PF.ret1 h)) (fun _ => (PF.bnd (h_r_X8_parseValue _ _ _ _ _ h) (fun q1 hq1 => (PF.ite (fun _ => (PF.ret1 hq1)) (fun _ => (PF.ite (fun _ => (PF.bnd (wv_X7_setWorth (by omega) hq1) (fun q7 hq7 => (PF.bnd (wv_X6_advance  hq7) (fun q9 hq9 => (PF.ret1 hq9)))))) (fun _ => (PF.ite (fun _ => (PF.bnd (wv_X6_advance  hq1) (fun q3 hq3 => (ih _ _ _ _ _ hq3)))) (fun _ => (PF.bnd (wv_X6_refuse  hq1) (fun q5 hq5 => (PF.ite (fun _ => (PF.ret1 hq5)) (fun _ => PF.none))))))))))))))
theorem wv_X8_parseItems {s : ST} {r_X8_parseFields : Int32 → Int32 → Int32 → ST → Option (Int32 × ST)} {r_X8_parseItems : Int32 → Int32 → Int32 → ST → Option (Int32 × ST)} {r_X8_parseValue : Int32 → Int32 → Int32 → Int32 → ST → Option (Int32 × ST)} {p0 : Int32} {p1 : Int32} {p2 : Int32} {σ : ST} (h_r_X8_parseFields : ∀ (x1 : Int32) (x2 : Int32) (x3 : Int32) (σ : ST), KVA s σ → PF st1 (KVA s) (r_X8_parseFields x1 x2 x3 σ)) (h_r_X8_parseItems : ∀ (x1 : Int32) (x2 : Int32) (x3 : Int32) (σ : ST), KVA s σ → PF st1 (KVA s) (r_X8_parseItems x1 x2 x3 σ)) (h_r_X8_parseValue : ∀ (x1 : Int32) (x2 : Int32) (x3 : Int32) (x4 : Int32) (σ : ST), KVA s σ → PF st1 (KVA s) (r_X8_parseValue x1 x2 x3 x4 σ))  (h : KVA s σ) : PF st1 (KVA s) (f_X8_parseItems r_X8_parseFields r_X8_parseItems r_X8_parseValue p0 p1 p2 σ) := by
  unfold f_X8_parseItems
  exact (PF.ite (fun _ => (PF.bnd (wv_X6_advance  h) (fun q1 hq1 => (PF.ret1 hq1)))) (fun _ => (wv_X8_parseItems_24 h_r_X8_parseFields h_r_X8_parseItems h_r_X8_parseValue _ _ _ _ _ _ h)))
theorem wv_X6_beginsLiteral_52 {s : ST}  {σ : ST}   (h : KVA s σ) : PF st1 (KVA s) (f_X6_beginsLiteral_52 σ) := by
  unfold f_X6_beginsLiteral_52
  exact (PF.ret1 h)
theorem wv_X6_isKeyword {s : ST} {p0 : Int32} {σ : ST}   (h : KVA s σ) : PF st1 (KVA s) (f_X6_isKeyword p0 σ) := by
  unfold f_X6_isKeyword
  exact (PF.ite (fun _ => (PF.ite (fun _ => (PF.ret1 h)) (fun _ => (PF.ret1 h)))) (fun _ => (PF.ret1 h)))
theorem wv_X6_beginsLiteral {s : ST}  {σ : ST}   (h : KVA s σ) : PF st1 (KVA s) (f_X6_beginsLiteral σ) := by
  unfold f_X6_beginsLiteral
  exact (PF.ite (fun _ => (wv_X6_beginsLiteral_52  h)) (fun _ => (PF.ite (fun _ => (wv_X6_beginsLiteral_52  h)) (fun _ => (PF.ite (fun _ => (wv_X6_beginsLiteral_52  h)) (fun _ => (PF.bnd (wv_X6_isKeyword  h) (fun q1 hq1 => (PF.ite (fun _ => (PF.bnd (wv_X6_isKeyword  hq1) (fun q3 hq3 => (PF.ite (fun _ => (PF.bnd (wv_X6_isKeyword  hq3) (fun q5 hq5 => (PF.ite (fun _ => (PF.ret1 hq5)) (fun _ => (wv_X6_beginsLiteral_52  hq5)))))) (fun _ => (wv_X6_beginsLiteral_52  hq3)))))) (fun _ => (wv_X6_beginsLiteral_52  hq1)))))))))))
theorem wv_X5_isType {s : ST} {b : Nat} {p0 : Int32} {σ : ST}   (h : KVA s σ) : PF st1 (KVA s) (f_X5_isType b p0 σ) := by
  unfold f_X5_isType
  exact (PF.ite (fun _ => (PF.ret1 h)) (fun _ => (PF.ite (fun _ => (PF.ret1 h)) (fun _ => (PF.ite (fun _ => (PF.ret1 h)) (fun _ => (PF.ret1 h)))))))
theorem wv_X5_sortOf {s : ST} {b : Nat} {p0 : Int32} {σ : ST}   (h : KVA s σ) : PF st1 (KVA s) (f_X5_sortOf b p0 σ) := by
  unfold f_X5_sortOf
  exact (PF.bnd (wv_X5_isType  h) (fun q1 hq1 => (PF.ite (fun _ => (PF.ret1 hq1)) (fun _ => (PF.ite (fun _ => (PF.ret1 hq1)) (fun _ => PF.none))))))
theorem wv_X5_innerOf {s : ST} {b : Nat} {p0 : Int32} {σ : ST}   (h : KVA s σ) : PF st1 (KVA s) (f_X5_innerOf b p0 σ) := by
  unfold f_X5_innerOf
  exact (PF.bnd (wv_X5_isType  h) (fun q1 hq1 => (PF.ite (fun _ => (PF.ret1 hq1)) (fun _ => (PF.ite (fun _ => (PF.ret1 hq1)) (fun _ => PF.none))))))
theorem wv_X6_fits_73 {s : ST}  {σ : ST}   (h : KVA s σ) : PF st1 (KVA s) (f_X6_fits_73 σ) := by
  unfold f_X6_fits_73
  exact (PF.ret1 h)
theorem wv_X6_whole {s : ST}  {σ : ST}   (h : KVA s σ) : PF st1 (KVA s) (f_X6_whole σ) := by
  unfold f_X6_whole
  exact (PF.ite (fun _ => (PF.ret1 h)) (fun _ => (PF.ret1 h)))
theorem wv_X10_isInt {s : ST} {p0 : Int64} {σ : ST}   (h : KVA s σ) : PF st1 (KVA s) (f_X10_isInt p0 σ) := by
  unfold f_X10_isInt
  exact (PF.ite (fun _ => (PF.ret1 h)) (fun _ => (PF.ite (fun _ => (PF.ret1 h)) (fun _ => (PF.ret1 h)))))
theorem wv_X6_fits {s : ST} {p0 : Int32} {σ : ST}   (h : KVA s σ) : PF st1 (KVA s) (f_X6_fits p0 σ) := by
  unfold f_X6_fits
  exact (PF.ite (fun _ => (PF.bnd (wv_X6_isKeyword  h) (fun q9 hq9 => (PF.ite (fun _ => (PF.ret1 hq9)) (fun _ => PF.none))))) (fun _ => (PF.ite (fun _ => (PF.bnd (wv_X6_isKeyword  h) (fun q11 hq11 => (PF.ite (fun _ => (PF.bnd (wv_X6_isKeyword  hq11) (fun q13 hq13 => (PF.ite (fun _ => (PF.ret1 hq13)) (fun _ => (wv_X6_fits_73  hq13)))))) (fun _ => (wv_X6_fits_73  hq11)))))) (fun _ => (PF.ite (fun _ => (PF.ite (fun _ => (PF.ite (fun _ => (PF.bnd (wv_X6_whole  h) (fun q15 hq15 => (PF.bnd (wv_X10_isInt  hq15) (fun q17 hq17 => (PF.ite (fun _ => (PF.ret1 hq17)) (fun _ => (PF.ret1 hq17)))))))) (fun _ => (PF.ret1 h)))) (fun _ => (PF.ret1 h)))) (fun _ => (PF.ite (fun _ => (PF.ite (fun _ => (PF.ite (fun _ => (PF.ret1 h)) (fun _ => (PF.ret1 h)))) (fun _ => (PF.ret1 h)))) (fun _ => (PF.ite (fun _ => (PF.ite (fun _ => (PF.ret1 h)) (fun _ => (PF.ret1 h)))) (fun _ => (PF.ite (fun _ => (PF.ite (fun _ => (PF.ret1 h)) (fun _ => (PF.ret1 h)))) (fun _ => (PF.ite (fun _ => (PF.ite (fun _ => (PF.ret1 h)) (fun _ => (PF.ret1 h)))) (fun _ => (PF.ite (fun _ => (PF.ite (fun _ => (PF.ret1 h)) (fun _ => (PF.ret1 h)))) (fun _ => (PF.ret1 h)))))))))))))))))
theorem wv_X5_branchAfter {s : ST} {b : Nat} {p0 : Int32} {σ : ST}   (h : KVA s σ) : PF st1 (KVA s) (f_X5_branchAfter b p0 σ) := by
  unfold f_X5_branchAfter
  exact (PF.bnd (wv_X5_isType  h) (fun q1 hq1 => (PF.ite (fun _ => (PF.ret1 hq1)) (fun _ => (PF.ite (fun _ => (PF.ret1 hq1)) (fun _ => PF.none))))))
theorem wv_X8_fittingType_48 {s : ST}    : ∀ (n : Nat) (x1 : Int32) (x2 : Int32) (σ : ST), KVA s σ → PF st1 (KVA s) (f_X8_fittingType_48  n x1 x2 σ) := by
  intro n
  induction n with
  | zero => intro x1 x2 σ h; rw [f_X8_fittingType_48]; exact PF.none
  | succ n ih =>
    intro x1 x2 σ h
    rw [f_X8_fittingType_48]
    exact (PF.ite (fun _ => (PF.ret1 h)) (fun _ => (PF.ite (fun _ => (PF.ret1 h)) (fun _ => (PF.bnd (wv_X5_sortOf  h) (fun q1 hq1 => (PF.bnd (wv_X6_fits  hq1) (fun q3 hq3 => (PF.ite (fun _ => (PF.bnd (wv_X5_branchAfter  hq3) (fun q5 hq5 => (ih _ _ _ hq5)))) (fun _ => (PF.ret1 hq3)))))))))))
theorem wv_X8_fittingType {s : ST} {p0 : Int32} {σ : ST}   (h : KVA s σ) : PF st1 (KVA s) (f_X8_fittingType p0 σ) := by
  unfold f_X8_fittingType
  exact (PF.bnd (wv_X5_sortOf  h) (fun q1 hq1 => (PF.ite (fun _ => (PF.bnd (wv_X5_innerOf  hq1) (fun q3 hq3 => (wv_X8_fittingType_48  _ _ _ _ hq3)))) (fun _ => (PF.bnd (wv_X5_sortOf  hq1) (fun q5 hq5 => (PF.bnd (wv_X6_fits  hq5) (fun q7 hq7 => (PF.ite (fun _ => (PF.ret1 hq7)) (fun _ => (PF.ret1 hq7)))))))))))
theorem wv_X10_bitsOfPositive_81 {s : ST} {x2 : UInt64} {x4 : Int32} {σ : ST}   (h : KVA s σ) : PF st1 (KVA s) (f_X10_bitsOfPositive_81 x2 x4 σ) := by
  unfold f_X10_bitsOfPositive_81
  exact (PF.ret1 h)
theorem wv_X10_bitsOfPositive_51 {s : ST}    : ∀ (n : Nat) (x1 : UInt64) (x2 : Int32) (x3 : Int32) (σ : ST), KVA s σ → PF st1 (KVA s) (f_X10_bitsOfPositive_51  n x1 x2 x3 σ) := by
  intro n
  induction n with
  | zero => intro x1 x2 x3 σ h; rw [f_X10_bitsOfPositive_51]; exact PF.none
  | succ n ih =>
    intro x1 x2 x3 σ h
    rw [f_X10_bitsOfPositive_51]
    exact (PF.ite (fun _ => (wv_X10_bitsOfPositive_81  h)) (fun _ => (PF.ite (fun _ => (wv_X10_bitsOfPositive_81  h)) (fun _ => (PF.ite (fun _ => (ih _ _ _ _ h)) (fun _ => PF.none))))))
theorem wv_X10_bitsOfPositive_48 {s : ST} {x2 : UInt64} {x4 : Int32} {σ : ST}   (h : KVA s σ) : PF st1 (KVA s) (f_X10_bitsOfPositive_48 x2 x4 σ) := by
  unfold f_X10_bitsOfPositive_48
  exact (wv_X10_bitsOfPositive_51  _ _ _ _ _ h)
theorem wv_X10_bitsOfPositive_18 {s : ST}    : ∀ (n : Nat) (x1 : UInt64) (x2 : Int32) (x3 : Int32) (σ : ST), KVA s σ → PF st1 (KVA s) (f_X10_bitsOfPositive_18  n x1 x2 x3 σ) := by
  intro n
  induction n with
  | zero => intro x1 x2 x3 σ h; rw [f_X10_bitsOfPositive_18]; exact PF.none
  | succ n ih =>
    intro x1 x2 x3 σ h
    rw [f_X10_bitsOfPositive_18]
    exact (PF.ite (fun _ => (wv_X10_bitsOfPositive_48  h)) (fun _ => (PF.ite (fun _ => (wv_X10_bitsOfPositive_48  h)) (fun _ => (PF.ite (fun _ => (ih _ _ _ _ h)) (fun _ => PF.none))))))
theorem wv_X10_bitsOfPositive {s : ST} {p0 : UInt64} {σ : ST}   (h : KVA s σ) : PF st1 (KVA s) (f_X10_bitsOfPositive p0 σ) := by
  unfold f_X10_bitsOfPositive
  exact (PF.ite (fun _ => (wv_X10_bitsOfPositive_18  _ _ _ _ _ h)) (fun _ => (PF.ret1 h)))
theorem wv_X6_realBits_42 {s : ST} {x1 : Int64} {σ : ST}   (h : KVA s σ) : PF st1 (KVA s) (f_X6_realBits_42 x1 σ) := by
  unfold f_X6_realBits_42
  exact (PF.ret1 h)
theorem wv_X6_realBits {s : ST}  {σ : ST}   (h : KVA s σ) : PF st1 (KVA s) (f_X6_realBits σ) := by
  unfold f_X6_realBits
  exact (PF.ite (fun _ => (PF.ite (fun _ => (PF.bnd (wv_X10_bitsOfPositive  h) (fun q3 hq3 => (PF.ite (fun _ => (PF.ret1 hq3)) (fun _ => (PF.ite (fun _ => (PF.ite (fun _ => (PF.ret1 hq3)) (fun _ => (wv_X6_realBits_42  hq3)))) (fun _ => (wv_X6_realBits_42  hq3)))))))) (fun _ => PF.none))) (fun _ => PF.none))
theorem wv_X6_worth {s : ST} {p0 : Int32} {σ : ST}   (h : KVA s σ) : PF st1 (KVA s) (f_X6_worth p0 σ) := by
  unfold f_X6_worth
  exact (PF.ite (fun _ => (PF.bnd (wv_X6_isKeyword  h) (fun q6 hq6 => (PF.ite (fun _ => (PF.ret1 hq6)) (fun _ => (PF.ret1 hq6)))))) (fun _ => (PF.ite (fun _ => (PF.bnd (wv_X6_whole  h) (fun q8 hq8 => (PF.ret1 hq8)))) (fun _ => (PF.ite (fun _ => (PF.bnd (wv_X6_whole  h) (fun q10 hq10 => (PF.ret1 hq10)))) (fun _ => (PF.ite (fun _ => (PF.bnd (wv_X6_realBits  h) (fun q12 hq12 => (PF.ret1 hq12)))) (fun _ => (PF.ite (fun _ => (PF.ret1 h)) (fun _ => (PF.ret1 h)))))))))))
theorem wv_X10_letterOf_10 {s : ST}  {σ : ST}   (h : KVA s σ) : PF st1 (KVA s) (f_X10_letterOf_10 σ) := by
  unfold f_X10_letterOf_10
  exact (PF.ret1 h)
theorem wv_X10_letterOf {s : ST} {p0 : Int64} {p1 : Int32} {σ : ST}   (h : KVA s σ) : PF st1 (KVA s) (f_X10_letterOf p0 p1 σ) := by
  unfold f_X10_letterOf
  exact (PF.ite (fun _ => (wv_X10_letterOf_10  h)) (fun _ => (PF.ite (fun _ => (PF.ret1 h)) (fun _ => (wv_X10_letterOf_10  h)))))
theorem wv_X10_lettersIn_2 {s : ST}    : ∀ (n : Nat) (x1 : Int64) (x2 : Int32) (σ : ST), KVA s σ → PF st1 (KVA s) (f_X10_lettersIn_2  n x1 x2 σ) := by
  intro n
  induction n with
  | zero => intro x1 x2 σ h; rw [f_X10_lettersIn_2]; exact PF.none
  | succ n ih =>
    intro x1 x2 σ h
    rw [f_X10_lettersIn_2]
    exact (PF.ite (fun _ => (PF.ret1 h)) (fun _ => (PF.bnd (wv_X10_letterOf  h) (fun q1 hq1 => (PF.ite (fun _ => (PF.ret1 hq1)) (fun _ => (ih _ _ _ hq1)))))))
theorem wv_X10_lettersIn {s : ST} {p0 : Int64} {σ : ST}   (h : KVA s σ) : PF st1 (KVA s) (f_X10_lettersIn p0 σ) := by
  unfold f_X10_lettersIn
  exact (wv_X10_lettersIn_2  _ _ _ _ h)
theorem wv_X8_parseValue_142 {s : ST} {r_X8_parseFields : Int32 → Int32 → Int32 → ST → Option (Int32 × ST)} {r_X8_parseItems : Int32 → Int32 → Int32 → ST → Option (Int32 × ST)} {r_X8_parseValue : Int32 → Int32 → Int32 → Int32 → ST → Option (Int32 × ST)} {x4 : Int32} {x5 : Int32} {x6 : Int32} {x7 : Int32} {x8 : Int64} {y0 : Int32} {y1 : Int32} {σ : ST} (h_r_X8_parseFields : ∀ (x1 : Int32) (x2 : Int32) (x3 : Int32) (σ : ST), KVA s σ → PF st1 (KVA s) (r_X8_parseFields x1 x2 x3 σ)) (h_r_X8_parseItems : ∀ (x1 : Int32) (x2 : Int32) (x3 : Int32) (σ : ST), KVA s σ → PF st1 (KVA s) (r_X8_parseItems x1 x2 x3 σ)) (h_r_X8_parseValue : ∀ (x1 : Int32) (x2 : Int32) (x3 : Int32) (x4 : Int32) (σ : ST), KVA s σ → PF st1 (KVA s) (r_X8_parseValue x1 x2 x3 x4 σ))  (h : KVA s σ) : PF st1 (KVA s) (f_X8_parseValue_142 r_X8_parseFields r_X8_parseItems r_X8_parseValue x4 x5 x6 x7 x8 y0 y1 σ) := by
  unfold f_X8_parseValue_142
  exact (PF.bnd (wv_X7_setWorth (by omega) h) (fun q1 hq1 => (PF.bnd (wv_X6_advance  hq1) (fun q3 hq3 => (PF.ite (fun _ => (PF.bnd (wv_X5_innerOf  hq3) (fun q9 hq9 => (PF.bnd (h_r_X8_parseItems _ _ _ _ hq9) (fun q11 hq11 => (PF.ite (fun _ => (PF.ret1 hq11)) (fun _ => PF.none))))))) (fun _ => (PF.ite (fun _ => (PF.bnd (wv_X5_innerOf  hq3) (fun q5 hq5 => (PF.bnd (h_r_X8_parseFields _ _ _ _ hq5) (fun q7 hq7 => (PF.ite (fun _ => (PF.ret1 hq7)) (fun _ => PF.none))))))) (fun _ => (PF.ret1 hq3)))))))))
theorem wv_X8_parseValue_93 {s : ST} {r_X8_parseFields : Int32 → Int32 → Int32 → ST → Option (Int32 × ST)} {r_X8_parseItems : Int32 → Int32 → Int32 → ST → Option (Int32 × ST)} {r_X8_parseValue : Int32 → Int32 → Int32 → Int32 → ST → Option (Int32 × ST)} {x4 : Int32} {x5 : Int32} {x6 : Int32} {y0 : Int32} {σ : ST} (h_r_X8_parseFields : ∀ (x1 : Int32) (x2 : Int32) (x3 : Int32) (σ : ST), KVA s σ → PF st1 (KVA s) (r_X8_parseFields x1 x2 x3 σ)) (h_r_X8_parseItems : ∀ (x1 : Int32) (x2 : Int32) (x3 : Int32) (σ : ST), KVA s σ → PF st1 (KVA s) (r_X8_parseItems x1 x2 x3 σ)) (h_r_X8_parseValue : ∀ (x1 : Int32) (x2 : Int32) (x3 : Int32) (x4 : Int32) (σ : ST), KVA s σ → PF st1 (KVA s) (r_X8_parseValue x1 x2 x3 x4 σ))  (h : KVA s σ) : PF st1 (KVA s) (f_X8_parseValue_93 r_X8_parseFields r_X8_parseItems r_X8_parseValue x4 x5 x6 y0 σ) := by
  unfold f_X8_parseValue_93
  exact (PF.ite (fun _ => (PF.bnd (wv_X6_refuse  h) (fun q5 hq5 => (PF.ite (fun _ => (PF.ret1 hq5)) (fun _ => PF.none))))) (fun _ => (PF.bnd (wv_X6_worth  h) (fun q1 hq1 => (PF.ite (fun _ => (PF.bnd (wv_X10_lettersIn  hq1) (fun q3 hq3 => (wv_X8_parseValue_142 h_r_X8_parseFields h_r_X8_parseItems h_r_X8_parseValue hq3)))) (fun _ => (wv_X8_parseValue_142 h_r_X8_parseFields h_r_X8_parseItems h_r_X8_parseValue hq1)))))))
theorem wv_X8_parseValue_78 {s : ST} {r_X8_parseFields : Int32 → Int32 → Int32 → ST → Option (Int32 × ST)} {r_X8_parseItems : Int32 → Int32 → Int32 → ST → Option (Int32 × ST)} {r_X8_parseValue : Int32 → Int32 → Int32 → Int32 → ST → Option (Int32 × ST)} {x4 : Int32} {x5 : Int32} {x6 : Int32} {σ : ST} (h_r_X8_parseFields : ∀ (x1 : Int32) (x2 : Int32) (x3 : Int32) (σ : ST), KVA s σ → PF st1 (KVA s) (r_X8_parseFields x1 x2 x3 σ)) (h_r_X8_parseItems : ∀ (x1 : Int32) (x2 : Int32) (x3 : Int32) (σ : ST), KVA s σ → PF st1 (KVA s) (r_X8_parseItems x1 x2 x3 σ)) (h_r_X8_parseValue : ∀ (x1 : Int32) (x2 : Int32) (x3 : Int32) (x4 : Int32) (σ : ST), KVA s σ → PF st1 (KVA s) (r_X8_parseValue x1 x2 x3 x4 σ))  (h : KVA s σ) : PF st1 (KVA s) (f_X8_parseValue_78 r_X8_parseFields r_X8_parseItems r_X8_parseValue x4 x5 x6 σ) := by
  unfold f_X8_parseValue_78
  exact (wv_X8_parseValue_93 h_r_X8_parseFields h_r_X8_parseItems h_r_X8_parseValue h)
theorem wv_X7_link_155 {s : ST} {b : Nat} {x1 : Int32} {x2 : Int32} {σ : ST}  (h_b : 62 = b) (h : KVA s σ) : PF st0 (KVA s) (f_X7_link_155 b x1 x2 σ) := by
  unfold f_X7_link_155
  exact (PF.ite (fun _ => (PF.ite (fun _ => (PF.ite (fun _ => (PF.ret0 (KVA.i (by omega) h))) (fun _ => PF.none))) (fun _ => (PF.ret0 h)))) (fun _ => PF.none))
theorem wv_X7_link_103 {s : ST} {b : Nat} {x1 : Int32} {x2 : Int32} {x4 : Int32} {σ : ST}  (h_b : 62 = b) (h : KVA s σ) : PF st0 (KVA s) (f_X7_link_103 b x1 x2 x4 σ) := by
  unfold f_X7_link_103
  exact (PF.bnd (wv_X7_isRow  h) (fun q1 hq1 => (PF.ite (fun _ => (PF.ite (fun _ => (PF.ite (fun _ => (PF.bnd (PF.ret0 (KVA.i (by omega) (KVA.i (by omega) hq1))) (fun z5 hz5 => (wv_X7_link_155 (by omega) hz5)))) (fun _ => PF.none))) (fun _ => PF.none))) (fun _ => (PF.ite (fun _ => (PF.ite (fun _ => (PF.bnd (PF.ret0 (KVA.i (by omega) (KVA.i (by omega) hq1))) (fun z8 hz8 => (wv_X7_link_155 (by omega) hz8)))) (fun _ => PF.none))) (fun _ => PF.none))))))
theorem wv_X7_link_50 {s : ST} {b : Nat}  (h_b : 62 = b) : ∀ (n : Nat) (x1 : Int32) (x2 : Int32) (x3 : Int32) (x4 : Int32) (x5 : Int32) (σ : ST), KVA s σ → PF st0 (KVA s) (f_X7_link_50 b n x1 x2 x3 x4 x5 σ) := by
  intro n
  induction n with
  | zero => intro x1 x2 x3 x4 x5 σ h; rw [f_X7_link_50]; exact PF.none
  | succ n ih =>
    intro x1 x2 x3 x4 x5 σ h
    rw [f_X7_link_50]
    exact (PF.ite (fun _ => (wv_X7_link_103 (by omega) h)) (fun _ => (PF.bnd (wv_X7_isRow  h) (fun q1 hq1 => (PF.ite (fun _ => (wv_X7_link_103 (by omega) hq1)) (fun _ => (PF.ite (fun _ => (PF.ite (fun _ => (PF.ite (fun _ => (wv_X7_link_103 (by omega) hq1)) (fun _ => (ih _ _ _ _ _ _ hq1)))) (fun _ => PF.none))) (fun _ => PF.none))))))))
theorem wv_X7_link_39 {s : ST} {b : Nat} {x1 : Int32} {x2 : Int32} {x4 : Int32} {σ : ST}  (h_b : 62 = b) (h : KVA s σ) : PF st0 (KVA s) (f_X7_link_39 b x1 x2 x4 σ) := by
  unfold f_X7_link_39
  exact (PF.ite (fun _ => (wv_X7_link_50 (by omega) _ _ _ _ _ _ _ h)) (fun _ => PF.none))
theorem wv_X7_link {s : ST} {b : Nat} {p0 : Int32} {p1 : Int32} {σ : ST}  (h_b : 62 = b) (h : KVA s σ) : PF st0 (KVA s) (f_X7_link b p0 p1 σ) := by
  unfold f_X7_link
  exact (PF.ite (fun _ => (PF.bnd (wv_X7_isRow  h) (fun q2 hq2 => (PF.ite (fun _ => (wv_X7_link_39 (by omega) hq2)) (fun _ => (PF.ite (fun _ => (PF.ite (fun _ => (PF.ite (fun _ => (wv_X7_link_39 (by omega) hq2)) (fun _ => (wv_X7_link_103 (by omega) hq2)))) (fun _ => PF.none))) (fun _ => PF.none))))))) (fun _ => PF.none))
theorem wv_X7_grow {s : ST} {b : Nat} {p0 : Int32} {p1 : Int32} {p2 : Int32} {σ : ST}  (h_b : 62 = b) (h : KVA s σ) : PF st1 (KVA s) (f_X7_grow b p0 p1 p2 σ) := by
  unfold f_X7_grow
  exact (PF.ite (fun _ => (PF.ite (fun _ => (PF.bnd (PF.ret0 (KVA.i (by omega) (KVA.i (by omega) (KVA.i (by omega) h)))) (fun z2 hz2 => (PF.bnd (PF.ret0 (KVA.i (by omega) (KVA.i (by omega) (KVA.i (by omega) hz2)))) (fun z3 hz3 => (PF.bnd (PF.ret0 (KVA.i (by omega) (KVA.l (by omega) hz3))) (fun z4 hz4 => (PF.bnd (PF.ret0 (KVA.i (by omega) (KVA.i (by omega) hz4))) (fun z5 hz5 => (PF.bnd (wv_X7_isRow  hz5) (fun q6 hq6 => (PF.ite (fun _ => (PF.ret1 hq6)) (fun _ => (PF.bnd (wv_X7_link (by omega) hq6) (fun q8 hq8 => (PF.ret1 hq8)))))))))))))))) (fun _ => PF.none))) (fun _ => (PF.ret1 h)))
theorem wv_X8_parseValue_31 {s : ST} {r_X8_parseFields : Int32 → Int32 → Int32 → ST → Option (Int32 × ST)} {r_X8_parseItems : Int32 → Int32 → Int32 → ST → Option (Int32 × ST)} {r_X8_parseValue : Int32 → Int32 → Int32 → Int32 → ST → Option (Int32 × ST)} {x1 : Int32} {x2 : Int32} {x3 : Int32} {x4 : Int32} {σ : ST} (h_r_X8_parseFields : ∀ (x1 : Int32) (x2 : Int32) (x3 : Int32) (σ : ST), KVA s σ → PF st1 (KVA s) (r_X8_parseFields x1 x2 x3 σ)) (h_r_X8_parseItems : ∀ (x1 : Int32) (x2 : Int32) (x3 : Int32) (σ : ST), KVA s σ → PF st1 (KVA s) (r_X8_parseItems x1 x2 x3 σ)) (h_r_X8_parseValue : ∀ (x1 : Int32) (x2 : Int32) (x3 : Int32) (x4 : Int32) (σ : ST), KVA s σ → PF st1 (KVA s) (r_X8_parseValue x1 x2 x3 x4 σ))  (h : KVA s σ) : PF st1 (KVA s) (f_X8_parseValue_31 r_X8_parseFields r_X8_parseItems r_X8_parseValue x1 x2 x3 x4 σ) := by
  unfold f_X8_parseValue_31
  exact (PF.bnd (wv_X8_fittingType  h) (fun q1 hq1 => (PF.ite (fun _ => (PF.bnd (wv_X6_refuse  hq1) (fun q7 hq7 => (PF.ite (fun _ => (PF.ret1 hq7)) (fun _ => PF.none))))) (fun _ => (PF.bnd (wv_X5_sortOf  hq1) (fun q3 hq3 => (PF.ite (fun _ => (wv_X8_parseValue_78 h_r_X8_parseFields h_r_X8_parseItems h_r_X8_parseValue hq3)) (fun _ => (PF.ite (fun _ => (PF.bnd (wv_X7_grow (by omega) hq3) (fun q5 hq5 => (wv_X8_parseValue_93 h_r_X8_parseFields h_r_X8_parseItems h_r_X8_parseValue hq5)))) (fun _ => (wv_X8_parseValue_78 h_r_X8_parseFields h_r_X8_parseItems h_r_X8_parseValue hq3)))))))))))
theorem wv_X8_parseValue {s : ST} {r_X8_parseFields : Int32 → Int32 → Int32 → ST → Option (Int32 × ST)} {r_X8_parseItems : Int32 → Int32 → Int32 → ST → Option (Int32 × ST)} {r_X8_parseValue : Int32 → Int32 → Int32 → Int32 → ST → Option (Int32 × ST)} {p0 : Int32} {p1 : Int32} {p2 : Int32} {p3 : Int32} {σ : ST} (h_r_X8_parseFields : ∀ (x1 : Int32) (x2 : Int32) (x3 : Int32) (σ : ST), KVA s σ → PF st1 (KVA s) (r_X8_parseFields x1 x2 x3 σ)) (h_r_X8_parseItems : ∀ (x1 : Int32) (x2 : Int32) (x3 : Int32) (σ : ST), KVA s σ → PF st1 (KVA s) (r_X8_parseItems x1 x2 x3 σ)) (h_r_X8_parseValue : ∀ (x1 : Int32) (x2 : Int32) (x3 : Int32) (x4 : Int32) (σ : ST), KVA s σ → PF st1 (KVA s) (r_X8_parseValue x1 x2 x3 x4 σ))  (h : KVA s σ) : PF st1 (KVA s) (f_X8_parseValue r_X8_parseFields r_X8_parseItems r_X8_parseValue p0 p1 p2 p3 σ) := by
  unfold f_X8_parseValue
  exact (PF.bnd (wv_X6_beginsLiteral  h) (fun q1 hq1 => (PF.ite (fun _ => (PF.ite (fun _ => (wv_X8_parseValue_31 h_r_X8_parseFields h_r_X8_parseItems h_r_X8_parseValue hq1)) (fun _ => (PF.bnd (wv_X6_refuse  hq1) (fun q3 hq3 => (PF.ite (fun _ => (PF.ret1 hq3)) (fun _ => PF.none))))))) (fun _ => (wv_X8_parseValue_31 h_r_X8_parseFields h_r_X8_parseItems h_r_X8_parseValue hq1)))))
theorem wvR_X8_parseFields {s : ST} : ∀ n : Nat, (∀ (p0 : Int32) (p1 : Int32) (p2 : Int32) (σ : ST), KVA s σ → PF st1 (KVA s) ((R_X8_parseFields n).1 p0 p1 p2 σ)) ∧ (∀ (p0 : Int32) (p1 : Int32) (p2 : Int32) (σ : ST), KVA s σ → PF st1 (KVA s) ((R_X8_parseFields n).2.1 p0 p1 p2 σ)) ∧ (∀ (p0 : Int32) (p1 : Int32) (p2 : Int32) (p3 : Int32) (σ : ST), KVA s σ → PF st1 (KVA s) ((R_X8_parseFields n).2.2 p0 p1 p2 p3 σ)) := by
  intro n
  induction n with
  | zero => exact ⟨fun _ _ _ _ _ => PF.none, fun _ _ _ _ _ => PF.none, fun _ _ _ _ _ _ => PF.none⟩
  | succ n ih => exact ⟨fun _ _ _ _ h => wv_X8_parseFields (ih.1) (ih.2.1) (ih.2.2)  h, fun _ _ _ _ h => wv_X8_parseItems (ih.1) (ih.2.1) (ih.2.2)  h, fun _ _ _ _ _ h => wv_X8_parseValue (ih.1) (ih.2.1) (ih.2.2)  h⟩
theorem wv_T_X8_parseValue {s : ST} {p0 : Int32} {p1 : Int32} {p2 : Int32} {p3 : Int32} {σ : ST} (h : KVA s σ) : PF st1 (KVA s) (f_T_X8_parseValue p0 p1 p2 p3 σ) := (wvR_X8_parseFields FR).2.2 _ _ _ _ _  h
theorem wv_X11_byteAt {s : ST} {p0 : Int32} {σ : ST}   (h : KVB s σ) : PF st1 (KVB s) (f_X11_byteAt p0 σ) := by
  unfold f_X11_byteAt
  exact (PF.ite (fun _ => (PF.ret1 h)) (fun _ => (PF.ite (fun _ => (PF.ret1 h)) (fun _ => PF.none))))
theorem wv_X11_go_26 {s : ST} {k0 : ST → Option (ST)} {σ : ST} (h_k0 : ∀ (σ : ST), KVB s σ → PF st0 (KVB s) (k0 σ))  (h : KVB s σ) : PF st0 (KVB s) (f_X11_go_26 k0 σ) := by
  unfold f_X11_go_26
  exact (h_k0 _ (KVB.i (by omega) h))
theorem wv_X11_within {s : ST} {p0 : Int64} {p1 : Int64} {p2 : Int64} {σ : ST}   (h : KVB s σ) : PF st1 (KVB s) (f_X11_within p0 p1 p2 σ) := by
  unfold f_X11_within
  exact (PF.ite (fun _ => (PF.ret1 h)) (fun _ => (PF.ite (fun _ => (PF.ret1 h)) (fun _ => (PF.ret1 h)))))
theorem wv_X11_isLetter {s : ST} {p0 : Int32} {σ : ST}   (h : KVB s σ) : PF st1 (KVB s) (f_X11_isLetter p0 σ) := by
  unfold f_X11_isLetter
  exact (PF.bnd (wv_X11_within  h) (fun q1 hq1 => (PF.ite (fun _ => (PF.ret1 hq1)) (fun _ => PF.none))))
theorem wv_X11_isDigit {s : ST} {p0 : Int32} {σ : ST}   (h : KVB s σ) : PF st1 (KVB s) (f_X11_isDigit p0 σ) := by
  unfold f_X11_isDigit
  exact (PF.bnd (wv_X11_within  h) (fun q1 hq1 => (PF.ite (fun _ => (PF.ret1 hq1)) (fun _ => PF.none))))
theorem wv_X11_word_62 {s : ST} {k10 : Int32 → ST → Option (ST)} {x1 : Int32} {y0 : Int64} {σ : ST} (h_k10 : ∀ (x1 : Int32) (σ : ST), KVB s σ → PF st0 (KVB s) (k10 x1 σ))  (h : KVB s σ) : PF st0 (KVB s) (f_X11_word_62 k10 x1 y0 σ) := by
  unfold f_X11_word_62
  exact (PF.bnd (PF.ret0 (KVB.i (by omega) (KVB.i (by omega) (KVB.l (by omega) h)))) (fun z1 hz1 => (h_k10 _ _ hz1)))
theorem wv_X11_word_10 {s : ST}    : ∀ (n : Nat) (x1 : Int32) (σ : ST), KVB s σ → PF st0 (KVB s) (f_X11_word_10  n x1 σ) := by
  intro n
  induction n with
  | zero => intro x1 σ h; rw [f_X11_word_10]; exact PF.none
  | succ n ih =>
    intro x1 σ h
    rw [f_X11_word_10]
    exact (PF.bnd (wv_X11_byteAt  h) (fun q1 hq1 => (PF.bnd (wv_X11_isLetter  hq1) (fun q3 hq3 => (PF.ite (fun _ => (PF.ret0 hq3)) (fun _ => (PF.ite (fun _ => (wv_X11_word_62 ih hq3)) (fun _ => (PF.bnd (wv_X11_byteAt  hq3) (fun q5 hq5 => (wv_X11_word_62 ih hq5)))))))))))
theorem wv_X11_word {s : ST} {p0 : Int32} {σ : ST}   (h : KVB s σ) : PF st0 (KVB s) (f_X11_word p0 σ) := by
  unfold f_X11_word
  exact (wv_X11_word_10  _ _ _ (KVB.i (by omega) (KVB.l (by omega) h)))
theorem wv_X11_quoted_64 {s : ST} {y0 : Int32} {σ : ST}   (h : KVB s σ) : PF st0 (KVB s) (f_X11_quoted_64 y0 σ) := by
  unfold f_X11_quoted_64
  exact (PF.ret0 (KVB.i (by omega) h))
theorem wv_X11_quoted_43 {s : ST} {y0 : Int32} {σ : ST}   (h : KVB s σ) : PF st0 (KVB s) (f_X11_quoted_43 y0 σ) := by
  unfold f_X11_quoted_43
  exact (PF.ite (fun _ => (wv_X11_quoted_64  (KVB.i (by omega) h))) (fun _ => (wv_X11_quoted_64  (KVB.i (by omega) h))))
theorem wv_X11_quoted_42 {s : ST}  {σ : ST}   (h : KVB s σ) : PF st0 (KVB s) (f_X11_quoted_42 σ) := by
  unfold f_X11_quoted_42
  exact (wv_X11_quoted_43  h)
theorem wv_X11_quoted {s : ST}  {σ : ST}   (h : KVB s σ) : PF st0 (KVB s) (f_X11_quoted σ) := by
  unfold f_X11_quoted
  exact (PF.bnd (wv_X11_word  (KVB.i (by omega) h)) (fun q1 hq1 => (PF.ite (fun _ => (wv_X11_quoted_42  hq1)) (fun _ => (PF.bnd (wv_X11_byteAt  hq1) (fun q3 hq3 => (PF.ite (fun _ => (wv_X11_quoted_43  hq3)) (fun _ => (wv_X11_quoted_42  hq3)))))))))
theorem wv_X11_isSign_36 {s : ST}  {σ : ST}   (h : KVB s σ) : PF st1 (KVB s) (f_X11_isSign_36 σ) := by
  unfold f_X11_isSign_36
  exact (PF.ret1 h)
theorem wv_X11_isSign {s : ST} {p0 : Int32} {σ : ST}   (h : KVB s σ) : PF st1 (KVB s) (f_X11_isSign p0 σ) := by
  unfold f_X11_isSign
  exact (PF.ite (fun _ => (wv_X11_isSign_36  h)) (fun _ => (PF.ite (fun _ => (wv_X11_isSign_36  h)) (fun _ => (PF.ite (fun _ => (wv_X11_isSign_36  h)) (fun _ => (PF.ite (fun _ => (wv_X11_isSign_36  h)) (fun _ => (PF.ite (fun _ => (wv_X11_isSign_36  h)) (fun _ => (PF.ite (fun _ => (wv_X11_isSign_36  h)) (fun _ => (PF.ret1 h)))))))))))))
theorem wv_X11_go_185 {s : ST} {y0 : Int32} {σ : ST}   (h : KVB s σ) : PF st0 (KVB s) (f_X11_go_185 y0 σ) := by
  unfold f_X11_go_185
  exact (PF.ret0 (KVB.i (by omega) (KVB.i (by omega) h)))
theorem wv_X11_go_169 {s : ST} {y0 : Int32} {σ : ST}   (h : KVB s σ) : PF st0 (KVB s) (f_X11_go_169 y0 σ) := by
  unfold f_X11_go_169
  exact (PF.ite (fun _ => (wv_X11_go_185  (KVB.i (by omega) h))) (fun _ => (wv_X11_go_185  (KVB.i (by omega) h))))
theorem wv_X11_go_143 {s : ST} {x1 : Int32} {σ : ST}   (h : KVB s σ) : PF st0 (KVB s) (f_X11_go_143 x1 σ) := by
  unfold f_X11_go_143
  exact (PF.ite (fun _ => (PF.bnd (wv_X11_quoted  h) (fun q3 hq3 => (PF.ret0 hq3)))) (fun _ => (PF.bnd (wv_X11_isSign  h) (fun q1 hq1 => (PF.ite (fun _ => (wv_X11_go_169  hq1)) (fun _ => (wv_X11_go_169  hq1)))))))
theorem wv_X11_number_292 {s : ST} {y0 : Int32} {σ : ST}   (h : KVB s σ) : PF st0 (KVB s) (f_X11_number_292 y0 σ) := by
  unfold f_X11_number_292
  exact (PF.ret0 (KVB.i (by omega) h))
theorem wv_X11_number_279 {s : ST} {x3 : Int32} {y0 : Int64} {σ : ST}   (h : KVB s σ) : PF st0 (KVB s) (f_X11_number_279 x3 y0 σ) := by
  unfold f_X11_number_279
  exact (PF.ite (fun _ => (wv_X11_number_292  (KVB.l (by omega) h))) (fun _ => (wv_X11_number_292  (KVB.l (by omega) h))))
theorem wv_X11_number_262 {s : ST} {x1 : Int32} {x3 : Int32} {σ : ST}   (h : KVB s σ) : PF st0 (KVB s) (f_X11_number_262 x1 x3 σ) := by
  unfold f_X11_number_262
  exact (PF.ite (fun _ => (wv_X11_number_279  h)) (fun _ => (wv_X11_number_279  h)))
theorem wv_X11_number_261 {s : ST} {x1 : Int32} {y0 : Int32} {σ : ST}   (h : KVB s σ) : PF st0 (KVB s) (f_X11_number_261 x1 y0 σ) := by
  unfold f_X11_number_261
  exact (wv_X11_number_262  h)
theorem wv_X11_number_260 {s : ST} {x1 : Int32} {σ : ST}   (h : KVB s σ) : PF st0 (KVB s) (f_X11_number_260 x1 σ) := by
  unfold f_X11_number_260
  exact (wv_X11_number_261  h)
theorem wv_X11_number_225 {s : ST} {x1 : Int32} {x3 : Int32} {y0 : UInt64} {σ : ST}   (h : KVB s σ) : PF st0 (KVB s) (f_X11_number_225 x1 x3 y0 σ) := by
  unfold f_X11_number_225
  exact (PF.ite (fun _ => (wv_X11_number_260  (KVB.i (by omega) (KVB.d h)))) (fun _ => (PF.bnd (wv_X11_byteAt  (KVB.i (by omega) (KVB.d h))) (fun q1 hq1 => (PF.bnd (wv_X11_isDigit  hq1) (fun q3 hq3 => (PF.ite (fun _ => (wv_X11_number_261  hq3)) (fun _ => (wv_X11_number_260  hq3)))))))))
theorem wv_X11_number_170 {s : ST} {x1 : Int32} {x3 : Int32} {y0 : Int32} {σ : ST}   (h : KVB s σ) : PF st0 (KVB s) (f_X11_number_170 x1 x3 y0 σ) := by
  unfold f_X11_number_170
  exact (PF.ite (fun _ => (PF.ite (fun _ => (wv_X11_number_262  (KVB.i (by omega) h))) (fun _ => (PF.bnd (wv_X11_byteAt  (KVB.i (by omega) h)) (fun q2 hq2 => (PF.ite (fun _ => (PF.ite (fun _ => (PF.bnd (PF.ret0 (KVB.d hq2)) (fun z6 hz6 => (PF.ite (fun _ => (wv_X11_number_225  hz6)) (fun _ => (wv_X11_number_225  hz6)))))) (fun _ => PF.none))) (fun _ => PF.none))))))) (fun _ => PF.none))
theorem wv_X11_number_169 {s : ST} {x1 : Int32} {x3 : Int32} {σ : ST}   (h : KVB s σ) : PF st0 (KVB s) (f_X11_number_169 x1 x3 σ) := by
  unfold f_X11_number_169
  exact (wv_X11_number_170  h)
theorem wv_X11_number_134 {s : ST} {x1 : Int32} {y0 : Int32} {σ : ST}   (h : KVB s σ) : PF st0 (KVB s) (f_X11_number_134 x1 y0 σ) := by
  unfold f_X11_number_134
  exact (PF.bnd (wv_X11_byteAt  h) (fun q1 hq1 => (PF.ite (fun _ => (PF.bnd (wv_X11_byteAt  hq1) (fun q3 hq3 => (PF.bnd (wv_X11_isDigit  hq3) (fun q5 hq5 => (PF.ite (fun _ => (wv_X11_number_169  hq5)) (fun _ => (wv_X11_number_170  hq5)))))))) (fun _ => (wv_X11_number_169  hq1)))))
theorem wv_X11_number_102 {s : ST} {k47 : Int32 → Int32 → ST → Option (ST)} {x1 : Int32} {x2 : Int32} {y0 : Int64} {σ : ST} (h_k47 : ∀ (x1 : Int32) (x2 : Int32) (σ : ST), KVB s σ → PF st0 (KVB s) (k47 x1 x2 σ))  (h : KVB s σ) : PF st0 (KVB s) (f_X11_number_102 k47 x1 x2 y0 σ) := by
  unfold f_X11_number_102
  exact (h_k47 _ _ _ (KVB.i (by omega) (KVB.l (by omega) h)))
theorem wv_X11_number_47 {s : ST}    : ∀ (n : Nat) (x1 : Int32) (x2 : Int32) (σ : ST), KVB s σ → PF st0 (KVB s) (f_X11_number_47  n x1 x2 σ) := by
  intro n
  induction n with
  | zero => intro x1 x2 σ h; rw [f_X11_number_47]; exact PF.none
  | succ n ih =>
    intro x1 x2 σ h
    rw [f_X11_number_47]
    exact (PF.bnd (wv_X11_byteAt  h) (fun q1 hq1 => (PF.bnd (wv_X11_isDigit  hq1) (fun q3 hq3 => (PF.ite (fun _ => (PF.ite (fun _ => (wv_X11_number_134  hq3)) (fun _ => (wv_X11_number_134  hq3)))) (fun _ => (PF.ite (fun _ => (wv_X11_number_102 ih hq3)) (fun _ => (PF.bnd (wv_X11_byteAt  hq3) (fun q5 hq5 => (wv_X11_number_102 ih hq5)))))))))))
theorem wv_X11_number_33 {s : ST} {x1 : Int32} {y0 : Int32} {y1 : Int32} {σ : ST}   (h : KVB s σ) : PF st0 (KVB s) (f_X11_number_33 x1 y0 y1 σ) := by
  unfold f_X11_number_33
  exact (wv_X11_number_47  _ _ _ _ (KVB.l (by omega) (KVB.i (by omega) h)))
theorem wv_X11_number_18 {s : ST} {y0 : Int32} {σ : ST}   (h : KVB s σ) : PF st0 (KVB s) (f_X11_number_18 y0 σ) := by
  unfold f_X11_number_18
  exact (PF.ite (fun _ => (wv_X11_number_33  h)) (fun _ => (wv_X11_number_33  h)))
theorem wv_X11_number {s : ST}  {σ : ST}   (h : KVB s σ) : PF st0 (KVB s) (f_X11_number σ) := by
  unfold f_X11_number
  exact (PF.bnd (wv_X11_byteAt  h) (fun q1 hq1 => (PF.ite (fun _ => (wv_X11_number_18  hq1)) (fun _ => (wv_X11_number_18  hq1)))))
theorem wv_X11_go_136 {s : ST}  {σ : ST}   (h : KVB s σ) : PF st0 (KVB s) (f_X11_go_136 σ) := by
  unfold f_X11_go_136
  exact (PF.bnd (wv_X11_number  h) (fun q1 hq1 => (PF.ret0 hq1)))
theorem wv_X11_go_101 {s : ST} {y0 : Int32} {σ : ST}   (h : KVB s σ) : PF st0 (KVB s) (f_X11_go_101 y0 σ) := by
  unfold f_X11_go_101
  exact (PF.ret0 (KVB.i (by omega) h))
theorem wv_X11_go_0 {s : ST}    : ∀ (n : Nat) (σ : ST), KVB s σ → PF st0 (KVB s) (f_X11_go_0  n σ) := by
  intro n
  induction n with
  | zero => intro σ h; rw [f_X11_go_0]; exact PF.none
  | succ n ih =>
    intro σ h
    rw [f_X11_go_0]
    exact (PF.bnd (wv_X11_byteAt  h) (fun q1 hq1 => (PF.ite (fun _ => (wv_X11_go_26 ih hq1)) (fun _ => (PF.bnd (wv_X11_byteAt  hq1) (fun q3 hq3 => (PF.ite (fun _ => (wv_X11_go_26 ih hq3)) (fun _ => (PF.bnd (wv_X11_byteAt  (KVB.i (by omega) hq3)) (fun q5 hq5 => (PF.ite (fun _ => (PF.bnd (wv_X11_isLetter  (KVB.i (by omega) hq5)) (fun q7 hq7 => (PF.ite (fun _ => (PF.bnd (wv_X11_isDigit  hq7) (fun q9 hq9 => (PF.ite (fun _ => (PF.ite (fun _ => (PF.bnd (wv_X11_byteAt  hq9) (fun q11 hq11 => (PF.bnd (wv_X11_isDigit  hq11) (fun q13 hq13 => (PF.ite (fun _ => (wv_X11_go_143  hq13)) (fun _ => (wv_X11_go_136  hq13)))))))) (fun _ => (wv_X11_go_143  hq9)))) (fun _ => (wv_X11_go_136  hq9)))))) (fun _ => (PF.bnd (wv_X11_word  hq7) (fun q15 hq15 => (PF.ite (fun _ => (wv_X11_go_101  hq15)) (fun _ => (wv_X11_go_101  hq15)))))))))) (fun _ => (PF.ret0 (KVB.i (by omega) (KVB.i (by omega) hq5)))))))))))))))
theorem wv_X11_go {s : ST}  {σ : ST}   (h : KVB s σ) : PF st0 (KVB s) (f_X11_go σ) := by
  unfold f_X11_go
  exact (wv_X11_go_0  _ _ h)
theorem wv_X11_wrong_21 {s : ST} {y0 : Int32} {σ : ST}   (h : KVB s σ) : PF st1 (KVB s) (f_X11_wrong_21 y0 σ) := by
  unfold f_X11_wrong_21
  exact (PF.ret1 (KVB.i (by omega) h))
theorem wv_X11_wrong {s : ST} {p0 : Int32} {p1 : Int32} {σ : ST}   (h : KVB s σ) : PF st1 (KVB s) (f_X11_wrong p0 p1 σ) := by
  unfold f_X11_wrong
  exact (PF.ite (fun _ => (wv_X11_wrong_21  h)) (fun _ => (wv_X11_wrong_21  h)))
theorem wv_X11_wrongHere {s : ST} {p0 : Int32} {σ : ST}   (h : KVB s σ) : PF st1 (KVB s) (f_X11_wrongHere p0 σ) := by
  unfold f_X11_wrongHere
  exact (PF.bnd (wv_X11_wrong  h) (fun q1 hq1 => (PF.ite (fun _ => (PF.ret1 hq1)) (fun _ => PF.none))))
theorem wv_X11_mark {s : ST} {p0 : Int32} {σ : ST}   (h : KVB s σ) : PF st1 (KVB s) (f_X11_mark p0 σ) := by
  unfold f_X11_mark
  exact (PF.ite (fun _ => (PF.bnd (wv_X11_go  h) (fun q1 hq1 => (PF.ret1 hq1)))) (fun _ => (PF.bnd (wv_X11_wrongHere  h) (fun q3 hq3 => (PF.ite (fun _ => (PF.ret1 hq3)) (fun _ => PF.none))))))
theorem wv_X11_items_70 {s : ST} {r_X11_items : Int32 → Int32 → Int32 → Int32 → ST → Option ((Int32 × ST) × Nat)} {r_X11_parts : Int32 → Int32 → Int32 → Int32 → ST → Option ((Int32 × ST) × Nat)} {r_X11_value : Int32 → Int32 → Int32 → Int32 → Int32 → ST → Option ((Int32 × ST) × Nat)} {k25 : Int32 → Int32 → Int32 → Int32 → Int32 → Int32 → ST → Option ((Int32 × ST) × Nat)} {x1 : Int32} {x2 : Int32} {x3 : Int32} {x4 : Int32} {x5 : Int32} {y0 : Int32} {σ : ST} (h_r_X11_items : ∀ (x1 : Int32) (x2 : Int32) (x3 : Int32) (x4 : Int32) (σ : ST), KVB s σ → PF st2 (KVB s) (r_X11_items x1 x2 x3 x4 σ)) (h_r_X11_parts : ∀ (x1 : Int32) (x2 : Int32) (x3 : Int32) (x4 : Int32) (σ : ST), KVB s σ → PF st2 (KVB s) (r_X11_parts x1 x2 x3 x4 σ)) (h_r_X11_value : ∀ (x1 : Int32) (x2 : Int32) (x3 : Int32) (x4 : Int32) (x5 : Int32) (σ : ST), KVB s σ → PF st2 (KVB s) (r_X11_value x1 x2 x3 x4 x5 σ)) (h_k25 : ∀ (x1 : Int32) (x2 : Int32) (x3 : Int32) (x4 : Int32) (x5 : Int32) (x6 : Int32) (σ : ST), KVB s σ → PF st2 (KVB s) (k25 x1 x2 x3 x4 x5 x6 σ))  (h : KVB s σ) : PF st2 (KVB s) (f_X11_items_70 r_X11_items r_X11_parts r_X11_value k25 x1 x2 x3 x4 x5 y0 σ) := by
  unfold f_X11_items_70
  exact (PF.ite (fun _ => (h_k25 _ _ _ _ _ _ _ h)) (fun _ => (PF.bnd (wv_X11_go  h) (fun q1 hq1 => (h_k25 _ _ _ _ _ _ _ hq1)))))
theorem wv_X11_items_25 {s : ST} {r_X11_items : Int32 → Int32 → Int32 → Int32 → ST → Option ((Int32 × ST) × Nat)} {r_X11_parts : Int32 → Int32 → Int32 → Int32 → ST → Option ((Int32 × ST) × Nat)} {r_X11_value : Int32 → Int32 → Int32 → Int32 → Int32 → ST → Option ((Int32 × ST) × Nat)} (h_r_X11_items : ∀ (x1 : Int32) (x2 : Int32) (x3 : Int32) (x4 : Int32) (σ : ST), KVB s σ → PF st2 (KVB s) (r_X11_items x1 x2 x3 x4 σ)) (h_r_X11_parts : ∀ (x1 : Int32) (x2 : Int32) (x3 : Int32) (x4 : Int32) (σ : ST), KVB s σ → PF st2 (KVB s) (r_X11_parts x1 x2 x3 x4 σ)) (h_r_X11_value : ∀ (x1 : Int32) (x2 : Int32) (x3 : Int32) (x4 : Int32) (x5 : Int32) (σ : ST), KVB s σ → PF st2 (KVB s) (r_X11_value x1 x2 x3 x4 x5 σ))  : ∀ (n : Nat) (x1 : Int32) (x2 : Int32) (x3 : Int32) (x4 : Int32) (x5 : Int32) (x6 : Int32) (σ : ST), KVB s σ → PF st2 (KVB s) (f_X11_items_25 r_X11_items r_X11_parts r_X11_value n x1 x2 x3 x4 x5 x6 σ) := by
  intro n
  induction n with
  | zero => intro x1 x2 x3 x4 x5 x6 σ h; rw [f_X11_items_25]; exact PF.none
  | succ n ih =>
    intro x1 x2 x3 x4 x5 x6 σ h
    rw [f_X11_items_25]
    exact (PF.ite (fun _ => (PF.bnd (wv_X11_mark  h) (fun q1 hq1 => (PF.ite (fun _ => (PF.ret2 hq1)) (fun _ => PF.none))))) (fun _ => (PF.ite (fun _ => (PF.bnd (h_r_X11_value _ _ _ _ _ _ h) (fun q4 hq4 => (PF.ac (PF.ite (fun _ => (PF.ret2 hq4)) (fun _ => (PF.ite (fun _ => (wv_X11_items_70 h_r_X11_items h_r_X11_parts h_r_X11_value ih hq4)) (fun _ => (wv_X11_items_70 h_r_X11_items h_r_X11_parts h_r_X11_value ih hq4))))))))) (fun _ => PF.none))))
theorem wv_X11_items {s : ST} {r_X11_items : Int32 → Int32 → Int32 → Int32 → ST → Option ((Int32 × ST) × Nat)} {r_X11_parts : Int32 → Int32 → Int32 → Int32 → ST → Option ((Int32 × ST) × Nat)} {r_X11_value : Int32 → Int32 → Int32 → Int32 → Int32 → ST → Option ((Int32 × ST) × Nat)} {p0 : Int32} {p1 : Int32} {p2 : Int32} {p3 : Int32} {σ : ST} (h_r_X11_items : ∀ (x1 : Int32) (x2 : Int32) (x3 : Int32) (x4 : Int32) (σ : ST), KVB s σ → PF st2 (KVB s) (r_X11_items x1 x2 x3 x4 σ)) (h_r_X11_parts : ∀ (x1 : Int32) (x2 : Int32) (x3 : Int32) (x4 : Int32) (σ : ST), KVB s σ → PF st2 (KVB s) (r_X11_parts x1 x2 x3 x4 σ)) (h_r_X11_value : ∀ (x1 : Int32) (x2 : Int32) (x3 : Int32) (x4 : Int32) (x5 : Int32) (σ : ST), KVB s σ → PF st2 (KVB s) (r_X11_value x1 x2 x3 x4 x5 σ))  (h : KVB s σ) : PF st2 (KVB s) (f_X11_items r_X11_items r_X11_parts r_X11_value p0 p1 p2 p3 σ) := by
  unfold f_X11_items
  exact (PF.bnd (wv_X11_go  h) (fun q1 hq1 => (PF.ite (fun _ => (PF.bnd (wv_X11_go  hq1) (fun q3 hq3 => (PF.ret2 hq3)))) (fun _ => (wv_X11_items_25 h_r_X11_items h_r_X11_parts h_r_X11_value _ _ _ _ _ _ _ _ hq1)))))
theorem wv_X11_hasChild_35 {s : ST} {k10 : Int32 → Int32 → Int32 → ST → Option (Int32 × ST)} {x2 : Int32} {x4 : Int32} {y0 : Int32} {σ : ST} (h_k10 : ∀ (x1 : Int32) (x2 : Int32) (x3 : Int32) (σ : ST), KVB s σ → PF st1 (KVB s) (k10 x1 x2 x3 σ))  (h : KVB s σ) : PF st1 (KVB s) (f_X11_hasChild_35 k10 x2 x4 y0 σ) := by
  unfold f_X11_hasChild_35
  exact (PF.ite (fun _ => (h_k10 _ _ _ _ h)) (fun _ => PF.none))
theorem wv_X11_hasChild_30 {s : ST} {k10 : Int32 → Int32 → Int32 → ST → Option (Int32 × ST)} {x2 : Int32} {x4 : Int32} {σ : ST} (h_k10 : ∀ (x1 : Int32) (x2 : Int32) (x3 : Int32) (σ : ST), KVB s σ → PF st1 (KVB s) (k10 x1 x2 x3 σ))  (h : KVB s σ) : PF st1 (KVB s) (f_X11_hasChild_30 k10 x2 x4 σ) := by
  unfold f_X11_hasChild_30
  exact (wv_X11_hasChild_35 h_k10 h)
theorem wv_X11_hasChild_10 {s : ST}    : ∀ (n : Nat) (x1 : Int32) (x2 : Int32) (x3 : Int32) (σ : ST), KVB s σ → PF st1 (KVB s) (f_X11_hasChild_10  n x1 x2 x3 σ) := by
  intro n
  induction n with
  | zero => intro x1 x2 x3 σ h; rw [f_X11_hasChild_10]; exact PF.none
  | succ n ih =>
    intro x1 x2 x3 σ h
    rw [f_X11_hasChild_10]
    exact (PF.ite (fun _ => (PF.ite (fun _ => (PF.ret1 h)) (fun _ => PF.none))) (fun _ => (PF.ite (fun _ => (PF.ite (fun _ => (PF.ite (fun _ => (wv_X11_hasChild_30 ih h)) (fun _ => (wv_X11_hasChild_35 ih h)))) (fun _ => PF.none))) (fun _ => (wv_X11_hasChild_30 ih h)))))
theorem wv_X11_hasChild {s : ST} {p0 : Int32} {p1 : Int32} {σ : ST}   (h : KVB s σ) : PF st1 (KVB s) (f_X11_hasChild p0 p1 σ) := by
  unfold f_X11_hasChild
  exact (PF.ite (fun _ => (wv_X11_hasChild_10  _ _ _ _ _ h)) (fun _ => PF.none))
theorem wv_X11_firstOf {s : ST} {p0 : Int32} {σ : ST}   (h : KVB s σ) : PF st1 (KVB s) (f_X11_firstOf p0 σ) := by
  unfold f_X11_firstOf
  exact (PF.ite (fun _ => (PF.ite (fun _ => (PF.ite (fun _ => (PF.ret1 h)) (fun _ => PF.none))) (fun _ => (PF.ret1 h)))) (fun _ => PF.none))
theorem wv_X11_joins_147 {s : ST} {x1 : Int32} {x2 : Int32} {σ : ST}   (h : KVB s σ) : PF st0 (KVB s) (f_X11_joins_147 x1 x2 σ) := by
  unfold f_X11_joins_147
  exact (PF.ite (fun _ => (PF.ite (fun _ => (PF.ret0 h)) (fun _ => (PF.ite (fun _ => (PF.ret0 (KVB.i (by omega) h))) (fun _ => PF.none))))) (fun _ => PF.none))
theorem wv_X11_joins_125 {s : ST} {x1 : Int32} {x2 : Int32} {x3 : Int32} {y0 : Int32} {y1 : Int32} {σ : ST}   (h : KVB s σ) : PF st0 (KVB s) (f_X11_joins_125 x1 x2 x3 y0 y1 σ) := by
  unfold f_X11_joins_125
  exact (PF.ite (fun _ => (PF.ite (fun _ => (PF.ite (fun _ => (wv_X11_joins_147  (KVB.i (by omega) (KVB.i (by omega) h)))) (fun _ => PF.none))) (fun _ => (PF.ite (fun _ => (wv_X11_joins_147  (KVB.i (by omega) (KVB.i (by omega) h)))) (fun _ => PF.none))))) (fun _ => PF.none))
theorem wv_X11_joins_101 {s : ST} {x1 : Int32} {x2 : Int32} {x3 : Int32} {σ : ST}   (h : KVB s σ) : PF st0 (KVB s) (f_X11_joins_101 x1 x2 x3 σ) := by
  unfold f_X11_joins_101
  exact (PF.ite (fun _ => (PF.ite (fun _ => (wv_X11_joins_125  h)) (fun _ => PF.none))) (fun _ => (PF.ite (fun _ => (wv_X11_joins_125  h)) (fun _ => PF.none))))
theorem wv_X11_joins_65 {s : ST}    : ∀ (n : Nat) (x1 : Int32) (x2 : Int32) (x3 : Int32) (x4 : Int32) (σ : ST), KVB s σ → PF st0 (KVB s) (f_X11_joins_65  n x1 x2 x3 x4 σ) := by
  intro n
  induction n with
  | zero => intro x1 x2 x3 x4 σ h; rw [f_X11_joins_65]; exact PF.none
  | succ n ih =>
    intro x1 x2 x3 x4 σ h
    rw [f_X11_joins_65]
    exact (PF.ite (fun _ => (wv_X11_joins_101  h)) (fun _ => (PF.ite (fun _ => (PF.ite (fun _ => (PF.ite (fun _ => (wv_X11_joins_101  h)) (fun _ => (ih _ _ _ _ _ h)))) (fun _ => PF.none))) (fun _ => PF.none))))
theorem wv_X11_joins_51 {s : ST} {x1 : Int32} {x2 : Int32} {x3 : Int32} {y0 : Int32} {σ : ST}   (h : KVB s σ) : PF st0 (KVB s) (f_X11_joins_51 x1 x2 x3 y0 σ) := by
  unfold f_X11_joins_51
  exact (PF.ite (fun _ => (wv_X11_joins_65  _ _ _ _ _ _ h)) (fun _ => (PF.ite (fun _ => (wv_X11_joins_65  _ _ _ _ _ _ h)) (fun _ => PF.none))))
theorem wv_X11_joins_45 {s : ST} {x1 : Int32} {x2 : Int32} {x3 : Int32} {σ : ST}   (h : KVB s σ) : PF st0 (KVB s) (f_X11_joins_45 x1 x2 x3 σ) := by
  unfold f_X11_joins_45
  exact (PF.ite (fun _ => (wv_X11_joins_51  h)) (fun _ => PF.none))
theorem wv_X11_joins {s : ST} {p0 : Int32} {p1 : Int32} {σ : ST}   (h : KVB s σ) : PF st0 (KVB s) (f_X11_joins p0 p1 σ) := by
  unfold f_X11_joins
  exact (PF.ite (fun _ => (PF.ite (fun _ => (wv_X11_joins_45  (KVB.i (by omega) h))) (fun _ => (PF.ite (fun _ => (PF.ite (fun _ => (PF.ite (fun _ => (wv_X11_joins_45  (KVB.i (by omega) h))) (fun _ => (wv_X11_joins_51  (KVB.i (by omega) h))))) (fun _ => PF.none))) (fun _ => PF.none))))) (fun _ => PF.none))
theorem wv_X11_laysNode {s : ST} {p0 : Int32} {p1 : Int32} {p2 : Int32} {p3 : Int32} {σ : ST}   (h : KVB s σ) : PF st1 (KVB s) (f_X11_laysNode p0 p1 p2 p3 σ) := by
  unfold f_X11_laysNode
  exact (PF.ite (fun _ => (PF.bnd (PF.ret0 (KVB.l (by omega) (KVB.i (by omega) (KVB.i (by omega) h)))) (fun z2 hz2 => (PF.bnd (PF.ret0 (KVB.i (by omega) (KVB.i (by omega) (KVB.l (by omega) hz2)))) (fun z3 hz3 => (PF.bnd (PF.ret0 (KVB.i (by omega) (KVB.i (by omega) (KVB.i (by omega) hz3)))) (fun z4 hz4 => (PF.bnd (PF.ret0 (KVB.i (by omega) (KVB.i (by omega) (KVB.i (by omega) hz4)))) (fun z5 hz5 => (PF.ite (fun _ => (PF.ret1 hz5)) (fun _ => (PF.bnd (wv_X11_joins  hz5) (fun q6 hq6 => (PF.ret1 hq6)))))))))))))) (fun _ => PF.none))
theorem wv_X11_fills_103 {s : ST} {x6 : Int32} {y0 : Int32} {y1 : Int32} {σ : ST}   (h : KVB s σ) : PF st0 (KVB s) (f_X11_fills_103 x6 y0 y1 σ) := by
  unfold f_X11_fills_103
  exact (PF.ite (fun _ => (PF.ite (fun _ => (PF.ret0 (KVB.i (by omega) (KVB.i (by omega) h)))) (fun _ => PF.none))) (fun _ => PF.none))
theorem wv_X11_fills_45 {s : ST} {x1 : Int32} {x5 : Int32} {y0 : Int32} {y1 : Int32} {y2 : Int32} {y3 : Int32} {σ : ST}   (h : KVB s σ) : PF st0 (KVB s) (f_X11_fills_45 x1 x5 y0 y1 y2 y3 σ) := by
  unfold f_X11_fills_45
  exact (PF.bnd (wv_X11_laysNode  h) (fun q1 hq1 => (PF.ite (fun _ => (PF.ite (fun _ => (PF.bnd (PF.ret0 (KVB.l (by omega) (KVB.l (by omega) hq1))) (fun z5 hz5 => (PF.ite (fun _ => (PF.ite (fun _ => (wv_X11_fills_103  hz5)) (fun _ => (wv_X11_fills_103  hz5)))) (fun _ => PF.none))))) (fun _ => PF.none))) (fun _ => PF.none))))
theorem wv_X11_fills {s : ST} {p0 : Int32} {p1 : Int32} {p2 : Int32} {σ : ST}   (h : KVB s σ) : PF st0 (KVB s) (f_X11_fills p0 p1 p2 σ) := by
  unfold f_X11_fills
  exact (PF.ite (fun _ => (PF.bnd (wv_X11_firstOf  h) (fun q2 hq2 => (PF.ite (fun _ => (PF.ite (fun _ => (wv_X11_fills_45  hq2)) (fun _ => (wv_X11_fills_45  hq2)))) (fun _ => PF.none))))) (fun _ => PF.none))
theorem wv_X11_parts_233 {s : ST} {r_X11_items : Int32 → Int32 → Int32 → Int32 → ST → Option ((Int32 × ST) × Nat)} {r_X11_parts : Int32 → Int32 → Int32 → Int32 → ST → Option ((Int32 × ST) × Nat)} {r_X11_value : Int32 → Int32 → Int32 → Int32 → Int32 → ST → Option ((Int32 × ST) × Nat)} {k171 : Int32 → Int32 → Int32 → ST → Option ((Int32 × ST) × Nat)} {x4 : Int32} {x5 : Int32} {x7 : Int32} {σ : ST} (h_r_X11_items : ∀ (x1 : Int32) (x2 : Int32) (x3 : Int32) (x4 : Int32) (σ : ST), KVB s σ → PF st2 (KVB s) (r_X11_items x1 x2 x3 x4 σ)) (h_r_X11_parts : ∀ (x1 : Int32) (x2 : Int32) (x3 : Int32) (x4 : Int32) (σ : ST), KVB s σ → PF st2 (KVB s) (r_X11_parts x1 x2 x3 x4 σ)) (h_r_X11_value : ∀ (x1 : Int32) (x2 : Int32) (x3 : Int32) (x4 : Int32) (x5 : Int32) (σ : ST), KVB s σ → PF st2 (KVB s) (r_X11_value x1 x2 x3 x4 x5 σ)) (h_k171 : ∀ (x1 : Int32) (x2 : Int32) (x3 : Int32) (σ : ST), KVB s σ → PF st2 (KVB s) (k171 x1 x2 x3 σ))  (h : KVB s σ) : PF st2 (KVB s) (f_X11_parts_233 r_X11_items r_X11_parts r_X11_value k171 x4 x5 x7 σ) := by
  unfold f_X11_parts_233
  exact (h_k171 _ _ _ _ h)
theorem wv_X11_parts_171 {s : ST} {r_X11_items : Int32 → Int32 → Int32 → Int32 → ST → Option ((Int32 × ST) × Nat)} {r_X11_parts : Int32 → Int32 → Int32 → Int32 → ST → Option ((Int32 × ST) × Nat)} {r_X11_value : Int32 → Int32 → Int32 → Int32 → Int32 → ST → Option ((Int32 × ST) × Nat)} (h_r_X11_items : ∀ (x1 : Int32) (x2 : Int32) (x3 : Int32) (x4 : Int32) (σ : ST), KVB s σ → PF st2 (KVB s) (r_X11_items x1 x2 x3 x4 σ)) (h_r_X11_parts : ∀ (x1 : Int32) (x2 : Int32) (x3 : Int32) (x4 : Int32) (σ : ST), KVB s σ → PF st2 (KVB s) (r_X11_parts x1 x2 x3 x4 σ)) (h_r_X11_value : ∀ (x1 : Int32) (x2 : Int32) (x3 : Int32) (x4 : Int32) (x5 : Int32) (σ : ST), KVB s σ → PF st2 (KVB s) (r_X11_value x1 x2 x3 x4 x5 σ))  : ∀ (n : Nat) (x1 : Int32) (x2 : Int32) (x3 : Int32) (σ : ST), KVB s σ → PF st2 (KVB s) (f_X11_parts_171 r_X11_items r_X11_parts r_X11_value n x1 x2 x3 σ) := by
  intro n
  induction n with
  | zero => intro x1 x2 x3 σ h; rw [f_X11_parts_171]; exact PF.none
  | succ n ih =>
    intro x1 x2 x3 σ h
    rw [f_X11_parts_171]
    exact (PF.ite (fun _ => (PF.ite (fun _ => (PF.bnd (wv_X11_go  h) (fun q2 hq2 => (PF.ret2 hq2)))) (fun _ => (PF.bnd (wv_X11_hasChild  h) (fun q4 hq4 => (PF.ite (fun _ => (PF.ite (fun _ => (PF.ite (fun _ => (PF.bnd (wv_X11_wrongHere  hq4) (fun q9 hq9 => (PF.ite (fun _ => (PF.ret2 hq9)) (fun _ => PF.none))))) (fun _ => (PF.bnd (wv_X11_fills  hq4) (fun q7 hq7 => (wv_X11_parts_233 h_r_X11_items h_r_X11_parts h_r_X11_value ih hq7)))))) (fun _ => PF.none))) (fun _ => (wv_X11_parts_233 h_r_X11_items h_r_X11_parts h_r_X11_value ih hq4)))))))) (fun _ => PF.none))
theorem wv_X11_isWord {s : ST} {p0 : Int64} {σ : ST}   (h : KVB s σ) : PF st1 (KVB s) (f_X11_isWord p0 σ) := by
  unfold f_X11_isWord
  exact (PF.ite (fun _ => (PF.ite (fun _ => (PF.ret1 h)) (fun _ => (PF.ret1 h)))) (fun _ => (PF.ret1 h)))
theorem wv_X11_sortHere {s : ST}  {σ : ST}   (h : KVB s σ) : PF st2 (KVB s) (f_X11_sortHere σ) := by
  unfold f_X11_sortHere
  exact (PF.bnd (wv_X11_spelt h) (fun q1 hq1 => (PF.ac (PF.bnd (wv_X11_isWord  hq1) (fun q3 hq3 => (PF.ite (fun _ => (PF.bnd (wv_X11_spelt hq3) (fun q5 hq5 => (PF.ac (PF.bnd (wv_X11_isWord  hq5) (fun q7 hq7 => (PF.ite (fun _ => (PF.bnd (wv_X11_spelt hq7) (fun q9 hq9 => (PF.ac (PF.bnd (wv_X11_isWord  hq9) (fun q11 hq11 => (PF.ite (fun _ => (PF.bnd (wv_X11_spelt hq11) (fun q13 hq13 => (PF.ac (PF.bnd (wv_X11_isWord  hq13) (fun q15 hq15 => (PF.ite (fun _ => (PF.bnd (wv_X11_spelt hq15) (fun q17 hq17 => (PF.ac (PF.bnd (wv_X11_isWord  hq17) (fun q19 hq19 => (PF.ite (fun _ => (PF.bnd (wv_X11_spelt hq19) (fun q21 hq21 => (PF.ac (PF.bnd (wv_X11_isWord  hq21) (fun q23 hq23 => (PF.ite (fun _ => (PF.bnd (wv_X11_spelt hq23) (fun q25 hq25 => (PF.ac (PF.bnd (wv_X11_isWord  hq25) (fun q27 hq27 => (PF.ite (fun _ => (PF.bnd (wv_X11_spelt hq27) (fun q29 hq29 => (PF.ac (PF.bnd (wv_X11_isWord  hq29) (fun q31 hq31 => (PF.ite (fun _ => (PF.ret2 hq31)) (fun _ => (PF.ret2 hq31))))))))) (fun _ => (PF.ret2 hq27))))))))) (fun _ => (PF.ret2 hq23))))))))) (fun _ => (PF.ret2 hq19))))))))) (fun _ => (PF.ret2 hq15))))))))) (fun _ => (PF.ret2 hq11))))))))) (fun _ => (PF.ret2 hq7))))))))) (fun _ => (PF.ret2 hq3))))))))
theorem wv_X11_isName_61 {s : ST} {y0 : Int32} {σ : ST}   (h : KVB s σ) : PF st2 (KVB s) (f_X11_isName_61 y0 σ) := by
  unfold f_X11_isName_61
  exact (PF.ite (fun _ => (PF.ite (fun _ => (PF.ret2 h)) (fun _ => (PF.ret2 h)))) (fun _ => (PF.ret2 h)))
theorem wv_X11_isName_56 {s : ST}  {σ : ST}   (h : KVB s σ) : PF st2 (KVB s) (f_X11_isName_56 σ) := by
  unfold f_X11_isName_56
  exact (wv_X11_isName_61  h)
theorem wv_X11_isPlan {s : ST}  {σ : ST}   (h : KVB s σ) : PF st2 (KVB s) (f_X11_isPlan σ) := by
  unfold f_X11_isPlan
  exact (PF.bnd (wv_X11_spelt h) (fun q1 hq1 => (PF.ac (PF.bnd (wv_X11_isWord  hq1) (fun q3 hq3 => (PF.ite (fun _ => (PF.ret2 hq3)) (fun _ => PF.none)))))))
theorem wv_X11_isRecord {s : ST}  {σ : ST}   (h : KVB s σ) : PF st2 (KVB s) (f_X11_isRecord σ) := by
  unfold f_X11_isRecord
  exact (PF.bnd (wv_X11_spelt h) (fun q1 hq1 => (PF.ac (PF.bnd (wv_X11_isWord  hq1) (fun q3 hq3 => (PF.ite (fun _ => (PF.ret2 hq3)) (fun _ => PF.none)))))))
theorem wv_X11_isWas {s : ST}  {σ : ST}   (h : KVB s σ) : PF st2 (KVB s) (f_X11_isWas σ) := by
  unfold f_X11_isWas
  exact (PF.bnd (wv_X11_spelt h) (fun q1 hq1 => (PF.ac (PF.bnd (wv_X11_isWord  hq1) (fun q3 hq3 => (PF.ite (fun _ => (PF.ret2 hq3)) (fun _ => PF.none)))))))
theorem wv_X11_isElse {s : ST}  {σ : ST}   (h : KVB s σ) : PF st2 (KVB s) (f_X11_isElse σ) := by
  unfold f_X11_isElse
  exact (PF.bnd (wv_X11_spelt h) (fun q1 hq1 => (PF.ac (PF.bnd (wv_X11_isWord  hq1) (fun q3 hq3 => (PF.ite (fun _ => (PF.ret2 hq3)) (fun _ => PF.none)))))))
theorem wv_X11_isOr {s : ST}  {σ : ST}   (h : KVB s σ) : PF st2 (KVB s) (f_X11_isOr σ) := by
  unfold f_X11_isOr
  exact (PF.bnd (wv_X11_spelt h) (fun q1 hq1 => (PF.ac (PF.bnd (wv_X11_isWord  hq1) (fun q3 hq3 => (PF.ite (fun _ => (PF.ret2 hq3)) (fun _ => PF.none)))))))
theorem wv_X11_isYes {s : ST}  {σ : ST}   (h : KVB s σ) : PF st2 (KVB s) (f_X11_isYes σ) := by
  unfold f_X11_isYes
  exact (PF.bnd (wv_X11_spelt h) (fun q1 hq1 => (PF.ac (PF.bnd (wv_X11_isWord  hq1) (fun q3 hq3 => (PF.ite (fun _ => (PF.ret2 hq3)) (fun _ => PF.none)))))))
theorem wv_X11_isNo {s : ST}  {σ : ST}   (h : KVB s σ) : PF st2 (KVB s) (f_X11_isNo σ) := by
  unfold f_X11_isNo
  exact (PF.bnd (wv_X11_spelt h) (fun q1 hq1 => (PF.ac (PF.bnd (wv_X11_isWord  hq1) (fun q3 hq3 => (PF.ite (fun _ => (PF.ret2 hq3)) (fun _ => PF.none)))))))
theorem wv_X11_isName {s : ST}  {σ : ST}   (h : KVB s σ) : PF st2 (KVB s) (f_X11_isName σ) := by
  unfold f_X11_isName
  exact (PF.bnd (wv_X11_sortHere  h) (fun q1 hq1 => (PF.ac (PF.ite (fun _ => (wv_X11_isName_56  hq1)) (fun _ => (PF.bnd (wv_X11_isPlan  hq1) (fun q3 hq3 => (PF.ac (PF.ite (fun _ => (PF.bnd (wv_X11_isRecord  hq3) (fun q5 hq5 => (PF.ac (PF.ite (fun _ => (PF.bnd (wv_X11_isWas  hq5) (fun q7 hq7 => (PF.ac (PF.ite (fun _ => (PF.bnd (wv_X11_isElse  hq7) (fun q9 hq9 => (PF.ac (PF.ite (fun _ => (PF.bnd (wv_X11_isOr  hq9) (fun q11 hq11 => (PF.ac (PF.ite (fun _ => (PF.bnd (wv_X11_isYes  hq11) (fun q13 hq13 => (PF.ac (PF.ite (fun _ => (PF.bnd (wv_X11_isNo  hq13) (fun q15 hq15 => (PF.ac (PF.ite (fun _ => (wv_X11_isName_61  hq15)) (fun _ => (wv_X11_isName_56  hq15))))))) (fun _ => (wv_X11_isName_56  hq13))))))) (fun _ => (wv_X11_isName_56  hq11))))))) (fun _ => (wv_X11_isName_56  hq9))))))) (fun _ => (wv_X11_isName_56  hq7))))))) (fun _ => (wv_X11_isName_56  hq5))))))) (fun _ => (wv_X11_isName_56  hq3)))))))))))
theorem wv_X11_fieldOf_3 {s : ST}    : ∀ (n : Nat) (x1 : Int32) (x2 : Int64) (x3 : Int32) (σ : ST), KVB s σ → PF st1 (KVB s) (f_X11_fieldOf_3  n x1 x2 x3 σ) := by
  intro n
  induction n with
  | zero => intro x1 x2 x3 σ h; rw [f_X11_fieldOf_3]; exact PF.none
  | succ n ih =>
    intro x1 x2 x3 σ h
    rw [f_X11_fieldOf_3]
    exact (PF.ite (fun _ => (PF.ite (fun _ => (PF.ret1 h)) (fun _ => (PF.ite (fun _ => (PF.ite (fun _ => (PF.ret1 h)) (fun _ => (ih _ _ _ _ h)))) (fun _ => PF.none))))) (fun _ => PF.none))
theorem wv_X11_fieldOf {s : ST} {p0 : Int32} {p1 : Int64} {σ : ST}   (h : KVB s σ) : PF st1 (KVB s) (f_X11_fieldOf p0 p1 σ) := by
  unfold f_X11_fieldOf
  exact (wv_X11_fieldOf_3  _ _ _ _ _ h)
theorem wv_X11_parts_85 {s : ST} {r_X11_items : Int32 → Int32 → Int32 → Int32 → ST → Option ((Int32 × ST) × Nat)} {r_X11_parts : Int32 → Int32 → Int32 → Int32 → ST → Option ((Int32 × ST) × Nat)} {r_X11_value : Int32 → Int32 → Int32 → Int32 → Int32 → ST → Option ((Int32 × ST) × Nat)} {σ : ST} (h_r_X11_items : ∀ (x1 : Int32) (x2 : Int32) (x3 : Int32) (x4 : Int32) (σ : ST), KVB s σ → PF st2 (KVB s) (r_X11_items x1 x2 x3 x4 σ)) (h_r_X11_parts : ∀ (x1 : Int32) (x2 : Int32) (x3 : Int32) (x4 : Int32) (σ : ST), KVB s σ → PF st2 (KVB s) (r_X11_parts x1 x2 x3 x4 σ)) (h_r_X11_value : ∀ (x1 : Int32) (x2 : Int32) (x3 : Int32) (x4 : Int32) (x5 : Int32) (σ : ST), KVB s σ → PF st2 (KVB s) (r_X11_value x1 x2 x3 x4 x5 σ))  (h : KVB s σ) : PF st2 (KVB s) (f_X11_parts_85 r_X11_items r_X11_parts r_X11_value σ) := by
  unfold f_X11_parts_85
  exact (PF.bnd (wv_X11_wrongHere  h) (fun q1 hq1 => (PF.ite (fun _ => (PF.ret2 hq1)) (fun _ => PF.none))))
theorem wv_X11_parts_139 {s : ST} {r_X11_items : Int32 → Int32 → Int32 → Int32 → ST → Option ((Int32 × ST) × Nat)} {r_X11_parts : Int32 → Int32 → Int32 → Int32 → ST → Option ((Int32 × ST) × Nat)} {r_X11_value : Int32 → Int32 → Int32 → Int32 → Int32 → ST → Option ((Int32 × ST) × Nat)} {k33 : Int32 → Int32 → Int32 → Int32 → Int32 → ST → Option ((Int32 × ST) × Nat)} {x1 : Int32} {x3 : Int32} {x4 : Int32} {x5 : Int32} {y0 : Int32} {σ : ST} (h_r_X11_items : ∀ (x1 : Int32) (x2 : Int32) (x3 : Int32) (x4 : Int32) (σ : ST), KVB s σ → PF st2 (KVB s) (r_X11_items x1 x2 x3 x4 σ)) (h_r_X11_parts : ∀ (x1 : Int32) (x2 : Int32) (x3 : Int32) (x4 : Int32) (σ : ST), KVB s σ → PF st2 (KVB s) (r_X11_parts x1 x2 x3 x4 σ)) (h_r_X11_value : ∀ (x1 : Int32) (x2 : Int32) (x3 : Int32) (x4 : Int32) (x5 : Int32) (σ : ST), KVB s σ → PF st2 (KVB s) (r_X11_value x1 x2 x3 x4 x5 σ)) (h_k33 : ∀ (x1 : Int32) (x2 : Int32) (x3 : Int32) (x4 : Int32) (x5 : Int32) (σ : ST), KVB s σ → PF st2 (KVB s) (k33 x1 x2 x3 x4 x5 σ))  (h : KVB s σ) : PF st2 (KVB s) (f_X11_parts_139 r_X11_items r_X11_parts r_X11_value k33 x1 x3 x4 x5 y0 σ) := by
  unfold f_X11_parts_139
  exact (PF.ite (fun _ => (h_k33 _ _ _ _ _ _ h)) (fun _ => (PF.bnd (wv_X11_go  h) (fun q1 hq1 => (h_k33 _ _ _ _ _ _ hq1)))))
theorem wv_X11_parts_33 {s : ST} {r_X11_items : Int32 → Int32 → Int32 → Int32 → ST → Option ((Int32 × ST) × Nat)} {r_X11_parts : Int32 → Int32 → Int32 → Int32 → ST → Option ((Int32 × ST) × Nat)} {r_X11_value : Int32 → Int32 → Int32 → Int32 → Int32 → ST → Option ((Int32 × ST) × Nat)} (h_r_X11_items : ∀ (x1 : Int32) (x2 : Int32) (x3 : Int32) (x4 : Int32) (σ : ST), KVB s σ → PF st2 (KVB s) (r_X11_items x1 x2 x3 x4 σ)) (h_r_X11_parts : ∀ (x1 : Int32) (x2 : Int32) (x3 : Int32) (x4 : Int32) (σ : ST), KVB s σ → PF st2 (KVB s) (r_X11_parts x1 x2 x3 x4 σ)) (h_r_X11_value : ∀ (x1 : Int32) (x2 : Int32) (x3 : Int32) (x4 : Int32) (x5 : Int32) (σ : ST), KVB s σ → PF st2 (KVB s) (r_X11_value x1 x2 x3 x4 x5 σ))  : ∀ (n : Nat) (x1 : Int32) (x2 : Int32) (x3 : Int32) (x4 : Int32) (x5 : Int32) (σ : ST), KVB s σ → PF st2 (KVB s) (f_X11_parts_33 r_X11_items r_X11_parts r_X11_value n x1 x2 x3 x4 x5 σ) := by
  intro n
  induction n with
  | zero => intro x1 x2 x3 x4 x5 σ h; rw [f_X11_parts_33]; exact PF.none
  | succ n ih =>
    intro x1 x2 x3 x4 x5 σ h
    rw [f_X11_parts_33]
    exact (PF.ite (fun _ => (PF.ite (fun _ => (wv_X11_parts_171 h_r_X11_items h_r_X11_parts h_r_X11_value _ _ _ _ _ h)) (fun _ => (PF.bnd (wv_X11_wrongHere  h) (fun q1 hq1 => (PF.ite (fun _ => (PF.ret2 hq1)) (fun _ => PF.none))))))) (fun _ => (PF.bnd (wv_X11_isName  h) (fun q3 hq3 => (PF.ac (PF.ite (fun _ => (PF.bnd (wv_X11_wrongHere  hq3) (fun q14 hq14 => (PF.ite (fun _ => (PF.ret2 hq14)) (fun _ => PF.none))))) (fun _ => (PF.bnd (wv_X11_fieldOf  hq3) (fun q5 hq5 => (PF.ite (fun _ => (wv_X11_parts_85 h_r_X11_items h_r_X11_parts h_r_X11_value hq5)) (fun _ => (PF.bnd (wv_X11_hasChild  hq5) (fun q7 hq7 => (PF.ite (fun _ => (PF.bnd (wv_X11_go  hq7) (fun q9 hq9 => (PF.ite (fun _ => (PF.bnd (h_r_X11_value _ _ _ _ _ _ hq9) (fun q12 hq12 => (PF.ac (PF.ite (fun _ => (PF.ret2 hq12)) (fun _ => (PF.ite (fun _ => (wv_X11_parts_139 h_r_X11_items h_r_X11_parts h_r_X11_value ih hq12)) (fun _ => (wv_X11_parts_139 h_r_X11_items h_r_X11_parts h_r_X11_value ih hq12))))))))) (fun _ => PF.none))))) (fun _ => (wv_X11_parts_85 h_r_X11_items h_r_X11_parts h_r_X11_value hq7))))))))))))))))
theorem wv_X11_parts_31 {s : ST} {r_X11_items : Int32 → Int32 → Int32 → Int32 → ST → Option ((Int32 × ST) × Nat)} {r_X11_parts : Int32 → Int32 → Int32 → Int32 → ST → Option ((Int32 × ST) × Nat)} {r_X11_value : Int32 → Int32 → Int32 → Int32 → Int32 → ST → Option ((Int32 × ST) × Nat)} {x1 : Int32} {x3 : Int32} {x4 : Int32} {x5 : Int32} {y0 : Int32} {σ : ST} (h_r_X11_items : ∀ (x1 : Int32) (x2 : Int32) (x3 : Int32) (x4 : Int32) (σ : ST), KVB s σ → PF st2 (KVB s) (r_X11_items x1 x2 x3 x4 σ)) (h_r_X11_parts : ∀ (x1 : Int32) (x2 : Int32) (x3 : Int32) (x4 : Int32) (σ : ST), KVB s σ → PF st2 (KVB s) (r_X11_parts x1 x2 x3 x4 σ)) (h_r_X11_value : ∀ (x1 : Int32) (x2 : Int32) (x3 : Int32) (x4 : Int32) (x5 : Int32) (σ : ST), KVB s σ → PF st2 (KVB s) (r_X11_value x1 x2 x3 x4 x5 σ))  (h : KVB s σ) : PF st2 (KVB s) (f_X11_parts_31 r_X11_items r_X11_parts r_X11_value x1 x3 x4 x5 y0 σ) := by
  unfold f_X11_parts_31
  exact (wv_X11_parts_33 h_r_X11_items h_r_X11_parts h_r_X11_value _ _ _ _ _ _ _ h)
theorem wv_X11_parts {s : ST} {r_X11_items : Int32 → Int32 → Int32 → Int32 → ST → Option ((Int32 × ST) × Nat)} {r_X11_parts : Int32 → Int32 → Int32 → Int32 → ST → Option ((Int32 × ST) × Nat)} {r_X11_value : Int32 → Int32 → Int32 → Int32 → Int32 → ST → Option ((Int32 × ST) × Nat)} {p0 : Int32} {p1 : Int32} {p2 : Int32} {p3 : Int32} {σ : ST} (h_r_X11_items : ∀ (x1 : Int32) (x2 : Int32) (x3 : Int32) (x4 : Int32) (σ : ST), KVB s σ → PF st2 (KVB s) (r_X11_items x1 x2 x3 x4 σ)) (h_r_X11_parts : ∀ (x1 : Int32) (x2 : Int32) (x3 : Int32) (x4 : Int32) (σ : ST), KVB s σ → PF st2 (KVB s) (r_X11_parts x1 x2 x3 x4 σ)) (h_r_X11_value : ∀ (x1 : Int32) (x2 : Int32) (x3 : Int32) (x4 : Int32) (x5 : Int32) (σ : ST), KVB s σ → PF st2 (KVB s) (r_X11_value x1 x2 x3 x4 x5 σ))  (h : KVB s σ) : PF st2 (KVB s) (f_X11_parts r_X11_items r_X11_parts r_X11_value p0 p1 p2 p3 σ) := by
  unfold f_X11_parts
  exact (PF.ite (fun _ => (PF.bnd (wv_X11_go  h) (fun q2 hq2 => (PF.ite (fun _ => (wv_X11_parts_31 h_r_X11_items h_r_X11_parts h_r_X11_value hq2)) (fun _ => (wv_X11_parts_31 h_r_X11_items h_r_X11_parts h_r_X11_value hq2)))))) (fun _ => PF.none))
theorem wv_X11_fits_75 {s : ST}  {σ : ST}   (h : KVB s σ) : PF st2 (KVB s) (f_X11_fits_75 σ) := by
  unfold f_X11_fits_75
  exact (PF.ret2 h)
theorem wv_X11_fits {s : ST} {p0 : Int32} {σ : ST}   (h : KVB s σ) : PF st2 (KVB s) (f_X11_fits p0 σ) := by
  unfold f_X11_fits
  exact (PF.ite (fun _ => (PF.ite (fun _ => (PF.bnd (wv_X11_sortHere  h) (fun q9 hq9 => (PF.ac (PF.ite (fun _ => (PF.ret2 hq9)) (fun _ => (PF.ret2 hq9))))))) (fun _ => (PF.ite (fun _ => (PF.bnd (wv_X11_isYes  h) (fun q11 hq11 => (PF.ac (PF.ite (fun _ => (PF.bnd (wv_X11_isNo  hq11) (fun q13 hq13 => (PF.ac (PF.ite (fun _ => (PF.ret2 hq13)) (fun _ => (wv_X11_fits_75  hq13))))))) (fun _ => (wv_X11_fits_75  hq11))))))) (fun _ => (PF.ite (fun _ => (PF.ite (fun _ => (PF.ite (fun _ => (PF.bnd (wv_X11_within  h) (fun q15 hq15 => (PF.ite (fun _ => (PF.ret2 hq15)) (fun _ => (PF.ret2 hq15)))))) (fun _ => (PF.ret2 h)))) (fun _ => (PF.ret2 h)))) (fun _ => (PF.ite (fun _ => (PF.ite (fun _ => (PF.ite (fun _ => (PF.ret2 h)) (fun _ => (PF.ret2 h)))) (fun _ => (PF.ret2 h)))) (fun _ => (PF.ite (fun _ => (PF.ite (fun _ => (PF.ret2 h)) (fun _ => (PF.ret2 h)))) (fun _ => (PF.ite (fun _ => (PF.ite (fun _ => (PF.ret2 h)) (fun _ => (PF.ret2 h)))) (fun _ => (PF.ite (fun _ => (PF.ite (fun _ => (PF.ret2 h)) (fun _ => (PF.ret2 h)))) (fun _ => (PF.ite (fun _ => (PF.ite (fun _ => (PF.ret2 h)) (fun _ => (PF.ret2 h)))) (fun _ => (PF.ret2 h)))))))))))))))))) (fun _ => PF.none))
theorem wv_X11_branchFor_2 {s : ST}    : ∀ (n : Nat) (x1 : Int32) (x2 : Int32) (σ : ST), KVB s σ → PF st2 (KVB s) (f_X11_branchFor_2  n x1 x2 σ) := by
  intro n
  induction n with
  | zero => intro x1 x2 σ h; rw [f_X11_branchFor_2]; exact PF.none
  | succ n ih =>
    intro x1 x2 σ h
    rw [f_X11_branchFor_2]
    exact (PF.ite (fun _ => (PF.ite (fun _ => (PF.ret2 h)) (fun _ => (PF.ite (fun _ => (PF.bnd (wv_X11_fits  h) (fun q3 hq3 => (PF.ac (PF.ite (fun _ => (ih _ _ _ hq3)) (fun _ => (PF.ret2 hq3))))))) (fun _ => PF.none))))) (fun _ => PF.none))
theorem wv_X11_branchFor {s : ST} {p0 : Int32} {σ : ST}   (h : KVB s σ) : PF st2 (KVB s) (f_X11_branchFor p0 σ) := by
  unfold f_X11_branchFor
  exact (wv_X11_branchFor_2  _ _ _ _ h)
theorem wv_X11_isLiteral_46 {s : ST}  {σ : ST}   (h : KVB s σ) : PF st2 (KVB s) (f_X11_isLiteral_46 σ) := by
  unfold f_X11_isLiteral_46
  exact (PF.ret2 h)
theorem wv_X11_isLiteral {s : ST}  {σ : ST}   (h : KVB s σ) : PF st2 (KVB s) (f_X11_isLiteral σ) := by
  unfold f_X11_isLiteral
  exact (PF.bnd (wv_X11_sortHere  h) (fun q1 hq1 => (PF.ac (PF.ite (fun _ => (wv_X11_isLiteral_46  hq1)) (fun _ => (PF.bnd (wv_X11_isYes  hq1) (fun q3 hq3 => (PF.ac (PF.ite (fun _ => (PF.bnd (wv_X11_isNo  hq3) (fun q5 hq5 => (PF.ac (PF.ite (fun _ => (PF.ite (fun _ => (wv_X11_isLiteral_46  hq5)) (fun _ => (PF.ite (fun _ => (wv_X11_isLiteral_46  hq5)) (fun _ => (PF.ite (fun _ => (wv_X11_isLiteral_46  hq5)) (fun _ => (PF.ret2 hq5)))))))) (fun _ => (wv_X11_isLiteral_46  hq5))))))) (fun _ => (wv_X11_isLiteral_46  hq3)))))))))))
theorem wv_X11_isValue_16 {s : ST}  {σ : ST}   (h : KVB s σ) : PF st2 (KVB s) (f_X11_isValue_16 σ) := by
  unfold f_X11_isValue_16
  exact (PF.ret2 h)
theorem wv_X11_isValue {s : ST}  {σ : ST}   (h : KVB s σ) : PF st2 (KVB s) (f_X11_isValue σ) := by
  unfold f_X11_isValue
  exact (PF.bnd (wv_X11_isLiteral  h) (fun q1 hq1 => (PF.ac (PF.ite (fun _ => (PF.ite (fun _ => (wv_X11_isValue_16  hq1)) (fun _ => (PF.ret2 hq1)))) (fun _ => (wv_X11_isValue_16  hq1))))))
theorem wv_Jxe99ae_isNaN_b9ae7 {s : ST} {p0 : UInt64} {σ : ST}   (h : KVB s σ) : PF st1 (KVB s) (f_Jxe99ae_isNaN_b9ae7 p0 σ) := by
  unfold f_Jxe99ae_isNaN_b9ae7
  exact (PF.ite (fun _ => (PF.ret1 h)) (fun _ => (PF.ret1 h)))
theorem wv_Jxe99ae_doubleToLongBits_ccdee {s : ST} {p0 : UInt64} {σ : ST}   (h : KVB s σ) : PF st1 (KVB s) (f_Jxe99ae_doubleToLongBits_ccdee p0 σ) := by
  unfold f_Jxe99ae_doubleToLongBits_ccdee
  exact (PF.bnd (wv_Jxe99ae_isNaN_b9ae7  h) (fun q1 hq1 => (PF.ite (fun _ => (PF.ret1 hq1)) (fun _ => (PF.ret1 hq1)))))
theorem wv_X11_bitsOf_31 {s : ST} {y0 : UInt64} {σ : ST}   (h : KVB s σ) : PF st2 (KVB s) (f_X11_bitsOf_31 y0 σ) := by
  unfold f_X11_bitsOf_31
  exact (PF.bnd (wv_Jxe99ae_doubleToLongBits_ccdee  h) (fun q1 hq1 => (PF.ret2 hq1)))
theorem wv_X11_bitsOf_65 {s : ST}  {σ : ST}   (h : KVB s σ) : PF st2 (KVB s) (f_X11_bitsOf_65 σ) := by
  unfold f_X11_bitsOf_65
  exact (PF.ret2 h)
theorem wv_X11_bitsOf {s : ST} {p0 : Int32} {σ : ST}   (h : KVB s σ) : PF st2 (KVB s) (f_X11_bitsOf p0 σ) := by
  unfold f_X11_bitsOf
  exact (PF.ite (fun _ => (PF.ite (fun _ => (PF.ite (fun _ => (wv_X11_bitsOf_31  h)) (fun _ => (wv_X11_bitsOf_31  h)))) (fun _ => (PF.ite (fun _ => (PF.bnd (wv_X11_isYes  h) (fun q2 hq2 => (PF.ac (PF.ite (fun _ => (PF.ret2 hq2)) (fun _ => (PF.ret2 hq2))))))) (fun _ => (PF.ite (fun _ => (wv_X11_bitsOf_65  h)) (fun _ => (PF.ite (fun _ => (wv_X11_bitsOf_65  h)) (fun _ => (PF.ret2 h)))))))))) (fun _ => PF.none))
theorem wv_X11_value_247 {s : ST} {r_X11_items : Int32 → Int32 → Int32 → Int32 → ST → Option ((Int32 × ST) × Nat)} {r_X11_parts : Int32 → Int32 → Int32 → Int32 → ST → Option ((Int32 × ST) × Nat)} {r_X11_value : Int32 → Int32 → Int32 → Int32 → Int32 → ST → Option ((Int32 × ST) × Nat)} {y0 : Int32} {y1 : Int32} {σ : ST} (h_r_X11_items : ∀ (x1 : Int32) (x2 : Int32) (x3 : Int32) (x4 : Int32) (σ : ST), KVB s σ → PF st2 (KVB s) (r_X11_items x1 x2 x3 x4 σ)) (h_r_X11_parts : ∀ (x1 : Int32) (x2 : Int32) (x3 : Int32) (x4 : Int32) (σ : ST), KVB s σ → PF st2 (KVB s) (r_X11_parts x1 x2 x3 x4 σ)) (h_r_X11_value : ∀ (x1 : Int32) (x2 : Int32) (x3 : Int32) (x4 : Int32) (x5 : Int32) (σ : ST), KVB s σ → PF st2 (KVB s) (r_X11_value x1 x2 x3 x4 x5 σ))  (h : KVB s σ) : PF st2 (KVB s) (f_X11_value_247 r_X11_items r_X11_parts r_X11_value y0 y1 σ) := by
  unfold f_X11_value_247
  exact (PF.ite (fun _ => (PF.bnd (wv_X11_go  (KVB.i (by omega) h)) (fun q2 hq2 => (PF.ret2 hq2)))) (fun _ => PF.none))
theorem wv_X11_value_221 {s : ST} {r_X11_items : Int32 → Int32 → Int32 → Int32 → ST → Option ((Int32 × ST) × Nat)} {r_X11_parts : Int32 → Int32 → Int32 → Int32 → ST → Option ((Int32 × ST) × Nat)} {r_X11_value : Int32 → Int32 → Int32 → Int32 → Int32 → ST → Option ((Int32 × ST) × Nat)} {x7 : Int32} {x9 : Int32} {y0 : Int64} {y1 : Int32} {σ : ST} (h_r_X11_items : ∀ (x1 : Int32) (x2 : Int32) (x3 : Int32) (x4 : Int32) (σ : ST), KVB s σ → PF st2 (KVB s) (r_X11_items x1 x2 x3 x4 σ)) (h_r_X11_parts : ∀ (x1 : Int32) (x2 : Int32) (x3 : Int32) (x4 : Int32) (σ : ST), KVB s σ → PF st2 (KVB s) (r_X11_parts x1 x2 x3 x4 σ)) (h_r_X11_value : ∀ (x1 : Int32) (x2 : Int32) (x3 : Int32) (x4 : Int32) (x5 : Int32) (σ : ST), KVB s σ → PF st2 (KVB s) (r_X11_value x1 x2 x3 x4 x5 σ))  (h : KVB s σ) : PF st2 (KVB s) (f_X11_value_221 r_X11_items r_X11_parts r_X11_value x7 x9 y0 y1 σ) := by
  unfold f_X11_value_221
  exact (PF.ite (fun _ => (PF.ite (fun _ => (PF.ite (fun _ => (wv_X11_value_247 h_r_X11_items h_r_X11_parts h_r_X11_value (KVB.l (by omega) h))) (fun _ => (wv_X11_value_247 h_r_X11_items h_r_X11_parts h_r_X11_value (KVB.l (by omega) h))))) (fun _ => PF.none))) (fun _ => PF.none))
theorem wv_X11_value_104 {s : ST} {r_X11_items : Int32 → Int32 → Int32 → Int32 → ST → Option ((Int32 × ST) × Nat)} {r_X11_parts : Int32 → Int32 → Int32 → Int32 → ST → Option ((Int32 × ST) × Nat)} {r_X11_value : Int32 → Int32 → Int32 → Int32 → Int32 → ST → Option ((Int32 × ST) × Nat)} {x1 : Int32} {x3 : Int32} {x4 : Int32} {x5 : Int32} {x6 : Int32} {x7 : Int32} {y0 : Int32} {σ : ST} (h_r_X11_items : ∀ (x1 : Int32) (x2 : Int32) (x3 : Int32) (x4 : Int32) (σ : ST), KVB s σ → PF st2 (KVB s) (r_X11_items x1 x2 x3 x4 σ)) (h_r_X11_parts : ∀ (x1 : Int32) (x2 : Int32) (x3 : Int32) (x4 : Int32) (σ : ST), KVB s σ → PF st2 (KVB s) (r_X11_parts x1 x2 x3 x4 σ)) (h_r_X11_value : ∀ (x1 : Int32) (x2 : Int32) (x3 : Int32) (x4 : Int32) (x5 : Int32) (σ : ST), KVB s σ → PF st2 (KVB s) (r_X11_value x1 x2 x3 x4 x5 σ))  (h : KVB s σ) : PF st2 (KVB s) (f_X11_value_104 r_X11_items r_X11_parts r_X11_value x1 x3 x4 x5 x6 x7 y0 σ) := by
  unfold f_X11_value_104
  exact (PF.ite (fun _ => (PF.ite (fun _ => (PF.bnd (wv_X11_laysNode  h) (fun q2 hq2 => (PF.ite (fun _ => (PF.bnd (h_r_X11_items _ _ _ _ _ hq2) (fun q9 hq9 => (PF.ac (PF.ite (fun _ => (PF.ret2 hq9)) (fun _ => PF.none)))))) (fun _ => (PF.ite (fun _ => (PF.bnd (h_r_X11_parts _ _ _ _ _ hq2) (fun q7 hq7 => (PF.ac (PF.ite (fun _ => (PF.ret2 hq7)) (fun _ => PF.none)))))) (fun _ => (PF.bnd (wv_X11_bitsOf  hq2) (fun q4 hq4 => (PF.ac (PF.ite (fun _ => (PF.ite (fun _ => (wv_X11_value_221 h_r_X11_items h_r_X11_parts h_r_X11_value (KVB.l (by omega) hq4))) (fun _ => (wv_X11_value_221 h_r_X11_items h_r_X11_parts h_r_X11_value (KVB.l (by omega) hq4))))) (fun _ => PF.none)))))))))))) (fun _ => PF.none))) (fun _ => (PF.bnd (wv_X11_wrongHere  h) (fun q11 hq11 => (PF.ite (fun _ => (PF.ret2 hq11)) (fun _ => PF.none))))))
theorem wv_X11_value_99 {s : ST} {r_X11_items : Int32 → Int32 → Int32 → Int32 → ST → Option ((Int32 × ST) × Nat)} {r_X11_parts : Int32 → Int32 → Int32 → Int32 → ST → Option ((Int32 × ST) × Nat)} {r_X11_value : Int32 → Int32 → Int32 → Int32 → Int32 → ST → Option ((Int32 × ST) × Nat)} {x1 : Int32} {x3 : Int32} {x4 : Int32} {x5 : Int32} {x6 : Int32} {x7 : Int32} {σ : ST} (h_r_X11_items : ∀ (x1 : Int32) (x2 : Int32) (x3 : Int32) (x4 : Int32) (σ : ST), KVB s σ → PF st2 (KVB s) (r_X11_items x1 x2 x3 x4 σ)) (h_r_X11_parts : ∀ (x1 : Int32) (x2 : Int32) (x3 : Int32) (x4 : Int32) (σ : ST), KVB s σ → PF st2 (KVB s) (r_X11_parts x1 x2 x3 x4 σ)) (h_r_X11_value : ∀ (x1 : Int32) (x2 : Int32) (x3 : Int32) (x4 : Int32) (x5 : Int32) (σ : ST), KVB s σ → PF st2 (KVB s) (r_X11_value x1 x2 x3 x4 x5 σ))  (h : KVB s σ) : PF st2 (KVB s) (f_X11_value_99 r_X11_items r_X11_parts r_X11_value x1 x3 x4 x5 x6 x7 σ) := by
  unfold f_X11_value_99
  exact (wv_X11_value_104 h_r_X11_items h_r_X11_parts h_r_X11_value h)
theorem wv_X11_value_103 {s : ST} {r_X11_items : Int32 → Int32 → Int32 → Int32 → ST → Option ((Int32 × ST) × Nat)} {r_X11_parts : Int32 → Int32 → Int32 → Int32 → ST → Option ((Int32 × ST) × Nat)} {r_X11_value : Int32 → Int32 → Int32 → Int32 → Int32 → ST → Option ((Int32 × ST) × Nat)} {x1 : Int32} {x3 : Int32} {x4 : Int32} {x5 : Int32} {x6 : Int32} {x7 : Int32} {σ : ST} (h_r_X11_items : ∀ (x1 : Int32) (x2 : Int32) (x3 : Int32) (x4 : Int32) (σ : ST), KVB s σ → PF st2 (KVB s) (r_X11_items x1 x2 x3 x4 σ)) (h_r_X11_parts : ∀ (x1 : Int32) (x2 : Int32) (x3 : Int32) (x4 : Int32) (σ : ST), KVB s σ → PF st2 (KVB s) (r_X11_parts x1 x2 x3 x4 σ)) (h_r_X11_value : ∀ (x1 : Int32) (x2 : Int32) (x3 : Int32) (x4 : Int32) (x5 : Int32) (σ : ST), KVB s σ → PF st2 (KVB s) (r_X11_value x1 x2 x3 x4 x5 σ))  (h : KVB s σ) : PF st2 (KVB s) (f_X11_value_103 r_X11_items r_X11_parts r_X11_value x1 x3 x4 x5 x6 x7 σ) := by
  unfold f_X11_value_103
  exact (wv_X11_value_104 h_r_X11_items h_r_X11_parts h_r_X11_value h)
theorem wv_X11_value_42 {s : ST} {r_X11_items : Int32 → Int32 → Int32 → Int32 → ST → Option ((Int32 × ST) × Nat)} {r_X11_parts : Int32 → Int32 → Int32 → Int32 → ST → Option ((Int32 × ST) × Nat)} {r_X11_value : Int32 → Int32 → Int32 → Int32 → Int32 → ST → Option ((Int32 × ST) × Nat)} {x1 : Int32} {x3 : Int32} {x4 : Int32} {x5 : Int32} {x6 : Int32} {y0 : Int32} {σ : ST} (h_r_X11_items : ∀ (x1 : Int32) (x2 : Int32) (x3 : Int32) (x4 : Int32) (σ : ST), KVB s σ → PF st2 (KVB s) (r_X11_items x1 x2 x3 x4 σ)) (h_r_X11_parts : ∀ (x1 : Int32) (x2 : Int32) (x3 : Int32) (x4 : Int32) (σ : ST), KVB s σ → PF st2 (KVB s) (r_X11_parts x1 x2 x3 x4 σ)) (h_r_X11_value : ∀ (x1 : Int32) (x2 : Int32) (x3 : Int32) (x4 : Int32) (x5 : Int32) (σ : ST), KVB s σ → PF st2 (KVB s) (r_X11_value x1 x2 x3 x4 x5 σ))  (h : KVB s σ) : PF st2 (KVB s) (f_X11_value_42 r_X11_items r_X11_parts r_X11_value x1 x3 x4 x5 x6 y0 σ) := by
  unfold f_X11_value_42
  exact (PF.bnd (wv_X11_isValue  h) (fun q1 hq1 => (PF.ac (PF.ite (fun _ => (wv_X11_value_104 h_r_X11_items h_r_X11_parts h_r_X11_value hq1)) (fun _ => (PF.bnd (wv_X11_fits  hq1) (fun q3 hq3 => (PF.ac (PF.ite (fun _ => (wv_X11_value_104 h_r_X11_items h_r_X11_parts h_r_X11_value hq3)) (fun _ => (PF.ite (fun _ => (wv_X11_value_99 h_r_X11_items h_r_X11_parts h_r_X11_value hq3)) (fun _ => (PF.ite (fun _ => (wv_X11_value_103 h_r_X11_items h_r_X11_parts h_r_X11_value hq3)) (fun _ => (PF.ite (fun _ => (wv_X11_value_103 h_r_X11_items h_r_X11_parts h_r_X11_value hq3)) (fun _ => (PF.ite (fun _ => (PF.ite (fun _ => (wv_X11_value_99 h_r_X11_items h_r_X11_parts h_r_X11_value hq3)) (fun _ => (wv_X11_value_103 h_r_X11_items h_r_X11_parts h_r_X11_value hq3)))) (fun _ => PF.none))))))))))))))))))
theorem wv_X11_value_20 {s : ST} {r_X11_items : Int32 → Int32 → Int32 → Int32 → ST → Option ((Int32 × ST) × Nat)} {r_X11_parts : Int32 → Int32 → Int32 → Int32 → ST → Option ((Int32 × ST) × Nat)} {r_X11_value : Int32 → Int32 → Int32 → Int32 → Int32 → ST → Option ((Int32 × ST) × Nat)} {x1 : Int32} {x2 : Int32} {x3 : Int32} {x4 : Int32} {x5 : Int32} {y0 : Int32} {σ : ST} (h_r_X11_items : ∀ (x1 : Int32) (x2 : Int32) (x3 : Int32) (x4 : Int32) (σ : ST), KVB s σ → PF st2 (KVB s) (r_X11_items x1 x2 x3 x4 σ)) (h_r_X11_parts : ∀ (x1 : Int32) (x2 : Int32) (x3 : Int32) (x4 : Int32) (σ : ST), KVB s σ → PF st2 (KVB s) (r_X11_parts x1 x2 x3 x4 σ)) (h_r_X11_value : ∀ (x1 : Int32) (x2 : Int32) (x3 : Int32) (x4 : Int32) (x5 : Int32) (σ : ST), KVB s σ → PF st2 (KVB s) (r_X11_value x1 x2 x3 x4 x5 σ))  (h : KVB s σ) : PF st2 (KVB s) (f_X11_value_20 r_X11_items r_X11_parts r_X11_value x1 x2 x3 x4 x5 y0 σ) := by
  unfold f_X11_value_20
  exact (PF.ite (fun _ => (PF.ite (fun _ => (wv_X11_value_42 h_r_X11_items h_r_X11_parts h_r_X11_value h)) (fun _ => PF.none))) (fun _ => (wv_X11_value_42 h_r_X11_items h_r_X11_parts h_r_X11_value h)))
theorem wv_X11_value {s : ST} {r_X11_items : Int32 → Int32 → Int32 → Int32 → ST → Option ((Int32 × ST) × Nat)} {r_X11_parts : Int32 → Int32 → Int32 → Int32 → ST → Option ((Int32 × ST) × Nat)} {r_X11_value : Int32 → Int32 → Int32 → Int32 → Int32 → ST → Option ((Int32 × ST) × Nat)} {p0 : Int32} {p1 : Int32} {p2 : Int32} {p3 : Int32} {p4 : Int32} {σ : ST} (h_r_X11_items : ∀ (x1 : Int32) (x2 : Int32) (x3 : Int32) (x4 : Int32) (σ : ST), KVB s σ → PF st2 (KVB s) (r_X11_items x1 x2 x3 x4 σ)) (h_r_X11_parts : ∀ (x1 : Int32) (x2 : Int32) (x3 : Int32) (x4 : Int32) (σ : ST), KVB s σ → PF st2 (KVB s) (r_X11_parts x1 x2 x3 x4 σ)) (h_r_X11_value : ∀ (x1 : Int32) (x2 : Int32) (x3 : Int32) (x4 : Int32) (x5 : Int32) (σ : ST), KVB s σ → PF st2 (KVB s) (r_X11_value x1 x2 x3 x4 x5 σ))  (h : KVB s σ) : PF st2 (KVB s) (f_X11_value r_X11_items r_X11_parts r_X11_value p0 p1 p2 p3 p4 σ) := by
  unfold f_X11_value
  exact (PF.ite (fun _ => (PF.ite (fun _ => (PF.bnd (wv_X11_branchFor  h) (fun q2 hq2 => (PF.ac (wv_X11_value_20 h_r_X11_items h_r_X11_parts h_r_X11_value hq2))))) (fun _ => (wv_X11_value_20 h_r_X11_items h_r_X11_parts h_r_X11_value h)))) (fun _ => PF.none))
theorem wvR_X11_items {s : ST} : ∀ n : Nat, (∀ (p0 : Int32) (p1 : Int32) (p2 : Int32) (p3 : Int32) (σ : ST), KVB s σ → PF st2 (KVB s) ((R_X11_items n).1 p0 p1 p2 p3 σ)) ∧ (∀ (p0 : Int32) (p1 : Int32) (p2 : Int32) (p3 : Int32) (σ : ST), KVB s σ → PF st2 (KVB s) ((R_X11_items n).2.1 p0 p1 p2 p3 σ)) ∧ (∀ (p0 : Int32) (p1 : Int32) (p2 : Int32) (p3 : Int32) (p4 : Int32) (σ : ST), KVB s σ → PF st2 (KVB s) ((R_X11_items n).2.2 p0 p1 p2 p3 p4 σ)) := by
  intro n
  induction n with
  | zero => exact ⟨fun _ _ _ _ _ _ => PF.none, fun _ _ _ _ _ _ => PF.none, fun _ _ _ _ _ _ _ => PF.none⟩
  | succ n ih => exact ⟨fun _ _ _ _ _ h => wv_X11_items (ih.1) (ih.2.1) (ih.2.2)  h, fun _ _ _ _ _ h => wv_X11_parts (ih.1) (ih.2.1) (ih.2.2)  h, fun _ _ _ _ _ _ h => wv_X11_value (ih.1) (ih.2.1) (ih.2.2)  h⟩
theorem wv_T_X11_value {s : ST} {p0 : Int32} {p1 : Int32} {p2 : Int32} {p3 : Int32} {p4 : Int32} {σ : ST} (h : KVB s σ) : PF st2 (KVB s) (f_T_X11_value p0 p1 p2 p3 p4 σ) := (wvR_X11_items FRB).2.2 _ _ _ _ _ _  h
theorem wn_X11_wrong_21 {s : ST} {y0 : Int32} {σ : ST}   (h : NUT s σ) : PF st1 (NUT s) (f_X11_wrong_21 y0 σ) := by
  unfold f_X11_wrong_21
  exact (PF.ret1 (NUT.i (by omega) h))
theorem wn_X11_wrong {s : ST} {p0 : Int32} {p1 : Int32} {σ : ST}   (h : NUT s σ) : PF st1 (NUT s) (f_X11_wrong p0 p1 σ) := by
  unfold f_X11_wrong
  exact (PF.ite (fun _ => (wn_X11_wrong_21  h)) (fun _ => (wn_X11_wrong_21  h)))
theorem wn_X11_wrongHere {s : ST} {p0 : Int32} {σ : ST}   (h : NUT s σ) : PF st1 (NUT s) (f_X11_wrongHere p0 σ) := by
  unfold f_X11_wrongHere
  exact (PF.bnd (wn_X11_wrong  h) (fun q1 hq1 => (PF.ite (fun _ => (PF.ret1 hq1)) (fun _ => PF.none))))
theorem wn_X11_mark {s : ST} {p0 : Int32} {σ : ST}   (h : NUT s σ) : PF st1 (NUT s) (f_X11_mark p0 σ) := by
  unfold f_X11_mark
  exact (PF.ite (fun _ => (PF.bnd (wn_X11_go  h) (fun q1 hq1 => (PF.ret1 hq1)))) (fun _ => (PF.bnd (wn_X11_wrongHere  h) (fun q3 hq3 => (PF.ite (fun _ => (PF.ret1 hq3)) (fun _ => PF.none))))))
theorem wn_X11_items_70 {s : ST} {r_X11_items : Int32 → Int32 → Int32 → Int32 → ST → Option ((Int32 × ST) × Nat)} {r_X11_parts : Int32 → Int32 → Int32 → Int32 → ST → Option ((Int32 × ST) × Nat)} {r_X11_value : Int32 → Int32 → Int32 → Int32 → Int32 → ST → Option ((Int32 × ST) × Nat)} {k25 : Int32 → Int32 → Int32 → Int32 → Int32 → Int32 → ST → Option ((Int32 × ST) × Nat)} {x1 : Int32} {x2 : Int32} {x3 : Int32} {x4 : Int32} {x5 : Int32} {y0 : Int32} {σ : ST} (h_r_X11_items : ∀ (x1 : Int32) (x2 : Int32) (x3 : Int32) (x4 : Int32) (σ : ST), NUT s σ → PF st2 (NUT s) (r_X11_items x1 x2 x3 x4 σ)) (h_r_X11_parts : ∀ (x1 : Int32) (x2 : Int32) (x3 : Int32) (x4 : Int32) (σ : ST), NUT s σ → PF st2 (NUT s) (r_X11_parts x1 x2 x3 x4 σ)) (h_r_X11_value : ∀ (x1 : Int32) (x2 : Int32) (x3 : Int32) (x4 : Int32) (x5 : Int32) (σ : ST), NUT s σ → PF st2 (NUT s) (r_X11_value x1 x2 x3 x4 x5 σ)) (h_k25 : ∀ (x1 : Int32) (x2 : Int32) (x3 : Int32) (x4 : Int32) (x5 : Int32) (x6 : Int32) (σ : ST), NUT s σ → PF st2 (NUT s) (k25 x1 x2 x3 x4 x5 x6 σ))  (h : NUT s σ) : PF st2 (NUT s) (f_X11_items_70 r_X11_items r_X11_parts r_X11_value k25 x1 x2 x3 x4 x5 y0 σ) := by
  unfold f_X11_items_70
  exact (PF.ite (fun _ => (h_k25 _ _ _ _ _ _ _ h)) (fun _ => (PF.bnd (wn_X11_go  h) (fun q1 hq1 => (h_k25 _ _ _ _ _ _ _ hq1)))))
theorem wn_X11_items_25 {s : ST} {r_X11_items : Int32 → Int32 → Int32 → Int32 → ST → Option ((Int32 × ST) × Nat)} {r_X11_parts : Int32 → Int32 → Int32 → Int32 → ST → Option ((Int32 × ST) × Nat)} {r_X11_value : Int32 → Int32 → Int32 → Int32 → Int32 → ST → Option ((Int32 × ST) × Nat)} (h_r_X11_items : ∀ (x1 : Int32) (x2 : Int32) (x3 : Int32) (x4 : Int32) (σ : ST), NUT s σ → PF st2 (NUT s) (r_X11_items x1 x2 x3 x4 σ)) (h_r_X11_parts : ∀ (x1 : Int32) (x2 : Int32) (x3 : Int32) (x4 : Int32) (σ : ST), NUT s σ → PF st2 (NUT s) (r_X11_parts x1 x2 x3 x4 σ)) (h_r_X11_value : ∀ (x1 : Int32) (x2 : Int32) (x3 : Int32) (x4 : Int32) (x5 : Int32) (σ : ST), NUT s σ → PF st2 (NUT s) (r_X11_value x1 x2 x3 x4 x5 σ))  : ∀ (n : Nat) (x1 : Int32) (x2 : Int32) (x3 : Int32) (x4 : Int32) (x5 : Int32) (x6 : Int32) (σ : ST), NUT s σ → PF st2 (NUT s) (f_X11_items_25 r_X11_items r_X11_parts r_X11_value n x1 x2 x3 x4 x5 x6 σ) := by
  intro n
  induction n with
  | zero => intro x1 x2 x3 x4 x5 x6 σ h; rw [f_X11_items_25]; exact PF.none
  | succ n ih =>
    intro x1 x2 x3 x4 x5 x6 σ h
    rw [f_X11_items_25]
    exact (PF.ite (fun _ => (PF.bnd (wn_X11_mark  h) (fun q1 hq1 => (PF.ite (fun _ => (PF.ret2 hq1)) (fun _ => PF.none))))) (fun _ => (PF.ite (fun _ => (PF.bnd (h_r_X11_value _ _ _ _ _ _ h) (fun q4 hq4 => (PF.ac (PF.ite (fun _ => (PF.ret2 hq4)) (fun _ => (PF.ite (fun _ => (wn_X11_items_70 h_r_X11_items h_r_X11_parts h_r_X11_value ih hq4)) (fun _ => (wn_X11_items_70 h_r_X11_items h_r_X11_parts h_r_X11_value ih hq4))))))))) (fun _ => PF.none))))
theorem wn_X11_items {s : ST} {r_X11_items : Int32 → Int32 → Int32 → Int32 → ST → Option ((Int32 × ST) × Nat)} {r_X11_parts : Int32 → Int32 → Int32 → Int32 → ST → Option ((Int32 × ST) × Nat)} {r_X11_value : Int32 → Int32 → Int32 → Int32 → Int32 → ST → Option ((Int32 × ST) × Nat)} {p0 : Int32} {p1 : Int32} {p2 : Int32} {p3 : Int32} {σ : ST} (h_r_X11_items : ∀ (x1 : Int32) (x2 : Int32) (x3 : Int32) (x4 : Int32) (σ : ST), NUT s σ → PF st2 (NUT s) (r_X11_items x1 x2 x3 x4 σ)) (h_r_X11_parts : ∀ (x1 : Int32) (x2 : Int32) (x3 : Int32) (x4 : Int32) (σ : ST), NUT s σ → PF st2 (NUT s) (r_X11_parts x1 x2 x3 x4 σ)) (h_r_X11_value : ∀ (x1 : Int32) (x2 : Int32) (x3 : Int32) (x4 : Int32) (x5 : Int32) (σ : ST), NUT s σ → PF st2 (NUT s) (r_X11_value x1 x2 x3 x4 x5 σ))  (h : NUT s σ) : PF st2 (NUT s) (f_X11_items r_X11_items r_X11_parts r_X11_value p0 p1 p2 p3 σ) := by
  unfold f_X11_items
  exact (PF.bnd (wn_X11_go  h) (fun q1 hq1 => (PF.ite (fun _ => (PF.bnd (wn_X11_go  hq1) (fun q3 hq3 => (PF.ret2 hq3)))) (fun _ => (wn_X11_items_25 h_r_X11_items h_r_X11_parts h_r_X11_value _ _ _ _ _ _ _ _ hq1)))))
theorem wn_X11_hasChild_35 {s : ST} {k10 : Int32 → Int32 → Int32 → ST → Option (Int32 × ST)} {x2 : Int32} {x4 : Int32} {y0 : Int32} {σ : ST} (h_k10 : ∀ (x1 : Int32) (x2 : Int32) (x3 : Int32) (σ : ST), NUT s σ → PF st1 (NUT s) (k10 x1 x2 x3 σ))  (h : NUT s σ) : PF st1 (NUT s) (f_X11_hasChild_35 k10 x2 x4 y0 σ) := by
  unfold f_X11_hasChild_35
  exact (PF.ite (fun _ => (h_k10 _ _ _ _ h)) (fun _ => PF.none))
theorem wn_X11_hasChild_30 {s : ST} {k10 : Int32 → Int32 → Int32 → ST → Option (Int32 × ST)} {x2 : Int32} {x4 : Int32} {σ : ST} (h_k10 : ∀ (x1 : Int32) (x2 : Int32) (x3 : Int32) (σ : ST), NUT s σ → PF st1 (NUT s) (k10 x1 x2 x3 σ))  (h : NUT s σ) : PF st1 (NUT s) (f_X11_hasChild_30 k10 x2 x4 σ) := by
  unfold f_X11_hasChild_30
  exact (wn_X11_hasChild_35 h_k10 h)
theorem wn_X11_hasChild_10 {s : ST}    : ∀ (n : Nat) (x1 : Int32) (x2 : Int32) (x3 : Int32) (σ : ST), NUT s σ → PF st1 (NUT s) (f_X11_hasChild_10  n x1 x2 x3 σ) := by
  intro n
  induction n with
  | zero => intro x1 x2 x3 σ h; rw [f_X11_hasChild_10]; exact PF.none
  | succ n ih =>
    intro x1 x2 x3 σ h
    rw [f_X11_hasChild_10]
    exact (PF.ite (fun _ => (PF.ite (fun _ => (PF.ret1 h)) (fun _ => PF.none))) (fun _ => (PF.ite (fun _ => (PF.ite (fun _ => (PF.ite (fun _ => (wn_X11_hasChild_30 ih h)) (fun _ => (wn_X11_hasChild_35 ih h)))) (fun _ => PF.none))) (fun _ => (wn_X11_hasChild_30 ih h)))))
theorem wn_X11_hasChild {s : ST} {p0 : Int32} {p1 : Int32} {σ : ST}   (h : NUT s σ) : PF st1 (NUT s) (f_X11_hasChild p0 p1 σ) := by
  unfold f_X11_hasChild
  exact (PF.ite (fun _ => (wn_X11_hasChild_10  _ _ _ _ _ h)) (fun _ => PF.none))
theorem wn_X11_firstOf {s : ST} {p0 : Int32} {σ : ST}   (h : NUT s σ) : PF st1 (NUT s) (f_X11_firstOf p0 σ) := by
  unfold f_X11_firstOf
  exact (PF.ite (fun _ => (PF.ite (fun _ => (PF.ite (fun _ => (PF.ret1 h)) (fun _ => PF.none))) (fun _ => (PF.ret1 h)))) (fun _ => PF.none))
theorem wn_X11_joins_147 {s : ST} {x1 : Int32} {x2 : Int32} {σ : ST}   (h : NUT s σ) : PF st0 (NUT s) (f_X11_joins_147 x1 x2 σ) := by
  unfold f_X11_joins_147
  exact (PF.ite (fun _ => (PF.ite (fun _ => (PF.ret0 h)) (fun _ => (PF.ite (fun _ => (PF.ret0 (NUT.i (by omega) h))) (fun _ => PF.none))))) (fun _ => PF.none))
theorem wn_X11_joins_125 {s : ST} {x1 : Int32} {x2 : Int32} {x3 : Int32} {y0 : Int32} {y1 : Int32} {σ : ST}   (h : NUT s σ) : PF st0 (NUT s) (f_X11_joins_125 x1 x2 x3 y0 y1 σ) := by
  unfold f_X11_joins_125
  exact (PF.ite (fun _ => (PF.ite (fun _ => (PF.ite (fun _ => (wn_X11_joins_147  (NUT.i (by omega) (NUT.i (by omega) h)))) (fun _ => PF.none))) (fun _ => (PF.ite (fun _ => (wn_X11_joins_147  (NUT.i (by omega) (NUT.i (by omega) h)))) (fun _ => PF.none))))) (fun _ => PF.none))
theorem wn_X11_joins_101 {s : ST} {x1 : Int32} {x2 : Int32} {x3 : Int32} {σ : ST}   (h : NUT s σ) : PF st0 (NUT s) (f_X11_joins_101 x1 x2 x3 σ) := by
  unfold f_X11_joins_101
  exact (PF.ite (fun _ => (PF.ite (fun _ => (wn_X11_joins_125  h)) (fun _ => PF.none))) (fun _ => (PF.ite (fun _ => (wn_X11_joins_125  h)) (fun _ => PF.none))))
theorem wn_X11_joins_65 {s : ST}    : ∀ (n : Nat) (x1 : Int32) (x2 : Int32) (x3 : Int32) (x4 : Int32) (σ : ST), NUT s σ → PF st0 (NUT s) (f_X11_joins_65  n x1 x2 x3 x4 σ) := by
  intro n
  induction n with
  | zero => intro x1 x2 x3 x4 σ h; rw [f_X11_joins_65]; exact PF.none
  | succ n ih =>
    intro x1 x2 x3 x4 σ h
    rw [f_X11_joins_65]
    exact (PF.ite (fun _ => (wn_X11_joins_101  h)) (fun _ => (PF.ite (fun _ => (PF.ite (fun _ => (PF.ite (fun _ => (wn_X11_joins_101  h)) (fun _ => (ih _ _ _ _ _ h)))) (fun _ => PF.none))) (fun _ => PF.none))))
theorem wn_X11_joins_51 {s : ST} {x1 : Int32} {x2 : Int32} {x3 : Int32} {y0 : Int32} {σ : ST}   (h : NUT s σ) : PF st0 (NUT s) (f_X11_joins_51 x1 x2 x3 y0 σ) := by
  unfold f_X11_joins_51
  exact (PF.ite (fun _ => (wn_X11_joins_65  _ _ _ _ _ _ h)) (fun _ => (PF.ite (fun _ => (wn_X11_joins_65  _ _ _ _ _ _ h)) (fun _ => PF.none))))
theorem wn_X11_joins_45 {s : ST} {x1 : Int32} {x2 : Int32} {x3 : Int32} {σ : ST}   (h : NUT s σ) : PF st0 (NUT s) (f_X11_joins_45 x1 x2 x3 σ) := by
  unfold f_X11_joins_45
  exact (PF.ite (fun _ => (wn_X11_joins_51  h)) (fun _ => PF.none))
theorem wn_X11_joins {s : ST} {p0 : Int32} {p1 : Int32} {σ : ST}   (h : NUT s σ) : PF st0 (NUT s) (f_X11_joins p0 p1 σ) := by
  unfold f_X11_joins
  exact (PF.ite (fun _ => (PF.ite (fun _ => (wn_X11_joins_45  (NUT.i (by omega) h))) (fun _ => (PF.ite (fun _ => (PF.ite (fun _ => (PF.ite (fun _ => (wn_X11_joins_45  (NUT.i (by omega) h))) (fun _ => (wn_X11_joins_51  (NUT.i (by omega) h))))) (fun _ => PF.none))) (fun _ => PF.none))))) (fun _ => PF.none))
theorem wn_X11_laysNode {s : ST} {p0 : Int32} {p1 : Int32} {p2 : Int32} {p3 : Int32} {σ : ST}   (h : NUT s σ) : PF st1 (NUT s) (f_X11_laysNode p0 p1 p2 p3 σ) := by
  unfold f_X11_laysNode
  exact (PF.ite (fun _ => (PF.bnd (PF.ret0 (NUT.l (.inl trivial) (NUT.i (by omega) (NUT.i (by omega) h)))) (fun z2 hz2 => (PF.bnd (PF.ret0 (NUT.i (by omega) (NUT.i (by omega) (NUT.l (.inl trivial) hz2)))) (fun z3 hz3 => (PF.bnd (PF.ret0 (NUT.i (by omega) (NUT.i (by omega) (NUT.i (by omega) hz3)))) (fun z4 hz4 => (PF.bnd (PF.ret0 (NUT.i (by omega) (NUT.i (by omega) (NUT.i (by omega) hz4)))) (fun z5 hz5 => (PF.ite (fun _ => (PF.ret1 hz5)) (fun _ => (PF.bnd (wn_X11_joins  hz5) (fun q6 hq6 => (PF.ret1 hq6)))))))))))))) (fun _ => PF.none))
theorem wn_X11_fills_103 {s : ST} {x6 : Int32} {y0 : Int32} {y1 : Int32} {σ : ST}   (h : NUT s σ) : PF st0 (NUT s) (f_X11_fills_103 x6 y0 y1 σ) := by
  unfold f_X11_fills_103
  exact (PF.ite (fun _ => (PF.ite (fun _ => (PF.ret0 (NUT.i (by omega) (NUT.i (by omega) h)))) (fun _ => PF.none))) (fun _ => PF.none))
theorem wn_X11_fills_45 {s : ST} {x1 : Int32} {x5 : Int32} {y0 : Int32} {y1 : Int32} {y2 : Int32} {y3 : Int32} {σ : ST}   (h : NUT s σ) : PF st0 (NUT s) (f_X11_fills_45 x1 x5 y0 y1 y2 y3 σ) := by
  unfold f_X11_fills_45
  exact (PF.bnd (wn_X11_laysNode  h) (fun q1 hq1 => (PF.ite (fun _ => (PF.ite (fun _ => (PF.bnd (PF.ret0 (NUT.l (.inl trivial) (NUT.l (.inl trivial) hq1))) (fun z5 hz5 => (PF.ite (fun _ => (PF.ite (fun _ => (wn_X11_fills_103  hz5)) (fun _ => (wn_X11_fills_103  hz5)))) (fun _ => PF.none))))) (fun _ => PF.none))) (fun _ => PF.none))))
theorem wn_X11_fills {s : ST} {p0 : Int32} {p1 : Int32} {p2 : Int32} {σ : ST}   (h : NUT s σ) : PF st0 (NUT s) (f_X11_fills p0 p1 p2 σ) := by
  unfold f_X11_fills
  exact (PF.ite (fun _ => (PF.bnd (wn_X11_firstOf  h) (fun q2 hq2 => (PF.ite (fun _ => (PF.ite (fun _ => (wn_X11_fills_45  hq2)) (fun _ => (wn_X11_fills_45  hq2)))) (fun _ => PF.none))))) (fun _ => PF.none))
theorem wn_X11_parts_233 {s : ST} {r_X11_items : Int32 → Int32 → Int32 → Int32 → ST → Option ((Int32 × ST) × Nat)} {r_X11_parts : Int32 → Int32 → Int32 → Int32 → ST → Option ((Int32 × ST) × Nat)} {r_X11_value : Int32 → Int32 → Int32 → Int32 → Int32 → ST → Option ((Int32 × ST) × Nat)} {k171 : Int32 → Int32 → Int32 → ST → Option ((Int32 × ST) × Nat)} {x4 : Int32} {x5 : Int32} {x7 : Int32} {σ : ST} (h_r_X11_items : ∀ (x1 : Int32) (x2 : Int32) (x3 : Int32) (x4 : Int32) (σ : ST), NUT s σ → PF st2 (NUT s) (r_X11_items x1 x2 x3 x4 σ)) (h_r_X11_parts : ∀ (x1 : Int32) (x2 : Int32) (x3 : Int32) (x4 : Int32) (σ : ST), NUT s σ → PF st2 (NUT s) (r_X11_parts x1 x2 x3 x4 σ)) (h_r_X11_value : ∀ (x1 : Int32) (x2 : Int32) (x3 : Int32) (x4 : Int32) (x5 : Int32) (σ : ST), NUT s σ → PF st2 (NUT s) (r_X11_value x1 x2 x3 x4 x5 σ)) (h_k171 : ∀ (x1 : Int32) (x2 : Int32) (x3 : Int32) (σ : ST), NUT s σ → PF st2 (NUT s) (k171 x1 x2 x3 σ))  (h : NUT s σ) : PF st2 (NUT s) (f_X11_parts_233 r_X11_items r_X11_parts r_X11_value k171 x4 x5 x7 σ) := by
  unfold f_X11_parts_233
  exact (h_k171 _ _ _ _ h)
theorem wn_X11_parts_171 {s : ST} {r_X11_items : Int32 → Int32 → Int32 → Int32 → ST → Option ((Int32 × ST) × Nat)} {r_X11_parts : Int32 → Int32 → Int32 → Int32 → ST → Option ((Int32 × ST) × Nat)} {r_X11_value : Int32 → Int32 → Int32 → Int32 → Int32 → ST → Option ((Int32 × ST) × Nat)} (h_r_X11_items : ∀ (x1 : Int32) (x2 : Int32) (x3 : Int32) (x4 : Int32) (σ : ST), NUT s σ → PF st2 (NUT s) (r_X11_items x1 x2 x3 x4 σ)) (h_r_X11_parts : ∀ (x1 : Int32) (x2 : Int32) (x3 : Int32) (x4 : Int32) (σ : ST), NUT s σ → PF st2 (NUT s) (r_X11_parts x1 x2 x3 x4 σ)) (h_r_X11_value : ∀ (x1 : Int32) (x2 : Int32) (x3 : Int32) (x4 : Int32) (x5 : Int32) (σ : ST), NUT s σ → PF st2 (NUT s) (r_X11_value x1 x2 x3 x4 x5 σ))  : ∀ (n : Nat) (x1 : Int32) (x2 : Int32) (x3 : Int32) (σ : ST), NUT s σ → PF st2 (NUT s) (f_X11_parts_171 r_X11_items r_X11_parts r_X11_value n x1 x2 x3 σ) := by
  intro n
  induction n with
  | zero => intro x1 x2 x3 σ h; rw [f_X11_parts_171]; exact PF.none
  | succ n ih =>
    intro x1 x2 x3 σ h
    rw [f_X11_parts_171]
    exact (PF.ite (fun _ => (PF.ite (fun _ => (PF.bnd (wn_X11_go  h) (fun q2 hq2 => (PF.ret2 hq2)))) (fun _ => (PF.bnd (wn_X11_hasChild  h) (fun q4 hq4 => (PF.ite (fun _ => (PF.ite (fun _ => (PF.ite (fun _ => (PF.bnd (wn_X11_wrongHere  hq4) (fun q9 hq9 => (PF.ite (fun _ => (PF.ret2 hq9)) (fun _ => PF.none))))) (fun _ => (PF.bnd (wn_X11_fills  hq4) (fun q7 hq7 => (wn_X11_parts_233 h_r_X11_items h_r_X11_parts h_r_X11_value ih hq7)))))) (fun _ => PF.none))) (fun _ => (wn_X11_parts_233 h_r_X11_items h_r_X11_parts h_r_X11_value ih hq4)))))))) (fun _ => PF.none))
theorem wn_X11_isWord {s : ST} {p0 : Int64} {σ : ST}   (h : NUT s σ) : PF st1 (NUT s) (f_X11_isWord p0 σ) := by
  unfold f_X11_isWord
  exact (PF.ite (fun _ => (PF.ite (fun _ => (PF.ret1 h)) (fun _ => (PF.ret1 h)))) (fun _ => (PF.ret1 h)))
theorem wn_X11_sortHere {s : ST}  {σ : ST}   (h : NUT s σ) : PF st2 (NUT s) (f_X11_sortHere σ) := by
  unfold f_X11_sortHere
  exact (PF.bnd (wn_X11_spelt h) (fun q1 hq1 => (PF.ac (PF.bnd (wn_X11_isWord  hq1) (fun q3 hq3 => (PF.ite (fun _ => (PF.bnd (wn_X11_spelt hq3) (fun q5 hq5 => (PF.ac (PF.bnd (wn_X11_isWord  hq5) (fun q7 hq7 => (PF.ite (fun _ => (PF.bnd (wn_X11_spelt hq7) (fun q9 hq9 => (PF.ac (PF.bnd (wn_X11_isWord  hq9) (fun q11 hq11 => (PF.ite (fun _ => (PF.bnd (wn_X11_spelt hq11) (fun q13 hq13 => (PF.ac (PF.bnd (wn_X11_isWord  hq13) (fun q15 hq15 => (PF.ite (fun _ => (PF.bnd (wn_X11_spelt hq15) (fun q17 hq17 => (PF.ac (PF.bnd (wn_X11_isWord  hq17) (fun q19 hq19 => (PF.ite (fun _ => (PF.bnd (wn_X11_spelt hq19) (fun q21 hq21 => (PF.ac (PF.bnd (wn_X11_isWord  hq21) (fun q23 hq23 => (PF.ite (fun _ => (PF.bnd (wn_X11_spelt hq23) (fun q25 hq25 => (PF.ac (PF.bnd (wn_X11_isWord  hq25) (fun q27 hq27 => (PF.ite (fun _ => (PF.bnd (wn_X11_spelt hq27) (fun q29 hq29 => (PF.ac (PF.bnd (wn_X11_isWord  hq29) (fun q31 hq31 => (PF.ite (fun _ => (PF.ret2 hq31)) (fun _ => (PF.ret2 hq31))))))))) (fun _ => (PF.ret2 hq27))))))))) (fun _ => (PF.ret2 hq23))))))))) (fun _ => (PF.ret2 hq19))))))))) (fun _ => (PF.ret2 hq15))))))))) (fun _ => (PF.ret2 hq11))))))))) (fun _ => (PF.ret2 hq7))))))))) (fun _ => (PF.ret2 hq3))))))))
theorem wn_X11_isName_61 {s : ST} {y0 : Int32} {σ : ST}   (h : NUT s σ) : PF st2 (NUT s) (f_X11_isName_61 y0 σ) := by
  unfold f_X11_isName_61
  exact (PF.ite (fun _ => (PF.ite (fun _ => (PF.ret2 h)) (fun _ => (PF.ret2 h)))) (fun _ => (PF.ret2 h)))
theorem wn_X11_isName_56 {s : ST}  {σ : ST}   (h : NUT s σ) : PF st2 (NUT s) (f_X11_isName_56 σ) := by
  unfold f_X11_isName_56
  exact (wn_X11_isName_61  h)
theorem wn_X11_isPlan {s : ST}  {σ : ST}   (h : NUT s σ) : PF st2 (NUT s) (f_X11_isPlan σ) := by
  unfold f_X11_isPlan
  exact (PF.bnd (wn_X11_spelt h) (fun q1 hq1 => (PF.ac (PF.bnd (wn_X11_isWord  hq1) (fun q3 hq3 => (PF.ite (fun _ => (PF.ret2 hq3)) (fun _ => PF.none)))))))
theorem wn_X11_isRecord {s : ST}  {σ : ST}   (h : NUT s σ) : PF st2 (NUT s) (f_X11_isRecord σ) := by
  unfold f_X11_isRecord
  exact (PF.bnd (wn_X11_spelt h) (fun q1 hq1 => (PF.ac (PF.bnd (wn_X11_isWord  hq1) (fun q3 hq3 => (PF.ite (fun _ => (PF.ret2 hq3)) (fun _ => PF.none)))))))
theorem wn_X11_isWas {s : ST}  {σ : ST}   (h : NUT s σ) : PF st2 (NUT s) (f_X11_isWas σ) := by
  unfold f_X11_isWas
  exact (PF.bnd (wn_X11_spelt h) (fun q1 hq1 => (PF.ac (PF.bnd (wn_X11_isWord  hq1) (fun q3 hq3 => (PF.ite (fun _ => (PF.ret2 hq3)) (fun _ => PF.none)))))))
theorem wn_X11_isElse {s : ST}  {σ : ST}   (h : NUT s σ) : PF st2 (NUT s) (f_X11_isElse σ) := by
  unfold f_X11_isElse
  exact (PF.bnd (wn_X11_spelt h) (fun q1 hq1 => (PF.ac (PF.bnd (wn_X11_isWord  hq1) (fun q3 hq3 => (PF.ite (fun _ => (PF.ret2 hq3)) (fun _ => PF.none)))))))
theorem wn_X11_isOr {s : ST}  {σ : ST}   (h : NUT s σ) : PF st2 (NUT s) (f_X11_isOr σ) := by
  unfold f_X11_isOr
  exact (PF.bnd (wn_X11_spelt h) (fun q1 hq1 => (PF.ac (PF.bnd (wn_X11_isWord  hq1) (fun q3 hq3 => (PF.ite (fun _ => (PF.ret2 hq3)) (fun _ => PF.none)))))))
theorem wn_X11_isYes {s : ST}  {σ : ST}   (h : NUT s σ) : PF st2 (NUT s) (f_X11_isYes σ) := by
  unfold f_X11_isYes
  exact (PF.bnd (wn_X11_spelt h) (fun q1 hq1 => (PF.ac (PF.bnd (wn_X11_isWord  hq1) (fun q3 hq3 => (PF.ite (fun _ => (PF.ret2 hq3)) (fun _ => PF.none)))))))
theorem wn_X11_isNo {s : ST}  {σ : ST}   (h : NUT s σ) : PF st2 (NUT s) (f_X11_isNo σ) := by
  unfold f_X11_isNo
  exact (PF.bnd (wn_X11_spelt h) (fun q1 hq1 => (PF.ac (PF.bnd (wn_X11_isWord  hq1) (fun q3 hq3 => (PF.ite (fun _ => (PF.ret2 hq3)) (fun _ => PF.none)))))))
theorem wn_X11_isName {s : ST}  {σ : ST}   (h : NUT s σ) : PF st2 (NUT s) (f_X11_isName σ) := by
  unfold f_X11_isName
  exact (PF.bnd (wn_X11_sortHere  h) (fun q1 hq1 => (PF.ac (PF.ite (fun _ => (wn_X11_isName_56  hq1)) (fun _ => (PF.bnd (wn_X11_isPlan  hq1) (fun q3 hq3 => (PF.ac (PF.ite (fun _ => (PF.bnd (wn_X11_isRecord  hq3) (fun q5 hq5 => (PF.ac (PF.ite (fun _ => (PF.bnd (wn_X11_isWas  hq5) (fun q7 hq7 => (PF.ac (PF.ite (fun _ => (PF.bnd (wn_X11_isElse  hq7) (fun q9 hq9 => (PF.ac (PF.ite (fun _ => (PF.bnd (wn_X11_isOr  hq9) (fun q11 hq11 => (PF.ac (PF.ite (fun _ => (PF.bnd (wn_X11_isYes  hq11) (fun q13 hq13 => (PF.ac (PF.ite (fun _ => (PF.bnd (wn_X11_isNo  hq13) (fun q15 hq15 => (PF.ac (PF.ite (fun _ => (wn_X11_isName_61  hq15)) (fun _ => (wn_X11_isName_56  hq15))))))) (fun _ => (wn_X11_isName_56  hq13))))))) (fun _ => (wn_X11_isName_56  hq11))))))) (fun _ => (wn_X11_isName_56  hq9))))))) (fun _ => (wn_X11_isName_56  hq7))))))) (fun _ => (wn_X11_isName_56  hq5))))))) (fun _ => (wn_X11_isName_56  hq3)))))))))))
theorem wn_X11_fieldOf_3 {s : ST}    : ∀ (n : Nat) (x1 : Int32) (x2 : Int64) (x3 : Int32) (σ : ST), NUT s σ → PF st1 (NUT s) (f_X11_fieldOf_3  n x1 x2 x3 σ) := by
  intro n
  induction n with
  | zero => intro x1 x2 x3 σ h; rw [f_X11_fieldOf_3]; exact PF.none
  | succ n ih =>
    intro x1 x2 x3 σ h
    rw [f_X11_fieldOf_3]
    exact (PF.ite (fun _ => (PF.ite (fun _ => (PF.ret1 h)) (fun _ => (PF.ite (fun _ => (PF.ite (fun _ => (PF.ret1 h)) (fun _ => (ih _ _ _ _ h)))) (fun _ => PF.none))))) (fun _ => PF.none))
theorem wn_X11_fieldOf {s : ST} {p0 : Int32} {p1 : Int64} {σ : ST}   (h : NUT s σ) : PF st1 (NUT s) (f_X11_fieldOf p0 p1 σ) := by
  unfold f_X11_fieldOf
  exact (wn_X11_fieldOf_3  _ _ _ _ _ h)
theorem wn_X11_parts_85 {s : ST} {r_X11_items : Int32 → Int32 → Int32 → Int32 → ST → Option ((Int32 × ST) × Nat)} {r_X11_parts : Int32 → Int32 → Int32 → Int32 → ST → Option ((Int32 × ST) × Nat)} {r_X11_value : Int32 → Int32 → Int32 → Int32 → Int32 → ST → Option ((Int32 × ST) × Nat)} {σ : ST} (h_r_X11_items : ∀ (x1 : Int32) (x2 : Int32) (x3 : Int32) (x4 : Int32) (σ : ST), NUT s σ → PF st2 (NUT s) (r_X11_items x1 x2 x3 x4 σ)) (h_r_X11_parts : ∀ (x1 : Int32) (x2 : Int32) (x3 : Int32) (x4 : Int32) (σ : ST), NUT s σ → PF st2 (NUT s) (r_X11_parts x1 x2 x3 x4 σ)) (h_r_X11_value : ∀ (x1 : Int32) (x2 : Int32) (x3 : Int32) (x4 : Int32) (x5 : Int32) (σ : ST), NUT s σ → PF st2 (NUT s) (r_X11_value x1 x2 x3 x4 x5 σ))  (h : NUT s σ) : PF st2 (NUT s) (f_X11_parts_85 r_X11_items r_X11_parts r_X11_value σ) := by
  unfold f_X11_parts_85
  exact (PF.bnd (wn_X11_wrongHere  h) (fun q1 hq1 => (PF.ite (fun _ => (PF.ret2 hq1)) (fun _ => PF.none))))
theorem wn_X11_parts_139 {s : ST} {r_X11_items : Int32 → Int32 → Int32 → Int32 → ST → Option ((Int32 × ST) × Nat)} {r_X11_parts : Int32 → Int32 → Int32 → Int32 → ST → Option ((Int32 × ST) × Nat)} {r_X11_value : Int32 → Int32 → Int32 → Int32 → Int32 → ST → Option ((Int32 × ST) × Nat)} {k33 : Int32 → Int32 → Int32 → Int32 → Int32 → ST → Option ((Int32 × ST) × Nat)} {x1 : Int32} {x3 : Int32} {x4 : Int32} {x5 : Int32} {y0 : Int32} {σ : ST} (h_r_X11_items : ∀ (x1 : Int32) (x2 : Int32) (x3 : Int32) (x4 : Int32) (σ : ST), NUT s σ → PF st2 (NUT s) (r_X11_items x1 x2 x3 x4 σ)) (h_r_X11_parts : ∀ (x1 : Int32) (x2 : Int32) (x3 : Int32) (x4 : Int32) (σ : ST), NUT s σ → PF st2 (NUT s) (r_X11_parts x1 x2 x3 x4 σ)) (h_r_X11_value : ∀ (x1 : Int32) (x2 : Int32) (x3 : Int32) (x4 : Int32) (x5 : Int32) (σ : ST), NUT s σ → PF st2 (NUT s) (r_X11_value x1 x2 x3 x4 x5 σ)) (h_k33 : ∀ (x1 : Int32) (x2 : Int32) (x3 : Int32) (x4 : Int32) (x5 : Int32) (σ : ST), NUT s σ → PF st2 (NUT s) (k33 x1 x2 x3 x4 x5 σ))  (h : NUT s σ) : PF st2 (NUT s) (f_X11_parts_139 r_X11_items r_X11_parts r_X11_value k33 x1 x3 x4 x5 y0 σ) := by
  unfold f_X11_parts_139
  exact (PF.ite (fun _ => (h_k33 _ _ _ _ _ _ h)) (fun _ => (PF.bnd (wn_X11_go  h) (fun q1 hq1 => (h_k33 _ _ _ _ _ _ hq1)))))
theorem wn_X11_parts_33 {s : ST} {r_X11_items : Int32 → Int32 → Int32 → Int32 → ST → Option ((Int32 × ST) × Nat)} {r_X11_parts : Int32 → Int32 → Int32 → Int32 → ST → Option ((Int32 × ST) × Nat)} {r_X11_value : Int32 → Int32 → Int32 → Int32 → Int32 → ST → Option ((Int32 × ST) × Nat)} (h_r_X11_items : ∀ (x1 : Int32) (x2 : Int32) (x3 : Int32) (x4 : Int32) (σ : ST), NUT s σ → PF st2 (NUT s) (r_X11_items x1 x2 x3 x4 σ)) (h_r_X11_parts : ∀ (x1 : Int32) (x2 : Int32) (x3 : Int32) (x4 : Int32) (σ : ST), NUT s σ → PF st2 (NUT s) (r_X11_parts x1 x2 x3 x4 σ)) (h_r_X11_value : ∀ (x1 : Int32) (x2 : Int32) (x3 : Int32) (x4 : Int32) (x5 : Int32) (σ : ST), NUT s σ → PF st2 (NUT s) (r_X11_value x1 x2 x3 x4 x5 σ))  : ∀ (n : Nat) (x1 : Int32) (x2 : Int32) (x3 : Int32) (x4 : Int32) (x5 : Int32) (σ : ST), NUT s σ → PF st2 (NUT s) (f_X11_parts_33 r_X11_items r_X11_parts r_X11_value n x1 x2 x3 x4 x5 σ) := by
  intro n
  induction n with
  | zero => intro x1 x2 x3 x4 x5 σ h; rw [f_X11_parts_33]; exact PF.none
  | succ n ih =>
    intro x1 x2 x3 x4 x5 σ h
    rw [f_X11_parts_33]
    exact (PF.ite (fun _ => (PF.ite (fun _ => (wn_X11_parts_171 h_r_X11_items h_r_X11_parts h_r_X11_value _ _ _ _ _ h)) (fun _ => (PF.bnd (wn_X11_wrongHere  h) (fun q1 hq1 => (PF.ite (fun _ => (PF.ret2 hq1)) (fun _ => PF.none))))))) (fun _ => (PF.bnd (wn_X11_isName  h) (fun q3 hq3 => (PF.ac (PF.ite (fun _ => (PF.bnd (wn_X11_wrongHere  hq3) (fun q14 hq14 => (PF.ite (fun _ => (PF.ret2 hq14)) (fun _ => PF.none))))) (fun _ => (PF.bnd (wn_X11_fieldOf  hq3) (fun q5 hq5 => (PF.ite (fun _ => (wn_X11_parts_85 h_r_X11_items h_r_X11_parts h_r_X11_value hq5)) (fun _ => (PF.bnd (wn_X11_hasChild  hq5) (fun q7 hq7 => (PF.ite (fun _ => (PF.bnd (wn_X11_go  hq7) (fun q9 hq9 => (PF.ite (fun _ => (PF.bnd (h_r_X11_value _ _ _ _ _ _ hq9) (fun q12 hq12 => (PF.ac (PF.ite (fun _ => (PF.ret2 hq12)) (fun _ => (PF.ite (fun _ => (wn_X11_parts_139 h_r_X11_items h_r_X11_parts h_r_X11_value ih hq12)) (fun _ => (wn_X11_parts_139 h_r_X11_items h_r_X11_parts h_r_X11_value ih hq12))))))))) (fun _ => PF.none))))) (fun _ => (wn_X11_parts_85 h_r_X11_items h_r_X11_parts h_r_X11_value hq7))))))))))))))))
theorem wn_X11_parts_31 {s : ST} {r_X11_items : Int32 → Int32 → Int32 → Int32 → ST → Option ((Int32 × ST) × Nat)} {r_X11_parts : Int32 → Int32 → Int32 → Int32 → ST → Option ((Int32 × ST) × Nat)} {r_X11_value : Int32 → Int32 → Int32 → Int32 → Int32 → ST → Option ((Int32 × ST) × Nat)} {x1 : Int32} {x3 : Int32} {x4 : Int32} {x5 : Int32} {y0 : Int32} {σ : ST} (h_r_X11_items : ∀ (x1 : Int32) (x2 : Int32) (x3 : Int32) (x4 : Int32) (σ : ST), NUT s σ → PF st2 (NUT s) (r_X11_items x1 x2 x3 x4 σ)) (h_r_X11_parts : ∀ (x1 : Int32) (x2 : Int32) (x3 : Int32) (x4 : Int32) (σ : ST), NUT s σ → PF st2 (NUT s) (r_X11_parts x1 x2 x3 x4 σ)) (h_r_X11_value : ∀ (x1 : Int32) (x2 : Int32) (x3 : Int32) (x4 : Int32) (x5 : Int32) (σ : ST), NUT s σ → PF st2 (NUT s) (r_X11_value x1 x2 x3 x4 x5 σ))  (h : NUT s σ) : PF st2 (NUT s) (f_X11_parts_31 r_X11_items r_X11_parts r_X11_value x1 x3 x4 x5 y0 σ) := by
  unfold f_X11_parts_31
  exact (wn_X11_parts_33 h_r_X11_items h_r_X11_parts h_r_X11_value _ _ _ _ _ _ _ h)
theorem wn_X11_parts {s : ST} {r_X11_items : Int32 → Int32 → Int32 → Int32 → ST → Option ((Int32 × ST) × Nat)} {r_X11_parts : Int32 → Int32 → Int32 → Int32 → ST → Option ((Int32 × ST) × Nat)} {r_X11_value : Int32 → Int32 → Int32 → Int32 → Int32 → ST → Option ((Int32 × ST) × Nat)} {p0 : Int32} {p1 : Int32} {p2 : Int32} {p3 : Int32} {σ : ST} (h_r_X11_items : ∀ (x1 : Int32) (x2 : Int32) (x3 : Int32) (x4 : Int32) (σ : ST), NUT s σ → PF st2 (NUT s) (r_X11_items x1 x2 x3 x4 σ)) (h_r_X11_parts : ∀ (x1 : Int32) (x2 : Int32) (x3 : Int32) (x4 : Int32) (σ : ST), NUT s σ → PF st2 (NUT s) (r_X11_parts x1 x2 x3 x4 σ)) (h_r_X11_value : ∀ (x1 : Int32) (x2 : Int32) (x3 : Int32) (x4 : Int32) (x5 : Int32) (σ : ST), NUT s σ → PF st2 (NUT s) (r_X11_value x1 x2 x3 x4 x5 σ))  (h : NUT s σ) : PF st2 (NUT s) (f_X11_parts r_X11_items r_X11_parts r_X11_value p0 p1 p2 p3 σ) := by
  unfold f_X11_parts
  exact (PF.ite (fun _ => (PF.bnd (wn_X11_go  h) (fun q2 hq2 => (PF.ite (fun _ => (wn_X11_parts_31 h_r_X11_items h_r_X11_parts h_r_X11_value hq2)) (fun _ => (wn_X11_parts_31 h_r_X11_items h_r_X11_parts h_r_X11_value hq2)))))) (fun _ => PF.none))
theorem wn_X11_fits_75 {s : ST}  {σ : ST}   (h : NUT s σ) : PF st2 (NUT s) (f_X11_fits_75 σ) := by
  unfold f_X11_fits_75
  exact (PF.ret2 h)
theorem wn_X11_within {s : ST} {p0 : Int64} {p1 : Int64} {p2 : Int64} {σ : ST}   (h : NUT s σ) : PF st1 (NUT s) (f_X11_within p0 p1 p2 σ) := by
  unfold f_X11_within
  exact (PF.ite (fun _ => (PF.ret1 h)) (fun _ => (PF.ite (fun _ => (PF.ret1 h)) (fun _ => (PF.ret1 h)))))
theorem wn_X11_fits {s : ST} {p0 : Int32} {σ : ST}   (h : NUT s σ) : PF st2 (NUT s) (f_X11_fits p0 σ) := by
  unfold f_X11_fits
  exact (PF.ite (fun _ => (PF.ite (fun _ => (PF.bnd (wn_X11_sortHere  h) (fun q9 hq9 => (PF.ac (PF.ite (fun _ => (PF.ret2 hq9)) (fun _ => (PF.ret2 hq9))))))) (fun _ => (PF.ite (fun _ => (PF.bnd (wn_X11_isYes  h) (fun q11 hq11 => (PF.ac (PF.ite (fun _ => (PF.bnd (wn_X11_isNo  hq11) (fun q13 hq13 => (PF.ac (PF.ite (fun _ => (PF.ret2 hq13)) (fun _ => (wn_X11_fits_75  hq13))))))) (fun _ => (wn_X11_fits_75  hq11))))))) (fun _ => (PF.ite (fun _ => (PF.ite (fun _ => (PF.ite (fun _ => (PF.bnd (wn_X11_within  h) (fun q15 hq15 => (PF.ite (fun _ => (PF.ret2 hq15)) (fun _ => (PF.ret2 hq15)))))) (fun _ => (PF.ret2 h)))) (fun _ => (PF.ret2 h)))) (fun _ => (PF.ite (fun _ => (PF.ite (fun _ => (PF.ite (fun _ => (PF.ret2 h)) (fun _ => (PF.ret2 h)))) (fun _ => (PF.ret2 h)))) (fun _ => (PF.ite (fun _ => (PF.ite (fun _ => (PF.ret2 h)) (fun _ => (PF.ret2 h)))) (fun _ => (PF.ite (fun _ => (PF.ite (fun _ => (PF.ret2 h)) (fun _ => (PF.ret2 h)))) (fun _ => (PF.ite (fun _ => (PF.ite (fun _ => (PF.ret2 h)) (fun _ => (PF.ret2 h)))) (fun _ => (PF.ite (fun _ => (PF.ite (fun _ => (PF.ret2 h)) (fun _ => (PF.ret2 h)))) (fun _ => (PF.ret2 h)))))))))))))))))) (fun _ => PF.none))
theorem wn_X11_branchFor_2 {s : ST}    : ∀ (n : Nat) (x1 : Int32) (x2 : Int32) (σ : ST), NUT s σ → PF st2 (NUT s) (f_X11_branchFor_2  n x1 x2 σ) := by
  intro n
  induction n with
  | zero => intro x1 x2 σ h; rw [f_X11_branchFor_2]; exact PF.none
  | succ n ih =>
    intro x1 x2 σ h
    rw [f_X11_branchFor_2]
    exact (PF.ite (fun _ => (PF.ite (fun _ => (PF.ret2 h)) (fun _ => (PF.ite (fun _ => (PF.bnd (wn_X11_fits  h) (fun q3 hq3 => (PF.ac (PF.ite (fun _ => (ih _ _ _ hq3)) (fun _ => (PF.ret2 hq3))))))) (fun _ => PF.none))))) (fun _ => PF.none))
theorem wn_X11_branchFor {s : ST} {p0 : Int32} {σ : ST}   (h : NUT s σ) : PF st2 (NUT s) (f_X11_branchFor p0 σ) := by
  unfold f_X11_branchFor
  exact (wn_X11_branchFor_2  _ _ _ _ h)
theorem wn_X11_isLiteral_46 {s : ST}  {σ : ST}   (h : NUT s σ) : PF st2 (NUT s) (f_X11_isLiteral_46 σ) := by
  unfold f_X11_isLiteral_46
  exact (PF.ret2 h)
theorem wn_X11_isLiteral {s : ST}  {σ : ST}   (h : NUT s σ) : PF st2 (NUT s) (f_X11_isLiteral σ) := by
  unfold f_X11_isLiteral
  exact (PF.bnd (wn_X11_sortHere  h) (fun q1 hq1 => (PF.ac (PF.ite (fun _ => (wn_X11_isLiteral_46  hq1)) (fun _ => (PF.bnd (wn_X11_isYes  hq1) (fun q3 hq3 => (PF.ac (PF.ite (fun _ => (PF.bnd (wn_X11_isNo  hq3) (fun q5 hq5 => (PF.ac (PF.ite (fun _ => (PF.ite (fun _ => (wn_X11_isLiteral_46  hq5)) (fun _ => (PF.ite (fun _ => (wn_X11_isLiteral_46  hq5)) (fun _ => (PF.ite (fun _ => (wn_X11_isLiteral_46  hq5)) (fun _ => (PF.ret2 hq5)))))))) (fun _ => (wn_X11_isLiteral_46  hq5))))))) (fun _ => (wn_X11_isLiteral_46  hq3)))))))))))
theorem wn_X11_isValue_16 {s : ST}  {σ : ST}   (h : NUT s σ) : PF st2 (NUT s) (f_X11_isValue_16 σ) := by
  unfold f_X11_isValue_16
  exact (PF.ret2 h)
theorem wn_X11_isValue {s : ST}  {σ : ST}   (h : NUT s σ) : PF st2 (NUT s) (f_X11_isValue σ) := by
  unfold f_X11_isValue
  exact (PF.bnd (wn_X11_isLiteral  h) (fun q1 hq1 => (PF.ac (PF.ite (fun _ => (PF.ite (fun _ => (wn_X11_isValue_16  hq1)) (fun _ => (PF.ret2 hq1)))) (fun _ => (wn_X11_isValue_16  hq1))))))
theorem wn_Jxe99ae_isNaN_b9ae7 {s : ST} {p0 : UInt64} {σ : ST}   (h : NUT s σ) : PF st1 (NUT s) (f_Jxe99ae_isNaN_b9ae7 p0 σ) := by
  unfold f_Jxe99ae_isNaN_b9ae7
  exact (PF.ite (fun _ => (PF.ret1 h)) (fun _ => (PF.ret1 h)))
theorem wn_Jxe99ae_doubleToLongBits_ccdee {s : ST} {p0 : UInt64} {σ : ST}   (h : NUT s σ) : PF st1 (NUT s) (f_Jxe99ae_doubleToLongBits_ccdee p0 σ) := by
  unfold f_Jxe99ae_doubleToLongBits_ccdee
  exact (PF.bnd (wn_Jxe99ae_isNaN_b9ae7  h) (fun q1 hq1 => (PF.ite (fun _ => (PF.ret1 hq1)) (fun _ => (PF.ret1 hq1)))))
theorem wn_X11_bitsOf_31 {s : ST} {y0 : UInt64} {σ : ST}   (h : NUT s σ) : PF st2 (NUT s) (f_X11_bitsOf_31 y0 σ) := by
  unfold f_X11_bitsOf_31
  exact (PF.bnd (wn_Jxe99ae_doubleToLongBits_ccdee  h) (fun q1 hq1 => (PF.ret2 hq1)))
theorem wn_X11_bitsOf_65 {s : ST}  {σ : ST}   (h : NUT s σ) : PF st2 (NUT s) (f_X11_bitsOf_65 σ) := by
  unfold f_X11_bitsOf_65
  exact (PF.ret2 h)
theorem wn_X11_bitsOf {s : ST} {p0 : Int32} {σ : ST}   (h : NUT s σ) : PF st2 (NUT s) (f_X11_bitsOf p0 σ) := by
  unfold f_X11_bitsOf
  exact (PF.ite (fun _ => (PF.ite (fun _ => (PF.ite (fun _ => (wn_X11_bitsOf_31  h)) (fun _ => (wn_X11_bitsOf_31  h)))) (fun _ => (PF.ite (fun _ => (PF.bnd (wn_X11_isYes  h) (fun q2 hq2 => (PF.ac (PF.ite (fun _ => (PF.ret2 hq2)) (fun _ => (PF.ret2 hq2))))))) (fun _ => (PF.ite (fun _ => (wn_X11_bitsOf_65  h)) (fun _ => (PF.ite (fun _ => (wn_X11_bitsOf_65  h)) (fun _ => (PF.ret2 h)))))))))) (fun _ => PF.none))
theorem wn_X11_value_247 {s : ST} {r_X11_items : Int32 → Int32 → Int32 → Int32 → ST → Option ((Int32 × ST) × Nat)} {r_X11_parts : Int32 → Int32 → Int32 → Int32 → ST → Option ((Int32 × ST) × Nat)} {r_X11_value : Int32 → Int32 → Int32 → Int32 → Int32 → ST → Option ((Int32 × ST) × Nat)} {y0 : Int32} {y1 : Int32} {σ : ST} (h_r_X11_items : ∀ (x1 : Int32) (x2 : Int32) (x3 : Int32) (x4 : Int32) (σ : ST), NUT s σ → PF st2 (NUT s) (r_X11_items x1 x2 x3 x4 σ)) (h_r_X11_parts : ∀ (x1 : Int32) (x2 : Int32) (x3 : Int32) (x4 : Int32) (σ : ST), NUT s σ → PF st2 (NUT s) (r_X11_parts x1 x2 x3 x4 σ)) (h_r_X11_value : ∀ (x1 : Int32) (x2 : Int32) (x3 : Int32) (x4 : Int32) (x5 : Int32) (σ : ST), NUT s σ → PF st2 (NUT s) (r_X11_value x1 x2 x3 x4 x5 σ))  (h : NUT s σ) : PF st2 (NUT s) (f_X11_value_247 r_X11_items r_X11_parts r_X11_value y0 y1 σ) := by
  unfold f_X11_value_247
  exact (PF.ite (fun _ => (PF.bnd (wn_X11_go  (NUT.i (by omega) h)) (fun q2 hq2 => (PF.ret2 hq2)))) (fun _ => PF.none))
theorem wn_X11_value_221 {s : ST} {r_X11_items : Int32 → Int32 → Int32 → Int32 → ST → Option ((Int32 × ST) × Nat)} {r_X11_parts : Int32 → Int32 → Int32 → Int32 → ST → Option ((Int32 × ST) × Nat)} {r_X11_value : Int32 → Int32 → Int32 → Int32 → Int32 → ST → Option ((Int32 × ST) × Nat)} {x7 : Int32} {x9 : Int32} {y0 : Int64} {y1 : Int32} {σ : ST} (h_r_X11_items : ∀ (x1 : Int32) (x2 : Int32) (x3 : Int32) (x4 : Int32) (σ : ST), NUT s σ → PF st2 (NUT s) (r_X11_items x1 x2 x3 x4 σ)) (h_r_X11_parts : ∀ (x1 : Int32) (x2 : Int32) (x3 : Int32) (x4 : Int32) (σ : ST), NUT s σ → PF st2 (NUT s) (r_X11_parts x1 x2 x3 x4 σ)) (h_r_X11_value : ∀ (x1 : Int32) (x2 : Int32) (x3 : Int32) (x4 : Int32) (x5 : Int32) (σ : ST), NUT s σ → PF st2 (NUT s) (r_X11_value x1 x2 x3 x4 x5 σ))  (h : NUT s σ) : PF st2 (NUT s) (f_X11_value_221 r_X11_items r_X11_parts r_X11_value x7 x9 y0 y1 σ) := by
  unfold f_X11_value_221
  exact (PF.ite (fun _ => (PF.ite (fun _ => (PF.ite (fun _ => (wn_X11_value_247 h_r_X11_items h_r_X11_parts h_r_X11_value (NUT.l (.inl trivial) h))) (fun _ => (wn_X11_value_247 h_r_X11_items h_r_X11_parts h_r_X11_value (NUT.l (.inl trivial) h))))) (fun _ => PF.none))) (fun _ => PF.none))
theorem wn_X11_value_104 {s : ST} {r_X11_items : Int32 → Int32 → Int32 → Int32 → ST → Option ((Int32 × ST) × Nat)} {r_X11_parts : Int32 → Int32 → Int32 → Int32 → ST → Option ((Int32 × ST) × Nat)} {r_X11_value : Int32 → Int32 → Int32 → Int32 → Int32 → ST → Option ((Int32 × ST) × Nat)} {x1 : Int32} {x3 : Int32} {x4 : Int32} {x5 : Int32} {x6 : Int32} {x7 : Int32} {y0 : Int32} {σ : ST} (h_r_X11_items : ∀ (x1 : Int32) (x2 : Int32) (x3 : Int32) (x4 : Int32) (σ : ST), NUT s σ → PF st2 (NUT s) (r_X11_items x1 x2 x3 x4 σ)) (h_r_X11_parts : ∀ (x1 : Int32) (x2 : Int32) (x3 : Int32) (x4 : Int32) (σ : ST), NUT s σ → PF st2 (NUT s) (r_X11_parts x1 x2 x3 x4 σ)) (h_r_X11_value : ∀ (x1 : Int32) (x2 : Int32) (x3 : Int32) (x4 : Int32) (x5 : Int32) (σ : ST), NUT s σ → PF st2 (NUT s) (r_X11_value x1 x2 x3 x4 x5 σ))  (h : NUT s σ) : PF st2 (NUT s) (f_X11_value_104 r_X11_items r_X11_parts r_X11_value x1 x3 x4 x5 x6 x7 y0 σ) := by
  unfold f_X11_value_104
  exact (PF.ite (fun _ => (PF.ite (fun _ => (PF.bnd (wn_X11_laysNode  h) (fun q2 hq2 => (PF.ite (fun _ => (PF.bnd (h_r_X11_items _ _ _ _ _ hq2) (fun q9 hq9 => (PF.ac (PF.ite (fun _ => (PF.ret2 hq9)) (fun _ => PF.none)))))) (fun _ => (PF.ite (fun _ => (PF.bnd (h_r_X11_parts _ _ _ _ _ hq2) (fun q7 hq7 => (PF.ac (PF.ite (fun _ => (PF.ret2 hq7)) (fun _ => PF.none)))))) (fun _ => (PF.bnd (wn_X11_bitsOf  hq2) (fun q4 hq4 => (PF.ac (PF.ite (fun _ => (PF.ite (fun _ => (wn_X11_value_221 h_r_X11_items h_r_X11_parts h_r_X11_value (NUT.l (.inl trivial) hq4))) (fun _ => (wn_X11_value_221 h_r_X11_items h_r_X11_parts h_r_X11_value (NUT.l (.inl trivial) hq4))))) (fun _ => PF.none)))))))))))) (fun _ => PF.none))) (fun _ => (PF.bnd (wn_X11_wrongHere  h) (fun q11 hq11 => (PF.ite (fun _ => (PF.ret2 hq11)) (fun _ => PF.none))))))
theorem wn_X11_value_99 {s : ST} {r_X11_items : Int32 → Int32 → Int32 → Int32 → ST → Option ((Int32 × ST) × Nat)} {r_X11_parts : Int32 → Int32 → Int32 → Int32 → ST → Option ((Int32 × ST) × Nat)} {r_X11_value : Int32 → Int32 → Int32 → Int32 → Int32 → ST → Option ((Int32 × ST) × Nat)} {x1 : Int32} {x3 : Int32} {x4 : Int32} {x5 : Int32} {x6 : Int32} {x7 : Int32} {σ : ST} (h_r_X11_items : ∀ (x1 : Int32) (x2 : Int32) (x3 : Int32) (x4 : Int32) (σ : ST), NUT s σ → PF st2 (NUT s) (r_X11_items x1 x2 x3 x4 σ)) (h_r_X11_parts : ∀ (x1 : Int32) (x2 : Int32) (x3 : Int32) (x4 : Int32) (σ : ST), NUT s σ → PF st2 (NUT s) (r_X11_parts x1 x2 x3 x4 σ)) (h_r_X11_value : ∀ (x1 : Int32) (x2 : Int32) (x3 : Int32) (x4 : Int32) (x5 : Int32) (σ : ST), NUT s σ → PF st2 (NUT s) (r_X11_value x1 x2 x3 x4 x5 σ))  (h : NUT s σ) : PF st2 (NUT s) (f_X11_value_99 r_X11_items r_X11_parts r_X11_value x1 x3 x4 x5 x6 x7 σ) := by
  unfold f_X11_value_99
  exact (wn_X11_value_104 h_r_X11_items h_r_X11_parts h_r_X11_value h)
theorem wn_X11_value_103 {s : ST} {r_X11_items : Int32 → Int32 → Int32 → Int32 → ST → Option ((Int32 × ST) × Nat)} {r_X11_parts : Int32 → Int32 → Int32 → Int32 → ST → Option ((Int32 × ST) × Nat)} {r_X11_value : Int32 → Int32 → Int32 → Int32 → Int32 → ST → Option ((Int32 × ST) × Nat)} {x1 : Int32} {x3 : Int32} {x4 : Int32} {x5 : Int32} {x6 : Int32} {x7 : Int32} {σ : ST} (h_r_X11_items : ∀ (x1 : Int32) (x2 : Int32) (x3 : Int32) (x4 : Int32) (σ : ST), NUT s σ → PF st2 (NUT s) (r_X11_items x1 x2 x3 x4 σ)) (h_r_X11_parts : ∀ (x1 : Int32) (x2 : Int32) (x3 : Int32) (x4 : Int32) (σ : ST), NUT s σ → PF st2 (NUT s) (r_X11_parts x1 x2 x3 x4 σ)) (h_r_X11_value : ∀ (x1 : Int32) (x2 : Int32) (x3 : Int32) (x4 : Int32) (x5 : Int32) (σ : ST), NUT s σ → PF st2 (NUT s) (r_X11_value x1 x2 x3 x4 x5 σ))  (h : NUT s σ) : PF st2 (NUT s) (f_X11_value_103 r_X11_items r_X11_parts r_X11_value x1 x3 x4 x5 x6 x7 σ) := by
  unfold f_X11_value_103
  exact (wn_X11_value_104 h_r_X11_items h_r_X11_parts h_r_X11_value h)
theorem wn_X11_value_42 {s : ST} {r_X11_items : Int32 → Int32 → Int32 → Int32 → ST → Option ((Int32 × ST) × Nat)} {r_X11_parts : Int32 → Int32 → Int32 → Int32 → ST → Option ((Int32 × ST) × Nat)} {r_X11_value : Int32 → Int32 → Int32 → Int32 → Int32 → ST → Option ((Int32 × ST) × Nat)} {x1 : Int32} {x3 : Int32} {x4 : Int32} {x5 : Int32} {x6 : Int32} {y0 : Int32} {σ : ST} (h_r_X11_items : ∀ (x1 : Int32) (x2 : Int32) (x3 : Int32) (x4 : Int32) (σ : ST), NUT s σ → PF st2 (NUT s) (r_X11_items x1 x2 x3 x4 σ)) (h_r_X11_parts : ∀ (x1 : Int32) (x2 : Int32) (x3 : Int32) (x4 : Int32) (σ : ST), NUT s σ → PF st2 (NUT s) (r_X11_parts x1 x2 x3 x4 σ)) (h_r_X11_value : ∀ (x1 : Int32) (x2 : Int32) (x3 : Int32) (x4 : Int32) (x5 : Int32) (σ : ST), NUT s σ → PF st2 (NUT s) (r_X11_value x1 x2 x3 x4 x5 σ))  (h : NUT s σ) : PF st2 (NUT s) (f_X11_value_42 r_X11_items r_X11_parts r_X11_value x1 x3 x4 x5 x6 y0 σ) := by
  unfold f_X11_value_42
  exact (PF.bnd (wn_X11_isValue  h) (fun q1 hq1 => (PF.ac (PF.ite (fun _ => (wn_X11_value_104 h_r_X11_items h_r_X11_parts h_r_X11_value hq1)) (fun _ => (PF.bnd (wn_X11_fits  hq1) (fun q3 hq3 => (PF.ac (PF.ite (fun _ => (wn_X11_value_104 h_r_X11_items h_r_X11_parts h_r_X11_value hq3)) (fun _ => (PF.ite (fun _ => (wn_X11_value_99 h_r_X11_items h_r_X11_parts h_r_X11_value hq3)) (fun _ => (PF.ite (fun _ => (wn_X11_value_103 h_r_X11_items h_r_X11_parts h_r_X11_value hq3)) (fun _ => (PF.ite (fun _ => (wn_X11_value_103 h_r_X11_items h_r_X11_parts h_r_X11_value hq3)) (fun _ => (PF.ite (fun _ => (PF.ite (fun _ => (wn_X11_value_99 h_r_X11_items h_r_X11_parts h_r_X11_value hq3)) (fun _ => (wn_X11_value_103 h_r_X11_items h_r_X11_parts h_r_X11_value hq3)))) (fun _ => PF.none))))))))))))))))))
theorem wn_X11_value_20 {s : ST} {r_X11_items : Int32 → Int32 → Int32 → Int32 → ST → Option ((Int32 × ST) × Nat)} {r_X11_parts : Int32 → Int32 → Int32 → Int32 → ST → Option ((Int32 × ST) × Nat)} {r_X11_value : Int32 → Int32 → Int32 → Int32 → Int32 → ST → Option ((Int32 × ST) × Nat)} {x1 : Int32} {x2 : Int32} {x3 : Int32} {x4 : Int32} {x5 : Int32} {y0 : Int32} {σ : ST} (h_r_X11_items : ∀ (x1 : Int32) (x2 : Int32) (x3 : Int32) (x4 : Int32) (σ : ST), NUT s σ → PF st2 (NUT s) (r_X11_items x1 x2 x3 x4 σ)) (h_r_X11_parts : ∀ (x1 : Int32) (x2 : Int32) (x3 : Int32) (x4 : Int32) (σ : ST), NUT s σ → PF st2 (NUT s) (r_X11_parts x1 x2 x3 x4 σ)) (h_r_X11_value : ∀ (x1 : Int32) (x2 : Int32) (x3 : Int32) (x4 : Int32) (x5 : Int32) (σ : ST), NUT s σ → PF st2 (NUT s) (r_X11_value x1 x2 x3 x4 x5 σ))  (h : NUT s σ) : PF st2 (NUT s) (f_X11_value_20 r_X11_items r_X11_parts r_X11_value x1 x2 x3 x4 x5 y0 σ) := by
  unfold f_X11_value_20
  exact (PF.ite (fun _ => (PF.ite (fun _ => (wn_X11_value_42 h_r_X11_items h_r_X11_parts h_r_X11_value h)) (fun _ => PF.none))) (fun _ => (wn_X11_value_42 h_r_X11_items h_r_X11_parts h_r_X11_value h)))
theorem wn_X11_value {s : ST} {r_X11_items : Int32 → Int32 → Int32 → Int32 → ST → Option ((Int32 × ST) × Nat)} {r_X11_parts : Int32 → Int32 → Int32 → Int32 → ST → Option ((Int32 × ST) × Nat)} {r_X11_value : Int32 → Int32 → Int32 → Int32 → Int32 → ST → Option ((Int32 × ST) × Nat)} {p0 : Int32} {p1 : Int32} {p2 : Int32} {p3 : Int32} {p4 : Int32} {σ : ST} (h_r_X11_items : ∀ (x1 : Int32) (x2 : Int32) (x3 : Int32) (x4 : Int32) (σ : ST), NUT s σ → PF st2 (NUT s) (r_X11_items x1 x2 x3 x4 σ)) (h_r_X11_parts : ∀ (x1 : Int32) (x2 : Int32) (x3 : Int32) (x4 : Int32) (σ : ST), NUT s σ → PF st2 (NUT s) (r_X11_parts x1 x2 x3 x4 σ)) (h_r_X11_value : ∀ (x1 : Int32) (x2 : Int32) (x3 : Int32) (x4 : Int32) (x5 : Int32) (σ : ST), NUT s σ → PF st2 (NUT s) (r_X11_value x1 x2 x3 x4 x5 σ))  (h : NUT s σ) : PF st2 (NUT s) (f_X11_value r_X11_items r_X11_parts r_X11_value p0 p1 p2 p3 p4 σ) := by
  unfold f_X11_value
  exact (PF.ite (fun _ => (PF.ite (fun _ => (PF.bnd (wn_X11_branchFor  h) (fun q2 hq2 => (PF.ac (wn_X11_value_20 h_r_X11_items h_r_X11_parts h_r_X11_value hq2))))) (fun _ => (wn_X11_value_20 h_r_X11_items h_r_X11_parts h_r_X11_value h)))) (fun _ => PF.none))
theorem wnR_X11_items {s : ST} : ∀ n : Nat, (∀ (p0 : Int32) (p1 : Int32) (p2 : Int32) (p3 : Int32) (σ : ST), NUT s σ → PF st2 (NUT s) ((R_X11_items n).1 p0 p1 p2 p3 σ)) ∧ (∀ (p0 : Int32) (p1 : Int32) (p2 : Int32) (p3 : Int32) (σ : ST), NUT s σ → PF st2 (NUT s) ((R_X11_items n).2.1 p0 p1 p2 p3 σ)) ∧ (∀ (p0 : Int32) (p1 : Int32) (p2 : Int32) (p3 : Int32) (p4 : Int32) (σ : ST), NUT s σ → PF st2 (NUT s) ((R_X11_items n).2.2 p0 p1 p2 p3 p4 σ)) := by
  intro n
  induction n with
  | zero => exact ⟨fun _ _ _ _ _ _ => PF.none, fun _ _ _ _ _ _ => PF.none, fun _ _ _ _ _ _ _ => PF.none⟩
  | succ n ih => exact ⟨fun _ _ _ _ _ h => wn_X11_items (ih.1) (ih.2.1) (ih.2.2)  h, fun _ _ _ _ _ h => wn_X11_parts (ih.1) (ih.2.1) (ih.2.2)  h, fun _ _ _ _ _ _ h => wn_X11_value (ih.1) (ih.2.1) (ih.2.2)  h⟩
theorem wn_T_X11_value {s : ST} {p0 : Int32} {p1 : Int32} {p2 : Int32} {p3 : Int32} {p4 : Int32} {σ : ST} (h : NUT s σ) : PF st2 (NUT s) (f_T_X11_value p0 p1 p2 p3 p4 σ) := (wnR_X11_items FRB).2.2 _ _ _ _ _ _  h
/-! two runs side by side, of which it is said what they answer, if they answer -/
theorem QT.sw {α β : Type} {a : Option α} {b : Option β} {P : α → β → Prop} (h : QT b (fun y => QT a (fun x => P x y))) : QT a (fun x => QT b (fun y => P x y)) := fun x ex y ey => h y ey x ex
theorem QT.mono2 {α β : Type} {a : Option α} {b : Option β} {P Q : α → β → Prop} (h : QT a (fun x => QT b (P x))) (k : ∀ x y, P x y → Q x y) : QT a (fun x => QT b (Q x)) := fun x ex y ey => k x y (h x ex y ey)
theorem QT.bnd2 {α β γ δ : Type} {a : Option α} {b : Option β} {f : α → Option γ} {g : β → Option δ} {Q : α → β → Prop} {P : γ → δ → Prop} (h : QT a (fun x => QT b (Q x))) (k : ∀ x y, Q x y → QT (f x) (fun u => QT (g y) (P u))) : QT (a.bind f) (fun u => QT (b.bind g) (P u)) := by
  intro u eu w ew
  obtain ⟨x, e1, e2⟩ := bnd_some eu
  obtain ⟨y, e3, e4⟩ := bnd_some ew
  exact k x y (h x e1 y e3) u e2 w e4
theorem QT.bndB {α β δ : Type} {a : Option α} {b : Option β} {g : β → Option δ} {Q : α → β → Prop} {P : α → δ → Prop} (h : QT a (fun x => QT b (Q x))) (k : ∀ x y, Q x y → QT (g y) (P x)) : QT a (fun x => QT (b.bind g) (P x)) := by
  intro x ex w ew
  obtain ⟨y, e3, e4⟩ := bnd_some ew
  exact k x y (h x ex y e3) w e4
theorem QT.kac {α : Type} {k : Nat} {o : Option (α × Nat)} {P : α × Nat → Prop} (h : QT o (fun z => P (z.1, k + z.2))) : QT (ac k o) P := by
  intro q e
  obtain ⟨z, e1, e2⟩ := bnd_some e
  cases e2
  exact h z e1
theorem QT.bndK {α β : Type} {o : Option ((α × ST) × Nat)} {f : (α × ST) × Nat → Option β} {s : ST} {c : Nat} {Q : α → Prop} {P : β → Prop} (h : OK o (KO s c Q)) (k : ∀ (v : α) (x : Nat), Q v → QT (f ((v, s), x)) P) : QT (o.bind f) P := by
  obtain ⟨⟨⟨v, s1⟩, x⟩, e, h1, h2, h3⟩ := h
  have h1 : s1 = s := h1
  subst h1
  rw [e]
  exact k v x h2
theorem QT.and {α : Type} {o : Option α} {P Q : α → Prop} (h : QT o P) (k : QT o Q) : QT o (fun q => P q ∧ Q q) := fun q e => ⟨h q e, k q e⟩
theorem QT.eq {α : Type} {o : Option α} {P : α → Prop} (h : ∀ q, o = some q → P q) : QT o P := h
/-- what either side says as it refuses -/
theorem qa_ref (k : Int32) (σ : ST) : QT ((f_X6_refuse k σ).bind fun q => if q.1 = 0 ∨ q.1 = 1 then some (q.1, q.2) else none) (fun q => q.1.toInt = 0) :=
  QT.bnd (QT.ok (a_refuse k σ)) (fun _ hq => QT.grd (fun _ => QT.ret hq))
theorem q_wrong (p0 : Int32) (σ : ST) : QT (f_X11_wrongHere p0 σ) (fun q => q.1 = 0) := by
  unfold f_X11_wrongHere f_X11_wrong f_X11_wrong_21
  exact QT.bnd (Q := fun q => q.1 = 0) (QT.ite (fun _ => QT.ret rfl) (fun _ => QT.ret rfl)) (fun q hq => QT.grd (fun _ => QT.ret hq))
theorem qb_wr (p0 : Int32) (σ : ST) : QT ((f_X11_wrongHere p0 σ).bind fun q => if q.1 = 0 ∨ q.1 = 1 then some ((q.1, q.2), 0) else none) (fun q => q.1.1 = 0) :=
  QT.bnd (q_wrong p0 σ) (fun _ hq => QT.grd (fun _ => QT.ret hq))
/-! what a value's text takes of the text, in the reference -/
theorem q_go (σ : ST) (h : TX σ) : QT (f_X11_go σ) (fun t => TX t ∧ uT t ≤ ((σ.1 0 3).toInt - (σ.1 0 5).toInt).toNat) := (QT.ok (b_goT σ h)).mono (fun t ht => ht.2)
theorem q_go1 (σ : ST) (h : TX σ) (h6 : ¬ (σ.1 0 6).toInt = 0) : QT (f_X11_go σ) (fun t => TX t ∧ uT t + 1 ≤ uT σ) := (q_go σ h).mono (fun t ht => ⟨ht.1, by have := uT_ne h6; have := ht.2; omega⟩)
theorem q_mark (c : Int32) (σ : ST) (h : TX σ) (hc : ¬ c.toInt = 0) : QT (f_X11_mark c σ) (fun q => q.1 = 0 ∨ q.1 = 1 ∧ (σ.1 0 13).toInt = c.toInt ∧ TX q.2 ∧ uT q.2 + 1 ≤ uT σ) := by
  unfold f_X11_mark
  refine QT.ieq (fun e => ?_) (fun _ => QT.bnd (q_wrong 1 σ) (fun _ hq => QT.grd (fun _ => QT.ret (.inl hq))))
  exact QT.bnd (q_go1 σ h (h.2.2.2 (by omega))) (fun t ht => QT.ret (.inr ⟨rfl, e, ht.1, ht.2⟩))
def NUV (rv : Int32 → Int32 → Int32 → Int32 → Int32 → ST → Option ((Int32 × ST) × Nat)) : Prop := ∀ (p0 p1 p2 p3 p4 : Int32) (σ : ST), TX σ → QT (rv p0 p1 p2 p3 p4 σ) (fun q => TX q.1.2 ∧ uT q.1.2 ≤ uT σ)
theorem nuv_R (n : Nat) : NUV (R_X11_items n).2.2 := fun p0 p1 p2 p3 p4 σ h q e => by
  have k := (wnR_X11_items (s := σ) n).2.2 p0 p1 p2 p3 p4 σ NUT.rf q e
  exact k h
/-- it takes the sign behind it, at least -/
def LSS (σ : ST) (q : (Int32 × ST) × Nat) : Prop := q.1.1 = 0 ∨ ¬ q.1.1 = 0 ∧ TX q.1.2 ∧ uT q.1.2 + 1 ≤ uT σ
theorem LSS.le {σ t : ST} {q : (Int32 × ST) × Nat} (h : LSS t q) (k : uT t ≤ uT σ) : LSS σ q := by
  rcases h with h | ⟨h1, h2, h3⟩
  · exact .inl h
  · exact .inr ⟨h1, h2, by omega⟩
theorem one_ne : ¬ (1 : Int32) = 0 := by decide
theorem lz_items25 {ri rp : Int32 → Int32 → Int32 → Int32 → ST → Option ((Int32 × ST) × Nat)} {rv : Int32 → Int32 → Int32 → Int32 → Int32 → ST → Option ((Int32 × ST) × Nat)} (hv : NUV rv) (p t dp v : Int32) : ∀ (n : Nat) (x5 x6 : Int32) (σ : ST), TX σ → QT (f_X11_items_25 ri rp rv n p t dp v x5 x6 σ) (LSS σ) := by
  intro n
  induction n with
  | zero =>
    intro x5 x6 σ _
    rw [f_X11_items_25]
    exact QT.none
  | succ n ih =>
    intro x5 x6 σ hX
    rw [f_X11_items_25]
    refine QT.ite (fun _ => ?_) (fun _ => ?_)
    · refine QT.bnd (q_mark 93 σ hX (by decide)) (fun q hq => QT.grd (fun _ => QT.ret ?_))
      rcases hq with hq | ⟨h1, _, h2, h3⟩
      · exact .inl hq
      · exact .inr ⟨by rw [h1]; exact one_ne, h2, h3⟩
    · refine QT.grd (fun _ => ?_)
      refine QT.bnd (hv _ _ _ _ _ σ hX) (fun q hq => QT.kac ?_)
      obtain ⟨q1, q2⟩ := hq
      refine QT.ite (fun _ => QT.ret (.inl rfl)) (fun _ => ?_)
      unfold f_X11_items_70
      refine QT.ite (fun _ => ?_) (fun _ => ?_)
      · refine QT.ite (fun _ => ?_) (fun _ => ?_)
        · exact (ih _ _ _ q1).mono (fun z hz => hz.le q2)
        · refine QT.bnd (q_go _ q1) (fun t ht => ?_)
          have := uT_le (σ := q.1.2)
          exact (ih _ _ _ ht.1).mono (fun z hz => hz.le (by omega))
      · refine QT.ite (fun _ => ?_) (fun _ => ?_)
        · exact (ih _ _ _ q1).mono (fun z hz => hz.le q2)
        · refine QT.bnd (q_go _ q1) (fun t ht => ?_)
          have := uT_le (σ := q.1.2)
          exact (ih _ _ _ ht.1).mono (fun z hz => hz.le (by omega))
/-- the numbers of the reference, but how many nodes there are -/
def ZTB (s σ : ST) : Prop := ∀ i, i ≠ 46 → σ.1 0 i = s.1 0 i
theorem ZTB.rf {s : ST} : ZTB s s := fun _ _ => rfl
theorem ZTB.i {s σ : ST} {c i : Nat} {v : Int32} (hc : ¬ c = 0 ∨ i = 46) (h : ZTB s σ) : ZTB s (stI σ c i v) := fun j hj => by
  by_cases e : c = 0
  · subst e
    rw [stI_at, upN (by omega)]
    exact h j hj
  · rw [stI_ne (fun h => e h.symm)]
    exact h j hj
theorem ZTB.l {s σ : ST} {c i : Nat} {v : Int64} (_ : True) (h : ZTB s σ) : ZTB s (stL σ c i v) := h
theorem ZTB.tx {s σ : ST} (h : ZTB s σ) (k : TX s) : TX σ ∧ uT σ = uT s := TX.of k (h 3 (by omega)) (h 5 (by omega)) (h 6 (by omega)) (h 8 (by omega)) (h 13 (by omega))
theorem wz_X11_firstOf {s : ST} {p0 : Int32} {σ : ST}   (h : ZTB s σ) : PF st1 (ZTB s) (f_X11_firstOf p0 σ) := by
  unfold f_X11_firstOf
  exact (PF.ite (fun _ => (PF.ite (fun _ => (PF.ite (fun _ => (PF.ret1 h)) (fun _ => PF.none))) (fun _ => (PF.ret1 h)))) (fun _ => PF.none))
theorem wz_X11_joins_147 {s : ST} {x1 : Int32} {x2 : Int32} {σ : ST}   (h : ZTB s σ) : PF st0 (ZTB s) (f_X11_joins_147 x1 x2 σ) := by
  unfold f_X11_joins_147
  exact (PF.ite (fun _ => (PF.ite (fun _ => (PF.ret0 h)) (fun _ => (PF.ite (fun _ => (PF.ret0 (ZTB.i (by omega) h))) (fun _ => PF.none))))) (fun _ => PF.none))
theorem wz_X11_joins_125 {s : ST} {x1 : Int32} {x2 : Int32} {x3 : Int32} {y0 : Int32} {y1 : Int32} {σ : ST}   (h : ZTB s σ) : PF st0 (ZTB s) (f_X11_joins_125 x1 x2 x3 y0 y1 σ) := by
  unfold f_X11_joins_125
  exact (PF.ite (fun _ => (PF.ite (fun _ => (PF.ite (fun _ => (wz_X11_joins_147  (ZTB.i (by omega) (ZTB.i (by omega) h)))) (fun _ => PF.none))) (fun _ => (PF.ite (fun _ => (wz_X11_joins_147  (ZTB.i (by omega) (ZTB.i (by omega) h)))) (fun _ => PF.none))))) (fun _ => PF.none))
theorem wz_X11_joins_101 {s : ST} {x1 : Int32} {x2 : Int32} {x3 : Int32} {σ : ST}   (h : ZTB s σ) : PF st0 (ZTB s) (f_X11_joins_101 x1 x2 x3 σ) := by
  unfold f_X11_joins_101
  exact (PF.ite (fun _ => (PF.ite (fun _ => (wz_X11_joins_125  h)) (fun _ => PF.none))) (fun _ => (PF.ite (fun _ => (wz_X11_joins_125  h)) (fun _ => PF.none))))
theorem wz_X11_joins_65 {s : ST}    : ∀ (n : Nat) (x1 : Int32) (x2 : Int32) (x3 : Int32) (x4 : Int32) (σ : ST), ZTB s σ → PF st0 (ZTB s) (f_X11_joins_65  n x1 x2 x3 x4 σ) := by
  intro n
  induction n with
  | zero => intro x1 x2 x3 x4 σ h; rw [f_X11_joins_65]; exact PF.none
  | succ n ih =>
    intro x1 x2 x3 x4 σ h
    rw [f_X11_joins_65]
    exact (PF.ite (fun _ => (wz_X11_joins_101  h)) (fun _ => (PF.ite (fun _ => (PF.ite (fun _ => (PF.ite (fun _ => (wz_X11_joins_101  h)) (fun _ => (ih _ _ _ _ _ h)))) (fun _ => PF.none))) (fun _ => PF.none))))
theorem wz_X11_joins_51 {s : ST} {x1 : Int32} {x2 : Int32} {x3 : Int32} {y0 : Int32} {σ : ST}   (h : ZTB s σ) : PF st0 (ZTB s) (f_X11_joins_51 x1 x2 x3 y0 σ) := by
  unfold f_X11_joins_51
  exact (PF.ite (fun _ => (wz_X11_joins_65  _ _ _ _ _ _ h)) (fun _ => (PF.ite (fun _ => (wz_X11_joins_65  _ _ _ _ _ _ h)) (fun _ => PF.none))))
theorem wz_X11_joins_45 {s : ST} {x1 : Int32} {x2 : Int32} {x3 : Int32} {σ : ST}   (h : ZTB s σ) : PF st0 (ZTB s) (f_X11_joins_45 x1 x2 x3 σ) := by
  unfold f_X11_joins_45
  exact (PF.ite (fun _ => (wz_X11_joins_51  h)) (fun _ => PF.none))
theorem wz_X11_joins {s : ST} {p0 : Int32} {p1 : Int32} {σ : ST}   (h : ZTB s σ) : PF st0 (ZTB s) (f_X11_joins p0 p1 σ) := by
  unfold f_X11_joins
  exact (PF.ite (fun _ => (PF.ite (fun _ => (wz_X11_joins_45  (ZTB.i (by omega) h))) (fun _ => (PF.ite (fun _ => (PF.ite (fun _ => (PF.ite (fun _ => (wz_X11_joins_45  (ZTB.i (by omega) h))) (fun _ => (wz_X11_joins_51  (ZTB.i (by omega) h))))) (fun _ => PF.none))) (fun _ => PF.none))))) (fun _ => PF.none))
theorem wz_X11_laysNode {s : ST} {p0 : Int32} {p1 : Int32} {p2 : Int32} {p3 : Int32} {σ : ST}   (h : ZTB s σ) : PF st1 (ZTB s) (f_X11_laysNode p0 p1 p2 p3 σ) := by
  unfold f_X11_laysNode
  exact (PF.ite (fun _ => (PF.bnd (PF.ret0 (ZTB.l trivial (ZTB.i (by omega) (ZTB.i (by omega) h)))) (fun z2 hz2 => (PF.bnd (PF.ret0 (ZTB.i (by omega) (ZTB.i (by omega) (ZTB.l trivial hz2)))) (fun z3 hz3 => (PF.bnd (PF.ret0 (ZTB.i (by omega) (ZTB.i (by omega) (ZTB.i (by omega) hz3)))) (fun z4 hz4 => (PF.bnd (PF.ret0 (ZTB.i (by omega) (ZTB.i (by omega) (ZTB.i (by omega) hz4)))) (fun z5 hz5 => (PF.ite (fun _ => (PF.ret1 hz5)) (fun _ => (PF.bnd (wz_X11_joins  hz5) (fun q6 hq6 => (PF.ret1 hq6)))))))))))))) (fun _ => PF.none))
theorem wz_X11_fills_103 {s : ST} {x6 : Int32} {y0 : Int32} {y1 : Int32} {σ : ST}   (h : ZTB s σ) : PF st0 (ZTB s) (f_X11_fills_103 x6 y0 y1 σ) := by
  unfold f_X11_fills_103
  exact (PF.ite (fun _ => (PF.ite (fun _ => (PF.ret0 (ZTB.i (by omega) (ZTB.i (by omega) h)))) (fun _ => PF.none))) (fun _ => PF.none))
theorem wz_X11_fills_45 {s : ST} {x1 : Int32} {x5 : Int32} {y0 : Int32} {y1 : Int32} {y2 : Int32} {y3 : Int32} {σ : ST}   (h : ZTB s σ) : PF st0 (ZTB s) (f_X11_fills_45 x1 x5 y0 y1 y2 y3 σ) := by
  unfold f_X11_fills_45
  exact (PF.bnd (wz_X11_laysNode  h) (fun q1 hq1 => (PF.ite (fun _ => (PF.ite (fun _ => (PF.bnd (PF.ret0 (ZTB.l trivial (ZTB.l trivial hq1))) (fun z5 hz5 => (PF.ite (fun _ => (PF.ite (fun _ => (wz_X11_fills_103  hz5)) (fun _ => (wz_X11_fills_103  hz5)))) (fun _ => PF.none))))) (fun _ => PF.none))) (fun _ => PF.none))))
theorem wz_X11_fills {s : ST} {p0 : Int32} {p1 : Int32} {p2 : Int32} {σ : ST}   (h : ZTB s σ) : PF st0 (ZTB s) (f_X11_fills p0 p1 p2 σ) := by
  unfold f_X11_fills
  exact (PF.ite (fun _ => (PF.bnd (wz_X11_firstOf  h) (fun q2 hq2 => (PF.ite (fun _ => (PF.ite (fun _ => (wz_X11_fills_45  hq2)) (fun _ => (wz_X11_fills_45  hq2)))) (fun _ => PF.none))))) (fun _ => PF.none))
theorem wz_X11_hasChild_35 {s : ST} {k10 : Int32 → Int32 → Int32 → ST → Option (Int32 × ST)} {x2 : Int32} {x4 : Int32} {y0 : Int32} {σ : ST} (h_k10 : ∀ (x1 : Int32) (x2 : Int32) (x3 : Int32) (σ : ST), ZTB s σ → PF st1 (ZTB s) (k10 x1 x2 x3 σ))  (h : ZTB s σ) : PF st1 (ZTB s) (f_X11_hasChild_35 k10 x2 x4 y0 σ) := by
  unfold f_X11_hasChild_35
  exact (PF.ite (fun _ => (h_k10 _ _ _ _ h)) (fun _ => PF.none))
theorem wz_X11_hasChild_30 {s : ST} {k10 : Int32 → Int32 → Int32 → ST → Option (Int32 × ST)} {x2 : Int32} {x4 : Int32} {σ : ST} (h_k10 : ∀ (x1 : Int32) (x2 : Int32) (x3 : Int32) (σ : ST), ZTB s σ → PF st1 (ZTB s) (k10 x1 x2 x3 σ))  (h : ZTB s σ) : PF st1 (ZTB s) (f_X11_hasChild_30 k10 x2 x4 σ) := by
  unfold f_X11_hasChild_30
  exact (wz_X11_hasChild_35 h_k10 h)
theorem wz_X11_hasChild_10 {s : ST}    : ∀ (n : Nat) (x1 : Int32) (x2 : Int32) (x3 : Int32) (σ : ST), ZTB s σ → PF st1 (ZTB s) (f_X11_hasChild_10  n x1 x2 x3 σ) := by
  intro n
  induction n with
  | zero => intro x1 x2 x3 σ h; rw [f_X11_hasChild_10]; exact PF.none
  | succ n ih =>
    intro x1 x2 x3 σ h
    rw [f_X11_hasChild_10]
    exact (PF.ite (fun _ => (PF.ite (fun _ => (PF.ret1 h)) (fun _ => PF.none))) (fun _ => (PF.ite (fun _ => (PF.ite (fun _ => (PF.ite (fun _ => (wz_X11_hasChild_30 ih h)) (fun _ => (wz_X11_hasChild_35 ih h)))) (fun _ => PF.none))) (fun _ => (wz_X11_hasChild_30 ih h)))))
theorem wz_X11_hasChild {s : ST} {p0 : Int32} {p1 : Int32} {σ : ST}   (h : ZTB s σ) : PF st1 (ZTB s) (f_X11_hasChild p0 p1 σ) := by
  unfold f_X11_hasChild
  exact (PF.ite (fun _ => (wz_X11_hasChild_10  _ _ _ _ _ h)) (fun _ => PF.none))
theorem nn2 {α : Type} {σ : ST} {o : Option ((α × ST) × Nat)} (h : PF st2 (NUT σ) o) (hX : TX σ) : QT o (fun q => TX q.1.2 ∧ uT q.1.2 ≤ uT σ) := fun q e => h q e hX
theorem nn1 {α : Type} {σ : ST} {o : Option (α × ST)} (h : PF st1 (NUT σ) o) (hX : TX σ) : QT o (fun q => TX q.2 ∧ uT q.2 ≤ uT σ) := fun q e => h q e hX
theorem lz_parts171 {ri rp : Int32 → Int32 → Int32 → Int32 → ST → Option ((Int32 × ST) × Nat)} {rv : Int32 → Int32 → Int32 → Int32 → Int32 → ST → Option ((Int32 × ST) × Nat)} (x4 x5 : Int32) : ∀ (n : Nat) (x7 : Int32) (σ : ST), TX σ → ¬ (σ.1 0 6).toInt = 0 → QT (f_X11_parts_171 ri rp rv n x4 x5 x7 σ) (LSS σ) := by
  intro n
  induction n with
  | zero =>
    intro x7 σ _ _
    rw [f_X11_parts_171]
    exact QT.none
  | succ n ih =>
    intro x7 σ hX h6
    rw [f_X11_parts_171]
    refine QT.grd (fun _ => ?_)
    refine QT.ite (fun _ => ?_) (fun _ => ?_)
    · exact QT.bnd (q_go1 σ hX h6) (fun t ht => QT.ret (.inr ⟨one_ne, ht.1, ht.2⟩))
    · have hc : QT (f_X11_hasChild x4 x7 σ) (fun q => ZTB σ q.2) := wz_X11_hasChild (s := σ) ZTB.rf
      refine QT.bnd hc (fun q hq => ?_)
      have k4 := hq.tx hX
      have e6 : q.2.1 0 6 = σ.1 0 6 := hq 6 (by omega)
      refine QT.ite (fun _ => ?_) (fun _ => ?_)
      · refine QT.grd (fun _ => ?_)
        refine QT.ite (fun _ => (qb_wr 6 q.2).mono (fun z hz => .inl hz)) (fun _ => ?_)
        have hf : QT (f_X11_fills ((8 * x5) + x7) x4 x7 q.2) (fun z => ZTB q.2 z) := wz_X11_fills (s := q.2) ZTB.rf
        refine QT.bnd hf (fun z hz => ?_)
        unfold f_X11_parts_233
        have k5 := hz.tx k4.1
        have e6' : z.1 0 6 = q.2.1 0 6 := hz 6 (by omega)
        exact (ih _ z k5.1 (by rw [e6', e6]; exact h6)).mono (fun w hw => hw.le (by omega))
      · unfold f_X11_parts_233
        exact (ih _ q.2 k4.1 (by rw [e6]; exact h6)).mono (fun w hw => hw.le (by omega))
theorem lz_parts33 {ri rp : Int32 → Int32 → Int32 → Int32 → ST → Option ((Int32 × ST) × Nat)} {rv : Int32 → Int32 → Int32 → Int32 → Int32 → ST → Option ((Int32 × ST) × Nat)} (hv : NUV rv) (x1 x3 x4 x5 : Int32) : ∀ (n : Nat) (x6 : Int32) (σ : ST), TX σ → QT (f_X11_parts_33 ri rp rv n x1 x3 x4 x5 x6 σ) (LSS σ) := by
  intro n
  induction n with
  | zero =>
    intro x6 σ _
    rw [f_X11_parts_33]
    exact QT.none
  | succ n ih =>
    intro x6 σ hX
    rw [f_X11_parts_33]
    refine QT.ite (fun _ => ?_) (fun _ => ?_)
    · refine QT.ieq (fun e => ?_) (fun _ => (qb_wr 1 σ).mono (fun z hz => .inl hz))
      have l125 : (125 : Int32).toInt = 125 := by decide
      exact lz_parts171 x4 x5 FU 0 σ hX (hX.2.2.2 (by omega))
    · refine QT.bnd (nn2 (wn_X11_isName (s := σ) NUT.rf) hX) (fun q3 h3 => QT.kac ?_)
      refine QT.ite (fun _ => (qb_wr 1 q3.1.2).mono (fun z hz => .inl hz)) (fun _ => ?_)
      refine QT.bnd (nn1 (wn_X11_fieldOf (s := q3.1.2) NUT.rf) h3.1) (fun q5 h5 => ?_)
      refine QT.ite (fun _ => ?_) (fun _ => ?_)
      · unfold f_X11_parts_85
        exact (qb_wr 3 q5.2).mono (fun z hz => .inl hz)
      · refine QT.bnd (nn1 (wn_X11_hasChild (s := q5.2) NUT.rf) h5.1) (fun q7 h7 => ?_)
        refine QT.ite (fun _ => ?_) (fun _ => ?_)
        · refine QT.bnd (q_go q7.2 h7.1) (fun q9 h9 => ?_)
          have u9 := uT_le (σ := q7.2)
          refine QT.grd (fun _ => ?_)
          refine QT.bnd (hv _ _ _ _ _ q9 h9.1) (fun q hq => QT.kac ?_)
          obtain ⟨q1, q2⟩ := hq
          refine QT.ite (fun _ => QT.ret (.inl rfl)) (fun _ => ?_)
          unfold f_X11_parts_139
          refine QT.ite (fun _ => ?_) (fun _ => ?_)
          · refine QT.ite (fun _ => ?_) (fun _ => ?_)
            · exact (ih _ _ q1).mono (fun z hz => hz.le (by omega))
            · refine QT.bnd (q_go _ q1) (fun t ht => ?_)
              have := uT_le (σ := q.1.2)
              exact (ih _ _ ht.1).mono (fun z hz => hz.le (by omega))
          · refine QT.ite (fun _ => ?_) (fun _ => ?_)
            · exact (ih _ _ q1).mono (fun z hz => hz.le (by omega))
            · refine QT.bnd (q_go _ q1) (fun t ht => ?_)
              have := uT_le (σ := q.1.2)
              exact (ih _ _ ht.1).mono (fun z hz => hz.le (by omega))
        · unfold f_X11_parts_85
          exact (qb_wr 3 q7.2).mono (fun z hz => .inl hz)
/-- where the reference may stand when the class has refused: it can't end well -/
def DMD (L : Int) (b : ST) : Prop := TX b ∧ ((b.1 0 6).toInt = 5 ∧ (b.1 0 13).toInt = 0 ∨ (uT b : Int) + 1 ≤ L)
/-- an answer of the reference behind a refusal of the class's -/
def DMQ (L : Int) (q : (Int32 × ST) × Nat) : Prop := q.1.1 = 0 ∨ ¬ q.1.1 = 0 ∧ DMD L q.1.2
theorem LSS.dm {σ : ST} {q : (Int32 × ST) × Nat} (h : LSS σ q) {L : Int} (k : (uT σ : Int) ≤ L) : DMQ L q := by
  rcases h with h | ⟨h1, h2, h3⟩
  · exact .inl h
  · exact .inr ⟨h1, h2, .inr (by omega)⟩
theorem dm_items {ri rp : Int32 → Int32 → Int32 → Int32 → ST → Option ((Int32 × ST) × Nat)} {rv : Int32 → Int32 → Int32 → Int32 → Int32 → ST → Option ((Int32 × ST) × Nat)} (hv : NUV rv) (L : Int) (n : Nat) (x1 x2 x3 x4 x5 : Int32) (b : ST) (h : DMD (L + 1) b) : QT (if (b.1 0 13) = 44 then f_X11_items_70 ri rp rv (f_X11_items_25 ri rp rv n) x1 x2 x3 x4 x5 1 b else f_X11_items_70 ri rp rv (f_X11_items_25 ri rp rv n) x1 x2 x3 x4 x5 0 b) (DMQ L) := by
  obtain ⟨hX, h⟩ := h
  have l44 : (44 : Int32).toInt = 44 := by decide
  have l93 : (93 : Int32).toInt = 93 := by decide
  unfold f_X11_items_70
  rcases h with ⟨h6, h13⟩ | h
  · refine QT.ieq (fun e => by omega) (fun _ => ?_)
    refine QT.ite (fun _ => ?_) (fun e => absurd rfl e)
    cases n with
    | zero =>
      rw [f_X11_items_25]
      exact QT.none
    | succ n =>
      rw [f_X11_items_25]
      refine QT.ite (fun _ => ?_) (fun e => absurd rfl e)
      refine QT.bnd (q_mark 93 b hX (by decide)) (fun q hq => QT.grd (fun _ => QT.ret ?_))
      rcases hq with hq | ⟨_, h2, _⟩
      · exact .inl hq
      · omega
  · refine QT.ite (fun _ => ?_) (fun _ => ?_)
    · refine QT.ite (fun e => absurd e one_ne) (fun _ => ?_)
      refine QT.bnd (q_go _ hX) (fun t ht => ?_)
      have := uT_le (σ := b)
      exact (lz_items25 hv x1 x2 x3 x4 n _ _ t ht.1).mono (fun z hz => hz.dm (by omega))
    · refine QT.ite (fun _ => ?_) (fun e => absurd rfl e)
      exact (lz_items25 hv x1 x2 x3 x4 n _ _ b hX).mono (fun z hz => hz.dm (by omega))
theorem dm_parts {ri rp : Int32 → Int32 → Int32 → Int32 → ST → Option ((Int32 × ST) × Nat)} {rv : Int32 → Int32 → Int32 → Int32 → Int32 → ST → Option ((Int32 × ST) × Nat)} (hv : NUV rv) (L : Int) (n : Nat) (x1 x3 x4 x5 : Int32) (b : ST) (h : DMD (L + 1) b) : QT (if (b.1 0 13) = 44 then f_X11_parts_139 ri rp rv (f_X11_parts_33 ri rp rv n) x1 x3 x4 x5 1 b else f_X11_parts_139 ri rp rv (f_X11_parts_33 ri rp rv n) x1 x3 x4 x5 0 b) (DMQ L) := by
  obtain ⟨hX, h⟩ := h
  have l44 : (44 : Int32).toInt = 44 := by decide
  have l125 : (125 : Int32).toInt = 125 := by decide
  unfold f_X11_parts_139
  rcases h with ⟨h6, h13⟩ | h
  · refine QT.ieq (fun e => by omega) (fun _ => ?_)
    refine QT.ite (fun _ => ?_) (fun e => absurd rfl e)
    cases n with
    | zero =>
      rw [f_X11_parts_33]
      exact QT.none
    | succ n =>
      rw [f_X11_parts_33]
      refine QT.ite (fun _ => ?_) (fun e => absurd rfl e)
      refine QT.ieq (fun e => by omega) (fun _ => ?_)
      exact (qb_wr 1 b).mono (fun z hz => .inl hz)
  · refine QT.ite (fun _ => ?_) (fun _ => ?_)
    · refine QT.ite (fun e => absurd e one_ne) (fun _ => ?_)
      refine QT.bnd (q_go _ hX) (fun t ht => ?_)
      have := uT_le (σ := b)
      exact (lz_parts33 hv x1 x3 x4 x5 n _ t ht.1).mono (fun z hz => hz.dm (by omega))
    · refine QT.ite (fun _ => ?_) (fun e => absurd rfl e)
      exact (lz_parts33 hv x1 x3 x4 x5 n _ b hX).mono (fun z hz => hz.dm (by omega))
/-- a number with a point behind it that the class takes for none -/
def PTN (τ : ST) : Prop := (τ.1 0 13).toInt = 0 ∧ (τ.1 0 6).toInt = 2 ∧ ∃ k : Nat, (τ.1 0 5).toInt = k ∧ bt (τ.1 1) (τ.1 0 3).toInt k = 46
theorem TK.ptn {σ τ : ST} (h : TK σ τ) (h1 : (σ.1 2 4).toInt = 1) (hL : LT_ τ) : PTN τ := by
  obtain ⟨_, h | h | h | h | h | h⟩ := h
  · omega
  · obtain ⟨_, s0, h5 | h2⟩ := h
    · exfalso
      unfold LT_ W_ at hL
      omega
    · exact ⟨s0, h2⟩
  · obtain ⟨_, _, _, _, h9⟩ := h
    have h9 : (σ.1 2 4).toInt = 2 ∨ (σ.1 2 4).toInt = 3 := h9.elim (fun h => .inl h.1) (fun h => .inr h.1)
    omega
  · have := h.1
    clear h
    omega
  · have := h.1
    clear h
    omega
  · have := h.1
    clear h
    omega
/-! letters, twelve of them -/
theorem shr12 : ∀ (k : Nat), k ≤ 12 → ∀ a : Int64, (a >>> ((5 * Int32.ofNat k).toInt64 &&& 63)).toBitVec = a.toBitVec.sshiftRight (5 * k)
  | 0, _, _ => rfl
  | 1, _, _ => rfl
  | 2, _, _ => rfl
  | 3, _, _ => rfl
  | 4, _, _ => rfl
  | 5, _, _ => rfl
  | 6, _, _ => rfl
  | 7, _, _ => rfl
  | 8, _, _ => rfl
  | 9, _, _ => rfl
  | 10, _, _ => rfl
  | 11, _, _ => rfl
  | 12, _, _ => rfl
  | k + 13, h, _ => by omega
theorem a_letterOf12 (x : Int64) (p : Int32) (σ : ST) {X i : Nat} (hx : x.toInt = (X : Int)) (hp : p.toInt = i) (hi : i < 12) : OK (f_X10_letterOf x p σ) (RO σ fun v => v.toInt = ((X / 32 ^ i % 32 : Nat) : Int)) := by
  unfold f_X10_letterOf
  have l0 := li_0
  have l12 := li_12
  refine OK.ilt (fun h => by omega) (fun _ => ?_)
  refine OK.ilt (fun _ => ?_) (fun h => by omega)
  refine OK.roret ?_
  have ep : p = Int32.ofNat i := intOf hp (by omega)
  have e1 : (x >>> ((5 * p).toInt64 &&& 63)).toInt = ((X / 32 ^ i : Nat) : Int) := by
    have h := shr12 i (by omega) x
    rw [← ep] at h
    have h2 : (x >>> ((5 * p).toInt64 &&& 63)).toInt = (x >>> ((5 * p).toInt64 &&& 63)).toBitVec.toInt := rfl
    have h3 : x.toBitVec.toInt = (X : Int) := hx
    rw [h2, h, BitVec.toInt_sshiftRight, h3, Int.shiftRight_eq_div_pow]
    have h4 : 32 ^ i = 2 ^ (5 * i) := by rw [Nat.pow_mul]
    rw [h4]
    rfl
  generalize x >>> ((5 * p).toInt64 &&& 63) = y at e1 ⊢
  rw [and31]
  have e2 : y.toInt32.toInt = y.toInt.bmod (2 ^ 32) := Int64.toInt_toInt32 y
  obtain ⟨k, hk⟩ := i_bm y.toInt
  rw [e2, hk, e1]
  omega
theorem a_lettersIn12_2 (x : Int64) (σ : ST) {m : Nat} {g : Nat → Nat} (hm : m ≤ 12) (hg : GL g m) (hx : x.toInt = (n5 m g : Int)) : ∀ (f i : Nat) (p : Int32), p.toInt = i → i ≤ m → m < f + i → OK (f_X10_lettersIn_2 f x p σ) (RO σ fun v => v.toInt = m) := by
  intro f
  have l0 := li_0
  have l1 := li_1
  have l12 := li_12
  induction f with
  | zero => intro i p h1 h2 h3; omega
  | succ f ih =>
    intro i p hp hi hf
    rw [f_X10_lettersIn_2]
    refine OK.ile (fun h => OK.roret (by omega)) (fun h12 => ?_)
    refine OK.bndR (a_letterOf12 x p σ hx hp (by omega)) (fun v hv => ?_)
    dsimp only
    rw [n5_get m g hg i] at hv
    have e1 := il_addE (x := p) (y := 1) (by omega) (by omega)
    by_cases h : i < m
    · rw [if_pos h] at hv
      have := hg i h
      refine OK.ieq (fun h9 => by omega) (fun _ => ?_)
      exact ih (i + 1) (p + 1) (by omega) (by omega) (by omega)
    · rw [if_neg h] at hv
      refine OK.ieq (fun _ => ?_) (fun h9 => absurd (hv.trans l0.symm) h9)
      refine OK.roret ?_
      omega
theorem a_lettersIn12 (x y : Int64) (n : Int32) (σ : ST) (h : WLT x y n) : f_X10_lettersIn x σ = some (n, σ) := by
  obtain ⟨m, g, h1, h2, h3, _, h4⟩ := h
  have lu := FUi
  have k : OK (f_X10_lettersIn x σ) (RO σ fun v => v = n) := by
    unfold f_X10_lettersIn
    refine (a_lettersIn12_2 x σ h1 h2 h3 FU 0 0 li_0 (by omega) (by omega)).roq (fun v hv => Int32.toInt_inj.mp (by omega))
  obtain ⟨⟨v, s⟩, e, e1, e2⟩ := k
  have e1 : s = σ := e1
  have e2 : v = n := e2
  rw [e, e1, e2]
/-! the type of a value: the class's x, the reference's y; the root's, too -/
def TG (p : Nat) (rm : Int) (S T : ST) (d : Nat) (x y : Int32) : Prop := ((0 ≤ x.toInt ∧ x.toInt < (S.1 4 1).toInt) ∧ (0 ≤ y.toInt ∧ y.toInt < 800)) ∧ S.1 15 x.toNatClampNeg = T.1 2 y.toNatClampNeg ∧ (0 ≤ (T.1 2 y.toNatClampNeg).toInt ∧ (T.1 2 y.toNatClampNeg).toInt ≤ 8) ∧
  ((T.1 2 y.toNatClampNeg).toInt = 6 → TY p rm S T d (S.1 16 x.toNatClampNeg) (T.1 3 y.toNatClampNeg)) ∧
  ((T.1 2 y.toNatClampNeg).toInt = 7 → (0 ≤ (T.1 3 y.toNatClampNeg).toInt ∧ (T.1 3 y.toNatClampNeg).toInt < rm) ∧ (S.1 16 x.toNatClampNeg).toInt = 6 * (p : Int) + (T.1 3 y.toNatClampNeg).toInt) ∧
  ((T.1 2 y.toNatClampNeg).toInt = 8 → ∃ m : Nat, (1 ≤ m ∧ m ≤ 4) ∧ (T.1 4 y.toNatClampNeg).toInt = m ∧ (∀ k : Nat, k < m → TY p rm S T d (chn (S.1 17) (S.1 16 x.toNatClampNeg) k) (T.1 5 (4 * y.toNatClampNeg + k)) ∧ ¬ (T.1 2 (T.1 5 (4 * y.toNatClampNeg + k)).toNatClampNeg).toInt = 8) ∧ (chn (S.1 17) (S.1 16 x.toNatClampNeg) m).toInt = -1 ∧ ∀ j k : Nat, j < k → k < m → ¬ (T.1 2 (T.1 5 (4 * y.toNatClampNeg + j)).toNatClampNeg).toInt = (T.1 2 (T.1 5 (4 * y.toNatClampNeg + k)).toNatClampNeg).toInt)
theorem TG.of {p : Nat} {rm : Int} {S T : ST} {d : Nat} {x y : Int32} (h : TY p rm S T (d + 1) x y) : TG p rm S T d x y := by
  obtain ⟨⟨h1, h2⟩, h3, h4, h5, h6, _, h8⟩ := h
  refine ⟨⟨h1, by omega⟩, h3, h4, h5, h6, fun h9 => ?_⟩
  obtain ⟨k1, k2, k3, k4⟩ := h8 h9
  exact ⟨(T.1 4 y.toNatClampNeg).toInt.toNat, by omega, by omega, fun k hk => k2 k (by omega), k3, fun j k h1 h2 => k4 j k h1 (by omega)⟩
theorem TG.ex {p : Nat} {rm : Int} {S T : ST} {d : Nat} {x y : Int32} (h : TY p rm S T d x y) : ∃ d', TG p rm S T d' x y := by
  cases d with
  | zero => exact h.elim
  | succ d => exact ⟨d, .of h⟩
theorem KVA.t {s σ : ST} (h : KVA s σ) : (σ.1 4 = s.1 4 ∧ σ.1 7 = s.1 7) ∧ (σ.1 9 = s.1 9 ∧ σ.1 13 = s.1 13) ∧ σ.1 15 = s.1 15 ∧ σ.1 16 = s.1 16 ∧ σ.1 17 = s.1 17 ∧ σ.2.1 11 = s.2.1 11 := ⟨⟨h.1 4 (by omega) (by omega), h.1 7 (by omega) (by omega)⟩, ⟨h.1 9 (by omega) (by omega), h.1 13 (by omega) (by omega)⟩, h.1 15 (by omega) (by omega), h.1 16 (by omega) (by omega), h.1 17 (by omega) (by omega), h.2.2.1 11 (by omega) (by omega)⟩
theorem KVB.t {s σ : ST} (h : KVB s σ) : (σ.1 2 = s.1 2 ∧ σ.1 3 = s.1 3 ∧ σ.1 4 = s.1 4 ∧ σ.1 5 = s.1 5) ∧ (σ.1 11 = s.1 11 ∧ σ.1 15 = s.1 15 ∧ σ.1 16 = s.1 16 ∧ σ.1 19 = s.1 19) ∧ σ.2.1 12 = s.2.1 12 ∧ σ.2.1 17 = s.2.1 17 ∧ σ.2.1 18 = s.2.1 18 := ⟨⟨h.1 2 (by omega) (by omega) (by omega), h.1 3 (by omega) (by omega) (by omega), h.1 4 (by omega) (by omega) (by omega), h.1 5 (by omega) (by omega) (by omega)⟩, ⟨h.1 11 (by omega) (by omega) (by omega), h.1 15 (by omega) (by omega) (by omega), h.1 16 (by omega) (by omega) (by omega), h.1 19 (by omega) (by omega) (by omega)⟩, h.2.2 12 (by omega) (by omega) (by omega), h.2.2 17 (by omega) (by omega) (by omega), h.2.2 18 (by omega) (by omega) (by omega)⟩
theorem TG.sA {p : Nat} {rm : Int} {S T σ : ST} {d : Nat} {x y : Int32} (h : TG p rm S T d x y) (hn : (S.1 4 1).toInt ≤ 262) (k : KVA S σ) : f_X5_sortOf 4 x σ = some (T.1 2 y.toNatClampNeg, σ) ∧ f_X5_innerOf 4 x σ = some (S.1 16 x.toNatClampNeg, σ) := by
  obtain ⟨⟨k4, _⟩, _, k15, k16, _⟩ := k.t
  have hb : 0 ≤ x.toInt ∧ x.toInt < (σ.1 4 1).toInt := by rw [k4]; exact h.1.1
  have hn' : (σ.1 4 1).toInt ≤ 262 := by rw [k4]; exact hn
  refine ⟨?_, ?_⟩
  · rw [a4_sortOf x σ hb hn', k15, h.2.1]
  · rw [a4_innerOf x σ hb hn', k16]
/-- whether the token fits the k-th branch -/
def FBR (T τ : ST) (y : Int32) (k : Nat) : Prop := FT_ τ (T.1 2 (T.1 5 (4 * y.toNatClampNeg + k)).toNatClampNeg).toInt
/-- what the class chooses for a value: v (none: -1) -/
def FTA (S T τ : ST) (x y v : Int32) : Prop := (¬ (T.1 2 y.toNatClampNeg).toInt = 8 ∧ (v.toInt = -1 ∧ ¬ FT_ τ (T.1 2 y.toNatClampNeg).toInt ∨ v = x ∧ FT_ τ (T.1 2 y.toNatClampNeg).toInt)) ∨ ((T.1 2 y.toNatClampNeg).toInt = 8 ∧ ∃ m : Nat, (T.1 4 y.toNatClampNeg).toInt = m ∧ FIX m (FBR T τ y) (fun i => (chn (S.1 17) (S.1 16 x.toNatClampNeg) i).toInt) v.toInt)
/-- what the reference chooses: the branch br, the type u -/
def CHO (T τ : ST) (y br u : Int32) : Prop := (¬ (T.1 2 y.toNatClampNeg).toInt = 8 ∧ br.toInt = -1 ∧ u = y) ∨ ((T.1 2 y.toNatClampNeg).toInt = 8 ∧ ∃ m : Nat, (T.1 4 y.toNatClampNeg).toInt = m ∧ FIX m (FBR T τ y) (fun i => (i : Int)) br.toInt ∧ (br.toInt = -1 → u = y) ∧ ∀ k : Nat, br.toInt = k → u = T.1 5 (4 * y.toNatClampNeg + k))
theorem a_fit48 {p : Nat} {rm : Int} {S T σ τ : ST} {d : Nat} {x y : Int32} (hn : (S.1 4 1).toInt ≤ 262) (kv : KVA S σ) (hK : TK σ τ) (h1 : ¬ (σ.1 2 4).toInt = 1) {m : Nat} (hm4 : m ≤ 4) (hB : ∀ k : Nat, k < m → TY p rm S T d (chn (S.1 17) (S.1 16 x.toNatClampNeg) k) (T.1 5 (4 * y.toNatClampNeg + k))) (hz : (chn (S.1 17) (S.1 16 x.toNatClampNeg) m).toInt = -1) : ∀ (n k : Nat) (x2 x3 : Int32), x3.toInt = k → k ≤ m → x2 = chn (S.1 17) (S.1 16 x.toNatClampNeg) k → (∀ i, i < k → ¬ FBR T τ y i) → QT (f_X8_fittingType_48 n x2 x3 σ) (fun q => q.2 = σ ∧ FIX m (FBR T τ y) (fun i => (chn (S.1 17) (S.1 16 x.toNatClampNeg) i).toInt) q.1.toInt) := by
  have l0 := li_0
  have l1 := li_1
  have l4 := li_4
  have lm := li_m1
  intro n
  induction n with
  | zero =>
    intro k x2 x3 _ _ _ _
    rw [f_X8_fittingType_48]
    exact QT.none
  | succ n ih =>
    intro k x2 x3 h3 hk h2 hno
    rw [f_X8_fittingType_48]
    refine QT.ile (fun h => QT.ret ⟨rfl, .inl ⟨lm, fun i hi => hno i (by omega)⟩⟩) (fun _ => ?_)
    by_cases hkm : k = m
    · have hx2 : x2.toInt = -1 := by rw [h2, hkm]; exact hz
      refine QT.ieq (fun h => QT.ret ⟨rfl, .inl ⟨lm, fun i hi => hno i (by omega)⟩⟩) (fun h => absurd (by rw [hx2, lm]) h)
    · have hT := hB k (by omega)
      obtain ⟨d', hG⟩ := TG.ex hT
      rw [← h2] at hG
      have hx2 := hG.1.1.1
      refine QT.ieq (fun h => by omega) (fun _ => ?_)
      rw [(hG.sA hn kv).1]
      rw [sbnd]
      dsimp only
      refine QT.bndR (a_fits _ σ τ hK h1) (fun v hv => ?_)
      dsimp only
      refine QT.ieq (fun e0 => ?_) (fun e0 => ?_)
      · obtain ⟨⟨k4, _⟩, _, _, _, k17, _⟩ := kv.t
        rw [a4_branchAfter x2 σ (by rw [k4]; exact hG.1.1) (by rw [k4]; exact hn)]
        rw [sbnd]
        dsimp only
        have e3 := il_addE (x := x3) (y := 1) (by omega) (by omega)
        refine ih (k + 1) _ _ (by omega) (by omega) ?_ (fun i hi => ?_)
        · rw [k17, h2]
          rfl
        · rcases Nat.lt_or_ge i k with h9 | h9
          · exact hno i h9
          · have e9 : i = k := by omega
            rw [e9]
            rcases hv with hv | hv
            · exact hv.2
            · have := hv.1
              omega
      · have hF : FBR T τ y k := by
          rcases hv with hv | hv
          · have := hv.1
            omega
          · exact hv.2
        exact QT.ret ⟨rfl, .inr ⟨k, by omega, by rw [h2], hF, hno⟩⟩
theorem a_fitT {p : Nat} {rm : Int} {S T σ τ : ST} {d : Nat} {x y : Int32} (h : TG p rm S T d x y) (hn : (S.1 4 1).toInt ≤ 262) (kv : KVA S σ) (hK : TK σ τ) (h1 : ¬ (σ.1 2 4).toInt = 1) : QT (f_X8_fittingType x σ) (fun q => q.2 = σ ∧ FTA S T τ x y q.1) := by
  have l0 := li_0
  have l8 : (8 : Int32).toInt = 8 := by decide
  have lm := li_m1
  obtain ⟨s1, s2⟩ := h.sA hn kv
  unfold f_X8_fittingType
  rw [s1]
  rw [sbnd]
  dsimp only
  refine QT.ieq (fun e => ?_) (fun e => ?_)
  · rw [s2]
    rw [sbnd]
    dsimp only
    obtain ⟨m, hm, hM, hB, hz⟩ := h.2.2.2.2.2 (by omega)
    exact (a_fit48 (y := y) hn kv hK h1 hm.2 (fun k hk => (hB k hk).1) hz.1 FU 0 _ 0 l0 (by omega) rfl (fun i hi => by omega)).mono (fun q hq => ⟨hq.1, .inr ⟨by omega, m, hM, hq.2⟩⟩)
  · rw [s1]
    rw [sbnd]
    dsimp only
    refine QT.bndR (a_fits _ σ τ hK h1) (fun v hv => ?_)
    dsimp only
    refine QT.ieq (fun e0 => ?_) (fun e0 => ?_)
    · refine QT.ret ⟨rfl, .inl ⟨by omega, .inl ⟨lm, ?_⟩⟩⟩
      rcases hv with hv | hv
      · exact hv.2
      · have := hv.1
        omega
    · refine QT.ret ⟨rfl, .inl ⟨by omega, .inr ⟨rfl, ?_⟩⟩⟩
      rcases hv with hv | hv
      · have := hv.1
        omega
      · exact hv.2
theorem bq_branchFor_2 {p : Nat} {rm : Int} {S T τ : ST} {d : Nat} {x y : Int32} (hy : 0 ≤ y.toInt ∧ y.toInt < 800) (kv : KVB T τ) {m : Nat} (hm4 : m ≤ 4) (hM : (T.1 4 y.toNatClampNeg).toInt = m) (hB : ∀ k : Nat, k < m → TY p rm S T d (chn (S.1 17) (S.1 16 x.toNatClampNeg) k) (T.1 5 (4 * y.toNatClampNeg + k))) : ∀ (n k : Nat) (x2 : Int32), x2.toInt = k → k ≤ m → (∀ i, i < k → ¬ FBR T τ y i) → QT (f_X11_branchFor_2 n y x2 τ) (fun q => q.1.2 = τ ∧ FIX m (FBR T τ y) (fun i => (i : Int)) q.1.1.toInt) := by
  have l0 := li_0
  have l1 := li_1
  have lm := li_m1
  obtain ⟨⟨k2, _, k4, k5⟩, _⟩ := kv.t
  have ny := nN_ hy.1
  intro n
  induction n with
  | zero =>
    intro k x2 _ _ _
    rw [f_X11_branchFor_2]
    exact QT.none
  | succ n ih =>
    intro k x2 h2 hk hno
    rw [f_X11_branchFor_2]
    rw [k4, k5]
    refine QT.grd (fun _ => ?_)
    refine QT.ile (fun h => QT.ret ⟨rfl, .inl ⟨lm, fun i hi => hno i (by omega)⟩⟩) (fun hlt => ?_)
    refine QT.grd (fun _ => ?_)
    have e1 := mlE (k := 4) (y := y) 4 li_4 (by omega) (by omega)
    have e2 := il_addE (x := 4 * y) (y := x2) (by omega) (by omega)
    have e4 : (4 * y + x2).toNatClampNeg = 4 * y.toNatClampNeg + k := nC (by omega)
    rw [e4]
    obtain ⟨d', hG⟩ := TG.ex (hB k (by omega))
    refine QT.bndK (b_fits _ τ hG.1.2) (fun v c hv => QT.kac ?_)
    dsimp only
    rw [k2] at hv
    have e3 := il_addE (x := x2) (y := 1) (by omega) (by omega)
    refine QT.ieq (fun e0 => ?_) (fun e0 => ?_)
    · refine ih (k + 1) (x2 + 1) (by omega) (by omega) (fun i hi => ?_)
      rcases Nat.lt_or_ge i k with h9 | h9
      · exact hno i h9
      · have e9 : i = k := by omega
        rw [e9]
        rcases hv with hv | hv
        · exact hv.2
        · have := hv.1
          omega
    · have hF : FBR T τ y k := by
        rcases hv with hv | hv
        · have := hv.1
          omega
        · exact hv.2
      exact QT.ret ⟨rfl, .inr ⟨k, by omega, h2, hF, hno⟩⟩
theorem q_isValue (τ : ST) : OK (f_X11_isValue τ) (KO τ 10 fun v => v.toInt = 0 ∧ ¬ (LT_ τ ∨ (τ.1 0 13).toInt = 123) ∨ v.toInt = 1 ∧ (LT_ τ ∨ (τ.1 0 13).toInt = 123)) := by
  unfold f_X11_isValue f_X11_isValue_16
  have lt_0 := li_0
  have lt_1 := li_1
  have l123 : (123 : Int32).toInt = 123 := by decide
  refine OK.bndK (b_isLiteral τ) (fun v x hv hx => ?_)
  refine OK.kac ?_
  dsimp only
  refine OK.ieq (fun e0 => ?_) (fun e0 => ⟨_, rfl, rfl, .inr ⟨lt_1, .inl ?_⟩, hx⟩)
  · have hL : ¬ LT_ τ := by
      rcases hv with hv | hv
      · exact hv.2
      · have := hv.1
        omega
    exact OK.ieq (fun e => ⟨_, rfl, rfl, .inr ⟨lt_1, .inr (by omega)⟩, hx⟩) (fun e => ⟨_, rfl, rfl, .inl ⟨lt_0, fun h9 => h9.elim hL (fun h => e (by omega))⟩, hx⟩)
  · rcases hv with hv | hv
    · have := hv.1
      omega
    · exact hv.2
/-- the reference's way to a value's node: what it asks ahead of it -/
theorem q_val42 {ri rp : Int32 → Int32 → Int32 → Int32 → ST → Option ((Int32 × ST) × Nat)} {rv : Int32 → Int32 → Int32 → Int32 → Int32 → ST → Option ((Int32 × ST) × Nat)} (x1 x3 x4 x5 x6 u : Int32) (τ : ST) (hu : 0 ≤ u.toInt ∧ u.toInt < 800) (P : Int32 × ST → Prop) (hbad : ¬ ((LT_ τ ∨ (τ.1 0 13).toInt = 123) ∧ FT_ τ (τ.1 2 u.toNatClampNeg).toInt ∧ x3.toInt < 31 ∧ (x5.toInt < 200 ∨ x4.toInt < 0 ∨ ¬ (τ.1 20 x4.toNatClampNeg).toInt = 6)) → ∀ q : Int32 × ST, q.1 = 0 → P q) (hgood : (LT_ τ ∨ (τ.1 0 13).toInt = 123) → FT_ τ (τ.1 2 u.toNatClampNeg).toInt → x3.toInt < 31 → (x5.toInt < 200 ∨ x4.toInt < 0 ∨ ¬ (τ.1 20 x4.toNatClampNeg).toInt = 6) → QT (f_X11_value_104 ri rp rv x1 x3 x4 x5 x6 u 0 τ) (fun q => P q.1)) : QT (f_X11_value_42 ri rp rv x1 x3 x4 x5 x6 u τ) (fun q => P q.1) := by
  have l0 := li_0
  have l1 := li_1
  have l2 := li_2
  have l4 := li_4
  have l6 := li_6
  have l31 : (31 : Int32).toInt = 31 := by decide
  have l200 : (200 : Int32).toInt = 200 := by decide
  have bad : ∀ (k : Int32), 0 < k.toInt → ¬ ((LT_ τ ∨ (τ.1 0 13).toInt = 123) ∧ FT_ τ (τ.1 2 u.toNatClampNeg).toInt ∧ x3.toInt < 31 ∧ (x5.toInt < 200 ∨ x4.toInt < 0 ∨ ¬ (τ.1 20 x4.toNatClampNeg).toInt = 6)) → QT (f_X11_value_104 ri rp rv x1 x3 x4 x5 x6 u k τ) (fun q => P q.1) := fun k hk hn => by
    unfold f_X11_value_104
    exact QT.ile (fun h => by omega) (fun _ => (qb_wr k τ).mono (fun z hz => hbad hn z.1 hz))
  unfold f_X11_value_42
  refine QT.bndK (q_isValue τ) (fun v c hv => QT.kac ?_)
  dsimp only
  refine QT.ieq (fun e0 => bad 1 (by omega) (fun h9 => ?_)) (fun e0 => ?_)
  · rcases hv with hv | hv
    · exact hv.2 h9.1
    · have := hv.1
      omega
  have hL : LT_ τ ∨ (τ.1 0 13).toInt = 123 := by
    rcases hv with hv | hv
    · have := hv.1
      omega
    · exact hv.2
  refine QT.bndK (b_fits u τ hu) (fun v2 c2 hv2 => QT.kac ?_)
  dsimp only
  refine QT.ieq (fun e1 => bad 2 (by omega) (fun h9 => ?_)) (fun e1 => ?_)
  · rcases hv2 with hv | hv
    · exact hv.2 h9.2.1
    · have := hv.1
      omega
  have hF : FT_ τ (τ.1 2 u.toNatClampNeg).toInt := by
    rcases hv2 with hv | hv
    · have := hv.1
      omega
    · exact hv.2
  unfold f_X11_value_99 f_X11_value_103
  refine QT.ile (fun h => bad 4 (by omega) (fun h9 => by have := h9.2.2.1; omega)) (fun h31 => ?_)
  refine QT.ilt (fun h => hgood hL hF (by omega) (.inl (by omega))) (fun h200 => ?_)
  refine QT.ilt (fun h => hgood hL hF (by omega) (.inr (.inl (by omega)))) (fun hx4 => ?_)
  refine QT.grd (fun _ => ?_)
  exact QT.ieq (fun h => bad 4 (by omega) (fun h9 => by have := h9.2.2.2; omega)) (fun h => hgood hL hF (by omega) (.inr (.inr (by omega))))
theorem q_value {ri rp : Int32 → Int32 → Int32 → Int32 → ST → Option ((Int32 × ST) × Nat)} {rv : Int32 → Int32 → Int32 → Int32 → Int32 → ST → Option ((Int32 × ST) × Nat)} {p : Nat} {rm : Int} {S T τ : ST} {d : Nat} {x y : Int32} (h : TG p rm S T d x y) (kv : KVB T τ) (p0 p2 p3 p4 : Int32) (P : Int32 × ST → Prop) (k : ∀ br u : Int32, CHO T τ y br u → QT (f_X11_value_42 ri rp rv p0 p2 p3 p4 br u τ) (fun q => P q.1)) : QT (f_X11_value ri rp rv p0 y p2 p3 p4 τ) (fun q => P q.1) := by
  have l0 := li_0
  have l8 : (8 : Int32).toInt = 8 := by decide
  have lm := li_m1
  obtain ⟨⟨k2, _, k4, k5⟩, _⟩ := kv.t
  have ny := nN_ h.1.2.1
  unfold f_X11_value f_X11_value_20
  refine QT.grd (fun _ => ?_)
  rw [k2]
  refine QT.ieq (fun e => ?_) (fun e => ?_)
  · obtain ⟨m, hm, hM, hB, hz⟩ := h.2.2.2.2.2 (by omega)
    refine QT.bnd (bq_branchFor_2 h.1.2 kv hm.2 hM (fun k hk => (hB k hk).1) FU 0 0 l0 (by omega) (fun i hi => by omega)) (fun q hq => QT.kac ?_)
    obtain ⟨⟨v, s⟩, c⟩ := q
    obtain ⟨e1, hv⟩ := hq
    have e1 : s = τ := e1
    subst e1
    have hv : FIX m (FBR T s y) (fun i => (i : Int)) v.toInt := hv
    dsimp only
    rw [k5]
    refine QT.ile (fun h0 => ?_) (fun h0 => ?_)
    · rcases hv with hv | ⟨i, h1, h2, h3, h4⟩
      · have := hv.1
        omega
      · have h2 : v.toInt = (i : Int) := h2
        refine QT.grd (fun _ => ?_)
        have e1 := mlE (k := 4) (y := y) 4 li_4 (by omega) (by omega)
        have e2 := il_addE (x := 4 * y) (y := v) (by omega) (by omega)
        have e4 : (4 * y + v).toNatClampNeg = 4 * y.toNatClampNeg + i := nC (by omega)
        rw [e4]
        refine k v _ (.inr ⟨by omega, m, hM, .inr ⟨i, h1, h2, h3, h4⟩, fun h9 => by omega, fun k9 h9 => ?_⟩)
        rw [show k9 = i by omega]
    · refine k v y (.inr ⟨by omega, m, hM, hv, fun _ => rfl, fun k9 h9 => by omega⟩)
  · refine QT.ite (fun h0 => absurd (Int32.le_iff_toInt_le.mp h0) (by omega)) (fun _ => ?_)
    exact k (-1) y (.inl ⟨by omega, lm, rfl⟩)
/-- both choose alike -/
theorem fit_pair {p : Nat} {rm : Int} {S T τ : ST} {d : Nat} {x y v br u : Int32} (h : TG p rm S T d x y) (hA : FTA S T τ x y v) (hB : CHO T τ y br u) : (v.toInt = -1 ∧ ¬ FT_ τ (T.1 2 u.toNatClampNeg).toInt) ∨ (0 ≤ v.toInt ∧ FT_ τ (T.1 2 u.toNatClampNeg).toInt ∧ OWN S T x y br v u ∧ ∃ d', TG p rm S T d' v u) := by
  rcases hB with ⟨b1, b2, b3⟩ | ⟨b1, m, b2, b3, b4, b5⟩
  · subst b3
    rcases hA with ⟨a1, a2⟩ | ⟨a1, _⟩
    · rcases a2 with a2 | ⟨a2, a3⟩
      · exact .inl a2
      · subst a2
        exact .inr ⟨h.1.1.1, a3, .inl ⟨b2, rfl, rfl, b1⟩, d, h⟩
    · exact absurd a1 b1
  · rcases hA with ⟨a1, _⟩ | ⟨_, m', a2, a3⟩
    · exact absurd b1 a1
    · have em : m' = m := by omega
      subst em
      rcases a3 with ⟨a3, a4⟩ | ⟨i, a3, a4, a5, a6⟩
      · refine .inl ⟨a3, ?_⟩
        rcases b3 with ⟨b3, _⟩ | ⟨j, c3, _, c5, _⟩
        · rw [b4 b3]
          exact ft_8 (by omega)
        · exact absurd c5 (a4 j c3)
      · rcases b3 with ⟨b3, c4⟩ | ⟨j, c3, c4, c5, c6⟩
        · exact absurd a5 (c4 i a3)
        · have eij : i = j := by
            rcases Nat.lt_trichotomy i j with h9 | h9 | h9
            · exact absurd a5 (c6 i h9)
            · exact h9
            · exact absurd c5 (a6 j h9)
          subst eij
          obtain ⟨m2, hm, hM, hT, hz⟩ := h.2.2.2.2.2 b1
          have hT := hT i (by omega)
          have eu := b5 i c4
          have ev : v = chn (S.1 17) (S.1 16 x.toNatClampNeg) i := Int32.toInt_inj.mp a4
          obtain ⟨d', hG⟩ := TG.ex hT.1
          rw [← ev, ← eu] at hG
          refine .inr ⟨hG.1.1.1, ?_, .inr ⟨b1, i, c4, by omega, ev, eu⟩, d', hG⟩
          have a5 : FT_ τ (T.1 2 (T.1 5 (4 * y.toNatClampNeg + i)).toNatClampNeg).toInt := a5
          rw [eu]
          exact a5
theorem OWN.n8 {p : Nat} {rm : Int} {S T : ST} {d : Nat} {x y v br u : Int32} (h : TG p rm S T d x y) (k : OWN S T x y br v u) : ¬ (T.1 2 u.toNatClampNeg).toInt = 8 := by
  rcases k with ⟨_, _, e, h9⟩ | ⟨h8, i, _, h1, _, e⟩
  · rw [e]
    exact h9
  · obtain ⟨m, hm, hM, hT, _⟩ := h.2.2.2.2.2 h8
    rw [e]
    exact (hT i (by omega)).2
