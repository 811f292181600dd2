/-! bytes written: the class's packer beside the reference's -/
theorem KTA.trans {s σ u : ST} (h : KTA s σ) (k : KTA σ u) : KTA s u := fun c a b => ⟨(k c a b).1.trans (h c a b).1, (k c a b).2.trans (h c a b).2⟩
def KPK (s σ : ST) : Prop := (∀ c, c ≠ 87 → c ≠ 88 → σ.1 c = s.1 c) ∧ (∀ i, i ≠ 2 → σ.1 87 i = s.1 87 i) ∧ σ.2 = s.2
theorem KPK.rf {s : ST} : KPK s s := ⟨fun _ _ _ => rfl, fun _ _ => rfl, rfl⟩
theorem KPK.trans {s σ u : ST} (h : KPK s σ) (k : KPK σ u) : KPK s u := ⟨fun c a b => (k.1 c a b).trans (h.1 c a b), fun i a => (k.2.1 i a).trans (h.2.1 i a), k.2.2.trans h.2.2⟩
theorem KPK.i {s σ : ST} {c i : Nat} {v : Int32} (hc : c = 87 ∧ i = 2 ∨ c = 88) (h : KPK s σ) : KPK s (stI σ c i v) := by
  refine ⟨fun d h1 h2 => ?_, fun j hj => ?_, h.2.2⟩
  · rw [stI_ne (by omega)]
    exact h.1 d h1 h2
  · by_cases e : c = 87
    · subst e
      rw [stI_at, upN (by omega)]
      exact h.2.1 j hj
    · rw [stI_ne (fun h => e h.symm)]
      exact h.2.1 j hj
def KWR (s σ : ST) : Prop := (∀ c, c ≠ 0 → c ≠ 31 → σ.1 c = s.1 c) ∧ (∀ i, i ≠ 48 → i ≠ 49 → σ.1 0 i = s.1 0 i) ∧ σ.2 = s.2
theorem KWR.rf {s : ST} : KWR s s := ⟨fun _ _ _ => rfl, fun _ _ _ => rfl, rfl⟩
theorem KWR.trans {s σ u : ST} (h : KWR s σ) (k : KWR σ u) : KWR s u := ⟨fun c a b => (k.1 c a b).trans (h.1 c a b), fun i a b => (k.2.1 i a b).trans (h.2.1 i a b), k.2.2.trans h.2.2⟩
theorem KWR.i {s σ : ST} {c i : Nat} {v : Int32} (hc : c = 31 ∨ c = 0 ∧ (i = 48 ∨ i = 49)) (h : KWR s σ) : KWR s (stI σ c i v) := by
  refine ⟨fun d h1 h2 => ?_, fun j hj hk => ?_, h.2.2⟩
  · rw [stI_ne (by omega)]
    exact h.1 d h1 h2
  · by_cases e : c = 0
    · subst e
      rw [stI_at, upN (by omega)]
      exact h.2.1 j hj hk
    · rw [stI_ne (fun h => e h.symm)]
      exact h.2.1 j hj hk
theorem wk_X7_isRow {s : ST} {b : Nat} {p0 : Int32} {σ : ST}   (h : KPK s σ) : PF st1 (KPK s) (f_X7_isRow b p0 σ) := by
  unfold f_X7_isRow
  exact (PF.ite (fun _ => (PF.ret1 h)) (fun _ => (PF.ite (fun _ => (PF.ret1 h)) (fun _ => (PF.ite (fun _ => (PF.ret1 h)) (fun _ => (PF.ret1 h)))))))
theorem wk_X7_firstOf {s : ST} {b : Nat} {p0 : Int32} {σ : ST}   (h : KPK s σ) : PF st1 (KPK s) (f_X7_firstOf b p0 σ) := by
  unfold f_X7_firstOf
  exact (PF.bnd (wk_X7_isRow  h) (fun q1 hq1 => (PF.ite (fun _ => (PF.ret1 hq1)) (fun _ => (PF.ite (fun _ => (PF.ret1 hq1)) (fun _ => PF.none))))))
theorem wk_X5_isRecord {s : ST} {p0 : Int32} {σ : ST}   (h : KPK s σ) : PF st1 (KPK s) (f_X5_isRecord p0 σ) := by
  unfold f_X5_isRecord
  exact (PF.ite (fun _ => (PF.ret1 h)) (fun _ => (PF.ite (fun _ => (PF.ret1 h)) (fun _ => (PF.ret1 h)))))
theorem wk_X5_fieldsOf {s : ST} {b : Nat} {p0 : Int32} {σ : ST}   (h : KPK s σ) : PF st1 (KPK s) (f_X5_fieldsOf b p0 σ) := by
  unfold f_X5_fieldsOf
  exact (PF.bnd (wk_X5_isRecord  h) (fun q1 hq1 => (PF.ite (fun _ => (PF.ret1 hq1)) (fun _ => (PF.ite (fun _ => (PF.ret1 hq1)) (fun _ => PF.none))))))
theorem wk_X5_isFieldOf {s : ST} {p0 : Int32} {p1 : Int32} {σ : ST}   (h : KPK s σ) : PF st1 (KPK s) (f_X5_isFieldOf p0 p1 σ) := by
  unfold f_X5_isFieldOf
  exact (PF.ite (fun _ => (PF.ret1 h)) (fun _ => (PF.ite (fun _ => (PF.ret1 h)) (fun _ => (PF.ite (fun _ => (PF.ret1 h)) (fun _ => (PF.ite (fun _ => (PF.ret1 h)) (fun _ => (PF.ret1 h)))))))))
theorem wk_X5_typeOf {s : ST} {b : Nat} {p0 : Int32} {p1 : Int32} {σ : ST}   (h : KPK s σ) : PF st1 (KPK s) (f_X5_typeOf b p0 p1 σ) := by
  unfold f_X5_typeOf
  exact (PF.bnd (wk_X5_isFieldOf  h) (fun q1 hq1 => (PF.ite (fun _ => (PF.ret1 hq1)) (fun _ => (PF.ite (fun _ => (PF.ret1 hq1)) (fun _ => PF.none))))))
theorem wk_X5_isType {s : ST} {b : Nat} {p0 : Int32} {σ : ST}   (h : KPK s σ) : PF st1 (KPK s) (f_X5_isType b p0 σ) := by
  unfold f_X5_isType
  exact (PF.ite (fun _ => (PF.ret1 h)) (fun _ => (PF.ite (fun _ => (PF.ret1 h)) (fun _ => (PF.ite (fun _ => (PF.ret1 h)) (fun _ => (PF.ret1 h)))))))
theorem wk_X5_sortOf {s : ST} {b : Nat} {p0 : Int32} {σ : ST}   (h : KPK s σ) : PF st1 (KPK s) (f_X5_sortOf b p0 σ) := by
  unfold f_X5_sortOf
  exact (PF.bnd (wk_X5_isType  h) (fun q1 hq1 => (PF.ite (fun _ => (PF.ret1 hq1)) (fun _ => (PF.ite (fun _ => (PF.ret1 hq1)) (fun _ => PF.none))))))
theorem wk_X5_innerOf {s : ST} {b : Nat} {p0 : Int32} {σ : ST}   (h : KPK s σ) : PF st1 (KPK s) (f_X5_innerOf b p0 σ) := by
  unfold f_X5_innerOf
  exact (PF.bnd (wk_X5_isType  h) (fun q1 hq1 => (PF.ite (fun _ => (PF.ret1 hq1)) (fun _ => (PF.ite (fun _ => (PF.ret1 hq1)) (fun _ => PF.none))))))
theorem wk_X5_firstChoice {s : ST} {b : Nat} {p0 : Int32} {σ : ST}   (h : KPK s σ) : PF st1 (KPK s) (f_X5_firstChoice b p0 σ) := by
  unfold f_X5_firstChoice
  exact (PF.bnd (wk_X5_sortOf  h) (fun q1 hq1 => (PF.ite (fun _ => (PF.bnd (wk_X5_innerOf  hq1) (fun q3 hq3 => (PF.ret1 hq3)))) (fun _ => (PF.ret1 hq1)))))
theorem wk_X5_elseWorth {s : ST} {b : Nat} {p0 : Int32} {p1 : Int32} {σ : ST}   (h : KPK s σ) : PF st1 (KPK s) (f_X5_elseWorth b p0 p1 σ) := by
  unfold f_X5_elseWorth
  exact (PF.bnd (wk_X5_isFieldOf  h) (fun q1 hq1 => (PF.ite (fun _ => (PF.ret1 hq1)) (fun _ => (PF.ite (fun _ => (PF.ret1 hq1)) (fun _ => PF.none))))))
theorem wk_X2_put_21 {s : ST}  {σ : ST}   (h : KPK s σ) : PF st0 (KPK s) (f_X2_put_21 σ) := by
  unfold f_X2_put_21
  exact (PF.ret0 (KPK.i (by omega) h))
theorem wk_X2_put {s : ST} {p0 : Int32} {σ : ST}   (h : KPK s σ) : PF st0 (KPK s) (f_X2_put p0 σ) := by
  unfold f_X2_put
  exact (PF.ite (fun _ => (wk_X2_put_21  h)) (fun _ => (PF.ite (fun _ => (wk_X2_put_21  (KPK.i (by omega) h))) (fun _ => PF.none))))
theorem wk_X2_putNumber_54 {s : ST} {x3 : Int64} {σ : ST}   (h : KPK s σ) : PF st0 (KPK s) (f_X2_putNumber_54 x3 σ) := by
  unfold f_X2_putNumber_54
  exact (PF.bnd (wk_X2_put  h) (fun q1 hq1 => (PF.ret0 hq1)))
theorem wk_X2_putNumber_12 {s : ST}    : ∀ (n : Nat) (x1 : Int64) (x2 : Int32) (σ : ST), KPK s σ → PF st0 (KPK s) (f_X2_putNumber_12  n x1 x2 σ) := by
  intro n
  induction n with
  | zero => intro x1 x2 σ h; rw [f_X2_putNumber_12]; exact PF.none
  | succ n ih =>
    intro x1 x2 σ h
    rw [f_X2_putNumber_12]
    exact (PF.ite (fun _ => (wk_X2_putNumber_54  h)) (fun _ => (PF.ite (fun _ => (wk_X2_putNumber_54  h)) (fun _ => (PF.bnd (wk_X2_put  h) (fun q1 hq1 => (PF.val (ih _ _ _ hq1))))))))
theorem wk_X2_putNumber {s : ST} {p0 : Int64} {σ : ST}   (h : KPK s σ) : PF st0 (KPK s) (f_X2_putNumber p0 σ) := by
  unfold f_X2_putNumber
  exact (PF.val (wk_X2_putNumber_12  _ _ _ _ h))
theorem wk_X2_packPlain_61 {s : ST}    : ∀ (n : Nat) (x1 : Int64) (x2 : Int32) (σ : ST), KPK s σ → PF st0 (KPK s) (f_X2_packPlain_61  n x1 x2 σ) := by
  intro n
  induction n with
  | zero => intro x1 x2 σ h; rw [f_X2_packPlain_61]; exact PF.none
  | succ n ih =>
    intro x1 x2 σ h
    rw [f_X2_packPlain_61]
    exact (PF.ite (fun _ => (PF.ret0 h)) (fun _ => (PF.bnd (wk_X2_put  h) (fun q1 hq1 => (ih _ _ _ hq1)))))
theorem wk_X10_letterOf_10 {s : ST}  {σ : ST}   (h : KPK s σ) : PF st1 (KPK s) (f_X10_letterOf_10 σ) := by
  unfold f_X10_letterOf_10
  exact (PF.ret1 h)
theorem wk_X10_letterOf {s : ST} {p0 : Int64} {p1 : Int32} {σ : ST}   (h : KPK s σ) : PF st1 (KPK s) (f_X10_letterOf p0 p1 σ) := by
  unfold f_X10_letterOf
  exact (PF.ite (fun _ => (wk_X10_letterOf_10  h)) (fun _ => (PF.ite (fun _ => (PF.ret1 h)) (fun _ => (wk_X10_letterOf_10  h)))))
theorem wk_X10_lettersIn_2 {s : ST}    : ∀ (n : Nat) (x1 : Int64) (x2 : Int32) (σ : ST), KPK s σ → PF st1 (KPK s) (f_X10_lettersIn_2  n x1 x2 σ) := by
  intro n
  induction n with
  | zero => intro x1 x2 σ h; rw [f_X10_lettersIn_2]; exact PF.none
  | succ n ih =>
    intro x1 x2 σ h
    rw [f_X10_lettersIn_2]
    exact (PF.ite (fun _ => (PF.ret1 h)) (fun _ => (PF.bnd (wk_X10_letterOf  h) (fun q1 hq1 => (PF.ite (fun _ => (PF.ret1 hq1)) (fun _ => (ih _ _ _ hq1)))))))
theorem wk_X10_lettersIn {s : ST} {p0 : Int64} {σ : ST}   (h : KPK s σ) : PF st1 (KPK s) (f_X10_lettersIn p0 σ) := by
  unfold f_X10_lettersIn
  exact (wk_X10_lettersIn_2  _ _ _ _ h)
theorem wk_X2_packLetters_14 {s : ST}    : ∀ (n : Nat) (x1 : Int64) (x2 : Int32) (x3 : Int32) (σ : ST), KPK s σ → PF st0 (KPK s) (f_X2_packLetters_14  n x1 x2 x3 σ) := by
  intro n
  induction n with
  | zero => intro x1 x2 x3 σ h; rw [f_X2_packLetters_14]; exact PF.none
  | succ n ih =>
    intro x1 x2 x3 σ h
    rw [f_X2_packLetters_14]
    exact (PF.ite (fun _ => (PF.ret0 h)) (fun _ => (PF.bnd (wk_X10_letterOf  h) (fun q1 hq1 => (PF.bnd (wk_X2_put  hq1) (fun q3 hq3 => (ih _ _ _ _ hq3)))))))
theorem wk_X2_packLetters {s : ST} {p0 : Int64} {σ : ST}   (h : KPK s σ) : PF st0 (KPK s) (f_X2_packLetters p0 σ) := by
  unfold f_X2_packLetters
  exact (PF.bnd (wk_X10_lettersIn  h) (fun q1 hq1 => (PF.bnd (wk_X2_putNumber  hq1) (fun q3 hq3 => (wk_X2_packLetters_14  _ _ _ _ _ hq3)))))
theorem wk_X2_packPlain {s : ST} {p0 : Int32} {p1 : Int64} {σ : ST}   (h : KPK s σ) : PF st0 (KPK s) (f_X2_packPlain p0 p1 σ) := by
  unfold f_X2_packPlain
  exact (PF.ite (fun _ => (PF.bnd (wk_X2_put  h) (fun q7 hq7 => (PF.ret0 hq7)))) (fun _ => (PF.ite (fun _ => (PF.bnd (wk_X2_putNumber  h) (fun q9 hq9 => (PF.ret0 hq9)))) (fun _ => (PF.ite (fun _ => (PF.bnd (wk_X2_putNumber  h) (fun q11 hq11 => (PF.ret0 hq11)))) (fun _ => (PF.ite (fun _ => (wk_X2_packPlain_61  _ _ _ _ h)) (fun _ => (PF.ite (fun _ => (PF.bnd (wk_X2_packLetters  h) (fun q13 hq13 => (PF.ret0 hq13)))) (fun _ => (PF.ite (fun _ => (PF.bnd (wk_X2_putNumber  h) (fun q15 hq15 => (PF.ret0 hq15)))) (fun _ => (PF.ret0 h)))))))))))))
theorem wk_X2_packElse_21 {s : ST} {x1 : Int32} {x2 : Int32} {x4 : Int32} {σ : ST}   (h : KPK s σ) : PF st0 (KPK s) (f_X2_packElse_21 x1 x2 x4 σ) := by
  unfold f_X2_packElse_21
  exact (PF.bnd (wk_X5_sortOf  h) (fun q1 hq1 => (PF.bnd (wk_X5_elseWorth  hq1) (fun q3 hq3 => (PF.bnd (wk_X2_packPlain  hq3) (fun q5 hq5 => (PF.ret0 hq5)))))))
theorem wk_X2_packElse {s : ST} {p0 : Int32} {p1 : Int32} {p2 : Int32} {σ : ST}   (h : KPK s σ) : PF st0 (KPK s) (f_X2_packElse p0 p1 p2 σ) := by
  unfold f_X2_packElse
  exact (PF.bnd (wk_X5_firstChoice  h) (fun q1 hq1 => (PF.ite (fun _ => (wk_X2_packElse_21  hq1)) (fun _ => (PF.bnd (wk_X2_putNumber  hq1) (fun q3 hq3 => (wk_X2_packElse_21  hq3)))))))
theorem wk_X2_packFields_85 {s : ST} {r_X2_packFields : Nat → Int32 → Int32 → Int32 → ST → Option (ST)} {r_X2_packValue : Nat → Int32 → Int32 → Int32 → ST → Option (ST)} {k10 : Int32 → Int32 → Int32 → Int32 → ST → Option (ST)} {t : Nat} {x3 : Int32} {x4 : Int32} {x5 : Int32} {x6 : Int32} {σ : ST} (h_r_X2_packFields : ∀ (x1 : Nat) (x2 : Int32) (x3 : Int32) (x4 : Int32) (σ : ST), KPK s σ → PF st0 (KPK s) (r_X2_packFields x1 x2 x3 x4 σ)) (h_r_X2_packValue : ∀ (x1 : Nat) (x2 : Int32) (x3 : Int32) (x4 : Int32) (σ : ST), KPK s σ → PF st0 (KPK s) (r_X2_packValue x1 x2 x3 x4 σ)) (h_k10 : ∀ (x1 : Int32) (x2 : Int32) (x3 : Int32) (x4 : Int32) (σ : ST), KPK s σ → PF st0 (KPK s) (k10 x1 x2 x3 x4 σ))  (h : KPK s σ) : PF st0 (KPK s) (f_X2_packFields_85 r_X2_packFields r_X2_packValue k10 t x3 x4 x5 x6 σ) := by
  unfold f_X2_packFields_85
  exact (h_k10 _ _ _ _ _ h)
theorem wk_X2_packFields_76 {s : ST} {r_X2_packFields : Nat → Int32 → Int32 → Int32 → ST → Option (ST)} {r_X2_packValue : Nat → Int32 → Int32 → Int32 → ST → Option (ST)} {k10 : Int32 → Int32 → Int32 → Int32 → ST → Option (ST)} {t : Nat} {x3 : Int32} {x4 : Int32} {x5 : Int32} {x6 : Int32} {x7 : Int32} {σ : ST} (h_r_X2_packFields : ∀ (x1 : Nat) (x2 : Int32) (x3 : Int32) (x4 : Int32) (σ : ST), KPK s σ → PF st0 (KPK s) (r_X2_packFields x1 x2 x3 x4 σ)) (h_r_X2_packValue : ∀ (x1 : Nat) (x2 : Int32) (x3 : Int32) (x4 : Int32) (σ : ST), KPK s σ → PF st0 (KPK s) (r_X2_packValue x1 x2 x3 x4 σ)) (h_k10 : ∀ (x1 : Int32) (x2 : Int32) (x3 : Int32) (x4 : Int32) (σ : ST), KPK s σ → PF st0 (KPK s) (k10 x1 x2 x3 x4 σ))  (h : KPK s σ) : PF st0 (KPK s) (f_X2_packFields_76 r_X2_packFields r_X2_packValue k10 t x3 x4 x5 x6 x7 σ) := by
  unfold f_X2_packFields_76
  exact (PF.bnd (wk_X2_packElse  h) (fun q1 hq1 => (wk_X2_packFields_85 h_r_X2_packFields h_r_X2_packValue h_k10 hq1)))
theorem wk_X7_placeOf {s : ST} {b : Nat} {p0 : Int32} {σ : ST}   (h : KPK s σ) : PF st1 (KPK s) (f_X7_placeOf b p0 σ) := by
  unfold f_X7_placeOf
  exact (PF.bnd (wk_X7_isRow  h) (fun q1 hq1 => (PF.ite (fun _ => (PF.ret1 hq1)) (fun _ => (PF.ite (fun _ => (PF.ret1 hq1)) (fun _ => PF.none))))))
theorem wk_X7_nextOf {s : ST} {b : Nat} {p0 : Int32} {σ : ST}   (h : KPK s σ) : PF st1 (KPK s) (f_X7_nextOf b p0 σ) := by
  unfold f_X7_nextOf
  exact (PF.bnd (wk_X7_isRow  h) (fun q1 hq1 => (PF.ite (fun _ => (PF.ret1 hq1)) (fun _ => (PF.ite (fun _ => (PF.ret1 hq1)) (fun _ => PF.none))))))
theorem wk_X2_packFields_10 {s : ST} {r_X2_packFields : Nat → Int32 → Int32 → Int32 → ST → Option (ST)} {r_X2_packValue : Nat → Int32 → Int32 → Int32 → ST → Option (ST)} {t : Nat} (h_r_X2_packFields : ∀ (x1 : Nat) (x2 : Int32) (x3 : Int32) (x4 : Int32) (σ : ST), KPK s σ → PF st0 (KPK s) (r_X2_packFields x1 x2 x3 x4 σ)) (h_r_X2_packValue : ∀ (x1 : Nat) (x2 : Int32) (x3 : Int32) (x4 : Int32) (σ : ST), KPK s σ → PF st0 (KPK s) (r_X2_packValue x1 x2 x3 x4 σ))  : ∀ (n : Nat) (x1 : Int32) (x2 : Int32) (x3 : Int32) (x4 : Int32) (σ : ST), KPK s σ → PF st0 (KPK s) (f_X2_packFields_10 r_X2_packFields r_X2_packValue t n x1 x2 x3 x4 σ) := by
  intro n
  induction n with
  | zero => intro x1 x2 x3 x4 σ h; rw [f_X2_packFields_10]; exact PF.none
  | succ n ih =>
    intro x1 x2 x3 x4 σ h
    rw [f_X2_packFields_10]
    exact (PF.bnd (wk_X5_fieldsOf  h) (fun q1 hq1 => (PF.ite (fun _ => (PF.ret0 hq1)) (fun _ => (PF.bnd (wk_X5_typeOf  hq1) (fun q3 hq3 => (PF.ite (fun _ => (wk_X2_packFields_76 h_r_X2_packFields h_r_X2_packValue ih hq3)) (fun _ => (PF.bnd (wk_X7_placeOf  hq3) (fun q5 hq5 => (PF.ite (fun _ => (PF.bnd (h_r_X2_packValue _ _ _ _ _ hq5) (fun q7 hq7 => (PF.bnd (wk_X7_nextOf  hq7) (fun q9 hq9 => (wk_X2_packFields_85 h_r_X2_packFields h_r_X2_packValue ih hq9)))))) (fun _ => (wk_X2_packFields_76 h_r_X2_packFields h_r_X2_packValue ih hq5)))))))))))))
theorem wk_X2_packFields {s : ST} {r_X2_packFields : Nat → Int32 → Int32 → Int32 → ST → Option (ST)} {r_X2_packValue : Nat → Int32 → Int32 → Int32 → ST → Option (ST)} {t : Nat} {p1 : Int32} {p2 : Int32} {p3 : Int32} {σ : ST} (h_r_X2_packFields : ∀ (x1 : Nat) (x2 : Int32) (x3 : Int32) (x4 : Int32) (σ : ST), KPK s σ → PF st0 (KPK s) (r_X2_packFields x1 x2 x3 x4 σ)) (h_r_X2_packValue : ∀ (x1 : Nat) (x2 : Int32) (x3 : Int32) (x4 : Int32) (σ : ST), KPK s σ → PF st0 (KPK s) (r_X2_packValue x1 x2 x3 x4 σ))  (h : KPK s σ) : PF st0 (KPK s) (f_X2_packFields r_X2_packFields r_X2_packValue t p1 p2 p3 σ) := by
  unfold f_X2_packFields
  exact (PF.bnd (wk_X7_firstOf  h) (fun q1 hq1 => (wk_X2_packFields_10 h_r_X2_packFields h_r_X2_packValue _ _ _ _ _ _ hq1)))
theorem wk_X7_sortAt {s : ST} {b : Nat} {p0 : Int32} {σ : ST}   (h : KPK s σ) : PF st1 (KPK s) (f_X7_sortAt b p0 σ) := by
  unfold f_X7_sortAt
  exact (PF.bnd (wk_X7_isRow  h) (fun q1 hq1 => (PF.ite (fun _ => (PF.ret1 hq1)) (fun _ => (PF.ite (fun _ => (PF.ret1 hq1)) (fun _ => PF.none))))))
theorem wk_X2_packBranch_56 {s : ST} {x3 : Int32} {x4 : Int32} {σ : ST}   (h : KPK s σ) : PF st1 (KPK s) (f_X2_packBranch_56 x3 x4 σ) := by
  unfold f_X2_packBranch_56
  exact (PF.bnd (wk_X2_putNumber  h) (fun q1 hq1 => (PF.ret1 hq1)))
theorem wk_X5_branchAfter {s : ST} {b : Nat} {p0 : Int32} {σ : ST}   (h : KPK s σ) : PF st1 (KPK s) (f_X5_branchAfter b p0 σ) := by
  unfold f_X5_branchAfter
  exact (PF.bnd (wk_X5_isType  h) (fun q1 hq1 => (PF.ite (fun _ => (PF.ret1 hq1)) (fun _ => (PF.ite (fun _ => (PF.ret1 hq1)) (fun _ => PF.none))))))
theorem wk_X2_packBranch_15 {s : ST}    : ∀ (n : Nat) (x1 : Int32) (x2 : Int32) (x3 : Int32) (x4 : Int32) (σ : ST), KPK s σ → PF st1 (KPK s) (f_X2_packBranch_15  n x1 x2 x3 x4 σ) := by
  intro n
  induction n with
  | zero => intro x1 x2 x3 x4 σ h; rw [f_X2_packBranch_15]; exact PF.none
  | succ n ih =>
    intro x1 x2 x3 x4 σ h
    rw [f_X2_packBranch_15]
    exact (PF.ite (fun _ => (wk_X2_packBranch_56  h)) (fun _ => (PF.ite (fun _ => (wk_X2_packBranch_56  h)) (fun _ => (PF.bnd (wk_X5_sortOf  h) (fun q1 hq1 => (PF.ite (fun _ => (wk_X2_packBranch_56  hq1)) (fun _ => (PF.bnd (wk_X5_branchAfter  hq1) (fun q3 hq3 => (ih _ _ _ _ _ hq3)))))))))))
theorem wk_X2_packBranch {s : ST} {p0 : Int32} {p1 : Int32} {σ : ST}   (h : KPK s σ) : PF st1 (KPK s) (f_X2_packBranch p0 p1 σ) := by
  unfold f_X2_packBranch
  exact (PF.bnd (wk_X5_innerOf  h) (fun q1 hq1 => (wk_X2_packBranch_15  _ _ _ _ _ _ hq1)))
theorem wk_X7_sizeOf {s : ST} {b : Nat} {p0 : Int32} {σ : ST}   (h : KPK s σ) : PF st1 (KPK s) (f_X7_sizeOf b p0 σ) := by
  unfold f_X7_sizeOf
  exact (PF.bnd (wk_X7_isRow  h) (fun q1 hq1 => (PF.ite (fun _ => (PF.ret1 hq1)) (fun _ => (PF.ite (fun _ => (PF.ret1 hq1)) (fun _ => PF.none))))))
theorem wk_X2_packValue_95 {s : ST} {r_X2_packFields : Nat → Int32 → Int32 → Int32 → ST → Option (ST)} {r_X2_packValue : Nat → Int32 → Int32 → Int32 → ST → Option (ST)} {t : Nat} (h_r_X2_packFields : ∀ (x1 : Nat) (x2 : Int32) (x3 : Int32) (x4 : Int32) (σ : ST), KPK s σ → PF st0 (KPK s) (r_X2_packFields x1 x2 x3 x4 σ)) (h_r_X2_packValue : ∀ (x1 : Nat) (x2 : Int32) (x3 : Int32) (x4 : Int32) (σ : ST), KPK s σ → PF st0 (KPK s) (r_X2_packValue x1 x2 x3 x4 σ))  : ∀ (n : Nat) (x1 : Int32) (x2 : Int32) (x3 : Int32) (x4 : Int32) (σ : ST), KPK s σ → PF st0 (KPK s) (f_X2_packValue_95 r_X2_packFields r_X2_packValue t n x1 x2 x3 x4 σ) := by
  intro n
  induction n with
  | zero => intro x1 x2 x3 x4 σ h; rw [f_X2_packValue_95]; exact PF.none
  | succ n ih =>
    intro x1 x2 x3 x4 σ h
    rw [f_X2_packValue_95]
    exact (PF.ite (fun _ => (PF.ret0 h)) (fun _ => (PF.ite (fun _ => (PF.ret0 h)) (fun _ => (PF.bnd (wk_X5_innerOf  h) (fun q1 hq1 => (PF.bnd (h_r_X2_packValue _ _ _ _ _ hq1) (fun q3 hq3 => (PF.bnd (wk_X7_nextOf  hq3) (fun q5 hq5 => (ih _ _ _ _ _ hq5)))))))))))
theorem wk_X7_worthOf {s : ST} {b : Nat} {p0 : Int32} {σ : ST}   (h : KPK s σ) : PF st1 (KPK s) (f_X7_worthOf b p0 σ) := by
  unfold f_X7_worthOf
  exact (PF.bnd (wk_X7_isRow  h) (fun q1 hq1 => (PF.ite (fun _ => (PF.ret1 hq1)) (fun _ => (PF.ite (fun _ => (PF.ret1 hq1)) (fun _ => PF.none))))))
theorem wk_X2_packValue_39 {s : ST} {r_X2_packFields : Nat → Int32 → Int32 → Int32 → ST → Option (ST)} {r_X2_packValue : Nat → Int32 → Int32 → Int32 → ST → Option (ST)} {t : Nat} {x2 : Int32} {x4 : Int32} {x5 : Int32} {y0 : Int32} {σ : ST} (h_r_X2_packFields : ∀ (x1 : Nat) (x2 : Int32) (x3 : Int32) (x4 : Int32) (σ : ST), KPK s σ → PF st0 (KPK s) (r_X2_packFields x1 x2 x3 x4 σ)) (h_r_X2_packValue : ∀ (x1 : Nat) (x2 : Int32) (x3 : Int32) (x4 : Int32) (σ : ST), KPK s σ → PF st0 (KPK s) (r_X2_packValue x1 x2 x3 x4 σ))  (h : KPK s σ) : PF st0 (KPK s) (f_X2_packValue_39 r_X2_packFields r_X2_packValue t x2 x4 x5 y0 σ) := by
  unfold f_X2_packValue_39
  exact (PF.ite (fun _ => (PF.bnd (wk_X5_innerOf  h) (fun q11 hq11 => (PF.bnd (h_r_X2_packFields _ _ _ _ _ hq11) (fun q13 hq13 => (PF.ret0 hq13)))))) (fun _ => (PF.ite (fun _ => (PF.bnd (wk_X7_sizeOf  h) (fun q5 hq5 => (PF.bnd (wk_X2_putNumber  hq5) (fun q7 hq7 => (PF.bnd (wk_X7_firstOf  hq7) (fun q9 hq9 => (wk_X2_packValue_95 h_r_X2_packFields h_r_X2_packValue _ _ _ _ _ _ hq9)))))))) (fun _ => (PF.bnd (wk_X7_worthOf  h) (fun q1 hq1 => (PF.bnd (wk_X2_packPlain  hq1) (fun q3 hq3 => (PF.ret0 hq3)))))))))
theorem wk_X2_packValue {s : ST} {r_X2_packFields : Nat → Int32 → Int32 → Int32 → ST → Option (ST)} {r_X2_packValue : Nat → Int32 → Int32 → Int32 → ST → Option (ST)} {t : Nat} {p1 : Int32} {p2 : Int32} {p3 : Int32} {σ : ST} (h_r_X2_packFields : ∀ (x1 : Nat) (x2 : Int32) (x3 : Int32) (x4 : Int32) (σ : ST), KPK s σ → PF st0 (KPK s) (r_X2_packFields x1 x2 x3 x4 σ)) (h_r_X2_packValue : ∀ (x1 : Nat) (x2 : Int32) (x3 : Int32) (x4 : Int32) (σ : ST), KPK s σ → PF st0 (KPK s) (r_X2_packValue x1 x2 x3 x4 σ))  (h : KPK s σ) : PF st0 (KPK s) (f_X2_packValue r_X2_packFields r_X2_packValue t p1 p2 p3 σ) := by
  unfold f_X2_packValue
  exact (PF.ite (fun _ => (PF.bnd (wk_X7_sortAt  h) (fun q1 hq1 => (PF.bnd (wk_X5_sortOf  hq1) (fun q3 hq3 => (PF.ite (fun _ => (PF.bnd (wk_X2_packBranch  hq3) (fun q5 hq5 => (wk_X2_packValue_39 h_r_X2_packFields h_r_X2_packValue hq5)))) (fun _ => (wk_X2_packValue_39 h_r_X2_packFields h_r_X2_packValue hq3)))))))) (fun _ => (PF.ret0 h)))
theorem wkR_X2_packFields {s : ST} : ∀ n : Nat, (∀ (t : Nat) (p1 : Int32) (p2 : Int32) (p3 : Int32) (σ : ST), KPK s σ → PF st0 (KPK s) ((R_X2_packFields n).1 t p1 p2 p3 σ)) ∧ (∀ (t : Nat) (p1 : Int32) (p2 : Int32) (p3 : Int32) (σ : ST), KPK s σ → PF st0 (KPK s) ((R_X2_packFields n).2 t p1 p2 p3 σ)) := by
  intro n
  induction n with
  | zero => exact ⟨fun _ _ _ _ _ _ => PF.none, fun _ _ _ _ _ _ => PF.none⟩
  | succ n ih => exact ⟨fun _ _ _ _ _ h => wk_X2_packFields (ih.1) (ih.2)  h, fun _ _ _ _ _ h => wk_X2_packValue (ih.1) (ih.2)  h⟩
theorem wk_T_X2_packValue {s : ST} {t : Nat} {p1 : Int32} {p2 : Int32} {p3 : Int32} {σ : ST} (h : KPK s σ) : PF st0 (KPK s) (f_T_X2_packValue t p1 p2 p3 σ) := (wkR_X2_packFields FR).2 _ _ _ _ _  h
theorem wk_X11_writesByte {s : ST} {p0 : Int64} {σ : ST}   (h : KWR s σ) : PF st0 (KWR s) (f_X11_writesByte p0 σ) := by
  unfold f_X11_writesByte
  exact (PF.ite (fun _ => (PF.ret0 (KWR.i (by omega) h))) (fun _ => (PF.ite (fun _ => (PF.bnd (PF.ret0 (KWR.i (by omega) (KWR.i (by omega) h))) (fun z2 hz2 => (PF.ret0 hz2)))) (fun _ => PF.none))))
theorem wk_X11_writesNumber_9 {s : ST}    : ∀ (n : Nat) (x1 : Int64) (σ : ST), KWR s σ → PF st0 (KWR s) (f_X11_writesNumber_9  n x1 σ) := by
  intro n
  induction n with
  | zero => intro x1 σ h; rw [f_X11_writesNumber_9]; exact PF.none
  | succ n ih =>
    intro x1 σ h
    rw [f_X11_writesNumber_9]
    exact (PF.ite (fun _ => (PF.bnd (wk_X11_writesByte  h) (fun q1 hq1 => (PF.ret0 hq1)))) (fun _ => (PF.bnd (wk_X11_writesByte  h) (fun q3 hq3 => (PF.val (ih _ _ hq3))))))
theorem wk_X11_writesNumber {s : ST} {p0 : Int64} {σ : ST}   (h : KWR s σ) : PF st0 (KWR s) (f_X11_writesNumber p0 σ) := by
  unfold f_X11_writesNumber
  exact (PF.val (wk_X11_writesNumber_9  _ _ _ h))
theorem wk_X11_writes_89 {s : ST} {r_X11_writes : Int32 → ST → Option (ST)} (h_r_X11_writes : ∀ (x1 : Int32) (σ : ST), KWR s σ → PF st0 (KWR s) (r_X11_writes x1 σ))  : ∀ (n : Nat) (x1 : Int32) (x2 : Int32) (σ : ST), KWR s σ → PF st0 (KWR s) (f_X11_writes_89 r_X11_writes n x1 x2 σ) := by
  intro n
  induction n with
  | zero => intro x1 x2 σ h; rw [f_X11_writes_89]; exact PF.none
  | succ n ih =>
    intro x1 x2 σ h
    rw [f_X11_writes_89]
    exact (PF.ite (fun _ => (PF.ret0 h)) (fun _ => (PF.ite (fun _ => (PF.bnd (wk_X11_writesByte  h) (fun q2 hq2 => (ih _ _ _ hq2)))) (fun _ => PF.none))))
theorem wk_X11_writesText_87 {s : ST} {k42 : Int32 → Int64 → Int32 → ST → Option (ST)} {x1 : Int32} {x4 : Int32} {y0 : Int64} {y1 : Int64} {σ : ST} (h_k42 : ∀ (x1 : Int32) (x2 : Int64) (x3 : Int32) (σ : ST), KWR s σ → PF st0 (KWR s) (k42 x1 x2 x3 σ))  (h : KWR s σ) : PF st0 (KWR s) (f_X11_writesText_87 k42 x1 x4 y0 y1 σ) := by
  unfold f_X11_writesText_87
  exact (PF.ite (fun _ => (h_k42 _ _ _ _ h)) (fun _ => PF.none))
theorem wk_X11_writesText_42 {s : ST}    : ∀ (n : Nat) (x1 : Int32) (x2 : Int64) (x3 : Int32) (σ : ST), KWR s σ → PF st0 (KWR s) (f_X11_writesText_42  n x1 x2 x3 σ) := by
  intro n
  induction n with
  | zero => intro x1 x2 x3 σ h; rw [f_X11_writesText_42]; exact PF.none
  | succ n ih =>
    intro x1 x2 x3 σ h
    rw [f_X11_writesText_42]
    exact (PF.ite (fun _ => (PF.ite (fun _ => (PF.ret0 h)) (fun _ => (PF.ite (fun _ => (PF.bnd (wk_X11_writesByte  h) (fun q3 hq3 => (PF.ite (fun _ => (wk_X11_writesText_87 ih hq3)) (fun _ => (wk_X11_writesText_87 ih hq3)))))) (fun _ => PF.none))))) (fun _ => PF.none))
theorem wk_X11_writesText_16 {s : ST}    : ∀ (n : Nat) (x1 : Int32) (x2 : Int64) (x3 : Int32) (σ : ST), KWR s σ → PF st0 (KWR s) (f_X11_writesText_16  n x1 x2 x3 σ) := by
  intro n
  induction n with
  | zero => intro x1 x2 x3 σ h; rw [f_X11_writesText_16]; exact PF.none
  | succ n ih =>
    intro x1 x2 x3 σ h
    rw [f_X11_writesText_16]
    exact (PF.ite (fun _ => (PF.ite (fun _ => (wk_X11_writesText_42  _ _ _ _ _ h)) (fun _ => (ih _ _ _ _ h)))) (fun _ => PF.none))
theorem wk_X11_writesText {s : ST} {p0 : Int32} {σ : ST}   (h : KWR s σ) : PF st0 (KWR s) (f_X11_writesText p0 σ) := by
  unfold f_X11_writesText
  exact (PF.ite (fun _ => (PF.bnd (wk_X11_writesNumber  h) (fun q2 hq2 => (wk_X11_writesText_16  _ _ _ _ _ hq2)))) (fun _ => PF.none))
theorem wk_X11_writes_155 {s : ST} {r_X11_writes : Int32 → ST → Option (ST)} (h_r_X11_writes : ∀ (x1 : Int32) (σ : ST), KWR s σ → PF st0 (KWR s) (r_X11_writes x1 σ))  : ∀ (n : Nat) (x1 : Int32) (σ : ST), KWR s σ → PF st0 (KWR s) (f_X11_writes_155 r_X11_writes n x1 σ) := by
  intro n
  induction n with
  | zero => intro x1 σ h; rw [f_X11_writes_155]; exact PF.none
  | succ n ih =>
    intro x1 σ h
    rw [f_X11_writes_155]
    exact (PF.ite (fun _ => (PF.ret0 h)) (fun _ => (PF.ite (fun _ => (PF.bnd (h_r_X11_writes _ _ h) (fun q1 hq1 => (PF.ite (fun _ => (ih _ _ hq1)) (fun _ => PF.none))))) (fun _ => (PF.ret0 h)))))
theorem wk_X11_writes_148 {s : ST} {r_X11_writes : Int32 → ST → Option (ST)} {x1 : Int32} {σ : ST} (h_r_X11_writes : ∀ (x1 : Int32) (σ : ST), KWR s σ → PF st0 (KWR s) (r_X11_writes x1 σ))  (h : KWR s σ) : PF st0 (KWR s) (f_X11_writes_148 r_X11_writes x1 σ) := by
  unfold f_X11_writes_148
  exact (PF.ite (fun _ => (wk_X11_writes_155 h_r_X11_writes _ _ _ h)) (fun _ => PF.none))
theorem wk_X11_writes_20 {s : ST} {r_X11_writes : Int32 → ST → Option (ST)} {x1 : Int32} {σ : ST} (h_r_X11_writes : ∀ (x1 : Int32) (σ : ST), KWR s σ → PF st0 (KWR s) (r_X11_writes x1 σ))  (h : KWR s σ) : PF st0 (KWR s) (f_X11_writes_20 r_X11_writes x1 σ) := by
  unfold f_X11_writes_20
  exact (PF.ite (fun _ => (PF.ite (fun _ => (PF.bnd (wk_X11_writesByte  h) (fun q7 hq7 => (PF.ret0 hq7)))) (fun _ => (PF.ite (fun _ => (PF.bnd (wk_X11_writesNumber  h) (fun q9 hq9 => (PF.ret0 hq9)))) (fun _ => (PF.ite (fun _ => (PF.bnd (wk_X11_writesNumber  h) (fun q11 hq11 => (PF.ret0 hq11)))) (fun _ => (PF.ite (fun _ => (wk_X11_writes_89 h_r_X11_writes _ _ _ _ h)) (fun _ => (PF.ite (fun _ => (PF.bnd (wk_X11_writesText  h) (fun q13 hq13 => (PF.ret0 hq13)))) (fun _ => (PF.ite (fun _ => (PF.bnd (wk_X11_writesNumber  h) (fun q15 hq15 => (wk_X11_writes_148 h_r_X11_writes hq15)))) (fun _ => (wk_X11_writes_148 h_r_X11_writes h)))))))))))))) (fun _ => PF.none))
theorem wk_X11_writes {s : ST} {r_X11_writes : Int32 → ST → Option (ST)} {p0 : Int32} {σ : ST} (h_r_X11_writes : ∀ (x1 : Int32) (σ : ST), KWR s σ → PF st0 (KWR s) (r_X11_writes x1 σ))  (h : KWR s σ) : PF st0 (KWR s) (f_X11_writes r_X11_writes p0 σ) := by
  unfold f_X11_writes
  exact (PF.ite (fun _ => (PF.ite (fun _ => (wk_X11_writes_20 h_r_X11_writes h)) (fun _ => (PF.bnd (wk_X11_writesNumber  h) (fun q2 hq2 => (wk_X11_writes_20 h_r_X11_writes hq2)))))) (fun _ => PF.none))
theorem wkR_X11_writes {s : ST} : ∀ n : Nat, (∀ (p0 : Int32) (σ : ST), KWR s σ → PF st0 (KWR s) ((R_X11_writes n) p0 σ)) := by
  intro n
  induction n with
  | zero => exact fun _ _ _ => PF.none
  | succ n ih => exact fun _ _ h => wk_X11_writes ih  h
theorem wk_T_X11_writes {s : ST} {p0 : Int32} {σ : ST} (h : KWR s σ) : PF st0 (KWR s) (f_T_X11_writes p0 σ) := (wkR_X11_writes FRB) _ _  h
