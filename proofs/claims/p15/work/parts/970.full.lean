/-! what reading bytes leaves alone (wip/st5/frames9.py); a tree that is full -/
def KBY (B0 : Nat) (s σ : ST) : Prop := (∀ c, c ≠ B0 → σ.1 c = s.1 c) ∧ (∀ i, i ≠ 5 → i ≠ 7 → i ≠ 8 → i ≠ 10 → σ.1 B0 i = s.1 B0 i) ∧ σ.2 = s.2
theorem KBY.rf {B0 : Nat} {s : ST} : KBY B0 s s := ⟨fun _ _ => rfl, fun _ _ _ _ _ => rfl, rfl⟩
theorem KBY.i {B0 : Nat} {s σ : ST} {c i : Nat} {v : Int32} (hc : c = B0 ∧ (i = 5 ∨ i = 7 ∨ i = 8 ∨ i = 10)) (h : KBY B0 s σ) : KBY B0 s (stI σ c i v) := by
  obtain ⟨hc, hi⟩ := hc
  subst hc
  refine ⟨fun d hd => (stI_ne hd).trans (h.1 d hd), fun j a b d e => ?_, h.2.2⟩
  rw [stI_at, upN (by omega)]
  exact h.2.1 j a b d e
theorem wb_X4_fail {B0 : Nat} {s : ST} {b : Nat} {t : Nat} {p0 : Int32} {p1 : Int32} {σ : ST} (h_b : B0 = b) (h : KBY B0 s σ) : PF st0 (KBY B0 s) (f_X4_fail b t p0 p1 σ) := by
  subst h_b
  have k : KBY B0 s (stI (stI σ B0 7 p0) B0 8 p1) := KBY.i ⟨rfl, .inr (.inr (.inl rfl))⟩ (h.i ⟨rfl, .inr (.inl rfl)⟩)
  unfold f_X4_fail f_X4_fail_29
  exact PF.ite (fun _ => PF.ite (fun _ => PF.ret0 (k.i ⟨rfl, .inr (.inr (.inr rfl))⟩)) (fun _ => PF.ite (fun _ => PF.ret0 (k.i ⟨rfl, .inr (.inr (.inr rfl))⟩)) (fun _ => PF.ret0 k))) (fun _ => PF.ret0 h)
theorem wb_X4_takeNumber_70 {B0 : Nat} {s : ST} {b : Nat} {t : Nat} {x2 : Int64} {σ : ST}   (h : KBY B0 s σ) : PF st1 (KBY B0 s) (f_X4_takeNumber_70 b t x2 σ) := by
  unfold f_X4_takeNumber_70
  exact (PF.ite (fun _ => (PF.ret1 h)) (fun _ => (PF.ret1 h)))
theorem wb_X1_byteOf {B0 : Nat} {s : ST} {p0 : Int32} {p1 : Int32} {σ : ST}   (h : KBY B0 s σ) : PF st1 (KBY B0 s) (f_X1_byteOf p0 p1 σ) := by
  unfold f_X1_byteOf
  exact (PF.ite (fun _ => (PF.ret1 h)) (fun _ => (PF.ite (fun _ => (PF.ret1 h)) (fun _ => (PF.ite (fun _ => (PF.ret1 h)) (fun _ => PF.none))))))
theorem wb_X4_takeByte {B0 : Nat} {s : ST} {b : Nat} {t : Nat} {σ : ST}  (h_b : B0 = b) (h : KBY B0 s σ) : PF st1 (KBY B0 s) (f_X4_takeByte b t σ) := by
  unfold f_X4_takeByte
  exact (PF.ite (fun _ => (PF.ite (fun _ => (PF.bnd (wb_X1_byteOf  h) (fun q1 hq1 => (PF.ret1 (KBY.i (by omega) hq1))))) (fun _ => (PF.bnd (wb_X4_fail (by omega) h) (fun q3 hq3 => (PF.ret1 hq3)))))) (fun _ => (PF.ret1 h)))
theorem wb_X4_takeNumber_38 {B0 : Nat} {s : ST} {k5 : Int32 → Int64 → Int32 → ST → Option (Int64 × ST)} {b : Nat} {t : Nat} {x1 : Int32} {x2 : Int64} {x4 : Int32} {x5 : Int32} {σ : ST} (h_k5 : ∀ (x1 : Int32) (x2 : Int64) (x3 : Int32) (σ : ST), KBY B0 s σ → PF st1 (KBY B0 s) (k5 x1 x2 x3 σ))  (h : KBY B0 s σ) : PF st1 (KBY B0 s) (f_X4_takeNumber_38 k5 b t x1 x2 x4 x5 σ) := by
  unfold f_X4_takeNumber_38
  exact (PF.ite (fun _ => (h_k5 _ _ _ _ h)) (fun _ => (wb_X4_takeNumber_70  h)))
theorem wb_X4_takeNumber_5 {B0 : Nat} {s : ST} {b : Nat} {t : Nat}  (h_b : B0 = b) : ∀ (n : Nat) (x1 : Int32) (x2 : Int64) (x3 : Int32) (σ : ST), KBY B0 s σ → PF st1 (KBY B0 s) (f_X4_takeNumber_5 b t n x1 x2 x3 σ) := by
  intro n
  induction n with
  | zero => intro x1 x2 x3 σ h; rw [f_X4_takeNumber_5]; exact PF.none
  | succ n ih =>
    intro x1 x2 x3 σ h
    rw [f_X4_takeNumber_5]
    exact (PF.ite (fun _ => (wb_X4_takeNumber_70  h)) (fun _ => (PF.bnd (wb_X4_takeByte (by omega) h) (fun q1 hq1 => (PF.ite (fun _ => (PF.ite (fun _ => (wb_X4_takeNumber_38 ih hq1)) (fun _ => (PF.bnd (wb_X4_fail (by omega) hq1) (fun q3 hq3 => (wb_X4_takeNumber_38 ih hq3)))))) (fun _ => (wb_X4_takeNumber_38 ih hq1)))))))
theorem wb_X4_takeNumber {B0 : Nat} {s : ST} {b : Nat} {t : Nat} {p0 : Int32} {σ : ST}  (h_b : B0 = b) (h : KBY B0 s σ) : PF st1 (KBY B0 s) (f_X4_takeNumber b t p0 σ) := by
  unfold f_X4_takeNumber
  exact (wb_X4_takeNumber_5 (by omega) _ _ _ _ _ h)
theorem wb_X4_takeReal_44 {B0 : Nat} {s : ST} {b : Nat} {t : Nat} {x1 : Int64} {y0 : Int32} {σ : ST}   (h : KBY B0 s σ) : PF st1 (KBY B0 s) (f_X4_takeReal_44 b t x1 y0 σ) := by
  unfold f_X4_takeReal_44
  exact (PF.ite (fun _ => (PF.ret1 h)) (fun _ => (PF.ret1 h)))
theorem wb_X4_takeReal_4 {B0 : Nat} {s : ST} {b : Nat} {t : Nat}  (h_b : B0 = b) : ∀ (n : Nat) (x1 : Int64) (x2 : Int32) (σ : ST), KBY B0 s σ → PF st1 (KBY B0 s) (f_X4_takeReal_4 b t n x1 x2 σ) := by
  intro n
  induction n with
  | zero => intro x1 x2 σ h; rw [f_X4_takeReal_4]; exact PF.none
  | succ n ih =>
    intro x1 x2 σ h
    rw [f_X4_takeReal_4]
    exact (PF.ite (fun _ => (PF.ite (fun _ => (wb_X4_takeReal_44  h)) (fun _ => (wb_X4_takeReal_44  h)))) (fun _ => (PF.bnd (wb_X4_takeByte (by omega) h) (fun q1 hq1 => (ih _ _ _ hq1)))))
theorem wb_X4_takeReal {B0 : Nat} {s : ST} {b : Nat} {t : Nat} {σ : ST}  (h_b : B0 = b) (h : KBY B0 s σ) : PF st1 (KBY B0 s) (f_X4_takeReal b t σ) := by
  unfold f_X4_takeReal
  exact (wb_X4_takeReal_4 (by omega) _ _ _ _ h)
theorem wb_X4_takeCount_26 {B0 : Nat} {s : ST} {b : Nat} {t : Nat} {x3 : Int64} {σ : ST}   (h : KBY B0 s σ) : PF st1 (KBY B0 s) (f_X4_takeCount_26 b t x3 σ) := by
  unfold f_X4_takeCount_26
  exact (PF.ite (fun _ => (PF.ret1 h)) (fun _ => (PF.ret1 h)))
theorem wb_X4_takeCount_19 {B0 : Nat} {s : ST} {b : Nat} {t : Nat} {x1 : Int32} {x3 : Int64} {σ : ST}  (h_b : B0 = b) (h : KBY B0 s σ) : PF st1 (KBY B0 s) (f_X4_takeCount_19 b t x1 x3 σ) := by
  unfold f_X4_takeCount_19
  exact (PF.bnd (wb_X4_fail (by omega) h) (fun q1 hq1 => (wb_X4_takeCount_26  hq1)))
theorem wb_X4_takeCount {B0 : Nat} {s : ST} {b : Nat} {t : Nat} {p0 : Int32} {p1 : Int32} {σ : ST}  (h_b : B0 = b) (h : KBY B0 s σ) : PF st1 (KBY B0 s) (f_X4_takeCount b t p0 p1 σ) := by
  unfold f_X4_takeCount
  exact (PF.bnd (wb_X4_takeNumber (by omega) h) (fun q1 hq1 => (PF.ite (fun _ => (wb_X4_takeCount_19 (by omega) hq1)) (fun _ => (PF.ite (fun _ => (wb_X4_takeCount_26  hq1)) (fun _ => (wb_X4_takeCount_19 (by omega) hq1)))))))
theorem wb_X4_takeLetters_45 {B0 : Nat} {s : ST} {k5 : Int32 → Int32 → Int64 → Int32 → ST → Option (Int64 × ST)} {b : Nat} {t : Nat} {x1 : Int32} {x2 : Int32} {x3 : Int64} {x5 : Int32} {x6 : Int32} {σ : ST} (h_k5 : ∀ (x1 : Int32) (x2 : Int32) (x3 : Int64) (x4 : Int32) (σ : ST), KBY B0 s σ → PF st1 (KBY B0 s) (k5 x1 x2 x3 x4 σ))  (h : KBY B0 s σ) : PF st1 (KBY B0 s) (f_X4_takeLetters_45 k5 b t x1 x2 x3 x5 x6 σ) := by
  unfold f_X4_takeLetters_45
  exact (PF.val (h_k5 _ _ _ _ _ h))
theorem wb_X4_takeLetters_38 {B0 : Nat} {s : ST} {k5 : Int32 → Int32 → Int64 → Int32 → ST → Option (Int64 × ST)} {b : Nat} {t : Nat} {x1 : Int32} {x2 : Int32} {x3 : Int64} {x5 : Int32} {x6 : Int32} {σ : ST} (h_k5 : ∀ (x1 : Int32) (x2 : Int32) (x3 : Int64) (x4 : Int32) (σ : ST), KBY B0 s σ → PF st1 (KBY B0 s) (k5 x1 x2 x3 x4 σ)) (h_b : B0 = b) (h : KBY B0 s σ) : PF st1 (KBY B0 s) (f_X4_takeLetters_38 k5 b t x1 x2 x3 x5 x6 σ) := by
  unfold f_X4_takeLetters_38
  exact (PF.bnd (wb_X4_fail (by omega) h) (fun q1 hq1 => (wb_X4_takeLetters_45 h_k5 hq1)))
theorem wb_X4_takeLetters_5 {B0 : Nat} {s : ST} {b : Nat} {t : Nat}  (h_b : B0 = b) : ∀ (n : Nat) (x1 : Int32) (x2 : Int32) (x3 : Int64) (x4 : Int32) (σ : ST), KBY B0 s σ → PF st1 (KBY B0 s) (f_X4_takeLetters_5 b t n x1 x2 x3 x4 σ) := by
  intro n
  induction n with
  | zero => intro x1 x2 x3 x4 σ h; rw [f_X4_takeLetters_5]; exact PF.none
  | succ n ih =>
    intro x1 x2 x3 x4 σ h
    rw [f_X4_takeLetters_5]
    exact (PF.ite (fun _ => (PF.ret1 h)) (fun _ => (PF.ite (fun _ => (PF.bnd (wb_X4_takeByte (by omega) h) (fun q1 hq1 => (PF.ite (fun _ => (wb_X4_takeLetters_38 ih (by omega) hq1)) (fun _ => (PF.ite (fun _ => (wb_X4_takeLetters_45 ih hq1)) (fun _ => (wb_X4_takeLetters_38 ih (by omega) hq1)))))))) (fun _ => (PF.ret1 h)))))
theorem wb_X4_takeLetters {B0 : Nat} {s : ST} {b : Nat} {t : Nat} {p0 : Int32} {p1 : Int32} {σ : ST}  (h_b : B0 = b) (h : KBY B0 s σ) : PF st1 (KBY B0 s) (f_X4_takeLetters b t p0 p1 σ) := by
  unfold f_X4_takeLetters
  exact (wb_X4_takeLetters_5 (by omega) _ _ _ _ _ _ h)
theorem wb_X10_isInt {B0 : Nat} {s : ST} {p0 : Int64} {σ : ST}   (h : KBY B0 s σ) : PF st1 (KBY B0 s) (f_X10_isInt p0 σ) := by
  unfold f_X10_isInt
  exact (PF.ite (fun _ => (PF.ret1 h)) (fun _ => (PF.ite (fun _ => (PF.ret1 h)) (fun _ => (PF.ret1 h)))))
theorem wb_X5_isType {B0 : Nat} {s : ST} {b : Nat} {p0 : Int32} {σ : ST}   (h : KBY B0 s σ) : PF st1 (KBY B0 s) (f_X5_isType b p0 σ) := by
  unfold f_X5_isType
  exact (PF.ite (fun _ => (PF.ret1 h)) (fun _ => (PF.ite (fun _ => (PF.ret1 h)) (fun _ => (PF.ite (fun _ => (PF.ret1 h)) (fun _ => (PF.ret1 h)))))))
theorem wb_X5_sortOf {B0 : Nat} {s : ST} {b : Nat} {p0 : Int32} {σ : ST}   (h : KBY B0 s σ) : PF st1 (KBY B0 s) (f_X5_sortOf b p0 σ) := by
  unfold f_X5_sortOf
  exact (PF.bnd (wb_X5_isType  h) (fun q1 hq1 => (PF.ite (fun _ => (PF.ret1 hq1)) (fun _ => (PF.ite (fun _ => (PF.ret1 hq1)) (fun _ => PF.none))))))
theorem wb_X5_innerOf {B0 : Nat} {s : ST} {b : Nat} {p0 : Int32} {σ : ST}   (h : KBY B0 s σ) : PF st1 (KBY B0 s) (f_X5_innerOf b p0 σ) := by
  unfold f_X5_innerOf
  exact (PF.bnd (wb_X5_isType  h) (fun q1 hq1 => (PF.ite (fun _ => (PF.ret1 hq1)) (fun _ => (PF.ite (fun _ => (PF.ret1 hq1)) (fun _ => PF.none))))))
theorem wb_X5_isRecord {B0 : Nat} {s : ST} {p0 : Int32} {σ : ST}   (h : KBY B0 s σ) : PF st1 (KBY B0 s) (f_X5_isRecord p0 σ) := by
  unfold f_X5_isRecord
  exact (PF.ite (fun _ => (PF.ret1 h)) (fun _ => (PF.ite (fun _ => (PF.ret1 h)) (fun _ => (PF.ret1 h)))))
theorem wb_X5_fieldsOf {B0 : Nat} {s : ST} {b : Nat} {p0 : Int32} {σ : ST}   (h : KBY B0 s σ) : PF st1 (KBY B0 s) (f_X5_fieldsOf b p0 σ) := by
  unfold f_X5_fieldsOf
  exact (PF.bnd (wb_X5_isRecord  h) (fun q1 hq1 => (PF.ite (fun _ => (PF.ret1 hq1)) (fun _ => (PF.ite (fun _ => (PF.ret1 hq1)) (fun _ => PF.none))))))
/-- both frames at once -/
def KFB (b t : Nat) (s σ : ST) : Prop := KRA b t s σ ∧ KBY b s σ
theorem a_addFull {b t : Nat} (hb : BT b t) (y pa pl n : Int32) (w : Int64) {s : ST} (hy : ¬ y = -1) (h400 : 400 ≤ (s.1 t 1).toInt) : QT (f_X4_addNode b t y pa pl n w s) (fun q => ¬ q.2.1 b 7 = 0) := by
  have l400 := li_400
  have lm := li_m1
  unfold f_X4_addNode
  refine QT.ite (fun h => absurd h hy) (fun _ => ?_)
  refine QT.ite (fun _ => ?_) (fun h => QT.ret h)
  refine QT.grd (fun _ => ?_)
  refine QT.ile (fun _ => ?_) (fun h => by omega)
  unfold f_X4_addNode_48
  refine QT.ite (fun _ => ?_) (fun h => absurd rfl h)
  refine QT.bnd (a_failed hb 15 (-1) s (by decide)) (fun s2 hs2 => ?_)
  unfold f_X4_addNode_63
  refine QT.grd (fun _ => QT.bnd (Q := fun z => z = s2) ?_ (fun z hz => QT.ret (by rw [hz]; exact hs2)))
  unfold f_X7_setWorth
  refine QT.bnd (pt_isRow t (-1) s2) (fun q hq => ?_)
  obtain ⟨v, s'⟩ := q
  obtain ⟨e, hv⟩ := hq
  have e : s' = s2 := e
  subst e
  dsimp only
  refine QT.ieq (fun _ => QT.ret rfl) (fun h => ?_)
  exfalso
  have l0 := li_0
  have hv : v.toInt = 0 ∧ ¬ (0 ≤ (-1 : Int32).toInt ∧ (-1 : Int32).toInt < (s'.1 t 1).toInt ∧ (-1 : Int32).toInt < (s'.1 t 0).toInt) ∨ v.toInt = 1 ∧ 0 ≤ (-1 : Int32).toInt ∧ (-1 : Int32).toInt < (s'.1 t 1).toInt ∧ (-1 : Int32).toInt < (s'.1 t 0).toInt := hv
  omega
theorem f_137 {b t : Nat} (hb : BT b t) (s0 uA pa pl n : Int32) (w : Int64) {s : ST} (hy : ¬ uA = -1) (h400 : 400 ≤ (s.1 t 1).toInt) : QT (f_X4_takePlain_137 b t s0 uA pa pl n w s) (fun z => ¬ z.1 b 7 = 0) := by
  by_cases h7 : s.1 b 7 = 0
  rotate_left
  · exact ad_plain137 hb h7 _ _ _ _ _ _
  have k183 : ∀ (v : Int64) (z : ST), 400 ≤ (z.1 t 1).toInt → QT (f_X4_takePlain_183 b t v n pl pa uA z) (fun z => ¬ z.1 b 7 = 0) := fun v z hz => by
    unfold f_X4_takePlain_183
    exact QT.bnd (a_addFull hb uA pa pl n v hy hz) (fun q hq => QT.ret hq)
  unfold f_X4_takePlain_137 f_X4_takePlain_158 f_X4_takePlain_159
  refine QT.ite (fun _ => QT.ite (fun _ => k183 w s h400) (fun h => absurd rfl h)) (fun _ => ?_)
  refine QT.bnd (Q := fun z => KRA b t s z.2 ∧ KBY b s z.2) (fun z e => ⟨wr_X5_sortOf (B0 := b) (T0 := t) (s := s) (KRA.rf hb) z e, wb_X5_sortOf (B0 := b) (s := s) KBY.rf z e⟩) (fun z hz => ?_)
  have hb' := hb
  unfold BT at hb'
  have hz4 : 400 ≤ (z.2.1 t 1).toInt := by rw [hz.2.1 t (by omega)]; exact h400
  refine QT.ite (fun _ => QT.ite (fun _ => k183 w z.2 hz4) (fun _ => ?_)) (fun _ => QT.ite (fun _ => k183 w z.2 hz4) (fun h => absurd rfl h))
  exact QT.bnd (whole_bits w z.2) (fun q hq => k183 q.1 q.2 (by rw [hq.1]; exact hz4))
/-- a plain value finds no room -/
theorem f_plain {b t : Nat} (hb : BT b t) (s0 uA pa pl : Int32) {σ : ST} (hy : ¬ uA = -1) (h400 : 400 ≤ (σ.1 t 1).toInt) : QT (f_X4_takePlain b t s0 uA pa pl σ) (fun z => ¬ z.1 b 7 = 0) := by
  have hb' := hb
  unfold BT at hb'
  have k : ∀ (n : Int32) (w : Int64) (z : ST), KBY b σ z → QT (f_X4_takePlain_137 b t s0 uA pa pl n w z) (fun z => ¬ z.1 b 7 = 0) := fun n w z hz => f_137 hb s0 uA pa pl n w hy (by rw [hz.1 t (by omega)]; exact h400)
  have kf : ∀ (p0 p1 : Int32) (z : ST), KBY b σ z → QT (f_X4_fail b t p0 p1 z) (fun s => KBY b σ s) := fun p0 p1 z hz s e => wb_X4_fail (B0 := b) rfl hz s e
  unfold f_X4_takePlain
  refine QT.ite (fun _ => ?_) (fun _ => QT.ite (fun _ => ?_) (fun _ => QT.ite (fun _ => ?_) (fun _ => QT.ite (fun _ => ?_) (fun _ => QT.ite (fun _ => ?_) (fun _ => k 0 0 σ KBY.rf)))))
  · refine QT.bnd (Q := fun z => KBY b σ z.2) (fun z e => wb_X4_takeByte (B0 := b) rfl KBY.rf z e) (fun z hz => ?_)
    exact QT.ite (fun _ => k _ _ _ hz) (fun _ => QT.bnd (kf _ _ _ hz) (fun s hs => k _ _ _ hs))
  · refine QT.bnd (Q := fun z => KBY b σ z.2) (fun z e => wb_X4_takeNumber (B0 := b) rfl KBY.rf z e) (fun z hz => ?_)
    refine QT.ite (fun _ => ?_) (fun _ => k _ _ _ hz)
    refine QT.bnd (Q := fun z => KBY b σ z.2) (fun z' e => wb_X10_isInt (B0 := b) hz z' e) (fun z' hz' => ?_)
    exact QT.ite (fun _ => QT.bnd (kf _ _ _ hz') (fun s hs => k _ _ _ hs)) (fun _ => k _ _ _ hz')
  · refine QT.bnd (Q := fun z => KBY b σ z.2) (fun z e => wb_X4_takeNumber (B0 := b) rfl KBY.rf z e) (fun z hz => ?_)
    refine QT.ite (fun _ => ?_) (fun _ => k _ _ _ hz)
    refine QT.bnd (Q := fun z => KBY b σ z.2) (fun z' e => wb_X10_isInt (B0 := b) hz z' e) (fun z' hz' => ?_)
    exact QT.ite (fun _ => QT.bnd (kf _ _ _ hz') (fun s hs => k _ _ _ hs)) (fun _ => k _ _ _ hz')
  · exact QT.bnd (Q := fun z => KBY b σ z.2) (fun z e => wb_X4_takeReal (B0 := b) rfl KBY.rf z e) (fun z hz => k _ _ _ hz)
  · refine QT.bnd (Q := fun z => KBY b σ z.2) (fun z e => wb_X4_takeCount (B0 := b) rfl KBY.rf z e) (fun z hz => ?_)
    exact QT.bnd (Q := fun z => KBY b σ z.2) (fun z' e => wb_X4_takeLetters (B0 := b) rfl hz z' e) (fun z' hz' => k _ _ _ hz')
/-- a list, a record finds no room -/
theorem f_list {rT rF rL rO rR : FTK} {b t : Nat} (hb : BT b t) (x1 uA pa pl lev : Int32) {σ : ST} (hy : ¬ uA = -1) (h400 : 400 ≤ (σ.1 t 1).toInt) : QT (f_X4_takeList rT rF rL rO rR b t x1 uA pa pl lev σ) (fun z => ¬ z.1 b 7 = 0) := by
  have hb' := hb
  unfold BT at hb'
  unfold f_X4_takeList f_X4_takeList_43
  refine QT.bnd (Q := fun z => KBY b σ z.2) (fun z e => wb_X4_takeCount (B0 := b) rfl KBY.rf z e) (fun q1 hq1 => ?_)
  refine QT.bnd (a_addFull hb uA pa pl q1.1 0 hy (by rw [hq1.1 t (by omega)]; exact h400)) (fun q3 h3 => ?_)
  refine QT.ite (fun h => absurd h hy) (fun _ => ?_)
  exact QT.bnd (ad_inner hb uA h3) (fun q5 h5 => ad_48 x1 lev q1.1 q3.1 q5.1 h5 FU 0)
theorem f_rec {rT rF rL rO rR : FTK} {b t : Nat} (hb : BT b t) (x1 uA pa pl lev : Int32) {σ : ST} (hy : ¬ uA = -1) (h400 : 400 ≤ (σ.1 t 1).toInt) : QT (f_X4_takeRecord rT rF rL rO rR b t x1 uA pa pl lev σ) (fun z => ¬ z.1 b 7 = 0) := by
  have hb' := hb
  unfold BT at hb'
  unfold f_X4_takeRecord f_X4_takeRecord_17
  refine QT.ite (fun h => absurd h hy) (fun _ => ?_)
  refine QT.bnd (Q := fun z => KBY b σ z.2) (fun z e => wb_X5_innerOf (B0 := b) KBY.rf z e) (fun q1 hq1 => ?_)
  refine QT.bnd (Q := fun z => KBY b σ z.2) (fun z e => wb_X5_fieldsOf (B0 := b) hq1 z e) (fun q2 hq2 => ?_)
  refine QT.bnd (a_addFull hb uA pa pl q2.1 0 hy (by rw [hq2.1 t (by omega)]; exact h400)) (fun q3 h3 => ?_)
  refine QT.bnd (Q := fun z => ¬ z.1 b 7 = 0) (fun z e => ?_) (fun q5 h5 => ad_51 x1 lev q1.1 q3.1 hb h5 FU 0)
  have k : KRA b t q3.2 z := wr_X4_findSources (B0 := b) (T0 := t) (s := q3.2) rfl (KRA.rf hb) z e
  exact k.nz h3
