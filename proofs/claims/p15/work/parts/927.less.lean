/-! two runs side by side, of which it is said what they answer, if they answer -/
theorem QT.sw {α β : Type} {a : Option α} {b : Option β} {P : α → β → Prop} (h : QT b (fun y => QT a (fun x => P x y))) : QT a (fun x => QT b (fun y => P x y)) := fun x ex y ey => h y ey x ex
theorem QT.mono2 {α β : Type} {a : Option α} {b : Option β} {P Q : α → β → Prop} (h : QT a (fun x => QT b (P x))) (k : ∀ x y, P x y → Q x y) : QT a (fun x => QT b (Q x)) := fun x ex y ey => k x y (h x ex y ey)
theorem QT.bnd2 {α β γ δ : Type} {a : Option α} {b : Option β} {f : α → Option γ} {g : β → Option δ} {Q : α → β → Prop} {P : γ → δ → Prop} (h : QT a (fun x => QT b (Q x))) (k : ∀ x y, Q x y → QT (f x) (fun u => QT (g y) (P u))) : QT (a.bind f) (fun u => QT (b.bind g) (P u)) := by
  intro u eu w ew
  obtain ⟨x, e1, e2⟩ := bnd_some eu
  obtain ⟨y, e3, e4⟩ := bnd_some ew
  exact k x y (h x e1 y e3) u e2 w e4
theorem QT.bndB {α β δ : Type} {a : Option α} {b : Option β} {g : β → Option δ} {Q : α → β → Prop} {P : α → δ → Prop} (h : QT a (fun x => QT b (Q x))) (k : ∀ x y, Q x y → QT (g y) (P x)) : QT a (fun x => QT (b.bind g) (P x)) := by
  intro x ex w ew
  obtain ⟨y, e3, e4⟩ := bnd_some ew
  exact k x y (h x ex y e3) w e4
theorem QT.kac {α : Type} {k : Nat} {o : Option (α × Nat)} {P : α × Nat → Prop} (h : QT o (fun z => P (z.1, k + z.2))) : QT (ac k o) P := by
  intro q e
  obtain ⟨z, e1, e2⟩ := bnd_some e
  cases e2
  exact h z e1
theorem QT.bndK {α β : Type} {o : Option ((α × ST) × Nat)} {f : (α × ST) × Nat → Option β} {s : ST} {c : Nat} {Q : α → Prop} {P : β → Prop} (h : OK o (KO s c Q)) (k : ∀ (v : α) (x : Nat), Q v → QT (f ((v, s), x)) P) : QT (o.bind f) P := by
  obtain ⟨⟨⟨v, s1⟩, x⟩, e, h1, h2, h3⟩ := h
  have h1 : s1 = s := h1
  subst h1
  rw [e]
  exact k v x h2
theorem QT.and {α : Type} {o : Option α} {P Q : α → Prop} (h : QT o P) (k : QT o Q) : QT o (fun q => P q ∧ Q q) := fun q e => ⟨h q e, k q e⟩
theorem QT.eq {α : Type} {o : Option α} {P : α → Prop} (h : ∀ q, o = some q → P q) : QT o P := h
/-- what either side says as it refuses -/
theorem qa_ref (k : Int32) (σ : ST) : QT ((f_X6_refuse k σ).bind fun q => if q.1 = 0 ∨ q.1 = 1 then some (q.1, q.2) else none) (fun q => q.1.toInt = 0) :=
  QT.bnd (QT.ok (a_refuse k σ)) (fun _ hq => QT.grd (fun _ => QT.ret hq))
theorem q_wrong (p0 : Int32) (σ : ST) : QT (f_X11_wrongHere p0 σ) (fun q => q.1 = 0) := by
  unfold f_X11_wrongHere f_X11_wrong f_X11_wrong_21
  exact QT.bnd (Q := fun q => q.1 = 0) (QT.ite (fun _ => QT.ret rfl) (fun _ => QT.ret rfl)) (fun q hq => QT.grd (fun _ => QT.ret hq))
theorem qb_wr (p0 : Int32) (σ : ST) : QT ((f_X11_wrongHere p0 σ).bind fun q => if q.1 = 0 ∨ q.1 = 1 then some ((q.1, q.2), 0) else none) (fun q => q.1.1 = 0) :=
  QT.bnd (q_wrong p0 σ) (fun _ hq => QT.grd (fun _ => QT.ret hq))
/-! what a value's text takes of the text, in the reference -/
theorem q_go (σ : ST) (h : TX σ) : QT (f_X11_go σ) (fun t => TX t ∧ uT t ≤ ((σ.1 0 3).toInt - (σ.1 0 5).toInt).toNat) := (QT.ok (b_goT σ h)).mono (fun t ht => ht.2)
theorem q_go1 (σ : ST) (h : TX σ) (h6 : ¬ (σ.1 0 6).toInt = 0) : QT (f_X11_go σ) (fun t => TX t ∧ uT t + 1 ≤ uT σ) := (q_go σ h).mono (fun t ht => ⟨ht.1, by have := uT_ne h6; have := ht.2; omega⟩)
theorem q_mark (c : Int32) (σ : ST) (h : TX σ) (hc : ¬ c.toInt = 0) : QT (f_X11_mark c σ) (fun q => q.1 = 0 ∨ q.1 = 1 ∧ (σ.1 0 13).toInt = c.toInt ∧ TX q.2 ∧ uT q.2 + 1 ≤ uT σ) := by
  unfold f_X11_mark
  refine QT.ieq (fun e => ?_) (fun _ => QT.bnd (q_wrong 1 σ) (fun _ hq => QT.grd (fun _ => QT.ret (.inl hq))))
  exact QT.bnd (q_go1 σ h (h.2.2.2 (by omega))) (fun t ht => QT.ret (.inr ⟨rfl, e, ht.1, ht.2⟩))
def NUV (rv : Int32 → Int32 → Int32 → Int32 → Int32 → ST → Option ((Int32 × ST) × Nat)) : Prop := ∀ (p0 p1 p2 p3 p4 : Int32) (σ : ST), TX σ → QT (rv p0 p1 p2 p3 p4 σ) (fun q => TX q.1.2 ∧ uT q.1.2 ≤ uT σ)
theorem nuv_R (n : Nat) : NUV (R_X11_items n).2.2 := fun p0 p1 p2 p3 p4 σ h q e => by
  have k := (wnR_X11_items (s := σ) n).2.2 p0 p1 p2 p3 p4 σ NUT.rf q e
  exact k h
/-- it takes the sign behind it, at least -/
def LSS (σ : ST) (q : (Int32 × ST) × Nat) : Prop := q.1.1 = 0 ∨ ¬ q.1.1 = 0 ∧ TX q.1.2 ∧ uT q.1.2 + 1 ≤ uT σ
theorem LSS.le {σ t : ST} {q : (Int32 × ST) × Nat} (h : LSS t q) (k : uT t ≤ uT σ) : LSS σ q := by
  rcases h with h | ⟨h1, h2, h3⟩
  · exact .inl h
  · exact .inr ⟨h1, h2, by omega⟩
theorem one_ne : ¬ (1 : Int32) = 0 := by decide
theorem lz_items25 {ri rp : Int32 → Int32 → Int32 → Int32 → ST → Option ((Int32 × ST) × Nat)} {rv : Int32 → Int32 → Int32 → Int32 → Int32 → ST → Option ((Int32 × ST) × Nat)} (hv : NUV rv) (p t dp v : Int32) : ∀ (n : Nat) (x5 x6 : Int32) (σ : ST), TX σ → QT (f_X11_items_25 ri rp rv n p t dp v x5 x6 σ) (LSS σ) := by
  intro n
  induction n with
  | zero =>
    intro x5 x6 σ _
    rw [f_X11_items_25]
    exact QT.none
  | succ n ih =>
    intro x5 x6 σ hX
    rw [f_X11_items_25]
    refine QT.ite (fun _ => ?_) (fun _ => ?_)
    · refine QT.bnd (q_mark 93 σ hX (by decide)) (fun q hq => QT.grd (fun _ => QT.ret ?_))
      rcases hq with hq | ⟨h1, _, h2, h3⟩
      · exact .inl hq
      · exact .inr ⟨by rw [h1]; exact one_ne, h2, h3⟩
    · refine QT.grd (fun _ => ?_)
      refine QT.bnd (hv _ _ _ _ _ σ hX) (fun q hq => QT.kac ?_)
      obtain ⟨q1, q2⟩ := hq
      refine QT.ite (fun _ => QT.ret (.inl rfl)) (fun _ => ?_)
      unfold f_X11_items_70
      refine QT.ite (fun _ => ?_) (fun _ => ?_)
      · refine QT.ite (fun _ => ?_) (fun _ => ?_)
        · exact (ih _ _ _ q1).mono (fun z hz => hz.le q2)
        · refine QT.bnd (q_go _ q1) (fun t ht => ?_)
          have := uT_le (σ := q.1.2)
          exact (ih _ _ _ ht.1).mono (fun z hz => hz.le (by omega))
      · refine QT.ite (fun _ => ?_) (fun _ => ?_)
        · exact (ih _ _ _ q1).mono (fun z hz => hz.le q2)
        · refine QT.bnd (q_go _ q1) (fun t ht => ?_)
          have := uT_le (σ := q.1.2)
          exact (ih _ _ _ ht.1).mono (fun z hz => hz.le (by omega))
/-- the numbers of the reference, but how many nodes there are -/
def ZTB (s σ : ST) : Prop := ∀ i, i ≠ 46 → σ.1 0 i = s.1 0 i
theorem ZTB.rf {s : ST} : ZTB s s := fun _ _ => rfl
theorem ZTB.i {s σ : ST} {c i : Nat} {v : Int32} (hc : ¬ c = 0 ∨ i = 46) (h : ZTB s σ) : ZTB s (stI σ c i v) := fun j hj => by
  by_cases e : c = 0
  · subst e
    rw [stI_at, upN (by omega)]
    exact h j hj
  · rw [stI_ne (fun h => e h.symm)]
    exact h j hj
theorem ZTB.l {s σ : ST} {c i : Nat} {v : Int64} (_ : True) (h : ZTB s σ) : ZTB s (stL σ c i v) := h
theorem ZTB.tx {s σ : ST} (h : ZTB s σ) (k : TX s) : TX σ ∧ uT σ = uT s := TX.of k (h 3 (by omega)) (h 5 (by omega)) (h 6 (by omega)) (h 8 (by omega)) (h 13 (by omega))
theorem wz_X11_firstOf {s : ST} {p0 : Int32} {σ : ST}   (h : ZTB s σ) : PF st1 (ZTB s) (f_X11_firstOf p0 σ) := by
  unfold f_X11_firstOf
  exact (PF.ite (fun _ => (PF.ite (fun _ => (PF.ite (fun _ => (PF.ret1 h)) (fun _ => PF.none))) (fun _ => (PF.ret1 h)))) (fun _ => PF.none))
theorem wz_X11_joins_147 {s : ST} {x1 : Int32} {x2 : Int32} {σ : ST}   (h : ZTB s σ) : PF st0 (ZTB s) (f_X11_joins_147 x1 x2 σ) := by
  unfold f_X11_joins_147
  exact (PF.ite (fun _ => (PF.ite (fun _ => (PF.ret0 h)) (fun _ => (PF.ite (fun _ => (PF.ret0 (ZTB.i (by omega) h))) (fun _ => PF.none))))) (fun _ => PF.none))
theorem wz_X11_joins_125 {s : ST} {x1 : Int32} {x2 : Int32} {x3 : Int32} {y0 : Int32} {y1 : Int32} {σ : ST}   (h : ZTB s σ) : PF st0 (ZTB s) (f_X11_joins_125 x1 x2 x3 y0 y1 σ) := by
  unfold f_X11_joins_125
  exact (PF.ite (fun _ => (PF.ite (fun _ => (PF.ite (fun _ => (wz_X11_joins_147  (ZTB.i (by omega) (ZTB.i (by omega) h)))) (fun _ => PF.none))) (fun _ => (PF.ite (fun _ => (wz_X11_joins_147  (ZTB.i (by omega) (ZTB.i (by omega) h)))) (fun _ => PF.none))))) (fun _ => PF.none))
theorem wz_X11_joins_101 {s : ST} {x1 : Int32} {x2 : Int32} {x3 : Int32} {σ : ST}   (h : ZTB s σ) : PF st0 (ZTB s) (f_X11_joins_101 x1 x2 x3 σ) := by
  unfold f_X11_joins_101
  exact (PF.ite (fun _ => (PF.ite (fun _ => (wz_X11_joins_125  h)) (fun _ => PF.none))) (fun _ => (PF.ite (fun _ => (wz_X11_joins_125  h)) (fun _ => PF.none))))
theorem wz_X11_joins_65 {s : ST}    : ∀ (n : Nat) (x1 : Int32) (x2 : Int32) (x3 : Int32) (x4 : Int32) (σ : ST), ZTB s σ → PF st0 (ZTB s) (f_X11_joins_65  n x1 x2 x3 x4 σ) := by
  intro n
  induction n with
  | zero => intro x1 x2 x3 x4 σ h; rw [f_X11_joins_65]; exact PF.none
  | succ n ih =>
    intro x1 x2 x3 x4 σ h
    rw [f_X11_joins_65]
    exact (PF.ite (fun _ => (wz_X11_joins_101  h)) (fun _ => (PF.ite (fun _ => (PF.ite (fun _ => (PF.ite (fun _ => (wz_X11_joins_101  h)) (fun _ => (ih _ _ _ _ _ h)))) (fun _ => PF.none))) (fun _ => PF.none))))
theorem wz_X11_joins_51 {s : ST} {x1 : Int32} {x2 : Int32} {x3 : Int32} {y0 : Int32} {σ : ST}   (h : ZTB s σ) : PF st0 (ZTB s) (f_X11_joins_51 x1 x2 x3 y0 σ) := by
  unfold f_X11_joins_51
  exact (PF.ite (fun _ => (wz_X11_joins_65  _ _ _ _ _ _ h)) (fun _ => (PF.ite (fun _ => (wz_X11_joins_65  _ _ _ _ _ _ h)) (fun _ => PF.none))))
theorem wz_X11_joins_45 {s : ST} {x1 : Int32} {x2 : Int32} {x3 : Int32} {σ : ST}   (h : ZTB s σ) : PF st0 (ZTB s) (f_X11_joins_45 x1 x2 x3 σ) := by
  unfold f_X11_joins_45
  exact (PF.ite (fun _ => (wz_X11_joins_51  h)) (fun _ => PF.none))
theorem wz_X11_joins {s : ST} {p0 : Int32} {p1 : Int32} {σ : ST}   (h : ZTB s σ) : PF st0 (ZTB s) (f_X11_joins p0 p1 σ) := by
  unfold f_X11_joins
  exact (PF.ite (fun _ => (PF.ite (fun _ => (wz_X11_joins_45  (ZTB.i (by omega) h))) (fun _ => (PF.ite (fun _ => (PF.ite (fun _ => (PF.ite (fun _ => (wz_X11_joins_45  (ZTB.i (by omega) h))) (fun _ => (wz_X11_joins_51  (ZTB.i (by omega) h))))) (fun _ => PF.none))) (fun _ => PF.none))))) (fun _ => PF.none))
theorem wz_X11_laysNode {s : ST} {p0 : Int32} {p1 : Int32} {p2 : Int32} {p3 : Int32} {σ : ST}   (h : ZTB s σ) : PF st1 (ZTB s) (f_X11_laysNode p0 p1 p2 p3 σ) := by
  unfold f_X11_laysNode
  exact (PF.ite (fun _ => (PF.bnd (PF.ret0 (ZTB.l trivial (ZTB.i (by omega) (ZTB.i (by omega) h)))) (fun z2 hz2 => (PF.bnd (PF.ret0 (ZTB.i (by omega) (ZTB.i (by omega) (ZTB.l trivial hz2)))) (fun z3 hz3 => (PF.bnd (PF.ret0 (ZTB.i (by omega) (ZTB.i (by omega) (ZTB.i (by omega) hz3)))) (fun z4 hz4 => (PF.bnd (PF.ret0 (ZTB.i (by omega) (ZTB.i (by omega) (ZTB.i (by omega) hz4)))) (fun z5 hz5 => (PF.ite (fun _ => (PF.ret1 hz5)) (fun _ => (PF.bnd (wz_X11_joins  hz5) (fun q6 hq6 => (PF.ret1 hq6)))))))))))))) (fun _ => PF.none))
theorem wz_X11_fills_103 {s : ST} {x6 : Int32} {y0 : Int32} {y1 : Int32} {σ : ST}   (h : ZTB s σ) : PF st0 (ZTB s) (f_X11_fills_103 x6 y0 y1 σ) := by
  unfold f_X11_fills_103
  exact (PF.ite (fun _ => (PF.ite (fun _ => (PF.ret0 (ZTB.i (by omega) (ZTB.i (by omega) h)))) (fun _ => PF.none))) (fun _ => PF.none))
theorem wz_X11_fills_45 {s : ST} {x1 : Int32} {x5 : Int32} {y0 : Int32} {y1 : Int32} {y2 : Int32} {y3 : Int32} {σ : ST}   (h : ZTB s σ) : PF st0 (ZTB s) (f_X11_fills_45 x1 x5 y0 y1 y2 y3 σ) := by
  unfold f_X11_fills_45
  exact (PF.bnd (wz_X11_laysNode  h) (fun q1 hq1 => (PF.ite (fun _ => (PF.ite (fun _ => (PF.bnd (PF.ret0 (ZTB.l trivial (ZTB.l trivial hq1))) (fun z5 hz5 => (PF.ite (fun _ => (PF.ite (fun _ => (wz_X11_fills_103  hz5)) (fun _ => (wz_X11_fills_103  hz5)))) (fun _ => PF.none))))) (fun _ => PF.none))) (fun _ => PF.none))))
theorem wz_X11_fills {s : ST} {p0 : Int32} {p1 : Int32} {p2 : Int32} {σ : ST}   (h : ZTB s σ) : PF st0 (ZTB s) (f_X11_fills p0 p1 p2 σ) := by
  unfold f_X11_fills
  exact (PF.ite (fun _ => (PF.bnd (wz_X11_firstOf  h) (fun q2 hq2 => (PF.ite (fun _ => (PF.ite (fun _ => (wz_X11_fills_45  hq2)) (fun _ => (wz_X11_fills_45  hq2)))) (fun _ => PF.none))))) (fun _ => PF.none))
theorem wz_X11_hasChild_35 {s : ST} {k10 : Int32 → Int32 → Int32 → ST → Option (Int32 × ST)} {x2 : Int32} {x4 : Int32} {y0 : Int32} {σ : ST} (h_k10 : ∀ (x1 : Int32) (x2 : Int32) (x3 : Int32) (σ : ST), ZTB s σ → PF st1 (ZTB s) (k10 x1 x2 x3 σ))  (h : ZTB s σ) : PF st1 (ZTB s) (f_X11_hasChild_35 k10 x2 x4 y0 σ) := by
  unfold f_X11_hasChild_35
  exact (PF.ite (fun _ => (h_k10 _ _ _ _ h)) (fun _ => PF.none))
theorem wz_X11_hasChild_30 {s : ST} {k10 : Int32 → Int32 → Int32 → ST → Option (Int32 × ST)} {x2 : Int32} {x4 : Int32} {σ : ST} (h_k10 : ∀ (x1 : Int32) (x2 : Int32) (x3 : Int32) (σ : ST), ZTB s σ → PF st1 (ZTB s) (k10 x1 x2 x3 σ))  (h : ZTB s σ) : PF st1 (ZTB s) (f_X11_hasChild_30 k10 x2 x4 σ) := by
  unfold f_X11_hasChild_30
  exact (wz_X11_hasChild_35 h_k10 h)
theorem wz_X11_hasChild_10 {s : ST}    : ∀ (n : Nat) (x1 : Int32) (x2 : Int32) (x3 : Int32) (σ : ST), ZTB s σ → PF st1 (ZTB s) (f_X11_hasChild_10  n x1 x2 x3 σ) := by
  intro n
  induction n with
  | zero => intro x1 x2 x3 σ h; rw [f_X11_hasChild_10]; exact PF.none
  | succ n ih =>
    intro x1 x2 x3 σ h
    rw [f_X11_hasChild_10]
    exact (PF.ite (fun _ => (PF.ite (fun _ => (PF.ret1 h)) (fun _ => PF.none))) (fun _ => (PF.ite (fun _ => (PF.ite (fun _ => (PF.ite (fun _ => (wz_X11_hasChild_30 ih h)) (fun _ => (wz_X11_hasChild_35 ih h)))) (fun _ => PF.none))) (fun _ => (wz_X11_hasChild_30 ih h)))))
theorem wz_X11_hasChild {s : ST} {p0 : Int32} {p1 : Int32} {σ : ST}   (h : ZTB s σ) : PF st1 (ZTB s) (f_X11_hasChild p0 p1 σ) := by
  unfold f_X11_hasChild
  exact (PF.ite (fun _ => (wz_X11_hasChild_10  _ _ _ _ _ h)) (fun _ => PF.none))
theorem nn2 {α : Type} {σ : ST} {o : Option ((α × ST) × Nat)} (h : PF st2 (NUT σ) o) (hX : TX σ) : QT o (fun q => TX q.1.2 ∧ uT q.1.2 ≤ uT σ) := fun q e => h q e hX
theorem nn1 {α : Type} {σ : ST} {o : Option (α × ST)} (h : PF st1 (NUT σ) o) (hX : TX σ) : QT o (fun q => TX q.2 ∧ uT q.2 ≤ uT σ) := fun q e => h q e hX
theorem lz_parts171 {ri rp : Int32 → Int32 → Int32 → Int32 → ST → Option ((Int32 × ST) × Nat)} {rv : Int32 → Int32 → Int32 → Int32 → Int32 → ST → Option ((Int32 × ST) × Nat)} (x4 x5 : Int32) : ∀ (n : Nat) (x7 : Int32) (σ : ST), TX σ → ¬ (σ.1 0 6).toInt = 0 → QT (f_X11_parts_171 ri rp rv n x4 x5 x7 σ) (LSS σ) := by
  intro n
  induction n with
  | zero =>
    intro x7 σ _ _
    rw [f_X11_parts_171]
    exact QT.none
  | succ n ih =>
    intro x7 σ hX h6
    rw [f_X11_parts_171]
    refine QT.grd (fun _ => ?_)
    refine QT.ite (fun _ => ?_) (fun _ => ?_)
    · exact QT.bnd (q_go1 σ hX h6) (fun t ht => QT.ret (.inr ⟨one_ne, ht.1, ht.2⟩))
    · have hc : QT (f_X11_hasChild x4 x7 σ) (fun q => ZTB σ q.2) := wz_X11_hasChild (s := σ) ZTB.rf
      refine QT.bnd hc (fun q hq => ?_)
      have k4 := hq.tx hX
      have e6 : q.2.1 0 6 = σ.1 0 6 := hq 6 (by omega)
      refine QT.ite (fun _ => ?_) (fun _ => ?_)
      · refine QT.grd (fun _ => ?_)
        refine QT.ite (fun _ => (qb_wr 6 q.2).mono (fun z hz => .inl hz)) (fun _ => ?_)
        have hf : QT (f_X11_fills ((8 * x5) + x7) x4 x7 q.2) (fun z => ZTB q.2 z) := wz_X11_fills (s := q.2) ZTB.rf
        refine QT.bnd hf (fun z hz => ?_)
        unfold f_X11_parts_233
        have k5 := hz.tx k4.1
        have e6' : z.1 0 6 = q.2.1 0 6 := hz 6 (by omega)
        exact (ih _ z k5.1 (by rw [e6', e6]; exact h6)).mono (fun w hw => hw.le (by omega))
      · unfold f_X11_parts_233
        exact (ih _ q.2 k4.1 (by rw [e6]; exact h6)).mono (fun w hw => hw.le (by omega))
theorem lz_parts33 {ri rp : Int32 → Int32 → Int32 → Int32 → ST → Option ((Int32 × ST) × Nat)} {rv : Int32 → Int32 → Int32 → Int32 → Int32 → ST → Option ((Int32 × ST) × Nat)} (hv : NUV rv) (x1 x3 x4 x5 : Int32) : ∀ (n : Nat) (x6 : Int32) (σ : ST), TX σ → QT (f_X11_parts_33 ri rp rv n x1 x3 x4 x5 x6 σ) (LSS σ) := by
  intro n
  induction n with
  | zero =>
    intro x6 σ _
    rw [f_X11_parts_33]
    exact QT.none
  | succ n ih =>
    intro x6 σ hX
    rw [f_X11_parts_33]
    refine QT.ite (fun _ => ?_) (fun _ => ?_)
    · refine QT.ieq (fun e => ?_) (fun _ => (qb_wr 1 σ).mono (fun z hz => .inl hz))
      have l125 : (125 : Int32).toInt = 125 := by decide
      exact lz_parts171 x4 x5 FU 0 σ hX (hX.2.2.2 (by omega))
    · refine QT.bnd (nn2 (wn_X11_isName (s := σ) NUT.rf) hX) (fun q3 h3 => QT.kac ?_)
      refine QT.ite (fun _ => (qb_wr 1 q3.1.2).mono (fun z hz => .inl hz)) (fun _ => ?_)
      refine QT.bnd (nn1 (wn_X11_fieldOf (s := q3.1.2) NUT.rf) h3.1) (fun q5 h5 => ?_)
      refine QT.ite (fun _ => ?_) (fun _ => ?_)
      · unfold f_X11_parts_85
        exact (qb_wr 3 q5.2).mono (fun z hz => .inl hz)
      · refine QT.bnd (nn1 (wn_X11_hasChild (s := q5.2) NUT.rf) h5.1) (fun q7 h7 => ?_)
        refine QT.ite (fun _ => ?_) (fun _ => ?_)
        · refine QT.bnd (q_go q7.2 h7.1) (fun q9 h9 => ?_)
          have u9 := uT_le (σ := q7.2)
          refine QT.grd (fun _ => ?_)
          refine QT.bnd (hv _ _ _ _ _ q9 h9.1) (fun q hq => QT.kac ?_)
          obtain ⟨q1, q2⟩ := hq
          refine QT.ite (fun _ => QT.ret (.inl rfl)) (fun _ => ?_)
          unfold f_X11_parts_139
          refine QT.ite (fun _ => ?_) (fun _ => ?_)
          · refine QT.ite (fun _ => ?_) (fun _ => ?_)
            · exact (ih _ _ q1).mono (fun z hz => hz.le (by omega))
            · refine QT.bnd (q_go _ q1) (fun t ht => ?_)
              have := uT_le (σ := q.1.2)
              exact (ih _ _ ht.1).mono (fun z hz => hz.le (by omega))
          · refine QT.ite (fun _ => ?_) (fun _ => ?_)
            · exact (ih _ _ q1).mono (fun z hz => hz.le (by omega))
            · refine QT.bnd (q_go _ q1) (fun t ht => ?_)
              have := uT_le (σ := q.1.2)
              exact (ih _ _ ht.1).mono (fun z hz => hz.le (by omega))
        · unfold f_X11_parts_85
          exact (qb_wr 3 q7.2).mono (fun z hz => .inl hz)
/-- where the reference may stand when the class has refused: it can't end well -/
def DMD (L : Int) (b : ST) : Prop := TX b ∧ ((b.1 0 6).toInt = 5 ∧ (b.1 0 13).toInt = 0 ∨ (uT b : Int) + 1 ≤ L)
/-- an answer of the reference behind a refusal of the class's -/
def DMQ (L : Int) (q : (Int32 × ST) × Nat) : Prop := q.1.1 = 0 ∨ ¬ q.1.1 = 0 ∧ DMD L q.1.2
theorem LSS.dm {σ : ST} {q : (Int32 × ST) × Nat} (h : LSS σ q) {L : Int} (k : (uT σ : Int) ≤ L) : DMQ L q := by
  rcases h with h | ⟨h1, h2, h3⟩
  · exact .inl h
  · exact .inr ⟨h1, h2, .inr (by omega)⟩
theorem dm_items {ri rp : Int32 → Int32 → Int32 → Int32 → ST → Option ((Int32 × ST) × Nat)} {rv : Int32 → Int32 → Int32 → Int32 → Int32 → ST → Option ((Int32 × ST) × Nat)} (hv : NUV rv) (L : Int) (n : Nat) (x1 x2 x3 x4 x5 : Int32) (b : ST) (h : DMD (L + 1) b) : QT (if (b.1 0 13) = 44 then f_X11_items_70 ri rp rv (f_X11_items_25 ri rp rv n) x1 x2 x3 x4 x5 1 b else f_X11_items_70 ri rp rv (f_X11_items_25 ri rp rv n) x1 x2 x3 x4 x5 0 b) (DMQ L) := by
  obtain ⟨hX, h⟩ := h
  have l44 : (44 : Int32).toInt = 44 := by decide
  have l93 : (93 : Int32).toInt = 93 := by decide
  unfold f_X11_items_70
  rcases h with ⟨h6, h13⟩ | h
  · refine QT.ieq (fun e => by omega) (fun _ => ?_)
    refine QT.ite (fun _ => ?_) (fun e => absurd rfl e)
    cases n with
    | zero =>
      rw [f_X11_items_25]
      exact QT.none
    | succ n =>
      rw [f_X11_items_25]
      refine QT.ite (fun _ => ?_) (fun e => absurd rfl e)
      refine QT.bnd (q_mark 93 b hX (by decide)) (fun q hq => QT.grd (fun _ => QT.ret ?_))
      rcases hq with hq | ⟨_, h2, _⟩
      · exact .inl hq
      · omega
  · refine QT.ite (fun _ => ?_) (fun _ => ?_)
    · refine QT.ite (fun e => absurd e one_ne) (fun _ => ?_)
      refine QT.bnd (q_go _ hX) (fun t ht => ?_)
      have := uT_le (σ := b)
      exact (lz_items25 hv x1 x2 x3 x4 n _ _ t ht.1).mono (fun z hz => hz.dm (by omega))
    · refine QT.ite (fun _ => ?_) (fun e => absurd rfl e)
      exact (lz_items25 hv x1 x2 x3 x4 n _ _ b hX).mono (fun z hz => hz.dm (by omega))
theorem dm_parts {ri rp : Int32 → Int32 → Int32 → Int32 → ST → Option ((Int32 × ST) × Nat)} {rv : Int32 → Int32 → Int32 → Int32 → Int32 → ST → Option ((Int32 × ST) × Nat)} (hv : NUV rv) (L : Int) (n : Nat) (x1 x3 x4 x5 : Int32) (b : ST) (h : DMD (L + 1) b) : QT (if (b.1 0 13) = 44 then f_X11_parts_139 ri rp rv (f_X11_parts_33 ri rp rv n) x1 x3 x4 x5 1 b else f_X11_parts_139 ri rp rv (f_X11_parts_33 ri rp rv n) x1 x3 x4 x5 0 b) (DMQ L) := by
  obtain ⟨hX, h⟩ := h
  have l44 : (44 : Int32).toInt = 44 := by decide
  have l125 : (125 : Int32).toInt = 125 := by decide
  unfold f_X11_parts_139
  rcases h with ⟨h6, h13⟩ | h
  · refine QT.ieq (fun e => by omega) (fun _ => ?_)
    refine QT.ite (fun _ => ?_) (fun e => absurd rfl e)
    cases n with
    | zero =>
      rw [f_X11_parts_33]
      exact QT.none
    | succ n =>
      rw [f_X11_parts_33]
      refine QT.ite (fun _ => ?_) (fun e => absurd rfl e)
      refine QT.ieq (fun e => by omega) (fun _ => ?_)
      exact (qb_wr 1 b).mono (fun z hz => .inl hz)
  · refine QT.ite (fun _ => ?_) (fun _ => ?_)
    · refine QT.ite (fun e => absurd e one_ne) (fun _ => ?_)
      refine QT.bnd (q_go _ hX) (fun t ht => ?_)
      have := uT_le (σ := b)
      exact (lz_parts33 hv x1 x3 x4 x5 n _ t ht.1).mono (fun z hz => hz.dm (by omega))
    · refine QT.ite (fun _ => ?_) (fun e => absurd rfl e)
      exact (lz_parts33 hv x1 x3 x4 x5 n _ b hX).mono (fun z hz => hz.dm (by omega))
/-- a number with a point behind it that the class takes for none -/
def PTN (τ : ST) : Prop := (τ.1 0 13).toInt = 0 ∧ (τ.1 0 6).toInt = 2 ∧ ∃ k : Nat, (τ.1 0 5).toInt = k ∧ bt (τ.1 1) (τ.1 0 3).toInt k = 46
theorem TK.ptn {σ τ : ST} (h : TK σ τ) (h1 : (σ.1 2 4).toInt = 1) (hL : LT_ τ) : PTN τ := by
  obtain ⟨_, h | h | h | h | h | h⟩ := h
  · omega
  · obtain ⟨_, s0, h5 | h2⟩ := h
    · exfalso
      unfold LT_ W_ at hL
      omega
    · exact ⟨s0, h2⟩
  · obtain ⟨_, _, _, _, h9⟩ := h
    have h9 : (σ.1 2 4).toInt = 2 ∨ (σ.1 2 4).toInt = 3 := h9.elim (fun h => .inl h.1) (fun h => .inr h.1)
    omega
  · have := h.1
    clear h
    omega
  · have := h.1
    clear h
    omega
  · have := h.1
    clear h
    omega
