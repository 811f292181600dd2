/-! two runs side by side, of which it is said what they answer, if they answer -/
theorem QT.sw {α β : Type} {a : Option α} {b : Option β} {P : α → β → Prop} (h : QT b (fun y => QT a (fun x => P x y))) : QT a (fun x => QT b (fun y => P x y)) := fun x ex y ey => h y ey x ex
theorem QT.mono2 {α β : Type} {a : Option α} {b : Option β} {P Q : α → β → Prop} (h : QT a (fun x => QT b (P x))) (k : ∀ x y, P x y → Q x y) : QT a (fun x => QT b (Q x)) := fun x ex y ey => k x y (h x ex y ey)
theorem QT.bnd2 {α β γ δ : Type} {a : Option α} {b : Option β} {f : α → Option γ} {g : β → Option δ} {Q : α → β → Prop} {P : γ → δ → Prop} (h : QT a (fun x => QT b (Q x))) (k : ∀ x y, Q x y → QT (f x) (fun u => QT (g y) (P u))) : QT (a.bind f) (fun u => QT (b.bind g) (P u)) := by
  intro u eu w ew
  obtain ⟨x, e1, e2⟩ := bnd_some eu
  obtain ⟨y, e3, e4⟩ := bnd_some ew
  exact k x y (h x e1 y e3) u e2 w e4
theorem QT.bndB {α β δ : Type} {a : Option α} {b : Option β} {g : β → Option δ} {Q : α → β → Prop} {P : α → δ → Prop} (h : QT a (fun x => QT b (Q x))) (k : ∀ x y, Q x y → QT (g y) (P x)) : QT a (fun x => QT (b.bind g) (P x)) := by
  intro x ex w ew
  obtain ⟨y, e3, e4⟩ := bnd_some ew
  exact k x y (h x ex y e3) w e4
theorem QT.kac {α : Type} {k : Nat} {o : Option (α × Nat)} {P : α × Nat → Prop} (h : QT o (fun z => P (z.1, k + z.2))) : QT (ac k o) P := by
  intro q e
  obtain ⟨z, e1, e2⟩ := bnd_some e
  cases e2
  exact h z e1
theorem QT.bndK {α β : Type} {o : Option ((α × ST) × Nat)} {f : (α × ST) × Nat → Option β} {s : ST} {c : Nat} {Q : α → Prop} {P : β → Prop} (h : OK o (KO s c Q)) (k : ∀ (v : α) (x : Nat), Q v → QT (f ((v, s), x)) P) : QT (o.bind f) P := by
  obtain ⟨⟨⟨v, s1⟩, x⟩, e, h1, h2, h3⟩ := h
  have h1 : s1 = s := h1
  subst h1
  rw [e]
  exact k v x h2
theorem QT.and {α : Type} {o : Option α} {P Q : α → Prop} (h : QT o P) (k : QT o Q) : QT o (fun q => P q ∧ Q q) := fun q e => ⟨h q e, k q e⟩
theorem QT.eq {α : Type} {o : Option α} {P : α → Prop} (h : ∀ q, o = some q → P q) : QT o P := h
/-- what either side says as it refuses -/
theorem qa_ref (k : Int32) (σ : ST) : QT ((f_X6_refuse k σ).bind fun q => if q.1 = 0 ∨ q.1 = 1 then some (q.1, q.2) else none) (fun q => q.1.toInt = 0) :=
  QT.bnd (QT.ok (a_refuse k σ)) (fun _ hq => QT.grd (fun _ => QT.ret hq))
theorem q_wrong (p0 : Int32) (σ : ST) : QT (f_X11_wrongHere p0 σ) (fun q => q.1 = 0) := by
  unfold f_X11_wrongHere f_X11_wrong f_X11_wrong_21
  exact QT.bnd (Q := fun q => q.1 = 0) (QT.ite (fun _ => QT.ret rfl) (fun _ => QT.ret rfl)) (fun q hq => QT.grd (fun _ => QT.ret hq))
theorem qb_wr (p0 : Int32) (σ : ST) : QT ((f_X11_wrongHere p0 σ).bind fun q => if q.1 = 0 ∨ q.1 = 1 then some ((q.1, q.2), 0) else none) (fun q => q.1.1 = 0) :=
  QT.bnd (q_wrong p0 σ) (fun _ hq => QT.grd (fun _ => QT.ret hq))
/-! what a value's text takes of the text, in the reference -/
theorem q_go (σ : ST) (h : TX σ) : QT (f_X11_go σ) (fun t => TX t ∧ uT t ≤ ((σ.1 0 3).toInt - (σ.1 0 5).toInt).toNat) := (QT.ok (b_goT σ h)).mono (fun t ht => ht.2)
theorem q_go1 (σ : ST) (h : TX σ) (h6 : ¬ (σ.1 0 6).toInt = 0) : QT (f_X11_go σ) (fun t => TX t ∧ uT t + 1 ≤ uT σ) := (q_go σ h).mono (fun t ht => ⟨ht.1, by have := uT_ne h6; have := ht.2; omega⟩)
theorem q_mark (c : Int32) (σ : ST) (h : TX σ) (hc : ¬ c.toInt = 0) : QT (f_X11_mark c σ) (fun q => q.1 = 0 ∨ q.1 = 1 ∧ (σ.1 0 13).toInt = c.toInt ∧ TX q.2 ∧ uT q.2 + 1 ≤ uT σ) := by
  unfold f_X11_mark
  refine QT.ieq (fun e => ?_) (fun _ => QT.bnd (q_wrong 1 σ) (fun _ hq => QT.grd (fun _ => QT.ret (.inl hq))))
  exact QT.bnd (q_go1 σ h (h.2.2.2 (by omega))) (fun t ht => QT.ret (.inr ⟨rfl, e, ht.1, ht.2⟩))
def NUV (rv : Int32 → Int32 → Int32 → Int32 → Int32 → ST → Option ((Int32 × ST) × Nat)) : Prop := ∀ (p0 p1 p2 p3 p4 : Int32) (σ : ST), TX σ → QT (rv p0 p1 p2 p3 p4 σ) (fun q => TX q.1.2 ∧ uT q.1.2 ≤ uT σ)
theorem nuv_R (n : Nat) : NUV (R_X11_items n).2.2 := fun p0 p1 p2 p3 p4 σ h q e => by
  have k := (wnR_X11_items (s := σ) n).2.2 p0 p1 p2 p3 p4 σ NUT.rf q e
  exact k h
/-- it takes the sign behind it, at least -/
def LSS (σ : ST) (q : (Int32 × ST) × Nat) : Prop := q.1.1 = 0 ∨ ¬ q.1.1 = 0 ∧ TX q.1.2 ∧ uT q.1.2 + 1 ≤ uT σ
theorem LSS.le {σ t : ST} {q : (Int32 × ST) × Nat} (h : LSS t q) (k : uT t ≤ uT σ) : LSS σ q := by
  rcases h with h | ⟨h1, h2, h3⟩
  · exact .inl h
  · exact .inr ⟨h1, h2, by omega⟩
theorem one_ne : ¬ (1 : Int32) = 0 := by decide
theorem lz_items25 {ri rp : Int32 → Int32 → Int32 → Int32 → ST → Option ((Int32 × ST) × Nat)} {rv : Int32 → Int32 → Int32 → Int32 → Int32 → ST → Option ((Int32 × ST) × Nat)} (hv : NUV rv) (p t dp v : Int32) : ∀ (n : Nat) (x5 x6 : Int32) (σ : ST), TX σ → QT (f_X11_items_25 ri rp rv n p t dp v x5 x6 σ) (LSS σ) := by
  intro n
  induction n with
  | zero =>
    intro x5 x6 σ _
    rw [f_X11_items_25]
    exact QT.none
  | succ n ih =>
    intro x5 x6 σ hX
    rw [f_X11_items_25]
    refine QT.ite (fun _ => ?_) (fun _ => ?_)
    · refine QT.bnd (q_mark 93 σ hX (by decide)) (fun q hq => QT.grd (fun _ => QT.ret ?_))
      rcases hq with hq | ⟨h1, _, h2, h3⟩
      · exact .inl hq
      · exact .inr ⟨by rw [h1]; exact one_ne, h2, h3⟩
    · refine QT.grd (fun _ => ?_)
      refine QT.bnd (hv _ _ _ _ _ σ hX) (fun q hq => QT.kac ?_)
      obtain ⟨q1, q2⟩ := hq
      refine QT.ite (fun _ => QT.ret (.inl rfl)) (fun _ => ?_)
      unfold f_X11_items_70
      refine QT.ite (fun _ => ?_) (fun _ => ?_)
      · refine QT.ite (fun _ => ?_) (fun _ => ?_)
        · exact (ih _ _ _ q1).mono (fun z hz => hz.le q2)
        · refine QT.bnd (q_go _ q1) (fun t ht => ?_)
          have := uT_le (σ := q.1.2)
          exact (ih _ _ _ ht.1).mono (fun z hz => hz.le (by omega))
      · refine QT.ite (fun _ => ?_) (fun _ => ?_)
        · exact (ih _ _ _ q1).mono (fun z hz => hz.le q2)
        · refine QT.bnd (q_go _ q1) (fun t ht => ?_)
          have := uT_le (σ := q.1.2)
          exact (ih _ _ _ ht.1).mono (fun z hz => hz.le (by omega))
/-- the numbers of the reference, but how many nodes there are -/
def ZTB (s σ : ST) : Prop := ∀ i, i ≠ 46 → σ.1 0 i = s.1 0 i
theorem ZTB.rf {s : ST} : ZTB s s := fun _ _ => rfl
theorem ZTB.i {s σ : ST} {c i : Nat} {v : Int32} (hc : ¬ c = 0 ∨ i = 46) (h : ZTB s σ) : ZTB s (stI σ c i v) := fun j hj => by
  by_cases e : c = 0
  · subst e
    rw [stI_at, upN (by omega)]
    exact h j hj
  · rw [stI_ne (fun h => e h.symm)]
    exact h j hj
theorem ZTB.l {s σ : ST} {c i : Nat} {v : Int64} (_ : True) (h : ZTB s σ) : ZTB s (stL σ c i v) := h
theorem ZTB.tx {s σ : ST} (h : ZTB s σ) (k : TX s) : TX σ ∧ uT σ = uT s := TX.of k (h 3 (by omega)) (h 5 (by omega)) (h 6 (by omega)) (h 8 (by omega)) (h 13 (by omega))
theorem wz_X11_firstOf {s : ST} {p0 : Int32} {σ : ST}   (h : ZTB s σ) : PF st1 (ZTB s) (f_X11_firstOf p0 σ) := by
  unfold f_X11_firstOf
  exact (PF.ite (fun _ => (PF.ite (fun _ => (PF.ite (fun _ => (PF.ret1 h)) (fun _ => PF.none))) (fun _ => (PF.ret1 h)))) (fun _ => PF.none))
theorem wz_X11_joins_147 {s : ST} {x1 : Int32} {x2 : Int32} {σ : ST}   (h : ZTB s σ) : PF st0 (ZTB s) (f_X11_joins_147 x1 x2 σ) := by
  unfold f_X11_joins_147
  exact (PF.ite (fun _ => (PF.ite (fun _ => (PF.ret0 h)) (fun _ => (PF.ite (fun _ => (PF.ret0 (ZTB.i (by omega) h))) (fun _ => PF.none))))) (fun _ => PF.none))
theorem wz_X11_joins_125 {s : ST} {x1 : Int32} {x2 : Int32} {x3 : Int32} {y0 : Int32} {y1 : Int32} {σ : ST}   (h : ZTB s σ) : PF st0 (ZTB s) (f_X11_joins_125 x1 x2 x3 y0 y1 σ) := by
  unfold f_X11_joins_125
  exact (PF.ite (fun _ => (PF.ite (fun _ => (PF.ite (fun _ => (wz_X11_joins_147  (ZTB.i (by omega) (ZTB.i (by omega) h)))) (fun _ => PF.none))) (fun _ => (PF.ite (fun _ => (wz_X11_joins_147  (ZTB.i (by omega) (ZTB.i (by omega) h)))) (fun _ => PF.none))))) (fun _ => PF.none))
theorem wz_X11_joins_101 {s : ST} {x1 : Int32} {x2 : Int32} {x3 : Int32} {σ : ST}   (h : ZTB s σ) : PF st0 (ZTB s) (f_X11_joins_101 x1 x2 x3 σ) := by
  unfold f_X11_joins_101
  exact (PF.ite (fun _ => (PF.ite (fun _ => (wz_X11_joins_125  h)) (fun _ => PF.none))) (fun _ => (PF.ite (fun _ => (wz_X11_joins_125  h)) (fun _ => PF.none))))
theorem wz_X11_joins_65 {s : ST}    : ∀ (n : Nat) (x1 : Int32) (x2 : Int32) (x3 : Int32) (x4 : Int32) (σ : ST), ZTB s σ → PF st0 (ZTB s) (f_X11_joins_65  n x1 x2 x3 x4 σ) := by
  intro n
  induction n with
  | zero => intro x1 x2 x3 x4 σ h; rw [f_X11_joins_65]; exact PF.none
  | succ n ih =>
    intro x1 x2 x3 x4 σ h
    rw [f_X11_joins_65]
    exact (PF.ite (fun _ => (wz_X11_joins_101  h)) (fun _ => (PF.ite (fun _ => (PF.ite (fun _ => (PF.ite (fun _ => (wz_X11_joins_101  h)) (fun _ => (ih _ _ _ _ _ h)))) (fun _ => PF.none))) (fun _ => PF.none))))
theorem wz_X11_joins_51 {s : ST} {x1 : Int32} {x2 : Int32} {x3 : Int32} {y0 : Int32} {σ : ST}   (h : ZTB s σ) : PF st0 (ZTB s) (f_X11_joins_51 x1 x2 x3 y0 σ) := by
  unfold f_X11_joins_51
  exact (PF.ite (fun _ => (wz_X11_joins_65  _ _ _ _ _ _ h)) (fun _ => (PF.ite (fun _ => (wz_X11_joins_65  _ _ _ _ _ _ h)) (fun _ => PF.none))))
theorem wz_X11_joins_45 {s : ST} {x1 : Int32} {x2 : Int32} {x3 : Int32} {σ : ST}   (h : ZTB s σ) : PF st0 (ZTB s) (f_X11_joins_45 x1 x2 x3 σ) := by
  unfold f_X11_joins_45
  exact (PF.ite (fun _ => (wz_X11_joins_51  h)) (fun _ => PF.none))
theorem wz_X11_joins {s : ST} {p0 : Int32} {p1 : Int32} {σ : ST}   (h : ZTB s σ) : PF st0 (ZTB s) (f_X11_joins p0 p1 σ) := by
  unfold f_X11_joins
  exact (PF.ite (fun _ => (PF.ite (fun _ => (wz_X11_joins_45  (ZTB.i (by omega) h))) (fun _ => (PF.ite (fun _ => (PF.ite (fun _ => (PF.ite (fun _ => (wz_X11_joins_45  (ZTB.i (by omega) h))) (fun _ => (wz_X11_joins_51  (ZTB.i (by omega) h))))) (fun _ => PF.none))) (fun _ => PF.none))))) (fun _ => PF.none))
theorem wz_X11_laysNode {s : ST} {p0 : Int32} {p1 : Int32} {p2 : Int32} {p3 : Int32} {σ : ST}   (h : ZTB s σ) : PF st1 (ZTB s) (f_X11_laysNode p0 p1 p2 p3 σ) := by
  unfold f_X11_laysNode
  exact (PF.ite (fun _ => (PF.bnd (PF.ret0 (ZTB.l trivial (ZTB.i (by omega) (ZTB.i (by omega) h)))) (fun z2 hz2 => (PF.bnd (PF.ret0 (ZTB.i (by omega) (ZTB.i (by omega) (ZTB.l trivial hz2)))) (fun z3 hz3 => (PF.bnd (PF.ret0 (ZTB.i (by omega) (ZTB.i (by omega) (ZTB.i (by omega) hz3)))) (fun z4 hz4 => (PF.bnd (PF.ret0 (ZTB.i (by omega) (ZTB.i (by omega) (ZTB.i (by omega) hz4)))) (fun z5 hz5 => (PF.ite (fun _ => (PF.ret1 hz5)) (fun _ => (PF.bnd (wz_X11_joins  hz5) (fun q6 hq6 => (PF.ret1 hq6)))))))))))))) (fun _ => PF.none))
theorem wz_X11_fills_103 {s : ST} {x6 : Int32} {y0 : Int32} {y1 : Int32} {σ : ST}   (h : ZTB s σ) : PF st0 (ZTB s) (f_X11_fills_103 x6 y0 y1 σ) := by
  unfold f_X11_fills_103
  exact (PF.ite (fun _ => (PF.ite (fun _ => (PF.ret0 (ZTB.i (by omega) (ZTB.i (by omega) h)))) (fun _ => PF.none))) (fun _ => PF.none))
theorem wz_X11_fills_45 {s : ST} {x1 : Int32} {x5 : Int32} {y0 : Int32} {y1 : Int32} {y2 : Int32} {y3 : Int32} {σ : ST}   (h : ZTB s σ) : PF st0 (ZTB s) (f_X11_fills_45 x1 x5 y0 y1 y2 y3 σ) := by
  unfold f_X11_fills_45
  exact (PF.bnd (wz_X11_laysNode  h) (fun q1 hq1 => (PF.ite (fun _ => (PF.ite (fun _ => (PF.bnd (PF.ret0 (ZTB.l trivial (ZTB.l trivial hq1))) (fun z5 hz5 => (PF.ite (fun _ => (PF.ite (fun _ => (wz_X11_fills_103  hz5)) (fun _ => (wz_X11_fills_103  hz5)))) (fun _ => PF.none))))) (fun _ => PF.none))) (fun _ => PF.none))))
theorem wz_X11_fills {s : ST} {p0 : Int32} {p1 : Int32} {p2 : Int32} {σ : ST}   (h : ZTB s σ) : PF st0 (ZTB s) (f_X11_fills p0 p1 p2 σ) := by
  unfold f_X11_fills
  exact (PF.ite (fun _ => (PF.bnd (wz_X11_firstOf  h) (fun q2 hq2 => (PF.ite (fun _ => (PF.ite (fun _ => (wz_X11_fills_45  hq2)) (fun _ => (wz_X11_fills_45  hq2)))) (fun _ => PF.none))))) (fun _ => PF.none))
theorem wz_X11_hasChild_35 {s : ST} {k10 : Int32 → Int32 → Int32 → ST → Option (Int32 × ST)} {x2 : Int32} {x4 : Int32} {y0 : Int32} {σ : ST} (h_k10 : ∀ (x1 : Int32) (x2 : Int32) (x3 : Int32) (σ : ST), ZTB s σ → PF st1 (ZTB s) (k10 x1 x2 x3 σ))  (h : ZTB s σ) : PF st1 (ZTB s) (f_X11_hasChild_35 k10 x2 x4 y0 σ) := by
  unfold f_X11_hasChild_35
  exact (PF.ite (fun _ => (h_k10 _ _ _ _ h)) (fun _ => PF.none))
theorem wz_X11_hasChild_30 {s : ST} {k10 : Int32 → Int32 → Int32 → ST → Option (Int32 × ST)} {x2 : Int32} {x4 : Int32} {σ : ST} (h_k10 : ∀ (x1 : Int32) (x2 : Int32) (x3 : Int32) (σ : ST), ZTB s σ → PF st1 (ZTB s) (k10 x1 x2 x3 σ))  (h : ZTB s σ) : PF st1 (ZTB s) (f_X11_hasChild_30 k10 x2 x4 σ) := by
  unfold f_X11_hasChild_30
  exact (wz_X11_hasChild_35 h_k10 h)
theorem wz_X11_hasChild_10 {s : ST}    : ∀ (n : Nat) (x1 : Int32) (x2 : Int32) (x3 : Int32) (σ : ST), ZTB s σ → PF st1 (ZTB s) (f_X11_hasChild_10  n x1 x2 x3 σ) := by
  intro n
  induction n with
  | zero => intro x1 x2 x3 σ h; rw [f_X11_hasChild_10]; exact PF.none
  | succ n ih =>
    intro x1 x2 x3 σ h
    rw [f_X11_hasChild_10]
    exact (PF.ite (fun _ => (PF.ite (fun _ => (PF.ret1 h)) (fun _ => PF.none))) (fun _ => (PF.ite (fun _ => (PF.ite (fun _ => (PF.ite (fun _ => (wz_X11_hasChild_30 ih h)) (fun _ => (wz_X11_hasChild_35 ih h)))) (fun _ => PF.none))) (fun _ => (wz_X11_hasChild_30 ih h)))))
theorem wz_X11_hasChild {s : ST} {p0 : Int32} {p1 : Int32} {σ : ST}   (h : ZTB s σ) : PF st1 (ZTB s) (f_X11_hasChild p0 p1 σ) := by
  unfold f_X11_hasChild
  exact (PF.ite (fun _ => (wz_X11_hasChild_10  _ _ _ _ _ h)) (fun _ => PF.none))
theorem nn2 {α : Type} {σ : ST} {o : Option ((α × ST) × Nat)} (h : PF st2 (NUT σ) o) (hX : TX σ) : QT o (fun q => TX q.1.2 ∧ uT q.1.2 ≤ uT σ) := fun q e => h q e hX
theorem nn1 {α : Type} {σ : ST} {o : Option (α × ST)} (h : PF st1 (NUT σ) o) (hX : TX σ) : QT o (fun q => TX q.2 ∧ uT q.2 ≤ uT σ) := fun q e => h q e hX
theorem lz_parts171 {ri rp : Int32 → Int32 → Int32 → Int32 → ST → Option ((Int32 × ST) × Nat)} {rv : Int32 → Int32 → Int32 → Int32 → Int32 → ST → Option ((Int32 × ST) × Nat)} (x4 x5 : Int32) : ∀ (n : Nat) (x7 : Int32) (σ : ST), TX σ → ¬ (σ.1 0 6).toInt = 0 → QT (f_X11_parts_171 ri rp rv n x4 x5 x7 σ) (LSS σ) := by
  intro n
  induction n with
  | zero =>
    intro x7 σ _ _
    rw [f_X11_parts_171]
    exact QT.none
  | succ n ih =>
    intro x7 σ hX h6
    rw [f_X11_parts_171]
    refine QT.grd (fun _ => ?_)
    refine QT.ite (fun _ => ?_) (fun _ => ?_)
    · exact QT.bnd (q_go1 σ hX h6) (fun t ht => QT.ret (.inr ⟨one_ne, ht.1, ht.2⟩))
    · have hc : QT (f_X11_hasChild x4 x7 σ) (fun q => ZTB σ q.2) := wz_X11_hasChild (s := σ) ZTB.rf
      refine QT.bnd hc (fun q hq => ?_)
      have k4 := hq.tx hX
      have e6 : q.2.1 0 6 = σ.1 0 6 := hq 6 (by omega)
      refine QT.ite (fun _ => ?_) (fun _ => ?_)
      · refine QT.grd (fun _ => ?_)
        refine QT.ite (fun _ => (qb_wr 6 q.2).mono (fun z hz => .inl hz)) (fun _ => ?_)
        have hf : QT (f_X11_fills ((8 * x5) + x7) x4 x7 q.2) (fun z => ZTB q.2 z) := wz_X11_fills (s := q.2) ZTB.rf
        refine QT.bnd hf (fun z hz => ?_)
        unfold f_X11_parts_233
        have k5 := hz.tx k4.1
        have e6' : z.1 0 6 = q.2.1 0 6 := hz 6 (by omega)
        exact (ih _ z k5.1 (by rw [e6', e6]; exact h6)).mono (fun w hw => hw.le (by omega))
      · unfold f_X11_parts_233
        exact (ih _ q.2 k4.1 (by rw [e6]; exact h6)).mono (fun w hw => hw.le (by omega))
theorem lz_parts33 {ri rp : Int32 → Int32 → Int32 → Int32 → ST → Option ((Int32 × ST) × Nat)} {rv : Int32 → Int32 → Int32 → Int32 → Int32 → ST → Option ((Int32 × ST) × Nat)} (hv : NUV rv) (x1 x3 x4 x5 : Int32) : ∀ (n : Nat) (x6 : Int32) (σ : ST), TX σ → QT (f_X11_parts_33 ri rp rv n x1 x3 x4 x5 x6 σ) (LSS σ) := by
  intro n
  induction n with
  | zero =>
    intro x6 σ _
    rw [f_X11_parts_33]
    exact QT.none
  | succ n ih =>
    intro x6 σ hX
    rw [f_X11_parts_33]
    refine QT.ite (fun _ => ?_) (fun _ => ?_)
    · refine QT.ieq (fun e => ?_) (fun _ => (qb_wr 1 σ).mono (fun z hz => .inl hz))
      have l125 : (125 : Int32).toInt = 125 := by decide
      exact lz_parts171 x4 x5 FU 0 σ hX (hX.2.2.2 (by omega))
    · refine QT.bnd (nn2 (wn_X11_isName (s := σ) NUT.rf) hX) (fun q3 h3 => QT.kac ?_)
      refine QT.ite (fun _ => (qb_wr 1 q3.1.2).mono (fun z hz => .inl hz)) (fun _ => ?_)
      refine QT.bnd (nn1 (wn_X11_fieldOf (s := q3.1.2) NUT.rf) h3.1) (fun q5 h5 => ?_)
      refine QT.ite (fun _ => ?_) (fun _ => ?_)
      · unfold f_X11_parts_85
        exact (qb_wr 3 q5.2).mono (fun z hz => .inl hz)
      · refine QT.bnd (nn1 (wn_X11_hasChild (s := q5.2) NUT.rf) h5.1) (fun q7 h7 => ?_)
        refine QT.ite (fun _ => ?_) (fun _ => ?_)
        · refine QT.bnd (q_go q7.2 h7.1) (fun q9 h9 => ?_)
          have u9 := uT_le (σ := q7.2)
          refine QT.grd (fun _ => ?_)
          refine QT.bnd (hv _ _ _ _ _ q9 h9.1) (fun q hq => QT.kac ?_)
          obtain ⟨q1, q2⟩ := hq
          refine QT.ite (fun _ => QT.ret (.inl rfl)) (fun _ => ?_)
          unfold f_X11_parts_139
          refine QT.ite (fun _ => ?_) (fun _ => ?_)
          · refine QT.ite (fun _ => ?_) (fun _ => ?_)
            · exact (ih _ _ q1).mono (fun z hz => hz.le (by omega))
            · refine QT.bnd (q_go _ q1) (fun t ht => ?_)
              have := uT_le (σ := q.1.2)
              exact (ih _ _ ht.1).mono (fun z hz => hz.le (by omega))
          · refine QT.ite (fun _ => ?_) (fun _ => ?_)
            · exact (ih _ _ q1).mono (fun z hz => hz.le (by omega))
            · refine QT.bnd (q_go _ q1) (fun t ht => ?_)
              have := uT_le (σ := q.1.2)
              exact (ih _ _ ht.1).mono (fun z hz => hz.le (by omega))
        · unfold f_X11_parts_85
          exact (qb_wr 3 q7.2).mono (fun z hz => .inl hz)
/-- where the reference may stand when the class has refused: it can't end well -/
def DMD (L : Int) (b : ST) : Prop := TX b ∧ ((b.1 0 6).toInt = 5 ∧ (b.1 0 13).toInt = 0 ∨ (uT b : Int) + 1 ≤ L)
/-- an answer of the reference behind a refusal of the class's -/
def DMQ (L : Int) (q : (Int32 × ST) × Nat) : Prop := q.1.1 = 0 ∨ ¬ q.1.1 = 0 ∧ DMD L q.1.2
theorem LSS.dm {σ : ST} {q : (Int32 × ST) × Nat} (h : LSS σ q) {L : Int} (k : (uT σ : Int) ≤ L) : DMQ L q := by
  rcases h with h | ⟨h1, h2, h3⟩
  · exact .inl h
  · exact .inr ⟨h1, h2, .inr (by omega)⟩
theorem dm_items {ri rp : Int32 → Int32 → Int32 → Int32 → ST → Option ((Int32 × ST) × Nat)} {rv : Int32 → Int32 → Int32 → Int32 → Int32 → ST → Option ((Int32 × ST) × Nat)} (hv : NUV rv) (L : Int) (n : Nat) (x1 x2 x3 x4 x5 : Int32) (b : ST) (h : DMD (L + 1) b) : QT (if (b.1 0 13) = 44 then f_X11_items_70 ri rp rv (f_X11_items_25 ri rp rv n) x1 x2 x3 x4 x5 1 b else f_X11_items_70 ri rp rv (f_X11_items_25 ri rp rv n) x1 x2 x3 x4 x5 0 b) (DMQ L) := by
  obtain ⟨hX, h⟩ := h
  have l44 : (44 : Int32).toInt = 44 := by decide
  have l93 : (93 : Int32).toInt = 93 := by decide
  unfold f_X11_items_70
  rcases h with ⟨h6, h13⟩ | h
  · refine QT.ieq (fun e => by omega) (fun _ => ?_)
    refine QT.ite (fun _ => ?_) (fun e => absurd rfl e)
    cases n with
    | zero =>
      rw [f_X11_items_25]
      exact QT.none
    | succ n =>
      rw [f_X11_items_25]
      refine QT.ite (fun _ => ?_) (fun e => absurd rfl e)
      refine QT.bnd (q_mark 93 b hX (by decide)) (fun q hq => QT.grd (fun _ => QT.ret ?_))
      rcases hq with hq | ⟨_, h2, _⟩
      · exact .inl hq
      · omega
  · refine QT.ite (fun _ => ?_) (fun _ => ?_)
    · refine QT.ite (fun e => absurd e one_ne) (fun _ => ?_)
      refine QT.bnd (q_go _ hX) (fun t ht => ?_)
      have := uT_le (σ := b)
      exact (lz_items25 hv x1 x2 x3 x4 n _ _ t ht.1).mono (fun z hz => hz.dm (by omega))
    · refine QT.ite (fun _ => ?_) (fun e => absurd rfl e)
      exact (lz_items25 hv x1 x2 x3 x4 n _ _ b hX).mono (fun z hz => hz.dm (by omega))
theorem dm_parts {ri rp : Int32 → Int32 → Int32 → Int32 → ST → Option ((Int32 × ST) × Nat)} {rv : Int32 → Int32 → Int32 → Int32 → Int32 → ST → Option ((Int32 × ST) × Nat)} (hv : NUV rv) (L : Int) (n : Nat) (x1 x3 x4 x5 : Int32) (b : ST) (h : DMD (L + 1) b) : QT (if (b.1 0 13) = 44 then f_X11_parts_139 ri rp rv (f_X11_parts_33 ri rp rv n) x1 x3 x4 x5 1 b else f_X11_parts_139 ri rp rv (f_X11_parts_33 ri rp rv n) x1 x3 x4 x5 0 b) (DMQ L) := by
  obtain ⟨hX, h⟩ := h
  have l44 : (44 : Int32).toInt = 44 := by decide
  have l125 : (125 : Int32).toInt = 125 := by decide
  unfold f_X11_parts_139
  rcases h with ⟨h6, h13⟩ | h
  · refine QT.ieq (fun e => by omega) (fun _ => ?_)
    refine QT.ite (fun _ => ?_) (fun e => absurd rfl e)
    cases n with
    | zero =>
      rw [f_X11_parts_33]
      exact QT.none
    | succ n =>
      rw [f_X11_parts_33]
      refine QT.ite (fun _ => ?_) (fun e => absurd rfl e)
      refine QT.ieq (fun e => by omega) (fun _ => ?_)
      exact (qb_wr 1 b).mono (fun z hz => .inl hz)
  · refine QT.ite (fun _ => ?_) (fun _ => ?_)
    · refine QT.ite (fun e => absurd e one_ne) (fun _ => ?_)
      refine QT.bnd (q_go _ hX) (fun t ht => ?_)
      have := uT_le (σ := b)
      exact (lz_parts33 hv x1 x3 x4 x5 n _ t ht.1).mono (fun z hz => hz.dm (by omega))
    · refine QT.ite (fun _ => ?_) (fun e => absurd rfl e)
      exact (lz_parts33 hv x1 x3 x4 x5 n _ b hX).mono (fun z hz => hz.dm (by omega))
/-- a number with a point behind it that the class takes for none -/
def PTN (τ : ST) : Prop := (τ.1 0 13).toInt = 0 ∧ (τ.1 0 6).toInt = 2 ∧ ∃ k : Nat, (τ.1 0 5).toInt = k ∧ bt (τ.1 1) (τ.1 0 3).toInt k = 46
theorem TK.ptn {σ τ : ST} (h : TK σ τ) (h1 : (σ.1 2 4).toInt = 1) (hL : LT_ τ) : PTN τ := by
  obtain ⟨_, h | h | h | h | h | h⟩ := h
  · omega
  · obtain ⟨_, s0, h5 | h2⟩ := h
    · exfalso
      unfold LT_ W_ at hL
      omega
    · exact ⟨s0, h2⟩
  · obtain ⟨_, _, _, _, h9⟩ := h
    have h9 : (σ.1 2 4).toInt = 2 ∨ (σ.1 2 4).toInt = 3 := h9.elim (fun h => .inl h.1) (fun h => .inr h.1)
    omega
  · have := h.1
    clear h
    omega
  · have := h.1
    clear h
    omega
  · have := h.1
    clear h
    omega
/-! letters, twelve of them -/
theorem shr12 : ∀ (k : Nat), k ≤ 12 → ∀ a : Int64, (a >>> ((5 * Int32.ofNat k).toInt64 &&& 63)).toBitVec = a.toBitVec.sshiftRight (5 * k)
  | 0, _, _ => rfl
  | 1, _, _ => rfl
  | 2, _, _ => rfl
  | 3, _, _ => rfl
  | 4, _, _ => rfl
  | 5, _, _ => rfl
  | 6, _, _ => rfl
  | 7, _, _ => rfl
  | 8, _, _ => rfl
  | 9, _, _ => rfl
  | 10, _, _ => rfl
  | 11, _, _ => rfl
  | 12, _, _ => rfl
  | k + 13, h, _ => by omega
theorem a_letterOf12 (x : Int64) (p : Int32) (σ : ST) {X i : Nat} (hx : x.toInt = (X : Int)) (hp : p.toInt = i) (hi : i < 12) : OK (f_X10_letterOf x p σ) (RO σ fun v => v.toInt = ((X / 32 ^ i % 32 : Nat) : Int)) := by
  unfold f_X10_letterOf
  have l0 := li_0
  have l12 := li_12
  refine OK.ilt (fun h => by omega) (fun _ => ?_)
  refine OK.ilt (fun _ => ?_) (fun h => by omega)
  refine OK.roret ?_
  have ep : p = Int32.ofNat i := intOf hp (by omega)
  have e1 : (x >>> ((5 * p).toInt64 &&& 63)).toInt = ((X / 32 ^ i : Nat) : Int) := by
    have h := shr12 i (by omega) x
    rw [← ep] at h
    have h2 : (x >>> ((5 * p).toInt64 &&& 63)).toInt = (x >>> ((5 * p).toInt64 &&& 63)).toBitVec.toInt := rfl
    have h3 : x.toBitVec.toInt = (X : Int) := hx
    rw [h2, h, BitVec.toInt_sshiftRight, h3, Int.shiftRight_eq_div_pow]
    have h4 : 32 ^ i = 2 ^ (5 * i) := by rw [Nat.pow_mul]
    rw [h4]
    rfl
  generalize x >>> ((5 * p).toInt64 &&& 63) = y at e1 ⊢
  rw [and31]
  have e2 : y.toInt32.toInt = y.toInt.bmod (2 ^ 32) := Int64.toInt_toInt32 y
  obtain ⟨k, hk⟩ := i_bm y.toInt
  rw [e2, hk, e1]
  omega
theorem a_lettersIn12_2 (x : Int64) (σ : ST) {m : Nat} {g : Nat → Nat} (hm : m ≤ 12) (hg : GL g m) (hx : x.toInt = (n5 m g : Int)) : ∀ (f i : Nat) (p : Int32), p.toInt = i → i ≤ m → m < f + i → OK (f_X10_lettersIn_2 f x p σ) (RO σ fun v => v.toInt = m) := by
  intro f
  have l0 := li_0
  have l1 := li_1
  have l12 := li_12
  induction f with
  | zero => intro i p h1 h2 h3; omega
  | succ f ih =>
    intro i p hp hi hf
    rw [f_X10_lettersIn_2]
    refine OK.ile (fun h => OK.roret (by omega)) (fun h12 => ?_)
    refine OK.bndR (a_letterOf12 x p σ hx hp (by omega)) (fun v hv => ?_)
    dsimp only
    rw [n5_get m g hg i] at hv
    have e1 := il_addE (x := p) (y := 1) (by omega) (by omega)
    by_cases h : i < m
    · rw [if_pos h] at hv
      have := hg i h
      refine OK.ieq (fun h9 => by omega) (fun _ => ?_)
      exact ih (i + 1) (p + 1) (by omega) (by omega) (by omega)
    · rw [if_neg h] at hv
      refine OK.ieq (fun _ => ?_) (fun h9 => absurd (hv.trans l0.symm) h9)
      refine OK.roret ?_
      omega
theorem a_lettersIn12 (x y : Int64) (n : Int32) (σ : ST) (h : WLT x y n) : f_X10_lettersIn x σ = some (n, σ) := by
  obtain ⟨m, g, h1, h2, h3, _, h4⟩ := h
  have lu := FUi
  have k : OK (f_X10_lettersIn x σ) (RO σ fun v => v = n) := by
    unfold f_X10_lettersIn
    refine (a_lettersIn12_2 x σ h1 h2 h3 FU 0 0 li_0 (by omega) (by omega)).roq (fun v hv => Int32.toInt_inj.mp (by omega))
  obtain ⟨⟨v, s⟩, e, e1, e2⟩ := k
  have e1 : s = σ := e1
  have e2 : v = n := e2
  rw [e, e1, e2]
/-! the type of a value: the class's x, the reference's y; the root's, too -/
def TG (p : Nat) (rm : Int) (S T : ST) (d : Nat) (x y : Int32) : Prop := ((0 ≤ x.toInt ∧ x.toInt < (S.1 4 1).toInt) ∧ (0 ≤ y.toInt ∧ y.toInt < 800)) ∧ S.1 15 x.toNatClampNeg = T.1 2 y.toNatClampNeg ∧ (0 ≤ (T.1 2 y.toNatClampNeg).toInt ∧ (T.1 2 y.toNatClampNeg).toInt ≤ 8) ∧
  ((T.1 2 y.toNatClampNeg).toInt = 6 → TY p rm S T d (S.1 16 x.toNatClampNeg) (T.1 3 y.toNatClampNeg)) ∧
  ((T.1 2 y.toNatClampNeg).toInt = 7 → (0 ≤ (T.1 3 y.toNatClampNeg).toInt ∧ (T.1 3 y.toNatClampNeg).toInt < rm) ∧ (S.1 16 x.toNatClampNeg).toInt = 6 * (p : Int) + (T.1 3 y.toNatClampNeg).toInt) ∧
  ((T.1 2 y.toNatClampNeg).toInt = 8 → ∃ m : Nat, (1 ≤ m ∧ m ≤ 4) ∧ (T.1 4 y.toNatClampNeg).toInt = m ∧ (∀ k : Nat, k < m → TY p rm S T d (chn (S.1 17) (S.1 16 x.toNatClampNeg) k) (T.1 5 (4 * y.toNatClampNeg + k)) ∧ ¬ (T.1 2 (T.1 5 (4 * y.toNatClampNeg + k)).toNatClampNeg).toInt = 8) ∧ (chn (S.1 17) (S.1 16 x.toNatClampNeg) m).toInt = -1 ∧ ∀ j k : Nat, j < k → k < m → ¬ (T.1 2 (T.1 5 (4 * y.toNatClampNeg + j)).toNatClampNeg).toInt = (T.1 2 (T.1 5 (4 * y.toNatClampNeg + k)).toNatClampNeg).toInt)
theorem TG.of {p : Nat} {rm : Int} {S T : ST} {d : Nat} {x y : Int32} (h : TY p rm S T (d + 1) x y) : TG p rm S T d x y := by
  obtain ⟨⟨h1, h2⟩, h3, h4, h5, h6, _, h8⟩ := h
  refine ⟨⟨h1, by omega⟩, h3, h4, h5, h6, fun h9 => ?_⟩
  obtain ⟨k1, k2, k3, k4⟩ := h8 h9
  exact ⟨(T.1 4 y.toNatClampNeg).toInt.toNat, by omega, by omega, fun k hk => k2 k (by omega), k3, fun j k h1 h2 => k4 j k h1 (by omega)⟩
theorem TG.ex {p : Nat} {rm : Int} {S T : ST} {d : Nat} {x y : Int32} (h : TY p rm S T d x y) : ∃ d', TG p rm S T d' x y := by
  cases d with
  | zero => exact h.elim
  | succ d => exact ⟨d, .of h⟩
theorem KVA.t {s σ : ST} (h : KVA s σ) : (σ.1 4 = s.1 4 ∧ σ.1 7 = s.1 7) ∧ (σ.1 9 = s.1 9 ∧ σ.1 13 = s.1 13) ∧ σ.1 15 = s.1 15 ∧ σ.1 16 = s.1 16 ∧ σ.1 17 = s.1 17 ∧ σ.2.1 11 = s.2.1 11 := ⟨⟨h.1 4 (by omega) (by omega), h.1 7 (by omega) (by omega)⟩, ⟨h.1 9 (by omega) (by omega), h.1 13 (by omega) (by omega)⟩, h.1 15 (by omega) (by omega), h.1 16 (by omega) (by omega), h.1 17 (by omega) (by omega), h.2.2.1 11 (by omega) (by omega)⟩
theorem KVB.t {s σ : ST} (h : KVB s σ) : (σ.1 2 = s.1 2 ∧ σ.1 3 = s.1 3 ∧ σ.1 4 = s.1 4 ∧ σ.1 5 = s.1 5) ∧ (σ.1 11 = s.1 11 ∧ σ.1 15 = s.1 15 ∧ σ.1 16 = s.1 16 ∧ σ.1 19 = s.1 19) ∧ σ.2.1 12 = s.2.1 12 ∧ σ.2.1 17 = s.2.1 17 ∧ σ.2.1 18 = s.2.1 18 := ⟨⟨h.1 2 (by omega) (by omega) (by omega), h.1 3 (by omega) (by omega) (by omega), h.1 4 (by omega) (by omega) (by omega), h.1 5 (by omega) (by omega) (by omega)⟩, ⟨h.1 11 (by omega) (by omega) (by omega), h.1 15 (by omega) (by omega) (by omega), h.1 16 (by omega) (by omega) (by omega), h.1 19 (by omega) (by omega) (by omega)⟩, h.2.2 12 (by omega) (by omega) (by omega), h.2.2 17 (by omega) (by omega) (by omega), h.2.2 18 (by omega) (by omega) (by omega)⟩
theorem TG.sA {p : Nat} {rm : Int} {S T σ : ST} {d : Nat} {x y : Int32} (h : TG p rm S T d x y) (hn : (S.1 4 1).toInt ≤ 262) (k : KVA S σ) : f_X5_sortOf 4 x σ = some (T.1 2 y.toNatClampNeg, σ) ∧ f_X5_innerOf 4 x σ = some (S.1 16 x.toNatClampNeg, σ) := by
  obtain ⟨⟨k4, _⟩, _, k15, k16, _⟩ := k.t
  have hb : 0 ≤ x.toInt ∧ x.toInt < (σ.1 4 1).toInt := by rw [k4]; exact h.1.1
  have hn' : (σ.1 4 1).toInt ≤ 262 := by rw [k4]; exact hn
  refine ⟨?_, ?_⟩
  · rw [a4_sortOf x σ hb hn', k15, h.2.1]
  · rw [a4_innerOf x σ hb hn', k16]
/-- whether the token fits the k-th branch -/
def FBR (T τ : ST) (y : Int32) (k : Nat) : Prop := FT_ τ (T.1 2 (T.1 5 (4 * y.toNatClampNeg + k)).toNatClampNeg).toInt
/-- what the class chooses for a value: v (none: -1) -/
def FTA (S T τ : ST) (x y v : Int32) : Prop := (¬ (T.1 2 y.toNatClampNeg).toInt = 8 ∧ (v.toInt = -1 ∧ ¬ FT_ τ (T.1 2 y.toNatClampNeg).toInt ∨ v = x ∧ FT_ τ (T.1 2 y.toNatClampNeg).toInt)) ∨ ((T.1 2 y.toNatClampNeg).toInt = 8 ∧ ∃ m : Nat, (T.1 4 y.toNatClampNeg).toInt = m ∧ FIX m (FBR T τ y) (fun i => (chn (S.1 17) (S.1 16 x.toNatClampNeg) i).toInt) v.toInt)
/-- what the reference chooses: the branch br, the type u -/
def CHO (T τ : ST) (y br u : Int32) : Prop := (¬ (T.1 2 y.toNatClampNeg).toInt = 8 ∧ br.toInt = -1 ∧ u = y) ∨ ((T.1 2 y.toNatClampNeg).toInt = 8 ∧ ∃ m : Nat, (T.1 4 y.toNatClampNeg).toInt = m ∧ FIX m (FBR T τ y) (fun i => (i : Int)) br.toInt ∧ (br.toInt = -1 → u = y) ∧ ∀ k : Nat, br.toInt = k → u = T.1 5 (4 * y.toNatClampNeg + k))
theorem a_fit48 {p : Nat} {rm : Int} {S T σ τ : ST} {d : Nat} {x y : Int32} (hn : (S.1 4 1).toInt ≤ 262) (kv : KVA S σ) (hK : TK σ τ) (h1 : ¬ (σ.1 2 4).toInt = 1) {m : Nat} (hm4 : m ≤ 4) (hB : ∀ k : Nat, k < m → TY p rm S T d (chn (S.1 17) (S.1 16 x.toNatClampNeg) k) (T.1 5 (4 * y.toNatClampNeg + k))) (hz : (chn (S.1 17) (S.1 16 x.toNatClampNeg) m).toInt = -1) : ∀ (n k : Nat) (x2 x3 : Int32), x3.toInt = k → k ≤ m → x2 = chn (S.1 17) (S.1 16 x.toNatClampNeg) k → (∀ i, i < k → ¬ FBR T τ y i) → QT (f_X8_fittingType_48 n x2 x3 σ) (fun q => q.2 = σ ∧ FIX m (FBR T τ y) (fun i => (chn (S.1 17) (S.1 16 x.toNatClampNeg) i).toInt) q.1.toInt) := by
  have l0 := li_0
  have l1 := li_1
  have l4 := li_4
  have lm := li_m1
  intro n
  induction n with
  | zero =>
    intro k x2 x3 _ _ _ _
    rw [f_X8_fittingType_48]
    exact QT.none
  | succ n ih =>
    intro k x2 x3 h3 hk h2 hno
    rw [f_X8_fittingType_48]
    refine QT.ile (fun h => QT.ret ⟨rfl, .inl ⟨lm, fun i hi => hno i (by omega)⟩⟩) (fun _ => ?_)
    by_cases hkm : k = m
    · have hx2 : x2.toInt = -1 := by rw [h2, hkm]; exact hz
      refine QT.ieq (fun h => QT.ret ⟨rfl, .inl ⟨lm, fun i hi => hno i (by omega)⟩⟩) (fun h => absurd (by rw [hx2, lm]) h)
    · have hT := hB k (by omega)
      obtain ⟨d', hG⟩ := TG.ex hT
      rw [← h2] at hG
      have hx2 := hG.1.1.1
      refine QT.ieq (fun h => by omega) (fun _ => ?_)
      rw [(hG.sA hn kv).1]
      rw [sbnd]
      dsimp only
      refine QT.bndR (a_fits _ σ τ hK h1) (fun v hv => ?_)
      dsimp only
      refine QT.ieq (fun e0 => ?_) (fun e0 => ?_)
      · obtain ⟨⟨k4, _⟩, _, _, _, k17, _⟩ := kv.t
        rw [a4_branchAfter x2 σ (by rw [k4]; exact hG.1.1) (by rw [k4]; exact hn)]
        rw [sbnd]
        dsimp only
        have e3 := il_addE (x := x3) (y := 1) (by omega) (by omega)
        refine ih (k + 1) _ _ (by omega) (by omega) ?_ (fun i hi => ?_)
        · rw [k17, h2]
          rfl
        · rcases Nat.lt_or_ge i k with h9 | h9
          · exact hno i h9
          · have e9 : i = k := by omega
            rw [e9]
            rcases hv with hv | hv
            · exact hv.2
            · have := hv.1
              omega
      · have hF : FBR T τ y k := by
          rcases hv with hv | hv
          · have := hv.1
            omega
          · exact hv.2
        exact QT.ret ⟨rfl, .inr ⟨k, by omega, by rw [h2], hF, hno⟩⟩
theorem a_fitT {p : Nat} {rm : Int} {S T σ τ : ST} {d : Nat} {x y : Int32} (h : TG p rm S T d x y) (hn : (S.1 4 1).toInt ≤ 262) (kv : KVA S σ) (hK : TK σ τ) (h1 : ¬ (σ.1 2 4).toInt = 1) : QT (f_X8_fittingType x σ) (fun q => q.2 = σ ∧ FTA S T τ x y q.1) := by
  have l0 := li_0
  have l8 : (8 : Int32).toInt = 8 := by decide
  have lm := li_m1
  obtain ⟨s1, s2⟩ := h.sA hn kv
  unfold f_X8_fittingType
  rw [s1]
  rw [sbnd]
  dsimp only
  refine QT.ieq (fun e => ?_) (fun e => ?_)
  · rw [s2]
    rw [sbnd]
    dsimp only
    obtain ⟨m, hm, hM, hB, hz⟩ := h.2.2.2.2.2 (by omega)
    exact (a_fit48 (y := y) hn kv hK h1 hm.2 (fun k hk => (hB k hk).1) hz.1 FU 0 _ 0 l0 (by omega) rfl (fun i hi => by omega)).mono (fun q hq => ⟨hq.1, .inr ⟨by omega, m, hM, hq.2⟩⟩)
  · rw [s1]
    rw [sbnd]
    dsimp only
    refine QT.bndR (a_fits _ σ τ hK h1) (fun v hv => ?_)
    dsimp only
    refine QT.ieq (fun e0 => ?_) (fun e0 => ?_)
    · refine QT.ret ⟨rfl, .inl ⟨by omega, .inl ⟨lm, ?_⟩⟩⟩
      rcases hv with hv | hv
      · exact hv.2
      · have := hv.1
        omega
    · refine QT.ret ⟨rfl, .inl ⟨by omega, .inr ⟨rfl, ?_⟩⟩⟩
      rcases hv with hv | hv
      · have := hv.1
        omega
      · exact hv.2
theorem bq_branchFor_2 {p : Nat} {rm : Int} {S T τ : ST} {d : Nat} {x y : Int32} (hy : 0 ≤ y.toInt ∧ y.toInt < 800) (kv : KVB T τ) {m : Nat} (hm4 : m ≤ 4) (hM : (T.1 4 y.toNatClampNeg).toInt = m) (hB : ∀ k : Nat, k < m → TY p rm S T d (chn (S.1 17) (S.1 16 x.toNatClampNeg) k) (T.1 5 (4 * y.toNatClampNeg + k))) : ∀ (n k : Nat) (x2 : Int32), x2.toInt = k → k ≤ m → (∀ i, i < k → ¬ FBR T τ y i) → QT (f_X11_branchFor_2 n y x2 τ) (fun q => q.1.2 = τ ∧ FIX m (FBR T τ y) (fun i => (i : Int)) q.1.1.toInt) := by
  have l0 := li_0
  have l1 := li_1
  have lm := li_m1
  obtain ⟨⟨k2, _, k4, k5⟩, _⟩ := kv.t
  have ny := nN_ hy.1
  intro n
  induction n with
  | zero =>
    intro k x2 _ _ _
    rw [f_X11_branchFor_2]
    exact QT.none
  | succ n ih =>
    intro k x2 h2 hk hno
    rw [f_X11_branchFor_2]
    rw [k4, k5]
    refine QT.grd (fun _ => ?_)
    refine QT.ile (fun h => QT.ret ⟨rfl, .inl ⟨lm, fun i hi => hno i (by omega)⟩⟩) (fun hlt => ?_)
    refine QT.grd (fun _ => ?_)
    have e1 := mlE (k := 4) (y := y) 4 li_4 (by omega) (by omega)
    have e2 := il_addE (x := 4 * y) (y := x2) (by omega) (by omega)
    have e4 : (4 * y + x2).toNatClampNeg = 4 * y.toNatClampNeg + k := nC (by omega)
    rw [e4]
    obtain ⟨d', hG⟩ := TG.ex (hB k (by omega))
    refine QT.bndK (b_fits _ τ hG.1.2) (fun v c hv => QT.kac ?_)
    dsimp only
    rw [k2] at hv
    have e3 := il_addE (x := x2) (y := 1) (by omega) (by omega)
    refine QT.ieq (fun e0 => ?_) (fun e0 => ?_)
    · refine ih (k + 1) (x2 + 1) (by omega) (by omega) (fun i hi => ?_)
      rcases Nat.lt_or_ge i k with h9 | h9
      · exact hno i h9
      · have e9 : i = k := by omega
        rw [e9]
        rcases hv with hv | hv
        · exact hv.2
        · have := hv.1
          omega
    · have hF : FBR T τ y k := by
        rcases hv with hv | hv
        · have := hv.1
          omega
        · exact hv.2
      exact QT.ret ⟨rfl, .inr ⟨k, by omega, h2, hF, hno⟩⟩
theorem q_isValue (τ : ST) : OK (f_X11_isValue τ) (KO τ 10 fun v => v.toInt = 0 ∧ ¬ (LT_ τ ∨ (τ.1 0 13).toInt = 123) ∨ v.toInt = 1 ∧ (LT_ τ ∨ (τ.1 0 13).toInt = 123)) := by
  unfold f_X11_isValue f_X11_isValue_16
  have lt_0 := li_0
  have lt_1 := li_1
  have l123 : (123 : Int32).toInt = 123 := by decide
  refine OK.bndK (b_isLiteral τ) (fun v x hv hx => ?_)
  refine OK.kac ?_
  dsimp only
  refine OK.ieq (fun e0 => ?_) (fun e0 => ⟨_, rfl, rfl, .inr ⟨lt_1, .inl ?_⟩, hx⟩)
  · have hL : ¬ LT_ τ := by
      rcases hv with hv | hv
      · exact hv.2
      · have := hv.1
        omega
    exact OK.ieq (fun e => ⟨_, rfl, rfl, .inr ⟨lt_1, .inr (by omega)⟩, hx⟩) (fun e => ⟨_, rfl, rfl, .inl ⟨lt_0, fun h9 => h9.elim hL (fun h => e (by omega))⟩, hx⟩)
  · rcases hv with hv | hv
    · have := hv.1
      omega
    · exact hv.2
/-- the reference's way to a value's node: what it asks ahead of it -/
theorem q_val42 {ri rp : Int32 → Int32 → Int32 → Int32 → ST → Option ((Int32 × ST) × Nat)} {rv : Int32 → Int32 → Int32 → Int32 → Int32 → ST → Option ((Int32 × ST) × Nat)} (x1 x3 x4 x5 x6 u : Int32) (τ : ST) (hu : 0 ≤ u.toInt ∧ u.toInt < 800) (P : Int32 × ST → Prop) (hbad : ¬ ((LT_ τ ∨ (τ.1 0 13).toInt = 123) ∧ FT_ τ (τ.1 2 u.toNatClampNeg).toInt ∧ x3.toInt < 31 ∧ (x5.toInt < 200 ∨ x4.toInt < 0 ∨ ¬ (τ.1 20 x4.toNatClampNeg).toInt = 6)) → ∀ q : Int32 × ST, q.1 = 0 → P q) (hgood : (LT_ τ ∨ (τ.1 0 13).toInt = 123) → FT_ τ (τ.1 2 u.toNatClampNeg).toInt → x3.toInt < 31 → (x5.toInt < 200 ∨ x4.toInt < 0 ∨ ¬ (τ.1 20 x4.toNatClampNeg).toInt = 6) → QT (f_X11_value_104 ri rp rv x1 x3 x4 x5 x6 u 0 τ) (fun q => P q.1)) : QT (f_X11_value_42 ri rp rv x1 x3 x4 x5 x6 u τ) (fun q => P q.1) := by
  have l0 := li_0
  have l1 := li_1
  have l2 := li_2
  have l4 := li_4
  have l6 := li_6
  have l31 : (31 : Int32).toInt = 31 := by decide
  have l200 : (200 : Int32).toInt = 200 := by decide
  have bad : ∀ (k : Int32), 0 < k.toInt → ¬ ((LT_ τ ∨ (τ.1 0 13).toInt = 123) ∧ FT_ τ (τ.1 2 u.toNatClampNeg).toInt ∧ x3.toInt < 31 ∧ (x5.toInt < 200 ∨ x4.toInt < 0 ∨ ¬ (τ.1 20 x4.toNatClampNeg).toInt = 6)) → QT (f_X11_value_104 ri rp rv x1 x3 x4 x5 x6 u k τ) (fun q => P q.1) := fun k hk hn => by
    unfold f_X11_value_104
    exact QT.ile (fun h => by omega) (fun _ => (qb_wr k τ).mono (fun z hz => hbad hn z.1 hz))
  unfold f_X11_value_42
  refine QT.bndK (q_isValue τ) (fun v c hv => QT.kac ?_)
  dsimp only
  refine QT.ieq (fun e0 => bad 1 (by omega) (fun h9 => ?_)) (fun e0 => ?_)
  · rcases hv with hv | hv
    · exact hv.2 h9.1
    · have := hv.1
      omega
  have hL : LT_ τ ∨ (τ.1 0 13).toInt = 123 := by
    rcases hv with hv | hv
    · have := hv.1
      omega
    · exact hv.2
  refine QT.bndK (b_fits u τ hu) (fun v2 c2 hv2 => QT.kac ?_)
  dsimp only
  refine QT.ieq (fun e1 => bad 2 (by omega) (fun h9 => ?_)) (fun e1 => ?_)
  · rcases hv2 with hv | hv
    · exact hv.2 h9.2.1
    · have := hv.1
      omega
  have hF : FT_ τ (τ.1 2 u.toNatClampNeg).toInt := by
    rcases hv2 with hv | hv
    · have := hv.1
      omega
    · exact hv.2
  unfold f_X11_value_99 f_X11_value_103
  refine QT.ile (fun h => bad 4 (by omega) (fun h9 => by have := h9.2.2.1; omega)) (fun h31 => ?_)
  refine QT.ilt (fun h => hgood hL hF (by omega) (.inl (by omega))) (fun h200 => ?_)
  refine QT.ilt (fun h => hgood hL hF (by omega) (.inr (.inl (by omega)))) (fun hx4 => ?_)
  refine QT.grd (fun _ => ?_)
  exact QT.ieq (fun h => bad 4 (by omega) (fun h9 => by have := h9.2.2.2; omega)) (fun h => hgood hL hF (by omega) (.inr (.inr (by omega))))
theorem q_value {ri rp : Int32 → Int32 → Int32 → Int32 → ST → Option ((Int32 × ST) × Nat)} {rv : Int32 → Int32 → Int32 → Int32 → Int32 → ST → Option ((Int32 × ST) × Nat)} {p : Nat} {rm : Int} {S T τ : ST} {d : Nat} {x y : Int32} (h : TG p rm S T d x y) (kv : KVB T τ) (p0 p2 p3 p4 : Int32) (P : Int32 × ST → Prop) (k : ∀ br u : Int32, CHO T τ y br u → QT (f_X11_value_42 ri rp rv p0 p2 p3 p4 br u τ) (fun q => P q.1)) : QT (f_X11_value ri rp rv p0 y p2 p3 p4 τ) (fun q => P q.1) := by
  have l0 := li_0
  have l8 : (8 : Int32).toInt = 8 := by decide
  have lm := li_m1
  obtain ⟨⟨k2, _, k4, k5⟩, _⟩ := kv.t
  have ny := nN_ h.1.2.1
  unfold f_X11_value f_X11_value_20
  refine QT.grd (fun _ => ?_)
  rw [k2]
  refine QT.ieq (fun e => ?_) (fun e => ?_)
  · obtain ⟨m, hm, hM, hB, hz⟩ := h.2.2.2.2.2 (by omega)
    refine QT.bnd (bq_branchFor_2 h.1.2 kv hm.2 hM (fun k hk => (hB k hk).1) FU 0 0 l0 (by omega) (fun i hi => by omega)) (fun q hq => QT.kac ?_)
    obtain ⟨⟨v, s⟩, c⟩ := q
    obtain ⟨e1, hv⟩ := hq
    have e1 : s = τ := e1
    subst e1
    have hv : FIX m (FBR T s y) (fun i => (i : Int)) v.toInt := hv
    dsimp only
    rw [k5]
    refine QT.ile (fun h0 => ?_) (fun h0 => ?_)
    · rcases hv with hv | ⟨i, h1, h2, h3, h4⟩
      · have := hv.1
        omega
      · have h2 : v.toInt = (i : Int) := h2
        refine QT.grd (fun _ => ?_)
        have e1 := mlE (k := 4) (y := y) 4 li_4 (by omega) (by omega)
        have e2 := il_addE (x := 4 * y) (y := v) (by omega) (by omega)
        have e4 : (4 * y + v).toNatClampNeg = 4 * y.toNatClampNeg + i := nC (by omega)
        rw [e4]
        refine k v _ (.inr ⟨by omega, m, hM, .inr ⟨i, h1, h2, h3, h4⟩, fun h9 => by omega, fun k9 h9 => ?_⟩)
        rw [show k9 = i by omega]
    · refine k v y (.inr ⟨by omega, m, hM, hv, fun _ => rfl, fun k9 h9 => by omega⟩)
  · refine QT.ite (fun h0 => absurd (Int32.le_iff_toInt_le.mp h0) (by omega)) (fun _ => ?_)
    exact k (-1) y (.inl ⟨by omega, lm, rfl⟩)
/-- both choose alike -/
theorem fit_pair {p : Nat} {rm : Int} {S T τ : ST} {d : Nat} {x y v br u : Int32} (h : TG p rm S T d x y) (hA : FTA S T τ x y v) (hB : CHO T τ y br u) : (v.toInt = -1 ∧ ¬ FT_ τ (T.1 2 u.toNatClampNeg).toInt) ∨ (0 ≤ v.toInt ∧ FT_ τ (T.1 2 u.toNatClampNeg).toInt ∧ OWN S T x y br v u ∧ ∃ d', TG p rm S T d' v u) := by
  rcases hB with ⟨b1, b2, b3⟩ | ⟨b1, m, b2, b3, b4, b5⟩
  · subst b3
    rcases hA with ⟨a1, a2⟩ | ⟨a1, _⟩
    · rcases a2 with a2 | ⟨a2, a3⟩
      · exact .inl a2
      · subst a2
        exact .inr ⟨h.1.1.1, a3, .inl ⟨b2, rfl, rfl, b1⟩, d, h⟩
    · exact absurd a1 b1
  · rcases hA with ⟨a1, _⟩ | ⟨_, m', a2, a3⟩
    · exact absurd b1 a1
    · have em : m' = m := by omega
      subst em
      rcases a3 with ⟨a3, a4⟩ | ⟨i, a3, a4, a5, a6⟩
      · refine .inl ⟨a3, ?_⟩
        rcases b3 with ⟨b3, _⟩ | ⟨j, c3, _, c5, _⟩
        · rw [b4 b3]
          exact ft_8 (by omega)
        · exact absurd c5 (a4 j c3)
      · rcases b3 with ⟨b3, c4⟩ | ⟨j, c3, c4, c5, c6⟩
        · exact absurd a5 (c4 i a3)
        · have eij : i = j := by
            rcases Nat.lt_trichotomy i j with h9 | h9 | h9
            · exact absurd a5 (c6 i h9)
            · exact h9
            · exact absurd c5 (a6 j h9)
          subst eij
          obtain ⟨m2, hm, hM, hT, hz⟩ := h.2.2.2.2.2 b1
          have hT := hT i (by omega)
          have eu := b5 i c4
          have ev : v = chn (S.1 17) (S.1 16 x.toNatClampNeg) i := Int32.toInt_inj.mp a4
          obtain ⟨d', hG⟩ := TG.ex hT.1
          rw [← ev, ← eu] at hG
          refine .inr ⟨hG.1.1.1, ?_, .inr ⟨b1, i, c4, by omega, ev, eu⟩, d', hG⟩
          have a5 : FT_ τ (T.1 2 (T.1 5 (4 * y.toNatClampNeg + i)).toNatClampNeg).toInt := a5
          rw [eu]
          exact a5
theorem OWN.n8 {p : Nat} {rm : Int} {S T : ST} {d : Nat} {x y v br u : Int32} (h : TG p rm S T d x y) (k : OWN S T x y br v u) : ¬ (T.1 2 u.toNatClampNeg).toInt = 8 := by
  rcases k with ⟨_, _, e, h9⟩ | ⟨h8, i, _, h1, _, e⟩
  · rw [e]
    exact h9
  · obtain ⟨m, hm, hM, hT, _⟩ := h.2.2.2.2.2 h8
    rw [e]
    exact (hT i (by omega)).2
/-! a value's node: both sides, and what has no others in it -/
theorem TWX.ext {σ τ a b : ST} (h : TWX σ τ) (a1 : a.1 2 = σ.1 2) (a2 : a.2.1 2 = σ.2.1 2) (b1 : b.1 0 8 = τ.1 0 8) (b2 : b.2.1 0 = τ.2.1 0) (b3 : b.2.2.1 = τ.2.2.1) : TWX a b := by
  unfold TWX
  rw [a1, a2, b1, b2, b3]
  exact h
theorem CA.kva {σ a : ST} (h : CA σ a) : KVA σ a := ⟨fun c c2 _ => h.1 c c2, ⟨h.2.1, fun i _ => by rw [h.1 62 (by omega)]⟩, fun c c2 _ => h.2.2.1 c c2, h.2.2.2⟩
theorem CH.kvb {τ b : ST} (h : CH [] GI τ b) (hL : ∀ c, c ≠ 0 → b.2.1 c = τ.2.1 c) : KVB τ b := ⟨fun c c0 _ _ => h.1 c c0 (by simp), fun i i4 i5 i6 i8 i10 i12 i13 i46 => h.2.1 i (by
  simp only [GI, List.mem_cons, List.not_mem_nil, or_false, not_or]
  exact ⟨i4, i5, i6, i8, i10, i13⟩), fun c c0 _ _ => hL c c0⟩
theorem GRW.kva {x : Nat} {so pa pl : Int32} {l m : List Nat} {σ s : ST} (h : GRW 62 x so pa pl l m σ s) : KVA σ s := by
  obtain ⟨⟨h1, h2, h3, h4⟩, _⟩ := h
  exact ⟨fun c _ hc => h1 c (by omega), ⟨by rw [h1 2 (by omega)], fun i hi => h4 i hi⟩, fun c _ hc => h2 c (by omega), h3⟩
theorem GRB.kvb {x : Nat} {so pa pl br : Int32} {l m : List Nat} {τ t : ST} (h : GRB x so pa pl br l m τ t) : KVB τ t := by
  obtain ⟨⟨h1, h2, h3, h4⟩, _⟩ := h
  exact ⟨fun c c0 c20 hc => h1 c c0 c20 hc, fun i _ _ _ _ _ _ _ h46 => h4 i h46, fun c _ c21 c22 => h2 c c21 c22⟩
/-- the tokens stay as a node comes -/
theorem LX.grow {x v : Nat} {so so' pa pb pl br : Int32} {l m l' m' : List Nat} {σ τ s t : ST} (h : LX σ τ ∧ TWX σ τ) (hA : GRW 62 x so pa pl l m σ s) (hB : GRB v so' pb pl br l' m' τ t) : LX s t ∧ TWX s t := by
  obtain ⟨⟨h1, h2, h3, h4⟩, _⟩ := hA
  obtain ⟨⟨k1, k2, k3, k4⟩, _⟩ := hB
  refine ⟨h.1.ext (h1 1 (by omega)) (h1 2 (by omega)) (h2 3 (by omega)) (h2 2 (by omega)) (k1 1 (by omega) (by omega) (by omega)) (fun i hi => k4 i (fun e => by rw [e] at hi; revert hi; decide)) (k2 0 (by omega) (by omega)), h.2.ext (h1 2 (by omega)) (h2 2 (by omega)) (k4 8 (by omega)) (k2 0 (by omega) (by omega)) (by rw [k3])⟩
theorem a_setW (b : Nat) (p0 p1 : Int32) (p2 : Int64) (σ : ST) {x : Nat} (h : p0.toInt = x) (h1 : (x : Int) < (σ.1 b 1).toInt) (h0 : (x : Int) < (σ.1 b 0).toInt) : QT (f_X7_setWorth b p0 p1 p2 σ) (fun s => s = stL (stI σ (b + 4) x p1) (b + 6) x p2) := by
  have l0 := li_0
  have n0 : p0.toNatClampNeg = x := nC h
  unfold f_X7_setWorth
  refine QT.bnd (pt_isRow b p0 σ) (fun q hq => ?_)
  obtain ⟨v, s⟩ := q
  obtain ⟨e, hv⟩ := hq
  have e : s = σ := e
  subst e
  have hv : v.toInt = 0 ∧ ¬ (0 ≤ p0.toInt ∧ p0.toInt < (s.1 b 1).toInt ∧ p0.toInt < (s.1 b 0).toInt) ∨ v.toInt = 1 ∧ 0 ≤ p0.toInt ∧ p0.toInt < (s.1 b 1).toInt ∧ p0.toInt < (s.1 b 0).toInt := hv
  dsimp only
  refine QT.ieq (fun e => ?_) (fun e => ?_)
  · omega
  · refine QT.grd (fun _ => ?_)
    rw [n0]
    exact QT.ret rfl
/-- where both stand: so many rows of each tree, and what is left of the text -/
def CXT (S T σ τ : ST) (x v : Nat) (F : Int) : Prop := (KVA S σ ∧ KVB T τ) ∧ (LX σ τ ∧ TWX σ τ) ∧ ((σ.1 62 1).toInt = x ∧ (σ.1 62 0).toInt = 502) ∧ (τ.1 0 46).toInt = v ∧ (2 * (x : Int) + (uT τ : Int) ≤ F ∧ x ≤ 502)
/-- the parent of what comes next, at a place between l and m -/
def PAR (σ τ : ST) (x v : Nat) (pa pb pl : Int32) (l m : List EN) : Prop := ((pa.toInt = -1 ∧ pb.toInt = -1) ∧ l = [] ∧ m = [] ∧ pl.toInt = 0) ∨ ∃ (x0 v0 : Nat) (Q : EN → Prop), ((pa.toInt = x0 ∧ x0 < x) ∧ pb.toInt = v0 ∧ v0 < v) ∧ KDS 62 σ τ (x0, x) (v0, v) (l ++ m) Q ∧ (∀ y, y ∈ l ++ m → (inA y = true → (σ.1 (62 + 3) y.2.1.1).toInt = y.1) ∧ (τ.1 25 y.2.2.1).toInt = y.1) ∧ (∀ y, y ∈ l → (y.1 : Int) < pl.toInt) ∧ (∀ y, y ∈ m → pl.toInt < y.1) ∧ (0 ≤ pl.toInt ∧ pl.toInt ≤ 200) ∧ (pl.toInt < 200 ∨ (τ.1 20 v0).toInt = 6)
theorem rA_in {l : List EN} {y : EN} (h : y ∈ l) (k : inA y = true) : y.2.1.1 ∈ rA l := List.mem_map.mpr ⟨y, List.mem_filter.mpr ⟨h, k⟩, rfl⟩
theorem PAR.lt {σ τ : ST} {x v : Nat} {pa pb pl : Int32} {l m : List EN} (h : PAR σ τ x v pa pb pl l m) : pa.toInt < x ∧ pb.toInt < v ∧ (∀ r, r ∈ rA l ++ rA m → r < x) ∧ (∀ r, r ∈ rB l ++ rB m → r < v) ∧ 0 ≤ pl.toInt ∧ pl.toInt ≤ 200 := by
  rcases h with ⟨⟨h1, h2⟩, h3, h4, h5⟩ | ⟨x0, v0, Q, ⟨⟨h1, h2⟩, h3, h4⟩, h5, _, _, _, h9, _⟩
  · refine ⟨by omega, by omega, fun r hr => ?_, fun r hr => ?_, by omega, by omega⟩
    · rw [h3, h4] at hr
      exact absurd hr (by simp [rA])
    · rw [h3, h4] at hr
      exact absurd hr (by simp [rB])
  · refine ⟨by omega, by omega, fun r hr => ?_, fun r hr => ?_, h9.1, h9.2⟩
    · rw [← rA_app] at hr
      obtain ⟨y, y1, y2, y3⟩ := mem_rA hr
      have k := (h5.2.2.2 y y1).2.1
      have k1 := k.1 y2
      have k2 := inA_lt y2
      have k1 : x0 < y.2.1.1 ∧ y.2.1.2 ≤ x := k1
      omega
    · rw [← rB_app] at hr
      obtain ⟨y, y1, y3⟩ := mem_rB hr
      have k : v0 < y.2.2.1 ∧ y.2.2.1 < y.2.2.2 ∧ y.2.2.2 ≤ v := (h5.2.2.2 y y1).1
      omega
theorem PAR.gA {σ τ : ST} {x v : Nat} {pa pb pl : Int32} {l m : List EN} (h : PAR σ τ x v pa pb pl l m) : pa.toInt = -1 ∨ 0 ≤ pa.toInt ∧ pa.toInt < x ∧ ((rA l ++ rA m).Nodup ∧ CN (σ.1 (62 + 9)) (σ.1 (62 + 7) pa.toNatClampNeg) (rA l ++ rA m) ∧ (σ.1 (62 + 8) pa.toNatClampNeg).toInt = lz (-1) (rA l ++ rA m)) ∧ (∀ r, r ∈ rA l ++ rA m → r < x) ∧ (rA l).length ≤ x ∧ (∀ r, r ∈ rA l → (σ.1 (62 + 3) r).toInt < pl.toInt) ∧ (∀ r, r ∈ rA m → pl.toInt ≤ (σ.1 (62 + 3) r).toInt) := by
  have hlt := h.lt
  rcases h with ⟨⟨h1, h2⟩, h3, h4, h5⟩ | ⟨x0, v0, Q, ⟨⟨h1, h2⟩, h3, h4⟩, h5, h6, h7, h8, _⟩
  · exact .inl h1
  · obtain ⟨⟨⟨k1, k2⟩, _⟩, ⟨k3, _⟩, ⟨_, k4⟩, _⟩ := h5
    have n0 : pa.toNatClampNeg = x0 := nC h1
    rw [n0]
    rw [← rA_app]
    have k4 : (rA (l ++ m)).length + x0 < x := k4.1
    have e4 : (rA (l ++ m)).length = (rA l).length + (rA m).length := by rw [rA_app, List.length_append]
    refine .inr ⟨by omega, by omega, ⟨rA_nd k3, k1, k2⟩, by rw [rA_app]; exact hlt.2.2.1, by omega, fun r hr => ?_, fun r hr => ?_⟩
    · obtain ⟨y, y1, y2, y3⟩ := mem_rA hr
      have := (h6 y (List.mem_append_left _ y1)).1 y2
      have := h7 y y1
      rw [y3]
      omega
    · obtain ⟨y, y1, y2, y3⟩ := mem_rA hr
      have := (h6 y (List.mem_append_right _ y1)).1 y2
      have := h8 y y1
      rw [y3]
      omega
theorem PAR.gB {σ τ : ST} {x v : Nat} {pa pb pl : Int32} {l m : List EN} (h : PAR σ τ x v pa pb pl l m) : pb.toInt = -1 ∨ 0 ≤ pb.toInt ∧ pb.toInt < v ∧ ((rB l ++ rB m).Nodup ∧ CN (τ.1 30) (τ.1 28 pb.toNatClampNeg) (rB l ++ rB m) ∧ (τ.1 29 pb.toNatClampNeg).toInt = lz (-1) (rB l ++ rB m)) ∧ (∀ r, r ∈ rB l ++ rB m → r < v) ∧ (∀ r, r ∈ rB l → (τ.1 25 r).toInt < pl.toInt) ∧ (∀ r, r ∈ rB m → pl.toInt ≤ (τ.1 25 r).toInt) := by
  have hlt := h.lt
  rcases h with ⟨⟨h1, h2⟩, h3, h4, h5⟩ | ⟨x0, v0, Q, ⟨⟨h1, h2⟩, h3, h4⟩, h5, h6, h7, h8, _⟩
  · exact .inl h2
  · obtain ⟨⟨_, k1, k2⟩, ⟨k3, _⟩, _, k5⟩ := h5
    have n0 : pb.toNatClampNeg = v0 := nC h3
    rw [n0]
    rw [← rB_app]
    refine .inr ⟨by omega, by omega, ⟨rB_nd k3 (fun y hy => (k5 y hy).1.2.1), k1, k2⟩, by rw [rB_app]; exact hlt.2.2.2.1, fun r hr => ?_, fun r hr => ?_⟩
    · obtain ⟨y, y1, y3⟩ := mem_rB hr
      have := (h6 y (List.mem_append_left _ y1)).2
      have := h7 y y1
      rw [y3]
      omega
    · obtain ⟨y, y1, y3⟩ := mem_rB hr
      have := (h6 y (List.mem_append_right _ y1)).2
      have := h8 y y1
      rw [y3]
      omega
/-- the reference's node and what it does then -/
theorem q_104 {ri rp : Int32 → Int32 → Int32 → Int32 → ST → Option ((Int32 × ST) × Nat)} {rv : Int32 → Int32 → Int32 → Int32 → Int32 → ST → Option ((Int32 × ST) × Nat)} (x1 x3 pb pl br u : Int32) (τ : ST) {v : Nat} {l m : List Nat} (hu : 0 ≤ u.toInt ∧ u.toInt < 800) (hv : (τ.1 0 46).toInt = v) (hpa : pb.toInt = -1 ∨ 0 ≤ pb.toInt ∧ pb.toInt < v ∧ ((l ++ m).Nodup ∧ CN (τ.1 30) (τ.1 28 pb.toNatClampNeg) (l ++ m) ∧ (τ.1 29 pb.toNatClampNeg).toInt = lz (-1) (l ++ m)) ∧ (∀ r, r ∈ l ++ m → r < v) ∧ (∀ r, r ∈ l → (τ.1 25 r).toInt < pl.toInt) ∧ (∀ r, r ∈ m → pl.toInt ≤ (τ.1 25 r).toInt)) (P : Int32 × ST → Prop)
    (k6 : (τ.1 2 u.toNatClampNeg).toInt = 6 → ∀ (w : Int32) (t : ST), w.toInt = v ∧ v < 4096 → GRB v (τ.1 2 u.toNatClampNeg) pb pl br l m τ t → QT (ri x1 u x3 w t) (fun q => P q.1))
    (k7 : (τ.1 2 u.toNatClampNeg).toInt = 7 → ∀ (w : Int32) (t : ST), w.toInt = v ∧ v < 4096 → GRB v (τ.1 2 u.toNatClampNeg) pb pl br l m τ t → QT (rp x1 u x3 w t) (fun q => P q.1))
    (k5 : ¬ (τ.1 2 u.toNatClampNeg).toInt = 6 → ¬ (τ.1 2 u.toNatClampNeg).toInt = 7 → ∀ (t : ST) (c e : Int64) (n : Int32), GRB v (τ.1 2 u.toNatClampNeg) pb pl br l m τ t → BTS (τ.1 2 u.toNatClampNeg).toInt t c → ((τ.1 2 u.toNatClampNeg).toInt = 5 ∧ e = t.2.1 0 7 ∧ n = t.1 0 8 ∨ ¬ (τ.1 2 u.toNatClampNeg).toInt = 5 ∧ e = 0 ∧ n = 0) → QT (f_X11_go (stI (stL (stL t 21 v c) 22 v e) 23 v n)) (fun b => P (1, b))) : QT (f_X11_value_104 ri rp rv x1 x3 pb pl br u 0 τ) (fun q => P q.1) := by
  have l0 := li_0
  have l5 := li_5
  have l6 := li_6
  have l7 := li_7
  unfold f_X11_value_104
  refine QT.ile (fun _ => ?_) (fun h => by omega)
  refine QT.grd (fun _ => ?_)
  refine QT.bnd (b_lays _ pb pl br τ hv hpa) (fun q hq => ?_)
  obtain ⟨w, t⟩ := q
  obtain ⟨⟨hw, hv4⟩, g⟩ := hq
  have hw : w.toInt = v := hw
  have g : GRB v (τ.1 2 u.toNatClampNeg) pb pl br l m τ t := g
  have e2 : t.1 2 = τ.1 2 := g.1.1 2 (by omega) (by omega) (by omega)
  dsimp only
  rw [e2]
  have nw : w.toNatClampNeg = v := nC hw
  refine QT.ieq (fun e6 => ?_) (fun e6 => ?_)
  · refine QT.bnd (k6 (by omega) w t ⟨hw, hv4⟩ g) (fun z hz => QT.kac ?_)
    exact QT.grd (fun _ => QT.ret hz)
  refine QT.ieq (fun e7 => ?_) (fun e7 => ?_)
  · refine QT.bnd (k7 (by omega) w t ⟨hw, hv4⟩ g) (fun z hz => QT.kac ?_)
    exact QT.grd (fun _ => QT.ret hz)
  refine QT.bndK (bx_bitsOf u t hu) (fun c x hc => QT.kac ?_)
  rw [e2] at hc
  dsimp only
  refine QT.grd (fun _ => ?_)
  rw [nw]
  have es : (stL t 21 v c).1 2 = τ.1 2 := e2
  rw [es]
  unfold f_X11_value_221 f_X11_value_247
  rw [nw]
  have fin : ∀ (e : Int64) (n : Int32), ((τ.1 2 u.toNatClampNeg).toInt = 5 ∧ e = t.2.1 0 7 ∧ n = t.1 0 8 ∨ ¬ (τ.1 2 u.toNatClampNeg).toInt = 5 ∧ e = 0 ∧ n = 0) → QT ((f_X11_go (stI (stL (stL t 21 v c) 22 v e) 23 v n)).bind fun q2 => some (((1 : Int32), q2), 0)) (fun q => P q.1) := fun e n he => QT.bnd (k5 (by omega) (by omega) t c e n g hc he) (fun z hz => QT.ret hz)
  have e7L : (stL t 21 v c).2.1 0 = t.2.1 0 := stL_ne (by omega)
  refine QT.ieq (fun e5 => ?_) (fun e5 => ?_)
  · refine QT.grd (fun _ => QT.grd (fun _ => ?_))
    have es2 : (stL (stL t 21 v c) 22 v ((stL t 21 v c).2.1 0 7)).1 2 = τ.1 2 := e2
    rw [es2]
    refine QT.ieq (fun _ => ?_) (fun h => by omega)
    refine QT.grd (fun _ => ?_)
    rw [e7L]
    exact fin _ _ (.inl ⟨by omega, rfl, rfl⟩)
  · refine QT.grd (fun _ => QT.grd (fun _ => ?_))
    have es2 : (stL (stL t 21 v c) 22 v 0).1 2 = τ.1 2 := e2
    rw [es2]
    refine QT.ieq (fun h => by omega) (fun _ => ?_)
    refine QT.grd (fun _ => ?_)
    exact fin _ _ (.inr ⟨by omega, rfl, rfl⟩)
/-! where the class takes a number for none -/
theorem q_ptn (τ : ST) (h : PTN τ) (hX : TX τ) : QT (f_X11_go τ) (fun t => TX t ∧ (t.1 0 6).toInt = 5 ∧ (t.1 0 13).toInt = 0) := by
  obtain ⟨h13, h6, k, h5, h46⟩ := h
  have b5 := hX.2.1
  have b3 := hX.1
  unfold bI at b5 b3
  refine (QT.ok ((b_go τ k b3 h5 (by omega)).and (b_goT τ hX))).mono (fun t ht => ?_)
  obtain ⟨⟨_, s, hs, hT⟩, _, tx, _⟩ := ht
  have es : s = k := by
    rcases Nat.lt_or_ge k s with h9 | h9
    · have := hs.2.1 k (Nat.le_refl _) h9
      unfold isB at this
      omega
    · exact Nat.le_antisymm h9 hs.1
  subst es
  refine ⟨tx, ?_⟩
  obtain ⟨_, h | h | h | h | h⟩ := hT
  · have := h.1
    clear h
    omega
  · have := h.1
    clear h
    unfold isL at this
    omega
  · have h9 := h.1
    clear h
    unfold isD at h9
    omega
  · have := h.1
    clear h
    omega
  · rcases h.2.2 with h9 | h9
    · have := h9.1
      clear h h9
      omega
    · exact h9.2
theorem PTN.ext {τ t : ST} (h : PTN τ) (e0 : ∀ j, j ≠ 46 → t.1 0 j = τ.1 0 j) (e1 : t.1 1 = τ.1 1) : PTN t := by
  unfold PTN
  rw [e0 13 (by omega), e0 6 (by omega), e0 5 (by omega), e0 3 (by omega), e1]
  exact h
theorem TX.ext {τ t : ST} (h : TX τ) (e0 : ∀ j, j ≠ 46 → t.1 0 j = τ.1 0 j) : TX t ∧ uT t = uT τ := TX.of h (e0 3 (by omega)) (e0 5 (by omega)) (e0 6 (by omega)) (e0 8 (by omega)) (e0 13 (by omega))
theorem stI0 {σ : ST} {c i : Nat} {v : Int32} (h : ¬ c = 0) : (stI σ c i v).1 0 = σ.1 0 := stI_ne (fun e => h e.symm)
/-- the reference, where the class takes a number for none: it stands at a point then -/
theorem q_ptn42 {ri rp : Int32 → Int32 → Int32 → Int32 → ST → Option ((Int32 × ST) × Nat)} {rv : Int32 → Int32 → Int32 → Int32 → Int32 → ST → Option ((Int32 × ST) × Nat)} (x1 x3 pb pl br u : Int32) (τ : ST) {v : Nat} {l m : List Nat} (hu : 0 ≤ u.toInt ∧ u.toInt < 800) (hv : (τ.1 0 46).toInt = v) (hpa : pb.toInt = -1 ∨ 0 ≤ pb.toInt ∧ pb.toInt < v ∧ ((l ++ m).Nodup ∧ CN (τ.1 30) (τ.1 28 pb.toNatClampNeg) (l ++ m) ∧ (τ.1 29 pb.toNatClampNeg).toInt = lz (-1) (l ++ m)) ∧ (∀ r, r ∈ l ++ m → r < v) ∧ (∀ r, r ∈ l → (τ.1 25 r).toInt < pl.toInt) ∧ (∀ r, r ∈ m → pl.toInt ≤ (τ.1 25 r).toInt)) (h : PTN τ) (hX : TX τ) (L : Int) : QT (f_X11_value_42 ri rp rv x1 x3 pb pl br u τ) (fun q => q.1.1 = 0 ∨ ¬ q.1.1 = 0 ∧ DMD L q.1.2) := by
  have h13 := h.1
  have h6 := h.2.1
  refine q_val42 x1 x3 pb pl br u τ hu (fun q => q.1 = 0 ∨ ¬ q.1 = 0 ∧ DMD L q.2) (fun _ q hq => .inl hq) (fun _ hF _ _ => ?_)
  have hs : ¬ (τ.1 2 u.toNatClampNeg).toInt = 6 ∧ ¬ (τ.1 2 u.toNatClampNeg).toInt = 7 := by
    refine ⟨fun e => ?_, fun e => ?_⟩
    · rw [e] at hF
      have := ft_6.mp hF
      omega
    · rw [e] at hF
      have := ft_7.mp hF
      omega
  refine q_104 x1 x3 pb pl br u τ hu hv hpa (fun q => q.1 = 0 ∨ ¬ q.1 = 0 ∧ DMD L q.2) (fun e => absurd e hs.1) (fun e => absurd e hs.2) (fun _ _ t c e n g _ _ => ?_)
  have e0 : ∀ j, j ≠ 46 → (stI (stL (stL t 21 v c) 22 v e) 23 v n).1 0 j = τ.1 0 j := fun j hj => by
    rw [stI0 (by omega)]
    exact g.1.2.2.2 j hj
  have e1 : (stI (stL (stL t 21 v c) 22 v e) 23 v n).1 1 = τ.1 1 := by
    rw [stI_ne (by omega)]
    exact g.1.1 1 (by omega) (by omega) (by omega)
  refine (q_ptn _ (h.ext e0 e1) (hX.ext e0).1).mono (fun z hz => .inr ⟨one_ne, hz.1, .inl hz.2⟩)
/-! a value that has no others in it: both sides -/
theorem FT_.to {τ t : ST} (e0 : ∀ j, j ≠ 46 → t.1 0 j = τ.1 0 j) (eL : t.2.1 0 = τ.2.1 0) (s : Int) : FT_ t s ↔ FT_ τ s := by
  unfold FT_ W_
  rw [e0 6 (by omega), e0 10 (by omega), e0 13 (by omega), eL]
/-- what the class keeps of a token as a value -/
def WCN (s : Int32) (t : ST) (w : Int64) (cnt : Int32) : Prop := ∀ (c e : Int64) (n : Int32), BTS s.toInt t c → (s.toInt = 5 ∧ e = t.2.1 0 7 ∧ n = t.1 0 8 ∨ ¬ s.toInt = 5 ∧ e = 0 ∧ n = 0) → EWR s.toInt w c e n ∧ cnt.toInt = n.toInt
theorem a_93 {rF rI : Int32 → Int32 → Int32 → ST → Option (Int32 × ST)} {rV : Int32 → Int32 → Int32 → Int32 → ST → Option (Int32 × ST)} (x4 x5 s row : Int32) (σ t : ST) (hrow : 0 ≤ row.toInt) (hX : LX σ t) (hW : TWX σ t) (hk : ¬ (σ.1 2 4).toInt = 1) (hF : FT_ t s.toInt) (P : Int32 × ST → Prop) (k : ∀ (w : Int64) (cnt : Int32), WCN s t w cnt → QT (f_X8_parseValue_142 rF rI rV x4 x5 s row w cnt row σ) P) : QT (f_X8_parseValue_93 rF rI rV x4 x5 s row σ) P := by
  have l0 := li_0
  have l5 := li_5
  have lm := li_m1
  unfold f_X8_parseValue_93
  refine QT.ieq (fun e => by omega) (fun _ => ?_)
  refine QT.bndR (ab_ewr s σ t hX hW hk hF) (fun w hw => ?_)
  dsimp only
  refine QT.ieq (fun e5 => ?_) (fun e5 => ?_)
  · have h5 : (t.1 0 6).toInt = 3 := by
      rw [show s.toInt = 5 by omega] at hF
      exact ft_5.mp hF
    have bts : BTS s.toInt t 0 := ⟨fun h => by omega, fun h => by omega, fun h => by omega, fun _ => rfl⟩
    have k0 := hw 0 (t.2.1 0 7) (t.1 0 8) bts (.inl ⟨h5, rfl, rfl⟩)
    unfold EWR at k0
    rw [if_pos (by omega)] at k0
    rw [a_lettersIn12 w (t.2.1 0 7) (t.1 0 8) σ k0.2]
    rw [sbnd]
    dsimp only
    refine k w _ (fun c e n hc he => ?_)
    rcases he with ⟨_, he, hn⟩ | ⟨h9, _⟩
    · exact ⟨hw c e n hc (.inl ⟨h5, he, hn⟩), by rw [hn]⟩
    · exact absurd (by omega) h9
  · have hn5 := ft_n5 hF (by omega) (fun h => hX.q13 h)
    refine k w 0 (fun c e n hc he => ?_)
    rcases he with ⟨h9, _⟩ | ⟨_, he, hn⟩
    · exact absurd h9 (by omega)
    · exact ⟨hw c e n hc (.inr ⟨hn5, he, by rw [hn]; exact l0⟩), by rw [hn]⟩
theorem SUA.set {b x : Nat} {σ : ST} {c : Int32} {w : Int64} : SUA b x σ (stL (stI σ (b + 4) x c) (b + 6) x w) := by
  have e1 : ∀ d, d ≠ b + 4 → (stL (stI σ (b + 4) x c) (b + 6) x w).1 d = σ.1 d := fun d hd => stI_ne hd
  have e4 : ∀ i, i ≠ x → (stL (stI σ (b + 4) x c) (b + 6) x w).1 (b + 4) i = σ.1 (b + 4) i := fun i hi => by
    show (stI σ (b + 4) x c).1 (b + 4) i = _
    rw [stI_at, upN hi]
  have e6 : ∀ i, i ≠ x → (stL (stI σ (b + 4) x c) (b + 6) x w).2.1 (b + 6) i = σ.2.1 (b + 6) i := fun i hi => by
    rw [stLA, upLN hi]
    rfl
  refine ⟨fun i hi => ⟨⟨fun k k1 k5 => ?_, e6 i (by omega)⟩, by rw [e1 _ (by omega)], by rw [e1 _ (by omega)], by rw [e1 _ (by omega)]⟩, by rw [e1 _ (by omega)], by rw [e1 _ (by omega)], by rw [e1 _ (by omega)], by rw [e1 _ (by omega)], by rw [e1 _ (by omega)]⟩
  by_cases e : k = 4
  · rw [e]
    exact e4 i (by omega)
  · rw [e1 _ (by omega)]
theorem SUA.eq {b x : Nat} {σ s : ST} (h : ∀ c, b ≤ c → s.1 c = σ.1 c) (h2 : s.2.1 (b + 6) = σ.2.1 (b + 6)) : SUA b x σ s := ⟨fun i _ => ⟨⟨fun k _ _ => by rw [h _ (by omega)], by rw [h2]⟩, by rw [h _ (by omega)], by rw [h _ (by omega)], by rw [h _ (by omega)]⟩, by rw [h _ (by omega)], by rw [h _ (by omega)], by rw [h _ (by omega)], by rw [h _ (by omega)], by rw [h _ (by omega)]⟩
theorem CA.sua {x : Nat} {σ a : ST} (h : CA σ a) : SUA 62 x σ a := SUA.eq (fun c hc => h.1 c (by omega)) (h.2.2.1 _ (by omega))
theorem SUB.set {v : Nat} {τ : ST} {c e : Int64} {n : Int32} : SUB v τ (stI (stL (stL τ 21 v c) 22 v e) 23 v n) := by
  have e1 : ∀ d, d ≠ 23 → (stI (stL (stL τ 21 v c) 22 v e) 23 v n).1 d = τ.1 d := fun d hd => stI_ne hd
  have e23 : ∀ i, i ≠ v → (stI (stL (stL τ 21 v c) 22 v e) 23 v n).1 23 i = τ.1 23 i := fun i hi => by
    rw [stI_at, upN hi]
    rfl
  have e21 : ∀ i, i ≠ v → (stI (stL (stL τ 21 v c) 22 v e) 23 v n).2.1 21 i = τ.2.1 21 i := fun i hi => by
    show (stL (stL τ 21 v c) 22 v e).2.1 21 i = _
    rw [stL_ne (by omega), stLA, upLN hi]
  have e22 : ∀ i, i ≠ v → (stI (stL (stL τ 21 v c) 22 v e) 23 v n).2.1 22 i = τ.2.1 22 i := fun i hi => by
    show (stL (stL τ 21 v c) 22 v e).2.1 22 i = _
    rw [stLA, upLN hi, stL_ne (by omega)]
  refine ⟨fun i hi => ⟨⟨⟨by rw [e1 _ (by omega)], e23 i (by omega)⟩, fun k k1 k5 => by rw [e1 _ (by omega)], e21 i (by omega), e22 i (by omega)⟩, by rw [e1 _ (by omega)], by rw [e1 _ (by omega)], by rw [e1 _ (by omega)]⟩, by rw [e1 _ (by omega)], by rw [e1 _ (by omega)], fun k k1 k5 => by rw [e1 _ (by omega)]⟩
theorem SUB.eq {v : Nat} {τ t : ST} (h : ∀ c, 20 ≤ c → t.1 c = τ.1 c) (h2 : t.2.1 21 = τ.2.1 21 ∧ t.2.1 22 = τ.2.1 22) : SUB v τ t := ⟨fun i _ => ⟨⟨⟨by rw [h _ (by omega)], by rw [h _ (by omega)]⟩, fun k _ _ => by rw [h _ (by omega)], by rw [h2.1], by rw [h2.2]⟩, by rw [h _ (by omega)], by rw [h _ (by omega)], by rw [h _ (by omega)]⟩, by rw [h _ (by omega)], by rw [h _ (by omega)], fun k _ _ => by rw [h _ (by omega)]⟩
/-- what comes of a token read on both sides -/
def GOF (t a b : ST) (F : Int) : Prop := ((∀ c, c ≠ 0 → b.1 c = t.1 c) ∧ b.1 0 46 = t.1 0 46 ∧ (∀ c, c ≠ 0 → b.2.1 c = t.2.1 c)) ∧ KVB t b ∧ (LX a b ∧ TWX a b) ∧ (uT b : Int) ≤ F
theorem GOF.sub {t a b : ST} {F : Int} {v : Nat} (h : GOF t a b F) : SUB v t b := SUB.eq (fun c hc => h.1.1 c (by omega)) ⟨h.1.2.2 21 (by omega), h.1.2.2 22 (by omega)⟩
theorem ab_gof (σ τ : ST) (h : LX σ τ) (h0 : ¬ (σ.1 2 4).toInt = 0) (h1 : ¬ (σ.1 2 4).toInt = 1) : QT (f_X6_advance σ) (fun a => CA σ a ∧ QT (f_X11_go τ) (fun b => GOF τ a b ((uT τ : Int) - 1))) := by
  have hK := h.2.2.1
  have hg := hK.hg h0 h1
  have k0 : ¬ (τ.1 0 6).toInt = 0 := fun e => h0 (hK.t0.mpr e)
  have hu := uT_ne k0
  intro a ea
  obtain ⟨a', ea', b', eb', hq⟩ := ab_goW σ τ h hg
  have e : a = a' := Option.some.inj (ea.symm.trans ea')
  subst e
  obtain ⟨⟨ca, cb, cL, hX, _, _, hu2⟩, hW⟩ := hq
  refine ⟨ca, fun b eb => ?_⟩
  have e : b = b' := Option.some.inj (eb.symm.trans eb')
  subst e
  exact ⟨⟨fun c hc => cb.1 c hc (by simp), cb.2.1 46 (by decide), cL⟩, cb.kvb cL, ⟨hX, hW⟩, by omega⟩
/-- an answer of both: the class refuses (then the reference can't end well), or both go on -/
def VOUT (L : Int) (K : ST → ST → Prop) (qa qb : Int32 × ST) : Prop := (qa.1.toInt = 0 ∧ (qb.1 = 0 ∨ ¬ qb.1 = 0 ∧ DMD L qb.2)) ∨ (qa.1.toInt = 1 ∧ qb.1.toInt = 1 ∧ K qa.2 qb.2)
/-- what stands there when a value of the types tA, tB was told, below pa, pb, at pl -/
def VPOST (p : Nat) (S T : ST) (L : Nat) (tA tB : Int32) (x v : Nat) (pa pb pl : Int32) (l m : List EN) (σ τ a b : ST) : Prop := ∃ e f : Nat, CXT S T a b e f (1000 + L + 1) ∧ (x < e ∧ v < f ∧ pl.toInt < 200) ∧ VAL False 62 p S T a b (32 - L) tA tB (x, e) (v, f) ∧ ((a.1 (62 + 2) x = pa ∧ a.1 (62 + 3) x = pl) ∧ (b.1 24 v = pb ∧ b.1 25 v = pl) ∧ a.1 (62 + 5) x = b.1 27 v) ∧ XTA 62 x pa.toInt (rA l) (rA m) σ a ∧ XTB v pb.toInt (rB l) (rB m) τ b
/-- a new node and what its rows kept -/
theorem vp_kid {p : Nat} {S T : ST} {L : Nat} {tA tB : Int32} {x v e f : Nat} {pa pb pl br so : Int32} {l m : List EN} {σ τ s t a b : ST} (hP : PAR σ τ x v pa pb pl l m) (gA : GRW 62 x so pa pl (rA l) (rA m) σ s) (gB : GRB v so pb pl br (rB l) (rB m) τ t) (hA : SUA 62 x s a) (hB : SUB v t b) (hC : CXT S T a b e f (1000 + L + 1)) (h1 : x < e ∧ v < f ∧ pl.toInt < 200) (hV : VAL False 62 p S T a b (32 - L) tA tB (x, e) (v, f)) : VPOST p S T L tA tB x v pa pb pl l m σ τ a b := by
  have hlt := hP.lt
  refine ⟨e, f, hC, h1, hV, ⟨⟨?_, ?_⟩, ⟨?_, ?_⟩, ?_⟩, XTA.mk gA hA hlt.2.2.1 hlt.1, XTB.mk gB hB hlt.2.2.2.1 hlt.2.1⟩
  · exact hA.2.2.2.1.trans gA.2.2.1.2.1
  · exact hA.2.2.2.2.1.trans gA.2.2.1.2.2.1
  · exact (hB.2.2.2 24 (by omega) (by omega)).trans gB.2.2.1.2.1.1
  · exact (hB.2.2.2 25 (by omega) (by omega)).trans gB.2.2.1.2.1.2
  · rw [hA.2.2.2.2.2, gA.2.2.1.2.2.2.2.1, hB.2.2.2 27 (by omega) (by omega), gB.2.2.1.2.2.1.2]
theorem GRW.suc {x : Nat} {so pa pl : Int32} {l m : List Nat} {σ s : ST} {b : Nat} (h : GRW b x so pa pl l m σ s) : (s.1 b 1).toInt = (x : Int) + 1 ∧ s.1 b 0 = σ.1 b 0 := ⟨h.2.1, h.1.2.2.2 0 (by omega)⟩
/-- the leaf itself -/
theorem ab_leaf {p : Nat} {S T : ST} {L : Nat} {tA tB uA u : Int32} {x v : Nat} {pa pb pl br so : Int32} {l m : List EN} {σ τ s t : ST} (hL : L ≤ 30) (h200 : pl.toInt < 200) (hP : PAR σ τ x v pa pb pl l m) (hC : CXT S T σ τ x v (1000 + L)) (hx : (x : Int) < 502) (gA : GRW 62 x so pa pl (rA l) (rA m) σ s) (gB : GRB v so pb pl br (rB l) (rB m) τ t) (hso : so = T.1 2 u.toNatClampNeg) (hs5 : 0 ≤ so.toInt ∧ so.toInt ≤ 5) (hO : OWN S T tA tB br uA u) (h0 : ¬ (σ.1 2 4).toInt = 0) (h1 : ¬ (σ.1 2 4).toInt = 1) (w c e : Int64) (cnt n : Int32) (hE : EWR so.toInt w c e n) (hn : cnt.toInt = n.toInt) : QT (f_X6_advance (stL (stI s (62 + 4) x cnt) (62 + 6) x w)) (fun a => QT (f_X11_go (stI (stL (stL t 21 v c) 22 v e) 23 v n)) (fun b => VPOST p S T L tA tB x v pa pb pl l m σ τ a b)) := by
  obtain ⟨⟨kA, kB⟩, hXW, ⟨c1, c0⟩, cv, cF⟩ := hC
  have hXW1 := LX.grow hXW gA gB
  have l0 := li_0
  have sc := gA.suc
  have e2 : s.1 2 = σ.1 2 := gA.1.1 2 (by omega)
  have t0 : ∀ j, j ≠ 46 → t.1 0 j = τ.1 0 j := gB.1.2.2.2
  generalize hs2 : stL (stI s (62 + 4) x cnt) (62 + 6) x w = s2
  generalize ht2 : stI (stL (stL t 21 v c) 22 v e) 23 v n = t2
  have sA : SUA 62 x s s2 := by rw [← hs2]; exact SUA.set
  have sB : SUB v t t2 := by rw [← ht2]; exact SUB.set
  have s2c : ∀ d, d ≠ 62 + 4 → s2.1 d = s.1 d := fun d hd => by rw [← hs2]; exact stI_ne hd
  have s2L : ∀ d, d ≠ 62 + 6 → s2.2.1 d = s.2.1 d := fun d hd => by rw [← hs2]; exact stL_ne hd
  have s2E : s2.2.2 = s.2.2 := by rw [← hs2]; rfl
  have t2c : ∀ d, d ≠ 23 → t2.1 d = t.1 d := fun d hd => by rw [← ht2]; exact stI_ne hd
  have t2L : ∀ d, d ≠ 21 → d ≠ 22 → t2.2.1 d = t.2.1 d := fun d h1 h2 => by
    rw [← ht2]
    show (stL (stL t 21 v c) 22 v e).2.1 d = _
    rw [stL_ne h2, stL_ne h1]
  have t2E : t2.2.2 = t.2.2 := by rw [← ht2]; rfl
  have hX2 : LX s2 t2 := hXW1.1.ext (s2c 1 (by omega)) (s2c 2 (by omega)) (s2L 3 (by omega)) (s2L 2 (by omega)) (t2c 1 (by omega)) (fun i _ => by rw [t2c 0 (by omega)]) (t2L 0 (by omega) (by omega))
  have kA2 : KVA σ s2 := gA.kva.trans ⟨fun d d2 d6 => s2c d (by omega), ⟨by rw [s2c 2 (by omega)], fun i _ => by rw [s2c 62 (by omega)]⟩, fun d d2 d6 => s2L d (by omega), s2E⟩
  have kB2 : KVB τ t2 := gB.kvb.trans ⟨fun d d0 d20 hd => t2c d (by omega), fun i _ _ _ _ _ _ _ _ => by rw [t2c 0 (by omega)], fun d d0 d21 d22 => t2L d d21 d22⟩
  have ht46 : (t2.1 0 46).toInt = (v : Int) + 1 := by rw [t2c 0 (by omega)]; exact gB.2.1
  have hu2 : uT t2 = uT τ := by
    have := (hX2.tx)
    have e9 := (TX.ext (τ := τ) (t := t2) hXW.1.tx (fun j hj => by rw [t2c 0 (by omega)]; exact t0 j hj)).2
    exact e9
  refine (ab_gof s2 t2 hX2 (by rw [s2c 2 (by omega), e2]; exact h0) (by rw [s2c 2 (by omega), e2]; exact h1)).mono (fun a ha => ?_)
  obtain ⟨ca, hb⟩ := ha
  refine hb.mono (fun b hb => ?_)
  have sA2 := sA.trans ca.sua
  have sB2 := sB.trans (hb.sub (v := v))
  obtain ⟨⟨b1, b46, bL⟩, kb, hXb, hub⟩ := hb
  have ax1 : ∀ d, d ≠ 62 + 4 → 62 ≤ d → a.1 d = s.1 d := fun d hd h62 => (ca.1 d (by omega)).trans (s2c d hd)
  refine vp_kid hP gA gB sA2 sB2 (e := x + 1) (f := v + 1) ⟨⟨kA.trans (kA2.trans ca.kva), kB.trans (kB2.trans kb)⟩, hXb, ⟨?_, ?_⟩, ?_, ?_⟩ ⟨by omega, by omega, h200⟩ ?_
  · rw [ax1 62 (by omega) (by omega), sc.1]
    omega
  · rw [ax1 62 (by omega) (by omega), sc.2]
    exact c0
  · rw [b46, ht46]
    omega
  · omega
  · rw [show 32 - L = (31 - L) + 1 by omega]
    have b20 : b.1 20 v = so := (sB2.2.2.1).trans gB.2.2.1.1.1
    have b26 : b.1 26 v = br := (sB2.2.2.2 26 (by omega) (by omega)).trans gB.2.2.1.2.2.1.1
    have a1 : a.1 (62 + 1) x = so := (sA2.2.2.1).trans gA.2.2.1.1
    refine ⟨⟨by show x < x + 1; omega, by show v < v + 1; omega⟩, uA, u, ?_, ⟨⟨?_, ?_⟩, ?_⟩, fun _ => ?_, fun h => ?_, fun h => ?_, fun h => ?_⟩
    · show OWN S T tA tB (b.1 26 v) uA u
      rw [b26]
      exact hO
    · exact hso.symm.trans b20.symm
    · exact a1.trans b20.symm
    · show 0 ≤ (b.1 20 v).toInt ∧ (b.1 20 v).toInt ≤ 7
      rw [b20]
      omega
    · refine ⟨?_, rfl⟩
      show LEAF 62 a b x v
      have a7 : a.1 (62 + 7) x = s.1 (62 + 7) x := by rw [ax1 _ (by omega) (by omega)]
      have a6 : a.2.1 (62 + 6) x = w := by rw [ca.2.2.1 _ (by omega), ← hs2, stLA, upLA rfl]
      have a4 : a.1 (62 + 4) x = cnt := by
        rw [ca.1 _ (by omega), ← hs2]
        show (stI s (62 + 4) x cnt).1 (62 + 4) x = _
        rw [stI_at, upA rfl]
      have b28 : b.1 28 v = t.1 28 v := by rw [b1 _ (by omega), t2c _ (by omega)]
      have b21 : b.2.1 21 v = c := by
        rw [bL _ (by omega), ← ht2]
        show (stL (stL t 21 v c) 22 v e).2.1 21 v = _
        rw [stL_ne (by omega), stLA, upLA rfl]
      have b22 : b.2.1 22 v = e := by
        rw [bL _ (by omega), ← ht2]
        show (stL (stL t 21 v c) 22 v e).2.1 22 v = _
        rw [stLA, upLA rfl]
      have b23 : b.1 23 v = n := by rw [b1 _ (by omega), ← ht2, stI_at, upA rfl]
      unfold LEAF
      rw [a7, b28, b20, a6, b21, b22, b23, a4]
      exact ⟨⟨gA.2.2.2.2.1.1, gB.2.2.2.2.1.1⟩, hE, hn⟩
    · have h : 6 ≤ (b.1 20 v).toInt := h
      rw [b20] at h
      omega
    · have h : (b.1 20 v).toInt = 6 := h
      rw [b20] at h
      omega
    · have h : (b.1 20 v).toInt = 7 := h
      rw [b20] at h
      omega
/-! lists: both sides, item by item -/
theorem DMD.of {L M : Int} {b : ST} (h : DMD L b) (e : L = M) : DMD M b := e ▸ h
theorem CXT.go {S T σ τ a b : ST} {x v : Nat} {F : Int} (h : CXT S T σ τ x v F) (ca : CA σ a) (hb : GOF τ a b ((uT τ : Int) - 1)) : CXT S T a b x v (F - 1) := by
  obtain ⟨⟨h1, h2⟩, _, ⟨h3, h4⟩, h5, h6⟩ := h
  have hu := hb.2.2.2
  refine ⟨⟨h1.trans ca.kva, h2.trans hb.2.1⟩, hb.2.2.1, ⟨?_, ?_⟩, ?_, by omega⟩
  · rw [ca.1 62 (by omega)]
    exact h3
  · rw [ca.1 62 (by omega)]
    exact h4
  · rw [hb.1.2.1]
    exact h5
/-- all rows behind x stayed -/
def SAM (b x : Nat) (σ s : ST) : Prop := ∀ j, x < j → CLA b σ s j ∧ s.1 (b + 7) j = σ.1 (b + 7) j ∧ s.1 (b + 8) j = σ.1 (b + 8) j ∧ s.1 (b + 9) j = σ.1 (b + 9) j
def SBM (v : Nat) (τ t : ST) : Prop := ∀ j, v < j → CLB τ t j ∧ t.1 28 j = τ.1 28 j ∧ t.1 29 j = τ.1 29 j ∧ t.1 30 j = τ.1 30 j
theorem SAM.ag {b x y e : Nat} {σ s : ST} (h : SAM b x σ s) (hx : x < y) : AGA b σ s y e := fun j h1 _ => ⟨(h j (by omega)).1, (h j (by omega)).2.1, (h j (by omega)).2.2.1, fun _ => (h j (by omega)).2.2.2⟩
theorem SBM.ag {v y f : Nat} {τ t : ST} (h : SBM v τ t) (hx : v < y) : AGB τ t y f := fun j h1 _ => ⟨(h j (by omega)).1, (h j (by omega)).2.1, (h j (by omega)).2.2.1, fun _ => (h j (by omega)).2.2.2⟩
theorem SAM.eq {b x : Nat} {σ s : ST} (h : ∀ c, b ≤ c → s.1 c = σ.1 c) (h2 : s.2.1 (b + 6) = σ.2.1 (b + 6)) : SAM b x σ s := fun j _ => ⟨⟨fun k _ _ => by rw [h _ (by omega)], by rw [h2]⟩, by rw [h _ (by omega)], by rw [h _ (by omega)], by rw [h _ (by omega)]⟩
theorem SBM.eq {v : Nat} {τ t : ST} (h : ∀ c, 20 ≤ c → t.1 c = τ.1 c) (h2 : t.2.1 21 = τ.2.1 21 ∧ t.2.1 22 = τ.2.1 22) : SBM v τ t := fun j _ => ⟨⟨⟨by rw [h _ (by omega)], by rw [h _ (by omega)]⟩, fun k _ _ => by rw [h _ (by omega)], by rw [h2.1], by rw [h2.2]⟩, by rw [h _ (by omega)], by rw [h _ (by omega)], by rw [h _ (by omega)]⟩
theorem SAM.set {b x : Nat} {σ : ST} {c : Int32} {w : Int64} : SAM b x σ (stL (stI σ (b + 4) x c) (b + 6) x w) := by
  have e1 : ∀ d, d ≠ b + 4 → (stL (stI σ (b + 4) x c) (b + 6) x w).1 d = σ.1 d := fun d hd => stI_ne hd
  have e4 : ∀ i, i ≠ x → (stL (stI σ (b + 4) x c) (b + 6) x w).1 (b + 4) i = σ.1 (b + 4) i := fun i hi => by
    show (stI σ (b + 4) x c).1 (b + 4) i = _
    rw [stI_at, upN hi]
  have e6 : ∀ i, i ≠ x → (stL (stI σ (b + 4) x c) (b + 6) x w).2.1 (b + 6) i = σ.2.1 (b + 6) i := fun i hi => by
    rw [stLA, upLN hi]
    rfl
  refine fun i hi => ⟨⟨fun k k1 k5 => ?_, e6 i (by omega)⟩, by rw [e1 _ (by omega)], by rw [e1 _ (by omega)], by rw [e1 _ (by omega)]⟩
  by_cases e : k = 4
  · rw [e]
    exact e4 i (by omega)
  · rw [e1 _ (by omega)]
theorem SAM.trans {b x : Nat} {σ s u : ST} (h : SAM b x σ s) (k : SAM b x s u) : SAM b x σ u := fun j hj => by
  obtain ⟨a1, a2, a3, a4⟩ := h j hj
  obtain ⟨b1, b2, b3, b4⟩ := k j hj
  exact ⟨a1.trans b1, b2.trans a2, b3.trans a3, b4.trans a4⟩
theorem CA.sam {x : Nat} {σ a : ST} (h : CA σ a) : SAM 62 x σ a := SAM.eq (fun c hc => h.1 c (by omega)) (h.2.2.1 _ (by omega))
theorem GOF.sbm {t a b : ST} {F : Int} {v : Nat} (h : GOF t a b F) : SBM v t b := SBM.eq (fun c hc => h.1.1 c (by omega)) ⟨h.1.2.2 21 (by omega), h.1.2.2 22 (by omega)⟩
theorem KDS.sam {b x e v f : Nat} {σ τ s t : ST} {l : List EN} {Q R : EN → Prop} (h : KDS b σ τ (x, e) (v, f) l Q) (hA : SAM b x σ s) (hB : SBM v τ t) (a7 : s.1 (b + 7) x = σ.1 (b + 7) x) (a8 : s.1 (b + 8) x = σ.1 (b + 8) x) (b8 : t.1 28 v = τ.1 28 v) (b9 : t.1 29 v = τ.1 29 v) (b3 : t.1 23 v = τ.1 23 v) (hQ : ∀ y, y ∈ l → (inA y = true → x < y.2.1.1) → v < y.2.2.1 → y.2.2.1 < y.2.2.2 → Q y → R y) : KDS b s t (x, e) (v, f) l R := by
  obtain ⟨⟨⟨h1, h2⟩, h3, h4⟩, h5, ⟨h6, h7⟩, h8⟩ := h
  refine ⟨⟨⟨?_, ?_⟩, ?_, ?_⟩, h5, ⟨?_, h7⟩, fun y hy => ?_⟩
  · show CN (s.1 (b + 9)) (s.1 (b + 7) x) (rA l)
    rw [a7]
    refine h1.ext _ _ (fun r hr => ?_)
    obtain ⟨y, y1, y2, y3⟩ := mem_rA hr
    have k := ((h8 y y1).2.1.1 y2).1
    have k : x < y.2.1.1 := k
    exact (hA r (by omega)).2.2.2
  · show (s.1 (b + 8) x).toInt = _
    rw [a8]
    exact h2
  · show CN (t.1 30) (t.1 28 v) (rB l)
    rw [b8]
    refine h3.ext _ _ (fun r hr => ?_)
    obtain ⟨y, y1, y3⟩ := mem_rB hr
    have k : v < y.2.2.1 := (h8 y y1).1.1
    exact (hB r (by omega)).2.2.2
  · show (t.1 29 v).toInt = _
    rw [b9]
    exact h4
  · show (t.1 23 v).toInt = _
    rw [b3]
    exact h6
  · obtain ⟨k1, k2, k3⟩ := h8 y hy
    exact ⟨k1, k2, hQ y hy (fun hi => (k2.1 hi).1) k1.1 k1.2.1 k3⟩
/-- a child of rows x and v, read by its types -/
def CHD (p : Nat) (S T : ST) (n : Nat) (x v : Nat) (tI tJ : Int32) (σ τ : ST) (y : EN) : Prop := (inA y = true ∧ KID 62 σ τ x v y) ∧ VAL False 62 p S T σ τ n tI tJ y.2.1 y.2.2
theorem CHD.ext {p : Nat} {S T : ST} {n x v : Nat} {tI tJ : Int32} {σ τ s t : ST} {y : EN} (h : CHD p S T n x v tI tJ σ τ y) (hn : y.2.2.1 < y.2.2.2) (hA : AGA 62 σ s y.2.1.1 y.2.1.2) (hB : AGB τ t y.2.2.1 y.2.2.2) : CHD p S T n x v tI tJ s t y := by
  have := inA_lt h.1.1
  exact ⟨⟨h.1.1, h.1.2.ext (hA _ (by omega) (by omega)).1 (hB _ (by omega) (by omega)).1⟩, h.2.ext _ _ _ _ _ hA hB⟩
/-- while the items of a list are told -/
def ILI (p : Nat) (S T : ST) (L : Nat) (tI tJ : Int32) (x v : Nat) (a t : ST) (k : Nat) (F : Int) (σ τ : ST) (e f : Nat) (l : List EN) : Prop := (CXT S T σ τ e f F ∧ x < e ∧ v < f) ∧ (SUA 62 x a σ ∧ SUB v t τ) ∧ (l.map (fun y => y.1) = List.range k ∧ l.length = k ∧ k ≤ 200) ∧ KDS 62 σ τ (x, e) (v, f) l (CHD p S T (31 - L) x v tI tJ σ τ) ∧ (σ.1 (62 + 4) x = 0 ∧ σ.2.1 (62 + 6) x = 0) ∧ (τ.2.1 21 v = 0 ∧ τ.2.1 22 v = 0) ∧ (τ.1 20 v).toInt = 6
/-- a list's items told -/
def IPO (p : Nat) (S T : ST) (L : Nat) (tI tJ : Int32) (x v : Nat) (a t a' b' : ST) : Prop := ∃ (e f : Nat) (l : List EN), (CXT S T a' b' e f (1000 + L + 1) ∧ x < e ∧ v < f) ∧ (SUA 62 x a a' ∧ SUB v t b') ∧ (l.map (fun y => y.1) = List.range l.length ∧ l.length ≤ 200 ∧ (a'.1 (62 + 4) x).toInt = l.length) ∧ KDS 62 a' b' (x, e) (v, f) l (CHD p S T (31 - L) x v tI tJ a' b') ∧ a'.2.1 (62 + 6) x = 0 ∧ b'.2.1 21 v = 0 ∧ b'.2.1 22 v = 0
theorem ILI.rows {p : Nat} {S T : ST} {L : Nat} {tI tJ : Int32} {x v : Nat} {a t : ST} {k : Nat} {F : Int} {σ τ : ST} {e f : Nat} {l : List EN} (h : ILI p S T L tI tJ x v a t k F σ τ e f l) : (∀ r, r ∈ rA l → x < r) ∧ ∀ r, r ∈ rB l → v < r := by
  obtain ⟨_, _, _, hK, _⟩ := h
  refine ⟨fun r hr => ?_, fun r hr => ?_⟩
  · obtain ⟨y, y1, y2, y3⟩ := mem_rA hr
    have k : x < y.2.1.1 := ((hK.2.2.2 y y1).2.1.1 y2).1
    omega
  · obtain ⟨y, y1, y3⟩ := mem_rB hr
    have k : v < y.2.2.1 := (hK.2.2.2 y y1).1.1
    omega
theorem ILI.par {p : Nat} {S T : ST} {L : Nat} {tI tJ : Int32} {x v : Nat} {a t : ST} {k : Nat} {F : Int} {σ τ : ST} {e f : Nat} {l : List EN} (h : ILI p S T L tI tJ x v a t k F σ τ e f l) {row w pl : Int32} (hr : row.toInt = x) (hw : w.toInt = v) (hp : pl.toInt = k) : PAR σ τ e f row w pl l [] := by
  obtain ⟨⟨_, h1, h2⟩, _, ⟨h3, _, h4⟩, hK, _, _, h5⟩ := h
  refine .inr ⟨x, v, _, ⟨⟨hr, h1⟩, hw, h2⟩, by rw [List.append_nil]; exact hK, fun y hy => ?_, fun y hy => ?_, fun y hy => (by cases hy), ⟨by omega, by omega⟩, .inr h5⟩
  · rw [List.append_nil] at hy
    obtain ⟨_, _, ⟨_, hk⟩, _⟩ := hK.2.2.2 y hy
    exact ⟨fun _ => hk.1.2, hk.2.1.2⟩
  · have : y.1 ∈ l.map (fun y => y.1) := List.mem_map.mpr ⟨y, hy, rfl⟩
    rw [h3] at this
    have := List.mem_range.mp this
    omega
/-- one item more -/
theorem ILI.add {p : Nat} {S T : ST} {L : Nat} {tI tJ : Int32} {x v : Nat} {a t : ST} {k : Nat} {F : Int} {σ τ s u : ST} {e f : Nat} {l : List EN} (h : ILI p S T L tI tJ x v a t k F σ τ e f l) {row w pl : Int32} (hr : row.toInt = x) (hw : w.toInt = v) (hp : pl.toInt = k) (hL : L ≤ 30) (hV : VPOST p S T (L + 1) tI tJ e f row w pl l [] σ τ s u) : ∃ e' f', ILI p S T L tI tJ x v a t (k + 1) (1000 + (L + 1 : Nat) + 1) s u e' f' (l ++ [(k, (e, e'), (f, f'))]) := by
  have hrow := h.rows
  obtain ⟨⟨_, h1, h2⟩, ⟨hs1, hs2⟩, ⟨h3, h3b, h4⟩, hK, ⟨h5, h5b⟩, ⟨h6, h6b⟩, h7⟩ := h
  obtain ⟨e', f', hC, ⟨g1, g2, hk⟩, hVal, ⟨⟨g3, g4⟩, ⟨g5, g6⟩, g7⟩, hXA, hXB⟩ := hV
  rw [hr] at hXA
  rw [hw] at hXB
  have hsu : SUA 62 x σ s := hXA.su h1 (fun r hr => hrow.1 r hr)
  have hsb : SUB v τ u := hXB.su h2 (fun r hr => hrow.2 r hr)
  refine ⟨e', f', ⟨hC, by omega, by omega⟩, ⟨hs1.trans hsu, hs2.trans hsb⟩, ⟨?_, ?_, by omega⟩, ?_, ⟨?_, ?_⟩, ⟨?_, ?_⟩, ?_⟩
  · rw [List.map_append, h3, List.range_succ]
    rfl
  · rw [List.length_append, h3b]
    rfl
  · refine KDS.add (l := l) (m := []) (Q := CHD p S T (31 - L) x v tI tJ σ τ) (by rw [List.append_nil]; exact hK) hXA hXB h1 h2 g1 g2 (by rw [List.append_nil]; omega) (fun y hy => ?_) (fun y hy => (by cases hy)) (fun y hy hy1 hyA hyB hQ => ?_) ?_
    · have : y.1 ∈ l.map (fun y => y.1) := List.mem_map.mpr ⟨y, hy, rfl⟩
      rw [h3] at this
      exact List.mem_range.mp this
    · exact hQ.ext hy1.2 (hyA hQ.1.1) hyB
    · refine ⟨⟨decide_eq_true g1, ⟨⟨?_, ?_⟩, ⟨?_, ?_⟩, g7⟩⟩, ?_⟩
      · show (s.1 (62 + 2) e).toInt = x
        rw [g3]
        exact hr
      · show (s.1 (62 + 3) e).toInt = k
        rw [g4]
        exact hp
      · show (u.1 24 f).toInt = v
        rw [g5]
        exact hw
      · show (u.1 25 f).toInt = k
        rw [g6]
        exact hp
      · have e9 : 32 - (L + 1) = 31 - L := by omega
        rw [e9] at hVal
        exact hVal
  · rw [(hXA.1 x h1).1 4 (by omega) (by omega)]
    exact h5
  · rw [(hXA.1 x h1).2]
    exact h5b
  · rw [(hXB.1.1 v h2).2.2.1]
    exact h6
  · rw [(hXB.1.1 v h2).2.2.2]
    exact h6b
  · rw [(hXB.1.1 v h2).1]
    exact h7
/-- as the next token is read -/
theorem ILI.go {p : Nat} {S T : ST} {L : Nat} {tI tJ : Int32} {x v : Nat} {a t : ST} {k : Nat} {F : Int} {σ τ s u : ST} {e f : Nat} {l : List EN} (h : ILI p S T L tI tJ x v a t k F σ τ e f l) (ca : CA σ s) (hb : GOF τ s u ((uT τ : Int) - 1)) : ILI p S T L tI tJ x v a t k (F - 1) s u e f l := by
  obtain ⟨⟨hC, h1, h2⟩, ⟨hs1, hs2⟩, h3, hK, ⟨h5, h5b⟩, ⟨h6, h6b⟩, h7⟩ := h
  refine ⟨⟨hC.go ca hb, h1, h2⟩, ⟨hs1.trans ca.sua, hs2.trans hb.sub⟩, h3, ?_, ⟨?_, ?_⟩, ⟨?_, ?_⟩, ?_⟩
  · refine hK.sam ca.sam hb.sbm (by rw [ca.1 _ (by omega)]) (by rw [ca.1 _ (by omega)]) (by rw [hb.1.1 _ (by omega)]) (by rw [hb.1.1 _ (by omega)]) (by rw [hb.1.1 _ (by omega)]) (fun y _ hx hv hn hQ => hQ.ext hn (ca.sam.ag (hx hQ.1.1)) (hb.sbm.ag hv))
  · rw [ca.1 _ (by omega)]
    exact h5
  · rw [ca.2.2.1 _ (by omega)]
    exact h5b
  · rw [hb.1.2.2 _ (by omega)]
    exact h6
  · rw [hb.1.2.2 _ (by omega)]
    exact h6b
  · rw [hb.1.1 _ (by omega)]
    exact h7
theorem LX.set4 {b x : Nat} {σ τ : ST} {c : Int32} {w : Int64} (h : LX σ τ) (hb : 4 < b) : LX (stL (stI σ (b + 4) x c) (b + 6) x w) τ := by
  have e1 : ∀ d, d ≠ b + 4 → (stL (stI σ (b + 4) x c) (b + 6) x w).1 d = σ.1 d := fun d hd => stI_ne hd
  have e2 : ∀ d, d ≠ b + 6 → (stL (stI σ (b + 4) x c) (b + 6) x w).2.1 d = σ.2.1 d := fun d hd => stL_ne hd
  exact h.ext (e1 1 (by omega)) (e1 2 (by omega)) (e2 3 (by omega)) (e2 2 (by omega)) rfl (fun _ _ => rfl) rfl
/-- the list ends -/
theorem ILI.fin {p : Nat} {S T : ST} {L : Nat} {tI tJ : Int32} {x v : Nat} {a t : ST} {k : Nat} {σ τ s u : ST} {e f : Nat} {l : List EN} (h : ILI p S T L tI tJ x v a t k (1000 + (L + 1 : Nat) + 1) σ τ e f l) {c : Int32} (hc : c.toInt = k) (ca : CA (stL (stI σ (62 + 4) x c) (62 + 6) x 0) s) (hb : GOF τ s u ((uT τ : Int) - 1)) : IPO p S T L tI tJ x v a t s u := by
  obtain ⟨⟨⟨⟨hC1, hC2⟩, _, ⟨hC3, hC4⟩, hC5, hC6⟩, h1, h2⟩, ⟨hs1, hs2⟩, ⟨h3, h3b, h4⟩, hK, ⟨h5, h5b⟩, ⟨h6, h6b⟩, h7⟩ := h
  have e1 : ∀ d, d ≠ 62 + 4 → (stL (stI σ (62 + 4) x c) (62 + 6) x 0).1 d = σ.1 d := fun d hd => stI_ne hd
  have e2 : ∀ d, d ≠ 62 + 6 → (stL (stI σ (62 + 4) x c) (62 + 6) x 0).2.1 d = σ.2.1 d := fun d hd => stL_ne hd
  have e4 : (stL (stI σ (62 + 4) x c) (62 + 6) x 0).1 (62 + 4) x = c := by
    show (stI σ (62 + 4) x c).1 (62 + 4) x = _
    rw [stI_at, upA rfl]
  have e6 : (stL (stI σ (62 + 4) x c) (62 + 6) x 0).2.1 (62 + 6) x = 0 := by rw [stLA, upLA rfl]
  have sE : (stL (stI σ (62 + 4) x c) (62 + 6) x 0).2.2 = σ.2.2 := rfl
  have sS : SUA 62 x σ (stL (stI σ (62 + 4) x c) (62 + 6) x 0) := SUA.set
  have sM : SAM 62 x σ (stL (stI σ (62 + 4) x c) (62 + 6) x 0) := SAM.set
  generalize stL (stI σ (62 + 4) x c) (62 + 6) x 0 = σ2 at ca e1 e2 e4 e6 sE sS sM
  have kA : KVA σ σ2 := ⟨fun d d2 d6 => e1 d (by omega), ⟨by rw [e1 2 (by omega)], fun i _ => by rw [e1 62 (by omega)]⟩, fun d d2 d6 => e2 d (by omega), sE⟩
  have hu := hb.2.2.2
  have sMA := sM.trans ca.sam
  have c7 : ∀ d, d ≠ 62 + 4 → 62 ≤ d → s.1 d = σ.1 d := fun d hd h62 => (ca.1 d (by omega)).trans (e1 d hd)
  refine ⟨e, f, l, ⟨⟨⟨hC1.trans (kA.trans ca.kva), hC2.trans hb.2.1⟩, hb.2.2.1, ⟨?_, ?_⟩, ?_, ?_⟩, h1, h2⟩, ⟨hs1.trans (sS.trans ca.sua), hs2.trans hb.sub⟩, ⟨by rw [h3b]; exact h3, by omega, ?_⟩, ?_, ?_, ?_, ?_⟩
  · rw [c7 62 (by omega) (by omega)]
    exact hC3
  · rw [c7 62 (by omega) (by omega)]
    exact hC4
  · rw [hb.1.2.1]
    exact hC5
  · omega
  · rw [ca.1 _ (by omega), e4, hc, h3b]
  · exact hK.sam sMA hb.sbm (by rw [c7 _ (by omega) (by omega)]) (by rw [c7 _ (by omega) (by omega)]) (by rw [hb.1.1 _ (by omega)]) (by rw [hb.1.1 _ (by omega)]) (by rw [hb.1.1 _ (by omega)]) (fun y _ hx hv hn hQ => hQ.ext hn (sMA.ag (hx hQ.1.1)) (hb.sbm.ag hv))
  · rw [ca.2.2.1 _ (by omega)]
    exact e6
  · rw [hb.1.2.2 _ (by omega)]
    exact h6
  · rw [hb.1.2.2 _ (by omega)]
    exact h6b
/-- a value of both sides, at level L -/
def VTP (p : Nat) (rm : Int) (S T : ST) (rV : Int32 → Int32 → Int32 → Int32 → ST → Option (Int32 × ST)) (rv : Int32 → Int32 → Int32 → Int32 → Int32 → ST → Option ((Int32 × ST) × Nat)) : Prop := ∀ (L : Nat) (lev dp tA tB pa pb pl P32 : Int32) (d : Nat) (l m : List EN) (σ τ : ST) (x v : Nat), L ≤ 31 → lev.toInt = L → dp.toInt = L → P32.toInt = p → TG p rm S T d tA tB → CXT S T σ τ x v (1000 + L) → PAR σ τ x v pa pb pl l m → QT (rV tA pa pl lev σ) (fun qa => QT (rv P32 tB dp pb pl τ) (fun qb => VOUT L (VPOST p S T L tA tB x v pa pb pl l m σ τ) qa qb.1))
theorem q_items0 {ri rp : Int32 → Int32 → Int32 → Int32 → ST → Option ((Int32 × ST) × Nat)} {rv : Int32 → Int32 → Int32 → Int32 → Int32 → ST → Option ((Int32 × ST) × Nat)} (n : Nat) (x1 x2 x3 x4 x5 : Int32) (b : ST) (h : ¬ (b.1 0 13).toInt = 93) : QT (f_X11_items_70 ri rp rv (f_X11_items_25 ri rp rv n) x1 x2 x3 x4 x5 0 b) (fun q => q.1.1 = 0) := by
  have l93 : (93 : Int32).toInt = 93 := by decide
  unfold f_X11_items_70
  refine QT.ite (fun _ => ?_) (fun h => absurd rfl h)
  cases n with
  | zero =>
    rw [f_X11_items_25]
    exact QT.none
  | succ n =>
    rw [f_X11_items_25]
    refine QT.ite (fun _ => ?_) (fun h => absurd rfl h)
    unfold f_X11_mark
    refine QT.bnd (Q := fun q => q.1 = 0) ?_ (fun q hq => QT.grd (fun _ => QT.ret hq))
    refine QT.ieq (fun e => absurd (e.trans l93) h) (fun _ => ?_)
    exact QT.bnd (q_wrong 1 b) (fun _ hq => QT.grd (fun _ => QT.ret hq))
theorem q_items1 {ri rp : Int32 → Int32 → Int32 → Int32 → ST → Option ((Int32 × ST) × Nat)} {rv : Int32 → Int32 → Int32 → Int32 → Int32 → ST → Option ((Int32 × ST) × Nat)} (n : Nat) (x1 x2 x3 x4 x5 : Int32) (b : ST) (h : (b.1 0 13).toInt = 93) {Q : ST → Prop} (hg : QT (f_X11_go b) Q) : QT (f_X11_items_70 ri rp rv (f_X11_items_25 ri rp rv n) x1 x2 x3 x4 x5 0 b) (fun q => q.1.1 = 1 ∧ Q q.1.2) := by
  have l93 : (93 : Int32).toInt = 93 := by decide
  unfold f_X11_items_70
  refine QT.ite (fun _ => ?_) (fun h => absurd rfl h)
  cases n with
  | zero =>
    rw [f_X11_items_25]
    exact QT.none
  | succ n =>
    rw [f_X11_items_25]
    refine QT.ite (fun _ => ?_) (fun h => absurd rfl h)
    unfold f_X11_mark
    refine QT.bnd (Q := fun q => q.1 = 1 ∧ Q q.2) ?_ (fun q hq => QT.grd (fun _ => QT.ret hq))
    refine QT.ieq (fun _ => QT.bnd hg (fun z hz => QT.ret ⟨rfl, hz⟩)) (fun e => absurd (h.trans l93.symm) e)
theorem ab_items24 {rF rI : Int32 → Int32 → Int32 → ST → Option (Int32 × ST)} {rV : Int32 → Int32 → Int32 → Int32 → ST → Option (Int32 × ST)} {ri rp : Int32 → Int32 → Int32 → Int32 → ST → Option ((Int32 × ST) × Nat)} {rv : Int32 → Int32 → Int32 → Int32 → Int32 → ST → Option ((Int32 × ST) × Nat)} {p : Nat} {rm : Int} {S T : ST} (hV : VTP p rm S T rV rv) (hN : NUV rv) {L d x v : Nat} {lev dp tI u row w P32 : Int32} {a t : ST} (hL : L ≤ 30) (hlev : lev.toInt = L) (hdp : dp.toInt = L) (hP : P32.toInt = p) (hT : TY p rm S T d tI (T.1 3 u.toNatClampNeg)) (hr : row.toInt = x) (hw : w.toInt = v) : ∀ (n n' k : Nat) (x4 x5 : Int32) (σ τ : ST) (e f : Nat) (l : List EN), x4.toInt = k → x5.toInt = k → ILI p S T L tI (T.1 3 u.toNatClampNeg) x v a t k (1000 + (L + 1 : Nat)) σ τ e f l → QT (f_X8_parseItems_24 rF rI rV n tI row lev x4 σ) (fun qa => QT (f_X11_items_25 ri rp rv n' P32 u dp w x5 1 τ) (fun qb => VOUT L (IPO p S T L tI (T.1 3 u.toNatClampNeg) x v a t) qa qb.1)) := by
  have l0 := li_0
  have l1 := li_1
  have l44 : (44 : Int32).toInt = 44 := by decide
  have l93 : (93 : Int32).toInt = 93 := by decide
  have l200 : (200 : Int32).toInt = 200 := by decide
  intro n
  induction n with
  | zero =>
    intro n' k x4 x5 σ τ e f l _ _ _
    rw [f_X8_parseItems_24]
    exact QT.none
  | succ n ih =>
    intro n' k x4 x5 σ τ e f l h4 h5 hI
    have hpl : x4 = x5 := Int32.toInt_inj.mp (by omega)
    subst hpl
    cases n' with
    | zero =>
      rw [f_X11_items_25]
      exact fun _ _ => QT.none
    | succ n' =>
      have hk := hI.2.2.1.2.2
      have hC := hI.1.1
      obtain ⟨⟨_, k3, _, _⟩, _⟩ := hC.1.2.t
      rw [f_X8_parseItems_24, f_X11_items_25]
      refine QT.ilt (fun h => by omega) (fun _ => ?_)
      refine QT.sw ?_
      refine QT.ite (fun e => absurd e one_ne) (fun _ => QT.grd (fun _ => ?_))
      refine QT.sw ?_
      rw [k3]
      obtain ⟨d', hG⟩ := TG.ex hT
      have el := il_addE (x := lev) (y := 1) (by omega) (by omega)
      have ed := il_addE (x := dp) (y := 1) (by omega) (by omega)
      have e4 := il_addE (x := x4) (y := 1) (by omega) (by omega)
      refine QT.bnd2 (hV (L + 1) (lev + 1) (dp + 1) tI (T.1 3 u.toNatClampNeg) row w x4 P32 d' l [] σ τ e f (by omega) (by omega) (by omega) hP hG hC (hI.par hr hw h4)) (fun qa qb hq => ?_)
      rcases hq with ⟨ha, hb⟩ | ⟨ha, hb, hPo⟩
      · refine QT.ieq (fun _ => QT.ret ?_) (fun h => absurd (ha.trans l0.symm) h)
        refine QT.kac ?_
        refine QT.ite (fun _ => QT.ret (.inl ⟨l0, .inl rfl⟩)) (fun hne => ?_)
        rcases hb with hb | ⟨_, hb⟩
        · exact absurd hb hne
        · exact (dm_items hN L n' P32 u dp w (x4 + 1) qb.1.2 (hb.of (by omega))).mono (fun z hz => .inl ⟨l0, hz⟩)
      · obtain ⟨e', f', hI2⟩ := hI.add hr hw h4 hL hPo
        have hX2 := hI2.1.1.2.1.1
        have hK2 := hX2.2.2.1
        refine QT.ieq (fun h => by omega) (fun _ => ?_)
        refine QT.sw ?_
        refine QT.kac ?_
        refine QT.ieq (fun h => by omega) (fun _ => ?_)
        refine QT.sw ?_
        refine QT.ieq (fun h93 => ?_) (fun h93 => ?_)
        · have hs : (qb.1.2.1 0 13).toInt = 93 := (hK2.sg (by omega)).mpr (by omega)
          refine QT.bnd (a_setW 62 row (x4 + 1) 0 qa.2 hr (by rw [hI2.1.1.2.2.1.1]; have := hI2.1.2.1; omega) (by rw [hI2.1.1.2.2.1.2]; have := hI2.1.1.2.2.2.2.2; have := hI2.1.2.1; omega)) (fun s2 hs2 => ?_)
          have e2 : s2.1 2 = qa.2.1 2 := by
            rw [hs2]
            show (stI qa.2 (62 + 4) x (x4 + 1)).1 2 = _
            exact stI_ne (by omega)
          have hX3 : LX s2 qb.1.2 := by
            rw [hs2]
            exact hX2.set4 (by omega)
          refine QT.bnd (ab_gof s2 qb.1.2 hX3 (by rw [e2]; omega) (by rw [e2]; omega)) (fun s hs9 => ?_)
          refine QT.ret ?_
          refine QT.ieq (fun h => by omega) (fun _ => ?_)
          refine (q_items1 n' P32 u dp w (x4 + 1) qb.1.2 hs hs9.2).mono (fun z hz => .inr ⟨l1, by show z.1.1.toInt = 1; rw [hz.1]; exact l1, ?_⟩)
          have hs1 := hs9.1
          rw [hs2] at hs1
          exact hI2.fin (by omega) hs1 hz.2
        · refine QT.ieq (fun h44 => ?_) (fun h44 => ?_)
          · have hs : (qb.1.2.1 0 13).toInt = 44 := (hK2.sg (by omega)).mpr (by omega)
            refine QT.sw ?_
            refine QT.ieq (fun _ => ?_) (fun h => by omega)
            unfold f_X11_items_70
            refine QT.ite (fun h => absurd h one_ne) (fun _ => ?_)
            refine QT.sw ?_
            refine QT.bnd2 (Q := fun s z => CA qa.2 s ∧ GOF qb.1.2 s z ((uT qb.1.2 : Int) - 1)) ((ab_gof qa.2 qb.1.2 hX2 (by omega) (by omega)).mono (fun s hs => hs.2.mono (fun z hz => ⟨hs.1, hz⟩))) (fun s z hq => ?_)
            have hI3 := hI2.go hq.1 hq.2
            rw [show (1000 + ((L + 1 : Nat) : Int) + 1 - 1) = 1000 + ((L + 1 : Nat) : Int) by omega] at hI3
            exact ih n' (k + 1) (x4 + 1) (x4 + 1) s z e' f' _ (by omega) (by omega) hI3
          · have hs1 : ¬ (qb.1.2.1 0 13).toInt = 44 := fun e => h44 (((hK2.sg (by omega)).mp e).trans l44.symm)
            have hs2 : ¬ (qb.1.2.1 0 13).toInt = 93 := fun e => h93 (((hK2.sg (by omega)).mp e).trans l93.symm)
            refine (qa_ref 1 qa.2).mono (fun z hz => ?_)
            refine QT.ieq (fun h => by omega) (fun _ => ?_)
            exact (q_items0 n' P32 u dp w (x4 + 1) qb.1.2 hs2).mono (fun y hy => .inl ⟨hz, .inl hy⟩)
/-- a list's items of both sides -/
def NEWA (x : Nat) (a : ST) : Prop := ((a.1 (62 + 7) x).toInt = -1 ∧ (a.1 (62 + 8) x).toInt = -1) ∧ a.1 (62 + 4) x = 0 ∧ a.2.1 (62 + 6) x = 0
def NEWB (v : Nat) (s : Int) (t : ST) : Prop := ((t.1 28 v).toInt = -1 ∧ (t.1 29 v).toInt = -1) ∧ (t.1 23 v = 0 ∧ (t.1 20 v).toInt = s) ∧ t.2.1 21 v = 0 ∧ t.2.1 22 v = 0
theorem kds_0 {x v : Nat} {s : Int} {σ τ : ST} {Q : EN → Prop} (hA : NEWA x σ) (hB : NEWB v s τ) : KDS 62 σ τ (x, x + 1) (v, v + 1) [] Q := by
  have l0 := li_0
  refine ⟨⟨⟨hA.1.1, hA.1.2⟩, hB.1.1, hB.1.2⟩, ⟨List.Pairwise.nil, List.Pairwise.nil⟩, ⟨?_, ?_⟩, fun y hy => (by cases hy)⟩
  · show (τ.1 23 v).toInt = ((0 : Nat) : Int)
    rw [hB.2.1.1]
    exact l0
  · refine ⟨?_, rfl⟩
    show 0 + x < x + 1
    omega
def ITP (p : Nat) (rm : Int) (S T : ST) (rI : Int32 → Int32 → Int32 → ST → Option (Int32 × ST)) (ri : Int32 → Int32 → Int32 → Int32 → ST → Option ((Int32 × ST) × Nat)) : Prop := ∀ (L d x v : Nat) (lev dp tI u row w P32 : Int32) (a t : ST), L ≤ 30 → lev.toInt = L → dp.toInt = L → P32.toInt = p → TY p rm S T d tI (T.1 3 u.toNatClampNeg) → row.toInt = x → w.toInt = v → KVA S a → KVB T t → ((a.1 62 1).toInt = (x : Int) + 1 ∧ (a.1 62 0).toInt = 502 ∧ x < 502) → (t.1 0 46).toInt = (v : Int) + 1 → NEWA x a → NEWB v 6 t → QT (f_X11_go t) (fun b => GOF t a b (1000 + (L + 1 : Nat) - 2 * ((x : Int) + 1))) → QT (rI tI row lev a) (fun qa => QT (ri P32 u dp w t) (fun qb => VOUT L (IPO p S T L tI (T.1 3 u.toNatClampNeg) x v a t) qa qb.1))
theorem ab_items {rF rI : Int32 → Int32 → Int32 → ST → Option (Int32 × ST)} {rV : Int32 → Int32 → Int32 → Int32 → ST → Option (Int32 × ST)} {ri rp : Int32 → Int32 → Int32 → Int32 → ST → Option ((Int32 × ST) × Nat)} {rv : Int32 → Int32 → Int32 → Int32 → Int32 → ST → Option ((Int32 × ST) × Nat)} {p : Nat} {rm : Int} {S T : ST} (hV : VTP p rm S T rV rv) (hN : NUV rv) : ITP p rm S T (f_X8_parseItems rF rI rV) (f_X11_items ri rp rv) := by
  have l0 := li_0
  have l1 := li_1
  have l93 : (93 : Int32).toInt = 93 := by decide
  intro L d x v lev dp tI u row w P32 a t hL hlev hdp hP hT hr hw kA kB ⟨a1, a0, hx⟩ ht hNA hNB hgo
  unfold f_X8_parseItems f_X11_items
  refine QT.sw ?_
  refine QT.bnd hgo (fun b hb => ?_)
  have kb := hb.2.1
  have hX := hb.2.2.1
  have hu := hb.2.2.2
  have hK := hX.1.2.2.1
  have b46 : (b.1 0 46).toInt = (v : Int) + 1 := by rw [hb.1.2.1]; exact ht
  have hNB2 : NEWB v 6 b := by
    unfold NEWB
    rw [hb.1.1 28 (by omega), hb.1.1 29 (by omega), hb.1.1 23 (by omega), hb.1.1 20 (by omega), hb.1.2.2 21 (by omega), hb.1.2.2 22 (by omega)]
    exact hNB
  have hC : CXT S T a b (x + 1) (v + 1) (1000 + (L + 1 : Nat)) := ⟨⟨kA, kB.trans kb⟩, hX, ⟨by omega, a0⟩, by omega, by omega⟩
  refine QT.ieq (fun hs => ?_) (fun hs => ?_)
  · have hk : (a.1 2 4).toInt = 93 := (hK.sg (by omega)).mp (by omega)
    refine QT.sw ?_
    refine QT.ieq (fun _ => ?_) (fun h => by omega)
    refine QT.bnd (ab_gof a b hX.1 (by omega) (by omega)) (fun s hs9 => QT.ret ?_)
    refine QT.bnd hs9.2 (fun z hz => QT.ret (.inr ⟨l1, l1, ?_⟩))
    have hC2 := hC.go hs9.1 hz
    have ca := hs9.1
    refine ⟨x + 1, v + 1, [], ⟨?_, by omega, by omega⟩, ⟨ca.sua, (SUB.trans hb.sub hz.sub)⟩, ⟨rfl, by show 0 ≤ 200; omega, ?_⟩, ?_, ?_, ?_, ?_⟩
    · have e9 : (1000 + ((L + 1 : Nat) : Int) - 1) = 1000 + (L : Int) := by omega
      rw [e9] at hC2
      obtain ⟨c1, c2, c3, c4, c5, c6⟩ := hC2
      exact ⟨c1, c2, c3, c4, by dsimp only; omega, c6⟩
    · rw [ca.1 _ (by omega), hNA.2.1]
      exact l0
    · refine kds_0 (s := 6) ?_ ?_
      · unfold NEWA
        rw [ca.1 _ (by omega), ca.1 _ (by omega), ca.1 _ (by omega), ca.2.2.1 _ (by omega)]
        exact hNA
      · unfold NEWB
        rw [hz.1.1 28 (by omega), hz.1.1 29 (by omega), hz.1.1 23 (by omega), hz.1.1 20 (by omega), hz.1.2.2 21 (by omega), hz.1.2.2 22 (by omega)]
        exact hNB2
    · rw [ca.2.2.1 _ (by omega)]
      exact hNA.2.2
    · rw [hz.1.2.2 21 (by omega)]
      exact hNB2.2.2.1
    · rw [hz.1.2.2 22 (by omega)]
      exact hNB2.2.2.2
  · refine QT.sw ?_
    refine QT.ieq (fun h => absurd (((hK.sg (by omega)).mpr (h.trans l93)).trans l93.symm) hs) (fun _ => ?_)
    exact ab_items24 hV hN hL hlev hdp hP hT hr hw FU FU 0 0 0 a b (x + 1) (v + 1) [] l0 l0 ⟨⟨hC, by omega, by omega⟩, ⟨SUA.rf, hb.sub⟩, ⟨rfl, rfl, by omega⟩, kds_0 hNA hNB2, ⟨hNA.2.1, hNA.2.2⟩, ⟨hNB2.2.2.1, hNB2.2.2.2⟩, hNB2.2.1.2⟩
