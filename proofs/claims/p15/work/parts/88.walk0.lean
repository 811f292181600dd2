/-! whatever a run answers, if it answers -/
def PT {α : Type} (o : Option α) (P : α → Prop) : Prop := ∀ q, o = some q → P q
theorem PT.none {α : Type} {P : α → Prop} : PT (none : Option α) P := fun _ h => by cases h
theorem PT.ret {α : Type} {q : α} {P : α → Prop} (h : P q) : PT (some q) P := fun z e => by
  cases e
  exact h
theorem PT.mono {α : Type} {o : Option α} {P Q : α → Prop} (h : PT o P) (k : ∀ q, P q → Q q) : PT o Q := fun q e => k q (h q e)
theorem PT.ok {α : Type} {o : Option α} {P : α → Prop} (h : OK o P) : PT o P := fun q e => by
  obtain ⟨z, e2, hz⟩ := h
  rw [e] at e2
  cases e2
  exact hz
theorem PT.ite {α : Type} {c : Prop} {i : Decidable c} {x y : Option α} {P : α → Prop} (h1 : c → PT x P) (h2 : ¬ c → PT y P) : PT (@_root_.ite (Option α) c i x y) P := by
  by_cases h : c
  · rw [if_pos h]; exact h1 h
  · rw [if_neg h]; exact h2 h
theorem PT.grd {α : Type} {c : Prop} {i : Decidable c} {x : Option α} {P : α → Prop} (h : c → PT x P) : PT (@_root_.ite (Option α) c i x Option.none) P := PT.ite h (fun _ => PT.none)
theorem PT.ilt {α : Type} {a b : Int32} {i : Decidable (a < b)} {x y : Option α} {P : α → Prop} (h1 : a.toInt < b.toInt → PT x P) (h2 : b.toInt ≤ a.toInt → PT y P) : PT (@_root_.ite (Option α) (a < b) i x y) P := PT.ite (fun h => h1 (il_lt h)) (fun h => h2 (il_nlt h))
theorem PT.ile {α : Type} {a b : Int32} {i : Decidable (a ≤ b)} {x y : Option α} {P : α → Prop} (h1 : a.toInt ≤ b.toInt → PT x P) (h2 : b.toInt < a.toInt → PT y P) : PT (@_root_.ite (Option α) (a ≤ b) i x y) P := PT.ite (fun h => h1 (il_le h)) (fun h => h2 (il_nle h))
theorem PT.ieq {α : Type} {a b : Int32} {i : Decidable (a = b)} {x y : Option α} {P : α → Prop} (h1 : a.toInt = b.toInt → PT x P) (h2 : ¬ a.toInt = b.toInt → PT y P) : PT (@_root_.ite (Option α) (a = b) i x y) P := PT.ite (fun h => h1 (il_eq h)) (fun h => h2 (il_ne h))
theorem PT.bnd {α β : Type} {o : Option α} {f : α → Option β} {Q : α → Prop} {P : β → Prop} (h : PT o Q) (k : ∀ q, Q q → PT (f q) P) : PT (o.bind f) P := by
  cases o with
  | none => exact PT.none
  | some x => exact k x (h x rfl)
theorem PT.lt {α β : Type} {e : α} {f : α → Option β} {P : β → Prop} (k : ∀ z, z = e → PT (f z) P) : PT ((some e).bind f) P := k e rfl
theorem PT.bndR {α β : Type} {o : Option (α × ST)} {f : α × ST → Option β} {s : ST} {Q : α → Prop} {P : β → Prop} (h : OK o (RO s Q)) (k : ∀ v, Q v → PT (f (v, s)) P) : PT (o.bind f) P := by
  obtain ⟨⟨v, t⟩, e, e2, hq⟩ := h
  have e2 : t = s := e2
  subst e2
  rw [e]
  exact k v hq
theorem PT.sw {α β : Type} {a : Option α} {b : Option β} {P : α → β → Prop} (h : PT b (fun y => PT a (fun x => P x y))) : PT a (fun x => PT b (fun y => P x y)) := fun x ex y ey => h y ey x ex
theorem PT.bnd2 {α β γ δ : Type} {a : Option α} {b : Option β} {f : α → Option γ} {g : β → Option δ} {Q : α → β → Prop} {P : γ → δ → Prop} (h : PT a (fun x => PT b (Q x))) (k : ∀ x y, Q x y → PT (f x) (fun u => PT (g y) (P u))) : PT (a.bind f) (fun u => PT (b.bind g) (P u)) := by
  cases a with
  | none => exact PT.none
  | some x =>
    cases b with
    | none => exact fun _ _ => PT.none
    | some y => exact k x y (h x rfl y rfl)
theorem PT.mono2 {α β : Type} {a : Option α} {b : Option β} {P Q : α → β → Prop} (h : PT a (fun x => PT b (P x))) (k : ∀ x y, P x y → Q x y) : PT a (fun x => PT b (Q x)) := fun x ex y ey => k x y (h x ex y ey)
theorem PT.pf {α : Type} {st : α → ST} {K : ST → Prop} {o : Option α} (h : PF st K o) : PT o (fun q => K (st q)) := h
/-- the reference's misses are full: they stay -/
def K20 (s σ : ST) : Prop := CH LC LI s σ ∧ ((s.1 0 61).toInt = 20 → (σ.1 0 61).toInt = 20 ∧ σ.1 37 = s.1 37 ∧ σ.1 38 = s.1 38 ∧ σ.1 39 = s.1 39)
theorem K20.i {s σ : ST} {c i : Nat} {v : Int32} (hc : c = 36 ∨ c = 40 ∨ c = 0 ∧ i = 57) (h : K20 s σ) : K20 s (stI σ c i v) := by
  rcases hc with e | e | ⟨e1, e2⟩
  · subst e
    exact ⟨h.1.i (by decide) (by decide), h.2⟩
  · subst e
    exact ⟨h.1.i (by decide) (by decide), h.2⟩
  · subst e1 e2
    exact ⟨h.1.o (by decide), h.2⟩
theorem bp_misses_35 : ∀ (n : Nat) (x2 : Int32) (σ : ST), PT (f_X11_misses_35 n x2 σ) (fun t => CH [39] [61] σ t) := by
  intro n
  induction n with
  | zero => intro x2 σ; exact PT.none
  | succ n ih =>
    intro x2 σ
    rw [f_X11_misses_35]
    refine PT.ile (fun _ => PT.ret (CH.rf.o (by decide))) (fun _ => ?_)
    refine PT.grd (fun _ => ?_)
    refine PT.grd (fun _ => ?_)
    exact (ih (x2 + 1) _).mono (fun t ct => (CH.rf.i (by decide) (by decide)).trans ct)
theorem w20_X11_misses {s : ST} {p0 : Int32} {σ : ST} (h : K20 s σ) : PF st0 (K20 s) (f_X11_misses p0 σ) := by
  have l20 := li_20
  unfold f_X11_misses
  show PT _ (fun q => K20 s q)
  refine PT.ieq (fun _ => PT.ret h) (fun hne => ?_)
  refine PT.grd (fun _ => ?_)
  refine PT.grd (fun _ => ?_)
  refine PT.lt (fun z hz => ?_)
  have c : CH [37, 38, 39] [61] σ z := by rw [hz]; exact (CH.rf.i (by decide) (by decide)).i (by decide) (by decide)
  refine (bp_misses_35 FU 0 z).mono (fun t ct => ⟨h.1.trans ((c.trans (ct.mono (by decide) (by decide))).mono (by decide) (by decide)), fun h9 => ?_⟩)
  have := (h.2 h9).1
  omega
theorem w20_X11_namesMay_40 {s : ST}  {σ : ST}   (h : K20 s σ) : PF st1 (K20 s) (f_X11_namesMay_40 σ) := by
  unfold f_X11_namesMay_40
  exact (PF.ret1 h)
theorem w20_X11_namesMay_8 {s : ST} {x1 : Int32} {x2 : Int32} {σ : ST}   (h : K20 s σ) : PF st1 (K20 s) (f_X11_namesMay_8 x1 x2 σ) := by
  unfold f_X11_namesMay_8
  exact (PF.ite (fun _ => (PF.ite (fun _ => (PF.ite (fun _ => (w20_X11_namesMay_40  h)) (fun _ => (PF.ret1 h)))) (fun _ => PF.none))) (fun _ => PF.none))
theorem w20_X11_namesMay {s : ST} {p0 : Int32} {p1 : Int32} {σ : ST}   (h : K20 s σ) : PF st1 (K20 s) (f_X11_namesMay p0 p1 σ) := by
  unfold f_X11_namesMay
  exact (PF.ite (fun _ => (PF.ite (fun _ => (w20_X11_namesMay_40  h)) (fun _ => (w20_X11_namesMay_8  h)))) (fun _ => (w20_X11_namesMay_8  h)))
theorem w20_X11_fieldOf_3 {s : ST}    : ∀ (n : Nat) (x1 : Int32) (x2 : Int64) (x3 : Int32) (σ : ST), K20 s σ → PF st1 (K20 s) (f_X11_fieldOf_3  n x1 x2 x3 σ) := by
  intro n
  induction n with
  | zero => intro x1 x2 x3 σ h; rw [f_X11_fieldOf_3]; exact PF.none
  | succ n ih =>
    intro x1 x2 x3 σ h
    rw [f_X11_fieldOf_3]
    exact (PF.ite (fun _ => (PF.ite (fun _ => (PF.ret1 h)) (fun _ => (PF.ite (fun _ => (PF.ite (fun _ => (PF.ret1 h)) (fun _ => (ih _ _ _ _ h)))) (fun _ => PF.none))))) (fun _ => PF.none))
theorem w20_X11_fieldOf {s : ST} {p0 : Int32} {p1 : Int64} {σ : ST}   (h : K20 s σ) : PF st1 (K20 s) (f_X11_fieldOf p0 p1 σ) := by
  unfold f_X11_fieldOf
  exact (w20_X11_fieldOf_3  _ _ _ _ _ h)
theorem w20_X11_fieldFor {s : ST} {p0 : Int32} {p1 : Int32} {σ : ST}   (h : K20 s σ) : PF st1 (K20 s) (f_X11_fieldFor p0 p1 σ) := by
  unfold f_X11_fieldFor
  exact (PF.ite (fun _ => (PF.bnd (w20_X11_fieldOf  h) (fun q2 hq2 => (PF.ite (fun _ => (PF.ret1 hq2)) (fun _ => (PF.ite (fun _ => (PF.ret1 hq2)) (fun _ => (PF.bnd (w20_X11_fieldOf  hq2) (fun q4 hq4 => (PF.ret1 hq4)))))))))) (fun _ => PF.none))
theorem w20_X11_chosen_69 {s : ST} {r_X11_chosen : Int32 → Int32 → ST → Option (Int32 × ST)} {r_X11_match : Int32 → Int32 → ST → Option (Int32 × ST)} {k5 : Int32 → Int32 → Int32 → Int32 → ST → Option (Int32 × ST)} {x1 : Int32} {x2 : Int32} {x3 : Int32} {x4 : Int32} {σ : ST} (h_r_X11_chosen : ∀ (x1 : Int32) (x2 : Int32) (σ : ST), K20 s σ → PF st1 (K20 s) (r_X11_chosen x1 x2 σ)) (h_r_X11_match : ∀ (x1 : Int32) (x2 : Int32) (σ : ST), K20 s σ → PF st1 (K20 s) (r_X11_match x1 x2 σ)) (h_k5 : ∀ (x1 : Int32) (x2 : Int32) (x3 : Int32) (x4 : Int32) (σ : ST), K20 s σ → PF st1 (K20 s) (k5 x1 x2 x3 x4 σ))  (h : K20 s σ) : PF st1 (K20 s) (f_X11_chosen_69 r_X11_chosen r_X11_match k5 x1 x2 x3 x4 σ) := by
  unfold f_X11_chosen_69
  exact (h_k5 _ _ _ _ _ h)
theorem w20_X11_chosen_68 {s : ST} {r_X11_chosen : Int32 → Int32 → ST → Option (Int32 × ST)} {r_X11_match : Int32 → Int32 → ST → Option (Int32 × ST)} {k5 : Int32 → Int32 → Int32 → Int32 → ST → Option (Int32 × ST)} {x1 : Int32} {x2 : Int32} {x4 : Int32} {y0 : Int32} {σ : ST} (h_r_X11_chosen : ∀ (x1 : Int32) (x2 : Int32) (σ : ST), K20 s σ → PF st1 (K20 s) (r_X11_chosen x1 x2 σ)) (h_r_X11_match : ∀ (x1 : Int32) (x2 : Int32) (σ : ST), K20 s σ → PF st1 (K20 s) (r_X11_match x1 x2 σ)) (h_k5 : ∀ (x1 : Int32) (x2 : Int32) (x3 : Int32) (x4 : Int32) (σ : ST), K20 s σ → PF st1 (K20 s) (k5 x1 x2 x3 x4 σ))  (h : K20 s σ) : PF st1 (K20 s) (f_X11_chosen_68 r_X11_chosen r_X11_match k5 x1 x2 x4 y0 σ) := by
  unfold f_X11_chosen_68
  exact (w20_X11_chosen_69 h_r_X11_chosen h_r_X11_match h_k5 h)
theorem w20_X11_chosen_5 {s : ST} {r_X11_chosen : Int32 → Int32 → ST → Option (Int32 × ST)} {r_X11_match : Int32 → Int32 → ST → Option (Int32 × ST)} (h_r_X11_chosen : ∀ (x1 : Int32) (x2 : Int32) (σ : ST), K20 s σ → PF st1 (K20 s) (r_X11_chosen x1 x2 σ)) (h_r_X11_match : ∀ (x1 : Int32) (x2 : Int32) (σ : ST), K20 s σ → PF st1 (K20 s) (r_X11_match x1 x2 σ))  : ∀ (n : Nat) (x1 : Int32) (x2 : Int32) (x3 : Int32) (x4 : Int32) (σ : ST), K20 s σ → PF st1 (K20 s) (f_X11_chosen_5 r_X11_chosen r_X11_match n x1 x2 x3 x4 σ) := by
  intro n
  induction n with
  | zero => intro x1 x2 x3 x4 σ h; rw [f_X11_chosen_5]; exact PF.none
  | succ n ih =>
    intro x1 x2 x3 x4 σ h
    rw [f_X11_chosen_5]
    exact (PF.ite (fun _ => (PF.ite (fun _ => (PF.ret1 h)) (fun _ => (PF.ite (fun _ => (PF.bnd (h_r_X11_match _ _ _ h) (fun q3 hq3 => (PF.ite (fun _ => (w20_X11_chosen_69 h_r_X11_chosen h_r_X11_match ih hq3)) (fun _ => (PF.ite (fun _ => (PF.ite (fun _ => (PF.ite (fun _ => (PF.ret1 hq3)) (fun _ => (PF.ite (fun _ => (w20_X11_chosen_68 h_r_X11_chosen h_r_X11_match ih hq3)) (fun _ => (w20_X11_chosen_68 h_r_X11_chosen h_r_X11_match ih hq3)))))) (fun _ => PF.none))) (fun _ => PF.none))))))) (fun _ => PF.none))))) (fun _ => PF.none))
theorem w20_X11_chosen {s : ST} {r_X11_chosen : Int32 → Int32 → ST → Option (Int32 × ST)} {r_X11_match : Int32 → Int32 → ST → Option (Int32 × ST)} {p0 : Int32} {p1 : Int32} {σ : ST} (h_r_X11_chosen : ∀ (x1 : Int32) (x2 : Int32) (σ : ST), K20 s σ → PF st1 (K20 s) (r_X11_chosen x1 x2 σ)) (h_r_X11_match : ∀ (x1 : Int32) (x2 : Int32) (σ : ST), K20 s σ → PF st1 (K20 s) (r_X11_match x1 x2 σ))  (h : K20 s σ) : PF st1 (K20 s) (f_X11_chosen r_X11_chosen r_X11_match p0 p1 σ) := by
  unfold f_X11_chosen
  exact (w20_X11_chosen_5 h_r_X11_chosen h_r_X11_match _ _ _ _ _ _ h)
theorem w20_X11_match_55 {s : ST} {r_X11_chosen : Int32 → Int32 → ST → Option (Int32 × ST)} {r_X11_match : Int32 → Int32 → ST → Option (Int32 × ST)} {k16 : Int32 → Int32 → Int32 → Int32 → ST → Option (Int32 × ST)} {x1 : Int32} {x2 : Int32} {x4 : Int32} {y0 : Int32} {σ : ST} (h_r_X11_chosen : ∀ (x1 : Int32) (x2 : Int32) (σ : ST), K20 s σ → PF st1 (K20 s) (r_X11_chosen x1 x2 σ)) (h_r_X11_match : ∀ (x1 : Int32) (x2 : Int32) (σ : ST), K20 s σ → PF st1 (K20 s) (r_X11_match x1 x2 σ)) (h_k16 : ∀ (x1 : Int32) (x2 : Int32) (x3 : Int32) (x4 : Int32) (σ : ST), K20 s σ → PF st1 (K20 s) (k16 x1 x2 x3 x4 σ))  (h : K20 s σ) : PF st1 (K20 s) (f_X11_match_55 r_X11_chosen r_X11_match k16 x1 x2 x4 y0 σ) := by
  unfold f_X11_match_55
  exact (h_k16 _ _ _ _ _ h)
theorem w20_X11_match_50 {s : ST} {r_X11_chosen : Int32 → Int32 → ST → Option (Int32 × ST)} {r_X11_match : Int32 → Int32 → ST → Option (Int32 × ST)} {k16 : Int32 → Int32 → Int32 → Int32 → ST → Option (Int32 × ST)} {x1 : Int32} {x2 : Int32} {x4 : Int32} {σ : ST} (h_r_X11_chosen : ∀ (x1 : Int32) (x2 : Int32) (σ : ST), K20 s σ → PF st1 (K20 s) (r_X11_chosen x1 x2 σ)) (h_r_X11_match : ∀ (x1 : Int32) (x2 : Int32) (σ : ST), K20 s σ → PF st1 (K20 s) (r_X11_match x1 x2 σ)) (h_k16 : ∀ (x1 : Int32) (x2 : Int32) (x3 : Int32) (x4 : Int32) (σ : ST), K20 s σ → PF st1 (K20 s) (k16 x1 x2 x3 x4 σ))  (h : K20 s σ) : PF st1 (K20 s) (f_X11_match_50 r_X11_chosen r_X11_match k16 x1 x2 x4 σ) := by
  unfold f_X11_match_50
  exact (w20_X11_match_55 h_r_X11_chosen h_r_X11_match h_k16 h)
theorem w20_X11_match_16 {s : ST} {r_X11_chosen : Int32 → Int32 → ST → Option (Int32 × ST)} {r_X11_match : Int32 → Int32 → ST → Option (Int32 × ST)} (h_r_X11_chosen : ∀ (x1 : Int32) (x2 : Int32) (σ : ST), K20 s σ → PF st1 (K20 s) (r_X11_chosen x1 x2 σ)) (h_r_X11_match : ∀ (x1 : Int32) (x2 : Int32) (σ : ST), K20 s σ → PF st1 (K20 s) (r_X11_match x1 x2 σ))  : ∀ (n : Nat) (x1 : Int32) (x2 : Int32) (x3 : Int32) (x4 : Int32) (σ : ST), K20 s σ → PF st1 (K20 s) (f_X11_match_16 r_X11_chosen r_X11_match n x1 x2 x3 x4 σ) := by
  intro n
  induction n with
  | zero => intro x1 x2 x3 x4 σ h; rw [f_X11_match_16]; exact PF.none
  | succ n ih =>
    intro x1 x2 x3 x4 σ h
    rw [f_X11_match_16]
    exact (PF.ite (fun _ => (PF.ite (fun _ => (PF.ite (fun _ => (PF.ret1 h)) (fun _ => PF.none))) (fun _ => (PF.ite (fun _ => (PF.ite (fun _ => (PF.bnd (h_r_X11_match _ _ _ h) (fun q3 hq3 => (PF.ite (fun _ => (w20_X11_match_55 h_r_X11_chosen h_r_X11_match ih hq3)) (fun _ => (w20_X11_match_50 h_r_X11_chosen h_r_X11_match ih hq3)))))) (fun _ => PF.none))) (fun _ => (w20_X11_match_50 h_r_X11_chosen h_r_X11_match ih h)))))) (fun _ => PF.none))
theorem w20_X11_match_204 {s : ST} {r_X11_chosen : Int32 → Int32 → ST → Option (Int32 × ST)} {r_X11_match : Int32 → Int32 → ST → Option (Int32 × ST)} {σ : ST} (h_r_X11_chosen : ∀ (x1 : Int32) (x2 : Int32) (σ : ST), K20 s σ → PF st1 (K20 s) (r_X11_chosen x1 x2 σ)) (h_r_X11_match : ∀ (x1 : Int32) (x2 : Int32) (σ : ST), K20 s σ → PF st1 (K20 s) (r_X11_match x1 x2 σ))  (h : K20 s σ) : PF st1 (K20 s) (f_X11_match_204 r_X11_chosen r_X11_match σ) := by
  unfold f_X11_match_204
  exact (PF.ret1 h)
theorem w20_X11_match_193 {s : ST} {r_X11_chosen : Int32 → Int32 → ST → Option (Int32 × ST)} {r_X11_match : Int32 → Int32 → ST → Option (Int32 × ST)} {x3 : Int32} {x4 : Int32} {σ : ST} (h_r_X11_chosen : ∀ (x1 : Int32) (x2 : Int32) (σ : ST), K20 s σ → PF st1 (K20 s) (r_X11_chosen x1 x2 σ)) (h_r_X11_match : ∀ (x1 : Int32) (x2 : Int32) (σ : ST), K20 s σ → PF st1 (K20 s) (r_X11_match x1 x2 σ))  (h : K20 s σ) : PF st1 (K20 s) (f_X11_match_193 r_X11_chosen r_X11_match x3 x4 σ) := by
  unfold f_X11_match_193
  exact (PF.ite (fun _ => (PF.ite (fun _ => (w20_X11_match_204 h_r_X11_chosen h_r_X11_match h)) (fun _ => (PF.ret1 h)))) (fun _ => (PF.ret1 h)))
theorem w20_X11_match_170 {s : ST} {r_X11_chosen : Int32 → Int32 → ST → Option (Int32 × ST)} {r_X11_match : Int32 → Int32 → ST → Option (Int32 × ST)} {x3 : Int32} {x4 : Int32} {σ : ST} (h_r_X11_chosen : ∀ (x1 : Int32) (x2 : Int32) (σ : ST), K20 s σ → PF st1 (K20 s) (r_X11_chosen x1 x2 σ)) (h_r_X11_match : ∀ (x1 : Int32) (x2 : Int32) (σ : ST), K20 s σ → PF st1 (K20 s) (r_X11_match x1 x2 σ))  (h : K20 s σ) : PF st1 (K20 s) (f_X11_match_170 r_X11_chosen r_X11_match x3 x4 σ) := by
  unfold f_X11_match_170
  exact (PF.ite (fun _ => (w20_X11_match_204 h_r_X11_chosen h_r_X11_match h)) (fun _ => (PF.ite (fun _ => (PF.ite (fun _ => (w20_X11_match_204 h_r_X11_chosen h_r_X11_match h)) (fun _ => (PF.ite (fun _ => (w20_X11_match_204 h_r_X11_chosen h_r_X11_match h)) (fun _ => (w20_X11_match_193 h_r_X11_chosen h_r_X11_match h)))))) (fun _ => (w20_X11_match_193 h_r_X11_chosen h_r_X11_match h)))))
theorem w20_X11_match_135 {s : ST} {r_X11_chosen : Int32 → Int32 → ST → Option (Int32 × ST)} {r_X11_match : Int32 → Int32 → ST → Option (Int32 × ST)} {x1 : Int32} {x2 : Int32} {x3 : Int32} {x4 : Int32} {σ : ST} (h_r_X11_chosen : ∀ (x1 : Int32) (x2 : Int32) (σ : ST), K20 s σ → PF st1 (K20 s) (r_X11_chosen x1 x2 σ)) (h_r_X11_match : ∀ (x1 : Int32) (x2 : Int32) (σ : ST), K20 s σ → PF st1 (K20 s) (r_X11_match x1 x2 σ))  (h : K20 s σ) : PF st1 (K20 s) (f_X11_match_135 r_X11_chosen r_X11_match x1 x2 x3 x4 σ) := by
  unfold f_X11_match_135
  exact (PF.ite (fun _ => (PF.ite (fun _ => (PF.ite (fun _ => (PF.ite (fun _ => (PF.ite (fun _ => (PF.ite (fun _ => (PF.ret1 h)) (fun _ => PF.none))) (fun _ => PF.none))) (fun _ => PF.none))) (fun _ => PF.none))) (fun _ => (w20_X11_match_170 h_r_X11_chosen h_r_X11_match h)))) (fun _ => (w20_X11_match_170 h_r_X11_chosen h_r_X11_match h)))
theorem w20_X11_match {s : ST} {r_X11_chosen : Int32 → Int32 → ST → Option (Int32 × ST)} {r_X11_match : Int32 → Int32 → ST → Option (Int32 × ST)} {p0 : Int32} {p1 : Int32} {σ : ST} (h_r_X11_chosen : ∀ (x1 : Int32) (x2 : Int32) (σ : ST), K20 s σ → PF st1 (K20 s) (r_X11_chosen x1 x2 σ)) (h_r_X11_match : ∀ (x1 : Int32) (x2 : Int32) (σ : ST), K20 s σ → PF st1 (K20 s) (r_X11_match x1 x2 σ))  (h : K20 s σ) : PF st1 (K20 s) (f_X11_match r_X11_chosen r_X11_match p0 p1 σ) := by
  unfold f_X11_match
  exact (PF.ite (fun _ => (PF.ite (fun _ => (w20_X11_match_16 h_r_X11_chosen h_r_X11_match _ _ _ _ _ _ h)) (fun _ => (PF.ite (fun _ => (PF.ite (fun _ => (PF.bnd (h_r_X11_chosen _ _ _ h) (fun q5 hq5 => (PF.ite (fun _ => (PF.ret1 hq5)) (fun _ => (PF.ret1 hq5)))))) (fun _ => (PF.ite (fun _ => (PF.ite (fun _ => (PF.bnd (h_r_X11_match _ _ _ h) (fun q3 hq3 => (PF.ite (fun _ => (PF.ret1 hq3)) (fun _ => PF.none))))) (fun _ => (w20_X11_match_135 h_r_X11_chosen h_r_X11_match h)))) (fun _ => (w20_X11_match_135 h_r_X11_chosen h_r_X11_match h)))))) (fun _ => PF.none))))) (fun _ => PF.none))
theorem w20R_X11_chosen {s : ST} : ∀ n : Nat, (∀ (p0 : Int32) (p1 : Int32) (σ : ST), K20 s σ → PF st1 (K20 s) ((R_X11_chosen n).1 p0 p1 σ)) ∧ (∀ (p0 : Int32) (p1 : Int32) (σ : ST), K20 s σ → PF st1 (K20 s) ((R_X11_chosen n).2 p0 p1 σ)) := by
  intro n
  induction n with
  | zero => exact ⟨fun _ _ _ _ => PF.none, fun _ _ _ _ => PF.none⟩
  | succ n ih => exact ⟨fun _ _ _ h => w20_X11_chosen (ih.1) (ih.2)  h, fun _ _ _ h => w20_X11_match (ih.1) (ih.2)  h⟩
theorem w20_T_X11_match {s : ST} {p0 : Int32} {p1 : Int32} {σ : ST} (h : K20 s σ) : PF st1 (K20 s) (f_T_X11_match p0 p1 σ) := (w20R_X11_chosen FRB).2 _ _ _  h
theorem w20_X11_enters {s : ST} {p0 : Int32} {σ : ST}   (h : K20 s σ) : PF st0 (K20 s) (f_X11_enters p0 σ) := by
  unfold f_X11_enters
  exact (PF.ite (fun _ => (PF.bnd (PF.ret0 (K20.i (by omega) (K20.i (by omega) h))) (fun z2 hz2 => (PF.ret0 hz2)))) (fun _ => PF.none))
theorem w20_X11_looksAt_69 {s : ST} {r_X11_looksAt : Int32 → Int32 → ST → Option (ST)} {r_X11_looksAtRecords : Int32 → Int32 → ST → Option (ST)} {k13 : Int32 → Int32 → Int32 → ST → Option (ST)} {x1 : Int32} {x2 : Int32} {x3 : Int32} {σ : ST} (h_r_X11_looksAt : ∀ (x1 : Int32) (x2 : Int32) (σ : ST), K20 s σ → PF st0 (K20 s) (r_X11_looksAt x1 x2 σ)) (h_r_X11_looksAtRecords : ∀ (x1 : Int32) (x2 : Int32) (σ : ST), K20 s σ → PF st0 (K20 s) (r_X11_looksAtRecords x1 x2 σ)) (h_k13 : ∀ (x1 : Int32) (x2 : Int32) (x3 : Int32) (σ : ST), K20 s σ → PF st0 (K20 s) (k13 x1 x2 x3 σ))  (h : K20 s σ) : PF st0 (K20 s) (f_X11_looksAt_69 r_X11_looksAt r_X11_looksAtRecords k13 x1 x2 x3 σ) := by
  unfold f_X11_looksAt_69
  exact (h_k13 _ _ _ _ (K20.i (by omega) h))
theorem w20_X11_looksAt_13 {s : ST} {r_X11_looksAt : Int32 → Int32 → ST → Option (ST)} {r_X11_looksAtRecords : Int32 → Int32 → ST → Option (ST)} (h_r_X11_looksAt : ∀ (x1 : Int32) (x2 : Int32) (σ : ST), K20 s σ → PF st0 (K20 s) (r_X11_looksAt x1 x2 σ)) (h_r_X11_looksAtRecords : ∀ (x1 : Int32) (x2 : Int32) (σ : ST), K20 s σ → PF st0 (K20 s) (r_X11_looksAtRecords x1 x2 σ))  : ∀ (n : Nat) (x1 : Int32) (x2 : Int32) (x3 : Int32) (σ : ST), K20 s σ → PF st0 (K20 s) (f_X11_looksAt_13 r_X11_looksAt r_X11_looksAtRecords n x1 x2 x3 σ) := by
  intro n
  induction n with
  | zero => intro x1 x2 x3 σ h; rw [f_X11_looksAt_13]; exact PF.none
  | succ n ih =>
    intro x1 x2 x3 σ h
    rw [f_X11_looksAt_13]
    exact (PF.ite (fun _ => (PF.ite (fun _ => (PF.ret0 h)) (fun _ => (PF.bnd (w20_X11_enters  h) (fun q2 hq2 => (PF.ite (fun _ => (PF.bnd (w20_T_X11_match hq2) (fun q5 hq5 => (PF.ite (fun _ => (PF.bnd (w20_X11_misses  hq5) (fun q7 hq7 => (w20_X11_looksAt_69 h_r_X11_looksAt h_r_X11_looksAtRecords ih hq7)))) (fun _ => (PF.bnd (h_r_X11_looksAt _ _ _ hq5) (fun q9 hq9 => (w20_X11_looksAt_69 h_r_X11_looksAt h_r_X11_looksAtRecords ih hq9)))))))) (fun _ => PF.none))))))) (fun _ => PF.none))
theorem w20_T_X11_chosen {s : ST} {p0 : Int32} {p1 : Int32} {σ : ST} (h : K20 s σ) : PF st1 (K20 s) (f_T_X11_chosen p0 p1 σ) := (w20R_X11_chosen FRB).1 _ _ _  h
theorem w20_X11_looksAt_253 {s : ST} {r_X11_looksAt : Int32 → Int32 → ST → Option (ST)} {r_X11_looksAtRecords : Int32 → Int32 → ST → Option (ST)} {x1 : Int32} {x2 : Int32} {σ : ST} (h_r_X11_looksAt : ∀ (x1 : Int32) (x2 : Int32) (σ : ST), K20 s σ → PF st0 (K20 s) (r_X11_looksAt x1 x2 σ)) (h_r_X11_looksAtRecords : ∀ (x1 : Int32) (x2 : Int32) (σ : ST), K20 s σ → PF st0 (K20 s) (r_X11_looksAtRecords x1 x2 σ))  (h : K20 s σ) : PF st0 (K20 s) (f_X11_looksAt_253 r_X11_looksAt r_X11_looksAtRecords x1 x2 σ) := by
  unfold f_X11_looksAt_253
  exact (PF.bnd (w20_T_X11_match h) (fun q1 hq1 => (PF.ite (fun _ => (PF.bnd (w20_X11_misses  hq1) (fun q3 hq3 => (PF.ret0 hq3)))) (fun _ => (PF.ret0 hq1)))))
theorem w20_X11_looksAt_196 {s : ST} {r_X11_looksAt : Int32 → Int32 → ST → Option (ST)} {r_X11_looksAtRecords : Int32 → Int32 → ST → Option (ST)} {x1 : Int32} {x2 : Int32} {σ : ST} (h_r_X11_looksAt : ∀ (x1 : Int32) (x2 : Int32) (σ : ST), K20 s σ → PF st0 (K20 s) (r_X11_looksAt x1 x2 σ)) (h_r_X11_looksAtRecords : ∀ (x1 : Int32) (x2 : Int32) (σ : ST), K20 s σ → PF st0 (K20 s) (r_X11_looksAtRecords x1 x2 σ))  (h : K20 s σ) : PF st0 (K20 s) (f_X11_looksAt_196 r_X11_looksAt r_X11_looksAtRecords x1 x2 σ) := by
  unfold f_X11_looksAt_196
  exact (PF.ite (fun _ => (PF.ite (fun _ => (PF.ite (fun _ => (PF.ite (fun _ => (PF.bnd (w20_X11_enters  h) (fun q3 hq3 => (PF.bnd (h_r_X11_looksAt _ _ _ hq3) (fun q5 hq5 => (PF.ret0 (K20.i (by omega) hq5))))))) (fun _ => (w20_X11_looksAt_253 h_r_X11_looksAt h_r_X11_looksAtRecords h)))) (fun _ => PF.none))) (fun _ => (w20_X11_looksAt_253 h_r_X11_looksAt h_r_X11_looksAtRecords h)))) (fun _ => PF.none))
theorem w20_X11_looksAt {s : ST} {r_X11_looksAt : Int32 → Int32 → ST → Option (ST)} {r_X11_looksAtRecords : Int32 → Int32 → ST → Option (ST)} {p0 : Int32} {p1 : Int32} {σ : ST} (h_r_X11_looksAt : ∀ (x1 : Int32) (x2 : Int32) (σ : ST), K20 s σ → PF st0 (K20 s) (r_X11_looksAt x1 x2 σ)) (h_r_X11_looksAtRecords : ∀ (x1 : Int32) (x2 : Int32) (σ : ST), K20 s σ → PF st0 (K20 s) (r_X11_looksAtRecords x1 x2 σ))  (h : K20 s σ) : PF st0 (K20 s) (f_X11_looksAt r_X11_looksAt r_X11_looksAtRecords p0 p1 σ) := by
  unfold f_X11_looksAt
  exact (PF.ite (fun _ => (PF.ite (fun _ => (w20_X11_looksAt_13 h_r_X11_looksAt h_r_X11_looksAtRecords _ _ _ _ _ h)) (fun _ => (PF.ite (fun _ => (PF.ite (fun _ => (PF.bnd (w20_T_X11_chosen h) (fun q7 hq7 => (PF.ite (fun _ => (PF.ite (fun _ => (PF.bnd (h_r_X11_looksAt _ _ _ hq7) (fun q10 hq10 => (PF.ret0 hq10)))) (fun _ => PF.none))) (fun _ => (PF.bnd (w20_X11_misses  hq7) (fun q12 hq12 => (PF.ret0 hq12)))))))) (fun _ => (PF.ite (fun _ => (PF.ite (fun _ => (PF.bnd (w20_X11_namesMay  h) (fun q3 hq3 => (PF.ite (fun _ => (w20_X11_looksAt_196 h_r_X11_looksAt h_r_X11_looksAtRecords hq3)) (fun _ => (PF.bnd (h_r_X11_looksAtRecords _ _ _ hq3) (fun q5 hq5 => (PF.ret0 hq5)))))))) (fun _ => (w20_X11_looksAt_196 h_r_X11_looksAt h_r_X11_looksAtRecords h)))) (fun _ => (w20_X11_looksAt_196 h_r_X11_looksAt h_r_X11_looksAtRecords h)))))) (fun _ => PF.none))))) (fun _ => PF.none))
theorem w20_X11_looksAtRecords_116 {s : ST} {r_X11_looksAt : Int32 → Int32 → ST → Option (ST)} {r_X11_looksAtRecords : Int32 → Int32 → ST → Option (ST)} {k40 : Int32 → Int32 → Int32 → ST → Option (ST)} {x1 : Int32} {x3 : Int32} {x4 : Int32} {σ : ST} (h_r_X11_looksAt : ∀ (x1 : Int32) (x2 : Int32) (σ : ST), K20 s σ → PF st0 (K20 s) (r_X11_looksAt x1 x2 σ)) (h_r_X11_looksAtRecords : ∀ (x1 : Int32) (x2 : Int32) (σ : ST), K20 s σ → PF st0 (K20 s) (r_X11_looksAtRecords x1 x2 σ)) (h_k40 : ∀ (x1 : Int32) (x2 : Int32) (x3 : Int32) (σ : ST), K20 s σ → PF st0 (K20 s) (k40 x1 x2 x3 σ))  (h : K20 s σ) : PF st0 (K20 s) (f_X11_looksAtRecords_116 r_X11_looksAt r_X11_looksAtRecords k40 x1 x3 x4 σ) := by
  unfold f_X11_looksAtRecords_116
  exact (h_k40 _ _ _ _ (K20.i (by omega) h))
theorem w20_X11_looksAtRecords_40 {s : ST} {r_X11_looksAt : Int32 → Int32 → ST → Option (ST)} {r_X11_looksAtRecords : Int32 → Int32 → ST → Option (ST)} (h_r_X11_looksAt : ∀ (x1 : Int32) (x2 : Int32) (σ : ST), K20 s σ → PF st0 (K20 s) (r_X11_looksAt x1 x2 σ)) (h_r_X11_looksAtRecords : ∀ (x1 : Int32) (x2 : Int32) (σ : ST), K20 s σ → PF st0 (K20 s) (r_X11_looksAtRecords x1 x2 σ))  : ∀ (n : Nat) (x1 : Int32) (x2 : Int32) (x3 : Int32) (σ : ST), K20 s σ → PF st0 (K20 s) (f_X11_looksAtRecords_40 r_X11_looksAt r_X11_looksAtRecords n x1 x2 x3 σ) := by
  intro n
  induction n with
  | zero => intro x1 x2 x3 σ h; rw [f_X11_looksAtRecords_40]; exact PF.none
  | succ n ih =>
    intro x1 x2 x3 σ h
    rw [f_X11_looksAtRecords_40]
    exact (PF.ite (fun _ => (PF.ite (fun _ => (PF.ret0 h)) (fun _ => (PF.bnd (w20_X11_fieldFor  h) (fun q2 hq2 => (PF.bnd (w20_X11_enters  hq2) (fun q4 hq4 => (PF.ite (fun _ => (PF.ite (fun _ => (PF.ite (fun _ => (PF.bnd (w20_X11_misses  hq4) (fun q7 hq7 => (w20_X11_looksAtRecords_116 h_r_X11_looksAt h_r_X11_looksAtRecords ih hq7)))) (fun _ => (w20_X11_looksAtRecords_116 h_r_X11_looksAt h_r_X11_looksAtRecords ih hq4)))) (fun _ => PF.none))) (fun _ => (PF.ite (fun _ => (PF.ite (fun _ => (PF.bnd (h_r_X11_looksAt _ _ _ hq4) (fun q11 hq11 => (w20_X11_looksAtRecords_116 h_r_X11_looksAt h_r_X11_looksAtRecords ih hq11)))) (fun _ => PF.none))) (fun _ => PF.none))))))))))) (fun _ => PF.none))
theorem w20_X11_looksAtRecords {s : ST} {r_X11_looksAt : Int32 → Int32 → ST → Option (ST)} {r_X11_looksAtRecords : Int32 → Int32 → ST → Option (ST)} {p0 : Int32} {p1 : Int32} {σ : ST} (h_r_X11_looksAt : ∀ (x1 : Int32) (x2 : Int32) (σ : ST), K20 s σ → PF st0 (K20 s) (r_X11_looksAt x1 x2 σ)) (h_r_X11_looksAtRecords : ∀ (x1 : Int32) (x2 : Int32) (σ : ST), K20 s σ → PF st0 (K20 s) (r_X11_looksAtRecords x1 x2 σ))  (h : K20 s σ) : PF st0 (K20 s) (f_X11_looksAtRecords r_X11_looksAt r_X11_looksAtRecords p0 p1 σ) := by
  unfold f_X11_looksAtRecords
  exact (PF.ite (fun _ => (PF.ite (fun _ => (PF.val (w20_X11_looksAtRecords_40 h_r_X11_looksAt h_r_X11_looksAtRecords _ _ _ _ _ (K20.i (by omega) h)))) (fun _ => (PF.ret0 h)))) (fun _ => PF.none))
theorem w20R_X11_looksAt {s : ST} : ∀ n : Nat, (∀ (p0 : Int32) (p1 : Int32) (σ : ST), K20 s σ → PF st0 (K20 s) ((R_X11_looksAt n).1 p0 p1 σ)) ∧ (∀ (p0 : Int32) (p1 : Int32) (σ : ST), K20 s σ → PF st0 (K20 s) ((R_X11_looksAt n).2 p0 p1 σ)) := by
  intro n
  induction n with
  | zero => exact ⟨fun _ _ _ _ => PF.none, fun _ _ _ _ => PF.none⟩
  | succ n ih => exact ⟨fun _ _ _ h => w20_X11_looksAt (ih.1) (ih.2)  h, fun _ _ _ h => w20_X11_looksAtRecords (ih.1) (ih.2)  h⟩
theorem w20_T_X11_looksAtRecords {s : ST} {p0 : Int32} {p1 : Int32} {σ : ST} (h : K20 s σ) : PF st0 (K20 s) (f_T_X11_looksAtRecords p0 p1 σ) := (w20R_X11_looksAt FRB).2 _ _ _  h
