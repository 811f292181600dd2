/-! alike, both sides -/
def K54 (s σ : ST) : Prop := σ.2.1 54 = s.2.1 54
theorem K54.rf {s : ST} : K54 s s := rfl
theorem K54.i {s σ : ST} {c i : Nat} {v : Int32} (_ : c = c) (h : K54 s σ) : K54 s (stI σ c i v) := h
theorem K54.l {s σ : ST} {c i : Nat} {v : Int64} (hc : c ≠ 54) (h : K54 s σ) : K54 s (stL σ c i v) := (stL_ne (fun e => hc e.symm)).trans h
theorem wo4_X11_rootType {s σ : ST} (h : K54 s σ) : PF st1 (K54 s) (f_X11_rootType σ) := by
  unfold f_X11_rootType
  exact PF.ret1 h
theorem wo4_X11_laysPairs_116 {s : ST} {k63 : Int32 → ST → Option (ST)} {k72 : Int32 → Int32 → ST → Option (ST)} {x3 : Int32} {x4 : Int32} {σ : ST} (h_k63 : ∀ (x1 : Int32) (σ : ST), K54 s σ → PF st0 (K54 s) (k63 x1 σ)) (h_k72 : ∀ (x1 : Int32) (x2 : Int32) (σ : ST), K54 s σ → PF st0 (K54 s) (k72 x1 x2 σ))  (h : K54 s σ) : PF st0 (K54 s) (f_X11_laysPairs_116 k63 k72 x3 x4 σ) := by
  unfold f_X11_laysPairs_116
  exact (h_k72 _ _ _ h)
theorem wo4_X11_namesMay_40 {s : ST}  {σ : ST}   (h : K54 s σ) : PF st1 (K54 s) (f_X11_namesMay_40 σ) := by
  unfold f_X11_namesMay_40
  exact (PF.ret1 h)
theorem wo4_X11_namesMay_8 {s : ST} {x1 : Int32} {x2 : Int32} {σ : ST}   (h : K54 s σ) : PF st1 (K54 s) (f_X11_namesMay_8 x1 x2 σ) := by
  unfold f_X11_namesMay_8
  exact (PF.ite (fun _ => (PF.ite (fun _ => (PF.ite (fun _ => (wo4_X11_namesMay_40  h)) (fun _ => (PF.ret1 h)))) (fun _ => PF.none))) (fun _ => PF.none))
theorem wo4_X11_namesMay {s : ST} {p0 : Int32} {p1 : Int32} {σ : ST}   (h : K54 s σ) : PF st1 (K54 s) (f_X11_namesMay p0 p1 σ) := by
  unfold f_X11_namesMay
  exact (PF.ite (fun _ => (PF.ite (fun _ => (wo4_X11_namesMay_40  h)) (fun _ => (wo4_X11_namesMay_8  h)))) (fun _ => (wo4_X11_namesMay_8  h)))
theorem wo4_X11_fieldOf_3 {s : ST}    : ∀ (n : Nat) (x1 : Int32) (x2 : Int64) (x3 : Int32) (σ : ST), K54 s σ → PF st1 (K54 s) (f_X11_fieldOf_3  n x1 x2 x3 σ) := by
  intro n
  induction n with
  | zero => intro x1 x2 x3 σ h; rw [f_X11_fieldOf_3]; exact PF.none
  | succ n ih =>
    intro x1 x2 x3 σ h
    rw [f_X11_fieldOf_3]
    exact (PF.ite (fun _ => (PF.ite (fun _ => (PF.ret1 h)) (fun _ => (PF.ite (fun _ => (PF.ite (fun _ => (PF.ret1 h)) (fun _ => (ih _ _ _ _ h)))) (fun _ => PF.none))))) (fun _ => PF.none))
theorem wo4_X11_fieldOf {s : ST} {p0 : Int32} {p1 : Int64} {σ : ST}   (h : K54 s σ) : PF st1 (K54 s) (f_X11_fieldOf p0 p1 σ) := by
  unfold f_X11_fieldOf
  exact (wo4_X11_fieldOf_3  _ _ _ _ _ h)
theorem wo4_X11_fieldFor {s : ST} {p0 : Int32} {p1 : Int32} {σ : ST}   (h : K54 s σ) : PF st1 (K54 s) (f_X11_fieldFor p0 p1 σ) := by
  unfold f_X11_fieldFor
  exact (PF.ite (fun _ => (PF.bnd (wo4_X11_fieldOf  h) (fun q2 hq2 => (PF.ite (fun _ => (PF.ret1 hq2)) (fun _ => (PF.ite (fun _ => (PF.ret1 hq2)) (fun _ => (PF.bnd (wo4_X11_fieldOf  hq2) (fun q4 hq4 => (PF.ret1 hq4)))))))))) (fun _ => PF.none))
theorem wo4_X11_chosen_69 {s : ST} {r_X11_chosen : Int32 → Int32 → ST → Option (Int32 × ST)} {r_X11_match : Int32 → Int32 → ST → Option (Int32 × ST)} {k5 : Int32 → Int32 → Int32 → Int32 → ST → Option (Int32 × ST)} {x1 : Int32} {x2 : Int32} {x3 : Int32} {x4 : Int32} {σ : ST} (h_r_X11_chosen : ∀ (x1 : Int32) (x2 : Int32) (σ : ST), K54 s σ → PF st1 (K54 s) (r_X11_chosen x1 x2 σ)) (h_r_X11_match : ∀ (x1 : Int32) (x2 : Int32) (σ : ST), K54 s σ → PF st1 (K54 s) (r_X11_match x1 x2 σ)) (h_k5 : ∀ (x1 : Int32) (x2 : Int32) (x3 : Int32) (x4 : Int32) (σ : ST), K54 s σ → PF st1 (K54 s) (k5 x1 x2 x3 x4 σ))  (h : K54 s σ) : PF st1 (K54 s) (f_X11_chosen_69 r_X11_chosen r_X11_match k5 x1 x2 x3 x4 σ) := by
  unfold f_X11_chosen_69
  exact (h_k5 _ _ _ _ _ h)
theorem wo4_X11_chosen_68 {s : ST} {r_X11_chosen : Int32 → Int32 → ST → Option (Int32 × ST)} {r_X11_match : Int32 → Int32 → ST → Option (Int32 × ST)} {k5 : Int32 → Int32 → Int32 → Int32 → ST → Option (Int32 × ST)} {x1 : Int32} {x2 : Int32} {x4 : Int32} {y0 : Int32} {σ : ST} (h_r_X11_chosen : ∀ (x1 : Int32) (x2 : Int32) (σ : ST), K54 s σ → PF st1 (K54 s) (r_X11_chosen x1 x2 σ)) (h_r_X11_match : ∀ (x1 : Int32) (x2 : Int32) (σ : ST), K54 s σ → PF st1 (K54 s) (r_X11_match x1 x2 σ)) (h_k5 : ∀ (x1 : Int32) (x2 : Int32) (x3 : Int32) (x4 : Int32) (σ : ST), K54 s σ → PF st1 (K54 s) (k5 x1 x2 x3 x4 σ))  (h : K54 s σ) : PF st1 (K54 s) (f_X11_chosen_68 r_X11_chosen r_X11_match k5 x1 x2 x4 y0 σ) := by
  unfold f_X11_chosen_68
  exact (wo4_X11_chosen_69 h_r_X11_chosen h_r_X11_match h_k5 h)
theorem wo4_X11_chosen_5 {s : ST} {r_X11_chosen : Int32 → Int32 → ST → Option (Int32 × ST)} {r_X11_match : Int32 → Int32 → ST → Option (Int32 × ST)} (h_r_X11_chosen : ∀ (x1 : Int32) (x2 : Int32) (σ : ST), K54 s σ → PF st1 (K54 s) (r_X11_chosen x1 x2 σ)) (h_r_X11_match : ∀ (x1 : Int32) (x2 : Int32) (σ : ST), K54 s σ → PF st1 (K54 s) (r_X11_match x1 x2 σ))  : ∀ (n : Nat) (x1 : Int32) (x2 : Int32) (x3 : Int32) (x4 : Int32) (σ : ST), K54 s σ → PF st1 (K54 s) (f_X11_chosen_5 r_X11_chosen r_X11_match n x1 x2 x3 x4 σ) := by
  intro n
  induction n with
  | zero => intro x1 x2 x3 x4 σ h; rw [f_X11_chosen_5]; exact PF.none
  | succ n ih =>
    intro x1 x2 x3 x4 σ h
    rw [f_X11_chosen_5]
    exact (PF.ite (fun _ => (PF.ite (fun _ => (PF.ret1 h)) (fun _ => (PF.ite (fun _ => (PF.bnd (h_r_X11_match _ _ _ h) (fun q3 hq3 => (PF.ite (fun _ => (wo4_X11_chosen_69 h_r_X11_chosen h_r_X11_match ih hq3)) (fun _ => (PF.ite (fun _ => (PF.ite (fun _ => (PF.ite (fun _ => (PF.ret1 hq3)) (fun _ => (PF.ite (fun _ => (wo4_X11_chosen_68 h_r_X11_chosen h_r_X11_match ih hq3)) (fun _ => (wo4_X11_chosen_68 h_r_X11_chosen h_r_X11_match ih hq3)))))) (fun _ => PF.none))) (fun _ => PF.none))))))) (fun _ => PF.none))))) (fun _ => PF.none))
theorem wo4_X11_chosen {s : ST} {r_X11_chosen : Int32 → Int32 → ST → Option (Int32 × ST)} {r_X11_match : Int32 → Int32 → ST → Option (Int32 × ST)} {p0 : Int32} {p1 : Int32} {σ : ST} (h_r_X11_chosen : ∀ (x1 : Int32) (x2 : Int32) (σ : ST), K54 s σ → PF st1 (K54 s) (r_X11_chosen x1 x2 σ)) (h_r_X11_match : ∀ (x1 : Int32) (x2 : Int32) (σ : ST), K54 s σ → PF st1 (K54 s) (r_X11_match x1 x2 σ))  (h : K54 s σ) : PF st1 (K54 s) (f_X11_chosen r_X11_chosen r_X11_match p0 p1 σ) := by
  unfold f_X11_chosen
  exact (wo4_X11_chosen_5 h_r_X11_chosen h_r_X11_match _ _ _ _ _ _ h)
theorem wo4_X11_match_55 {s : ST} {r_X11_chosen : Int32 → Int32 → ST → Option (Int32 × ST)} {r_X11_match : Int32 → Int32 → ST → Option (Int32 × ST)} {k16 : Int32 → Int32 → Int32 → Int32 → ST → Option (Int32 × ST)} {x1 : Int32} {x2 : Int32} {x4 : Int32} {y0 : Int32} {σ : ST} (h_r_X11_chosen : ∀ (x1 : Int32) (x2 : Int32) (σ : ST), K54 s σ → PF st1 (K54 s) (r_X11_chosen x1 x2 σ)) (h_r_X11_match : ∀ (x1 : Int32) (x2 : Int32) (σ : ST), K54 s σ → PF st1 (K54 s) (r_X11_match x1 x2 σ)) (h_k16 : ∀ (x1 : Int32) (x2 : Int32) (x3 : Int32) (x4 : Int32) (σ : ST), K54 s σ → PF st1 (K54 s) (k16 x1 x2 x3 x4 σ))  (h : K54 s σ) : PF st1 (K54 s) (f_X11_match_55 r_X11_chosen r_X11_match k16 x1 x2 x4 y0 σ) := by
  unfold f_X11_match_55
  exact (h_k16 _ _ _ _ _ h)
theorem wo4_X11_match_50 {s : ST} {r_X11_chosen : Int32 → Int32 → ST → Option (Int32 × ST)} {r_X11_match : Int32 → Int32 → ST → Option (Int32 × ST)} {k16 : Int32 → Int32 → Int32 → Int32 → ST → Option (Int32 × ST)} {x1 : Int32} {x2 : Int32} {x4 : Int32} {σ : ST} (h_r_X11_chosen : ∀ (x1 : Int32) (x2 : Int32) (σ : ST), K54 s σ → PF st1 (K54 s) (r_X11_chosen x1 x2 σ)) (h_r_X11_match : ∀ (x1 : Int32) (x2 : Int32) (σ : ST), K54 s σ → PF st1 (K54 s) (r_X11_match x1 x2 σ)) (h_k16 : ∀ (x1 : Int32) (x2 : Int32) (x3 : Int32) (x4 : Int32) (σ : ST), K54 s σ → PF st1 (K54 s) (k16 x1 x2 x3 x4 σ))  (h : K54 s σ) : PF st1 (K54 s) (f_X11_match_50 r_X11_chosen r_X11_match k16 x1 x2 x4 σ) := by
  unfold f_X11_match_50
  exact (wo4_X11_match_55 h_r_X11_chosen h_r_X11_match h_k16 h)
theorem wo4_X11_match_16 {s : ST} {r_X11_chosen : Int32 → Int32 → ST → Option (Int32 × ST)} {r_X11_match : Int32 → Int32 → ST → Option (Int32 × ST)} (h_r_X11_chosen : ∀ (x1 : Int32) (x2 : Int32) (σ : ST), K54 s σ → PF st1 (K54 s) (r_X11_chosen x1 x2 σ)) (h_r_X11_match : ∀ (x1 : Int32) (x2 : Int32) (σ : ST), K54 s σ → PF st1 (K54 s) (r_X11_match x1 x2 σ))  : ∀ (n : Nat) (x1 : Int32) (x2 : Int32) (x3 : Int32) (x4 : Int32) (σ : ST), K54 s σ → PF st1 (K54 s) (f_X11_match_16 r_X11_chosen r_X11_match n x1 x2 x3 x4 σ) := by
  intro n
  induction n with
  | zero => intro x1 x2 x3 x4 σ h; rw [f_X11_match_16]; exact PF.none
  | succ n ih =>
    intro x1 x2 x3 x4 σ h
    rw [f_X11_match_16]
    exact (PF.ite (fun _ => (PF.ite (fun _ => (PF.ite (fun _ => (PF.ret1 h)) (fun _ => PF.none))) (fun _ => (PF.ite (fun _ => (PF.ite (fun _ => (PF.bnd (h_r_X11_match _ _ _ h) (fun q3 hq3 => (PF.ite (fun _ => (wo4_X11_match_55 h_r_X11_chosen h_r_X11_match ih hq3)) (fun _ => (wo4_X11_match_50 h_r_X11_chosen h_r_X11_match ih hq3)))))) (fun _ => PF.none))) (fun _ => (wo4_X11_match_50 h_r_X11_chosen h_r_X11_match ih h)))))) (fun _ => PF.none))
theorem wo4_X11_match_204 {s : ST} {r_X11_chosen : Int32 → Int32 → ST → Option (Int32 × ST)} {r_X11_match : Int32 → Int32 → ST → Option (Int32 × ST)} {σ : ST} (h_r_X11_chosen : ∀ (x1 : Int32) (x2 : Int32) (σ : ST), K54 s σ → PF st1 (K54 s) (r_X11_chosen x1 x2 σ)) (h_r_X11_match : ∀ (x1 : Int32) (x2 : Int32) (σ : ST), K54 s σ → PF st1 (K54 s) (r_X11_match x1 x2 σ))  (h : K54 s σ) : PF st1 (K54 s) (f_X11_match_204 r_X11_chosen r_X11_match σ) := by
  unfold f_X11_match_204
  exact (PF.ret1 h)
theorem wo4_X11_match_193 {s : ST} {r_X11_chosen : Int32 → Int32 → ST → Option (Int32 × ST)} {r_X11_match : Int32 → Int32 → ST → Option (Int32 × ST)} {x3 : Int32} {x4 : Int32} {σ : ST} (h_r_X11_chosen : ∀ (x1 : Int32) (x2 : Int32) (σ : ST), K54 s σ → PF st1 (K54 s) (r_X11_chosen x1 x2 σ)) (h_r_X11_match : ∀ (x1 : Int32) (x2 : Int32) (σ : ST), K54 s σ → PF st1 (K54 s) (r_X11_match x1 x2 σ))  (h : K54 s σ) : PF st1 (K54 s) (f_X11_match_193 r_X11_chosen r_X11_match x3 x4 σ) := by
  unfold f_X11_match_193
  exact (PF.ite (fun _ => (PF.ite (fun _ => (wo4_X11_match_204 h_r_X11_chosen h_r_X11_match h)) (fun _ => (PF.ret1 h)))) (fun _ => (PF.ret1 h)))
theorem wo4_X11_match_170 {s : ST} {r_X11_chosen : Int32 → Int32 → ST → Option (Int32 × ST)} {r_X11_match : Int32 → Int32 → ST → Option (Int32 × ST)} {x3 : Int32} {x4 : Int32} {σ : ST} (h_r_X11_chosen : ∀ (x1 : Int32) (x2 : Int32) (σ : ST), K54 s σ → PF st1 (K54 s) (r_X11_chosen x1 x2 σ)) (h_r_X11_match : ∀ (x1 : Int32) (x2 : Int32) (σ : ST), K54 s σ → PF st1 (K54 s) (r_X11_match x1 x2 σ))  (h : K54 s σ) : PF st1 (K54 s) (f_X11_match_170 r_X11_chosen r_X11_match x3 x4 σ) := by
  unfold f_X11_match_170
  exact (PF.ite (fun _ => (wo4_X11_match_204 h_r_X11_chosen h_r_X11_match h)) (fun _ => (PF.ite (fun _ => (PF.ite (fun _ => (wo4_X11_match_204 h_r_X11_chosen h_r_X11_match h)) (fun _ => (PF.ite (fun _ => (wo4_X11_match_204 h_r_X11_chosen h_r_X11_match h)) (fun _ => (wo4_X11_match_193 h_r_X11_chosen h_r_X11_match h)))))) (fun _ => (wo4_X11_match_193 h_r_X11_chosen h_r_X11_match h)))))
theorem wo4_X11_match_135 {s : ST} {r_X11_chosen : Int32 → Int32 → ST → Option (Int32 × ST)} {r_X11_match : Int32 → Int32 → ST → Option (Int32 × ST)} {x1 : Int32} {x2 : Int32} {x3 : Int32} {x4 : Int32} {σ : ST} (h_r_X11_chosen : ∀ (x1 : Int32) (x2 : Int32) (σ : ST), K54 s σ → PF st1 (K54 s) (r_X11_chosen x1 x2 σ)) (h_r_X11_match : ∀ (x1 : Int32) (x2 : Int32) (σ : ST), K54 s σ → PF st1 (K54 s) (r_X11_match x1 x2 σ))  (h : K54 s σ) : PF st1 (K54 s) (f_X11_match_135 r_X11_chosen r_X11_match x1 x2 x3 x4 σ) := by
  unfold f_X11_match_135
  exact (PF.ite (fun _ => (PF.ite (fun _ => (PF.ite (fun _ => (PF.ite (fun _ => (PF.ite (fun _ => (PF.ite (fun _ => (PF.ret1 h)) (fun _ => PF.none))) (fun _ => PF.none))) (fun _ => PF.none))) (fun _ => PF.none))) (fun _ => (wo4_X11_match_170 h_r_X11_chosen h_r_X11_match h)))) (fun _ => (wo4_X11_match_170 h_r_X11_chosen h_r_X11_match h)))
theorem wo4_X11_match {s : ST} {r_X11_chosen : Int32 → Int32 → ST → Option (Int32 × ST)} {r_X11_match : Int32 → Int32 → ST → Option (Int32 × ST)} {p0 : Int32} {p1 : Int32} {σ : ST} (h_r_X11_chosen : ∀ (x1 : Int32) (x2 : Int32) (σ : ST), K54 s σ → PF st1 (K54 s) (r_X11_chosen x1 x2 σ)) (h_r_X11_match : ∀ (x1 : Int32) (x2 : Int32) (σ : ST), K54 s σ → PF st1 (K54 s) (r_X11_match x1 x2 σ))  (h : K54 s σ) : PF st1 (K54 s) (f_X11_match r_X11_chosen r_X11_match p0 p1 σ) := by
  unfold f_X11_match
  exact (PF.ite (fun _ => (PF.ite (fun _ => (wo4_X11_match_16 h_r_X11_chosen h_r_X11_match _ _ _ _ _ _ h)) (fun _ => (PF.ite (fun _ => (PF.ite (fun _ => (PF.bnd (h_r_X11_chosen _ _ _ h) (fun q5 hq5 => (PF.ite (fun _ => (PF.ret1 hq5)) (fun _ => (PF.ret1 hq5)))))) (fun _ => (PF.ite (fun _ => (PF.ite (fun _ => (PF.bnd (h_r_X11_match _ _ _ h) (fun q3 hq3 => (PF.ite (fun _ => (PF.ret1 hq3)) (fun _ => PF.none))))) (fun _ => (wo4_X11_match_135 h_r_X11_chosen h_r_X11_match h)))) (fun _ => (wo4_X11_match_135 h_r_X11_chosen h_r_X11_match h)))))) (fun _ => PF.none))))) (fun _ => PF.none))
theorem wo4R_X11_chosen {s : ST} : ∀ n : Nat, (∀ (p0 : Int32) (p1 : Int32) (σ : ST), K54 s σ → PF st1 (K54 s) ((R_X11_chosen n).1 p0 p1 σ)) ∧ (∀ (p0 : Int32) (p1 : Int32) (σ : ST), K54 s σ → PF st1 (K54 s) ((R_X11_chosen n).2 p0 p1 σ)) := by
  intro n
  induction n with
  | zero => exact ⟨fun _ _ _ _ => PF.none, fun _ _ _ _ => PF.none⟩
  | succ n ih => exact ⟨fun _ _ _ h => wo4_X11_chosen (ih.1) (ih.2)  h, fun _ _ _ h => wo4_X11_match (ih.1) (ih.2)  h⟩
theorem wo4_T_X11_match {s : ST} {p0 : Int32} {p1 : Int32} {σ : ST} (h : K54 s σ) : PF st1 (K54 s) (f_T_X11_match p0 p1 σ) := (wo4R_X11_chosen FRB).2 _ _ _  h
theorem wo4_X11_holds_94 {s : ST} {k24 : Int32 → Int32 → Int32 → ST → Option (Int32 × ST)} {x1 : Int32} {x3 : Int32} {x4 : Int32} {σ : ST} (h_k24 : ∀ (x1 : Int32) (x2 : Int32) (x3 : Int32) (σ : ST), K54 s σ → PF st1 (K54 s) (k24 x1 x2 x3 σ))  (h : K54 s σ) : PF st1 (K54 s) (f_X11_holds_94 k24 x1 x3 x4 σ) := by
  unfold f_X11_holds_94
  exact (h_k24 _ _ _ _ h)
theorem wo4_X11_holds_24 {s : ST}    : ∀ (n : Nat) (x1 : Int32) (x2 : Int32) (x3 : Int32) (σ : ST), K54 s σ → PF st1 (K54 s) (f_X11_holds_24  n x1 x2 x3 σ) := by
  intro n
  induction n with
  | zero => intro x1 x2 x3 σ h; rw [f_X11_holds_24]; exact PF.none
  | succ n ih =>
    intro x1 x2 x3 σ h
    rw [f_X11_holds_24]
    exact (PF.ite (fun _ => (PF.ite (fun _ => (PF.ret1 h)) (fun _ => (PF.bnd (wo4_X11_fieldFor  h) (fun q2 hq2 => (PF.ite (fun _ => (PF.ite (fun _ => (PF.ite (fun _ => (PF.bnd (wo4_T_X11_match hq2) (fun q6 hq6 => (PF.ite (fun _ => (PF.ret1 hq6)) (fun _ => (wo4_X11_holds_94 ih hq6)))))) (fun _ => PF.none))) (fun _ => PF.none))) (fun _ => (PF.ite (fun _ => (PF.ite (fun _ => (PF.ret1 hq2)) (fun _ => (wo4_X11_holds_94 ih hq2)))) (fun _ => PF.none))))))))) (fun _ => PF.none))
theorem wo4_X11_holds {s : ST} {p0 : Int32} {p1 : Int32} {σ : ST}   (h : K54 s σ) : PF st1 (K54 s) (f_X11_holds p0 p1 σ) := by
  unfold f_X11_holds
  exact (PF.bnd (wo4_X11_namesMay  h) (fun q1 hq1 => (PF.ite (fun _ => (PF.ret1 hq1)) (fun _ => (wo4_X11_holds_24  _ _ _ _ _ hq1)))))
theorem wo4_X11_laysPairs_72 {s : ST} {k63 : Int32 → ST → Option (ST)} (h_k63 : ∀ (x1 : Int32) (σ : ST), K54 s σ → PF st0 (K54 s) (k63 x1 σ))  : ∀ (n : Nat) (x1 : Int32) (x2 : Int32) (σ : ST), K54 s σ → PF st0 (K54 s) (f_X11_laysPairs_72 k63 n x1 x2 σ) := by
  intro n
  induction n with
  | zero => intro x1 x2 σ h; rw [f_X11_laysPairs_72]; exact PF.none
  | succ n ih =>
    intro x1 x2 σ h
    rw [f_X11_laysPairs_72]
    exact (PF.ite (fun _ => (h_k63 _ _ h)) (fun _ => (PF.ite (fun _ => (PF.ite (fun _ => (wo4_X11_laysPairs_116 h_k63 ih h)) (fun _ => (PF.bnd (wo4_X11_holds  h) (fun q2 hq2 => (PF.ite (fun _ => (wo4_X11_laysPairs_116 h_k63 ih (K54.i rfl hq2))) (fun _ => (wo4_X11_laysPairs_116 h_k63 ih hq2)))))))) (fun _ => PF.none))))
theorem wo4_X11_laysPairs_63 {s : ST}    : ∀ (n : Nat) (x1 : Int32) (σ : ST), K54 s σ → PF st0 (K54 s) (f_X11_laysPairs_63  n x1 σ) := by
  intro n
  induction n with
  | zero => intro x1 σ h; rw [f_X11_laysPairs_63]; exact PF.none
  | succ n ih =>
    intro x1 σ h
    rw [f_X11_laysPairs_63]
    exact (PF.ite (fun _ => (PF.ret0 h)) (fun _ => (wo4_X11_laysPairs_72 ih _ _ _ _ h)))
theorem wo4_X11_laysPairs_54 {s : ST} {k12 : Int32 → Int32 → Int32 → ST → Option (ST)} {x1 : Int32} {x2 : Int32} {x3 : Int32} {y0 : Int32} {y1 : Int32} {σ : ST} (h_k12 : ∀ (x1 : Int32) (x2 : Int32) (x3 : Int32) (σ : ST), K54 s σ → PF st0 (K54 s) (k12 x1 x2 x3 σ))  (h : K54 s σ) : PF st0 (K54 s) (f_X11_laysPairs_54 k12 x1 x2 x3 y0 y1 σ) := by
  unfold f_X11_laysPairs_54
  exact (PF.ite (fun _ => (h_k12 _ _ _ _ (K54.i rfl h))) (fun _ => PF.none))
theorem wo4_X11_laysPairs_53 {s : ST} {k12 : Int32 → Int32 → Int32 → ST → Option (ST)} {x1 : Int32} {x2 : Int32} {x3 : Int32} {y0 : Int32} {σ : ST} (h_k12 : ∀ (x1 : Int32) (x2 : Int32) (x3 : Int32) (σ : ST), K54 s σ → PF st0 (K54 s) (k12 x1 x2 x3 σ))  (h : K54 s σ) : PF st0 (K54 s) (f_X11_laysPairs_53 k12 x1 x2 x3 y0 σ) := by
  unfold f_X11_laysPairs_53
  exact (wo4_X11_laysPairs_54 h_k12 h)
theorem wo4_X11_laysPairs_12 {s : ST}    : ∀ (n : Nat) (x1 : Int32) (x2 : Int32) (x3 : Int32) (σ : ST), K54 s σ → PF st0 (K54 s) (f_X11_laysPairs_12  n x1 x2 x3 σ) := by
  intro n
  induction n with
  | zero => intro x1 x2 x3 σ h; rw [f_X11_laysPairs_12]; exact PF.none
  | succ n ih =>
    intro x1 x2 x3 σ h
    rw [f_X11_laysPairs_12]
    exact (PF.ite (fun _ => (wo4_X11_laysPairs_63  _ _ _ h)) (fun _ => (PF.ite (fun _ => (PF.ite (fun _ => (wo4_X11_laysPairs_53 ih h)) (fun _ => (PF.ite (fun _ => (PF.ite (fun _ => (wo4_X11_laysPairs_53 ih h)) (fun _ => (wo4_X11_laysPairs_54 ih h)))) (fun _ => PF.none))))) (fun _ => PF.none))))
theorem wo4_X11_laysPairs {s : ST} {p0 : Int32} {p1 : Int32} {σ : ST}   (h : K54 s σ) : PF st0 (K54 s) (f_X11_laysPairs p0 p1 σ) := by
  unfold f_X11_laysPairs
  exact (wo4_X11_laysPairs_12  _ _ _ _ _ (K54.i rfl (K54.i rfl h)))
theorem wo4_X11_fails_36 {s : ST}    : ∀ (n : Nat) (x1 : Int32) (σ : ST), K54 s σ → PF st1 (K54 s) (f_X11_fails_36  n x1 σ) := by
  intro n
  induction n with
  | zero => intro x1 σ h; rw [f_X11_fails_36]; exact PF.none
  | succ n ih =>
    intro x1 σ h
    rw [f_X11_fails_36]
    exact (PF.ite (fun _ => (PF.ret1 h)) (fun _ => (PF.ite (fun _ => (ih _ _ (K54.i rfl h))) (fun _ => PF.none))))
theorem wo4_X11_fails_31 {s : ST} {y0 : Int32} {σ : ST}   (h : K54 s σ) : PF st1 (K54 s) (f_X11_fails_31 y0 σ) := by
  unfold f_X11_fails_31
  exact (wo4_X11_fails_36  _ _ _ (K54.i rfl h))
theorem wo4_X11_fails_23 {s : ST}  {σ : ST}   (h : K54 s σ) : PF st1 (K54 s) (f_X11_fails_23 σ) := by
  unfold f_X11_fails_23
  exact (wo4_X11_fails_31  h)
theorem wo4_X11_fails {s : ST} {p0 : Int32} {p1 : Int32} {σ : ST}   (h : K54 s σ) : PF st1 (K54 s) (f_X11_fails p0 p1 σ) := by
  unfold f_X11_fails
  exact (PF.ite (fun _ => (wo4_X11_fails_23  (K54.i rfl (K54.i rfl h)))) (fun _ => (PF.ite (fun _ => (wo4_X11_fails_23  (K54.i rfl (K54.i rfl h)))) (fun _ => (wo4_X11_fails_31  (K54.i rfl (K54.i rfl h)))))))
theorem wo4_X11_nextByte {s : ST}  {σ : ST}   (h : K54 s σ) : PF st1 (K54 s) (f_X11_nextByte σ) := by
  unfold f_X11_nextByte
  exact (PF.ite (fun _ => (PF.bnd (wo4_X11_fails  h) (fun q2 hq2 => (PF.ret1 hq2)))) (fun _ => (PF.ite (fun _ => (PF.ret1 (K54.i rfl h))) (fun _ => PF.none))))
theorem wo4_X11_readsNumber_46 {s : ST} {k5 : Int32 → Int64 → Int32 → ST → Option (Int32 × ST)} {x1 : Int32} {x2 : Int64} {x4 : Int32} {x5 : Int32} {σ : ST} (h_k5 : ∀ (x1 : Int32) (x2 : Int64) (x3 : Int32) (σ : ST), K54 s σ → PF st1 (K54 s) (k5 x1 x2 x3 σ))  (h : K54 s σ) : PF st1 (K54 s) (f_X11_readsNumber_46 k5 x1 x2 x4 x5 σ) := by
  unfold f_X11_readsNumber_46
  exact (PF.ite (fun _ => (h_k5 _ _ _ _ h)) (fun _ => (PF.bnd (PF.ret0 (K54.l (by omega) h)) (fun z1 hz1 => (PF.ret1 hz1)))))
theorem wo4_X11_readsNumber_5 {s : ST}    : ∀ (n : Nat) (x1 : Int32) (x2 : Int64) (x3 : Int32) (σ : ST), K54 s σ → PF st1 (K54 s) (f_X11_readsNumber_5  n x1 x2 x3 σ) := by
  intro n
  induction n with
  | zero => intro x1 x2 x3 σ h; rw [f_X11_readsNumber_5]; exact PF.none
  | succ n ih =>
    intro x1 x2 x3 σ h
    rw [f_X11_readsNumber_5]
    exact (PF.ite (fun _ => (PF.ret1 h)) (fun _ => (PF.bnd (wo4_X11_nextByte  h) (fun q1 hq1 => (PF.ite (fun _ => (PF.ite (fun _ => (PF.ite (fun _ => (wo4_X11_readsNumber_46 ih hq1)) (fun _ => (PF.bnd (wo4_X11_fails  hq1) (fun q3 hq3 => (PF.ite (fun _ => (PF.ret1 hq3)) (fun _ => PF.none))))))) (fun _ => (wo4_X11_readsNumber_46 ih hq1)))) (fun _ => (PF.ret1 hq1)))))))
theorem wo4_X11_readsNumber {s : ST} {p0 : Int32} {σ : ST}   (h : K54 s σ) : PF st1 (K54 s) (f_X11_readsNumber p0 σ) := by
  unfold f_X11_readsNumber
  exact (wo4_X11_readsNumber_5  _ _ _ _ _ h)
theorem wo4_X11_within {s : ST} {p0 : Int64} {p1 : Int64} {p2 : Int64} {σ : ST}   (h : K54 s σ) : PF st1 (K54 s) (f_X11_within p0 p1 p2 σ) := by
  unfold f_X11_within
  exact (PF.ite (fun _ => (PF.ret1 h)) (fun _ => (PF.ite (fun _ => (PF.ret1 h)) (fun _ => (PF.ret1 h)))))
theorem wo4_X11_readsInt_31 {s : ST}  {σ : ST}   (h : K54 s σ) : PF st1 (K54 s) (f_X11_readsInt_31 σ) := by
  unfold f_X11_readsInt_31
  exact (PF.ret1 h)
theorem wo4_X11_readsInt {s : ST} {p0 : Int32} {p1 : Int64} {p2 : Int64} {σ : ST}   (h : K54 s σ) : PF st1 (K54 s) (f_X11_readsInt p0 p1 p2 σ) := by
  unfold f_X11_readsInt
  exact (PF.bnd (wo4_X11_readsNumber  h) (fun q1 hq1 => (PF.ite (fun _ => (PF.ret1 hq1)) (fun _ => (PF.bnd (wo4_X11_within  hq1) (fun q3 hq3 => (PF.ite (fun _ => (PF.bnd (wo4_X11_fails  hq3) (fun q5 hq5 => (PF.ite (fun _ => (PF.ret1 hq5)) (fun _ => (wo4_X11_readsInt_31  hq5)))))) (fun _ => (wo4_X11_readsInt_31  hq3)))))))))
theorem wo4_X11_enters {s : ST} {p0 : Int32} {σ : ST}   (h : K54 s σ) : PF st0 (K54 s) (f_X11_enters p0 σ) := by
  unfold f_X11_enters
  exact (PF.ite (fun _ => (PF.bnd (PF.ret0 (K54.i rfl (K54.i rfl h))) (fun z2 hz2 => (PF.ret0 hz2)))) (fun _ => PF.none))
theorem wo4_X11_reads_96 {s : ST} {r_X11_reads : Int32 → Int32 → Int32 → Int32 → Int32 → ST → Option (Int32 × ST)} {r_X11_readsItems : Int32 → Int32 → Int32 → Int32 → ST → Option (Int32 × ST)} {r_X11_readsRecord : Int32 → Int32 → Int32 → Int32 → ST → Option (Int32 × ST)} {x2 : Int32} {x3 : Int32} {x4 : Int32} {x5 : Int32} {x7 : Int32} {x8 : Int32} {σ : ST} (h_r_X11_reads : ∀ (x1 : Int32) (x2 : Int32) (x3 : Int32) (x4 : Int32) (x5 : Int32) (σ : ST), K54 s σ → PF st1 (K54 s) (r_X11_reads x1 x2 x3 x4 x5 σ)) (h_r_X11_readsItems : ∀ (x1 : Int32) (x2 : Int32) (x3 : Int32) (x4 : Int32) (σ : ST), K54 s σ → PF st1 (K54 s) (r_X11_readsItems x1 x2 x3 x4 σ)) (h_r_X11_readsRecord : ∀ (x1 : Int32) (x2 : Int32) (x3 : Int32) (x4 : Int32) (σ : ST), K54 s σ → PF st1 (K54 s) (r_X11_readsRecord x1 x2 x3 x4 σ))  (h : K54 s σ) : PF st1 (K54 s) (f_X11_reads_96 r_X11_reads r_X11_readsItems r_X11_readsRecord x2 x3 x4 x5 x7 x8 σ) := by
  unfold f_X11_reads_96
  exact (PF.bnd (wo4_X11_enters  h) (fun q1 hq1 => (PF.bnd (h_r_X11_reads _ _ _ _ _ _ hq1) (fun q3 hq3 => (PF.ite (fun _ => (PF.ret1 (K54.i rfl hq3))) (fun _ => PF.none))))))
theorem wo4_X11_readsFlag_30 {s : ST}  {σ : ST}   (h : K54 s σ) : PF st1 (K54 s) (f_X11_readsFlag_30 σ) := by
  unfold f_X11_readsFlag_30
  exact (PF.ret1 h)
theorem wo4_X11_readsFlag {s : ST} {p0 : Int32} {σ : ST}   (h : K54 s σ) : PF st1 (K54 s) (f_X11_readsFlag p0 σ) := by
  unfold f_X11_readsFlag
  exact (PF.bnd (wo4_X11_nextByte  h) (fun q1 hq1 => (PF.ite (fun _ => (PF.ret1 (K54.l (by omega) hq1))) (fun _ => (PF.ite (fun _ => (wo4_X11_readsFlag_30  (K54.l (by omega) hq1))) (fun _ => (PF.bnd (wo4_X11_fails  (K54.l (by omega) hq1)) (fun q3 hq3 => (PF.ite (fun _ => (PF.ret1 hq3)) (fun _ => (wo4_X11_readsFlag_30  hq3)))))))))))
theorem wo4_X11_readsLeaf_229 {s : ST} {x5 : Int32} {y0 : Int32} {y1 : Int32} {σ : ST}   (h : K54 s σ) : PF st1 (K54 s) (f_X11_readsLeaf_229 x5 y0 y1 σ) := by
  unfold f_X11_readsLeaf_229
  exact (PF.ite (fun _ => (PF.ite (fun _ => (PF.ret1 (K54.i rfl h))) (fun _ => PF.none))) (fun _ => PF.none))
theorem wo4_X11_readsLeaf_209 {s : ST} {x3 : Int32} {x5 : Int32} {x6 : Int32} {y0 : Int64} {y1 : Int32} {σ : ST}   (h : K54 s σ) : PF st1 (K54 s) (f_X11_readsLeaf_209 x3 x5 x6 y0 y1 σ) := by
  unfold f_X11_readsLeaf_209
  exact (PF.ite (fun _ => (PF.ite (fun _ => (wo4_X11_readsLeaf_229  (K54.l (by omega) h))) (fun _ => (wo4_X11_readsLeaf_229  (K54.l (by omega) h))))) (fun _ => PF.none))
theorem wo4_X11_readsLeaf_189 {s : ST} {x3 : Int32} {x5 : Int32} {x6 : Int32} {y0 : Int64} {y1 : Int32} {σ : ST}   (h : K54 s σ) : PF st1 (K54 s) (f_X11_readsLeaf_189 x3 x5 x6 y0 y1 σ) := by
  unfold f_X11_readsLeaf_189
  exact (PF.ite (fun _ => (PF.ite (fun _ => (wo4_X11_readsLeaf_209  (K54.l (by omega) h))) (fun _ => (wo4_X11_readsLeaf_209  (K54.l (by omega) h))))) (fun _ => PF.none))
theorem wo4_Jxe99ae_isNaN_b9ae7 {s : ST} {p0 : UInt64} {σ : ST}   (h : K54 s σ) : PF st1 (K54 s) (f_Jxe99ae_isNaN_b9ae7 p0 σ) := by
  unfold f_Jxe99ae_isNaN_b9ae7
  exact (PF.ite (fun _ => (PF.ret1 h)) (fun _ => (PF.ret1 h)))
theorem wo4_Jxe99ae_doubleToLongBits_ccdee {s : ST} {p0 : UInt64} {σ : ST}   (h : K54 s σ) : PF st1 (K54 s) (f_Jxe99ae_doubleToLongBits_ccdee p0 σ) := by
  unfold f_Jxe99ae_doubleToLongBits_ccdee
  exact (PF.bnd (wo4_Jxe99ae_isNaN_b9ae7  h) (fun q1 hq1 => (PF.ite (fun _ => (PF.ret1 hq1)) (fun _ => (PF.ret1 hq1)))))
theorem wo4_X11_readsLeaf_155 {s : ST} {x3 : Int32} {x5 : Int32} {x6 : Int32} {x7 : Int32} {y0 : UInt64} {σ : ST}   (h : K54 s σ) : PF st1 (K54 s) (f_X11_readsLeaf_155 x3 x5 x6 x7 y0 σ) := by
  unfold f_X11_readsLeaf_155
  exact (PF.ite (fun _ => (wo4_X11_readsLeaf_189  h)) (fun _ => (PF.ite (fun _ => (wo4_X11_readsLeaf_189  h)) (fun _ => (PF.bnd (wo4_Jxe99ae_doubleToLongBits_ccdee  h) (fun q1 hq1 => (wo4_X11_readsLeaf_189  hq1)))))))
theorem wo4_X11_readsLeaf_132 {s : ST} {x3 : Int32} {x5 : Int32} {x6 : Int32} {y0 : Int32} {σ : ST}   (h : K54 s σ) : PF st1 (K54 s) (f_X11_readsLeaf_132 x3 x5 x6 y0 σ) := by
  unfold f_X11_readsLeaf_132
  exact (PF.ite (fun _ => (wo4_X11_readsLeaf_155  h)) (fun _ => (wo4_X11_readsLeaf_155  h)))
theorem wo4_X11_readsLeaf_108 {s : ST} {x2 : Int32} {x3 : Int32} {x5 : Int32} {x6 : Int32} {σ : ST}   (h : K54 s σ) : PF st1 (K54 s) (f_X11_readsLeaf_108 x2 x3 x5 x6 σ) := by
  unfold f_X11_readsLeaf_108
  exact (PF.ite (fun _ => (PF.ite (fun _ => (PF.ret1 h)) (fun _ => PF.none))) (fun _ => (PF.ite (fun _ => (PF.ite (fun _ => (PF.ret1 h)) (fun _ => PF.none))) (fun _ => (PF.ite (fun _ => (PF.ite (fun _ => (wo4_X11_readsLeaf_132  h)) (fun _ => (wo4_X11_readsLeaf_132  h)))) (fun _ => PF.none))))))
theorem wo4_X11_readsReal_7 {s : ST}    : ∀ (n : Nat) (x1 : Int32) (σ : ST), K54 s σ → PF st1 (K54 s) (f_X11_readsReal_7  n x1 σ) := by
  intro n
  induction n with
  | zero => intro x1 σ h; rw [f_X11_readsReal_7]; exact PF.none
  | succ n ih =>
    intro x1 σ h
    rw [f_X11_readsReal_7]
    exact (PF.ite (fun _ => (PF.ret1 h)) (fun _ => (PF.bnd (wo4_X11_nextByte  h) (fun q1 hq1 => (PF.ite (fun _ => (ih _ _ (K54.l (by omega) hq1))) (fun _ => (PF.ret1 hq1)))))))
theorem wo4_X11_readsReal {s : ST}  {σ : ST}   (h : K54 s σ) : PF st1 (K54 s) (f_X11_readsReal σ) := by
  unfold f_X11_readsReal
  exact (wo4_X11_readsReal_7  _ _ _ (K54.l (by omega) h))
theorem wo4_X11_isLetter {s : ST} {p0 : Int32} {σ : ST}   (h : K54 s σ) : PF st1 (K54 s) (f_X11_isLetter p0 σ) := by
  unfold f_X11_isLetter
  exact (PF.bnd (wo4_X11_within  h) (fun q1 hq1 => (PF.ite (fun _ => (PF.ret1 hq1)) (fun _ => PF.none))))
theorem wo4_X11_readsText_32 {s : ST}    : ∀ (n : Nat) (x1 : Int32) (x2 : Int32) (x3 : Int32) (σ : ST), K54 s σ → PF st1 (K54 s) (f_X11_readsText_32  n x1 x2 x3 σ) := by
  intro n
  induction n with
  | zero => intro x1 x2 x3 σ h; rw [f_X11_readsText_32]; exact PF.none
  | succ n ih =>
    intro x1 x2 x3 σ h
    rw [f_X11_readsText_32]
    exact (PF.ite (fun _ => (PF.ret1 h)) (fun _ => (PF.bnd (wo4_X11_nextByte  h) (fun q1 hq1 => (PF.ite (fun _ => (PF.bnd (wo4_X11_isLetter  hq1) (fun q3 hq3 => (PF.ite (fun _ => (PF.bnd (wo4_X11_fails  hq3) (fun q5 hq5 => (PF.ite (fun _ => (PF.ret1 hq5)) (fun _ => PF.none))))) (fun _ => (ih _ _ _ _ (K54.l (by omega) hq3))))))) (fun _ => (PF.ret1 hq1)))))))
theorem wo4_X11_readsText {s : ST} {p0 : Int32} {σ : ST}   (h : K54 s σ) : PF st1 (K54 s) (f_X11_readsText p0 σ) := by
  unfold f_X11_readsText
  exact (PF.bnd (wo4_X11_readsInt  h) (fun q1 hq1 => (PF.ite (fun _ => (PF.ret1 hq1)) (fun _ => (wo4_X11_readsText_32  _ _ _ _ _ (K54.i rfl (K54.l (by omega) hq1)))))))
theorem wo4_X11_readsLeaf {s : ST} {p0 : Int32} {p1 : Int32} {p2 : Int32} {σ : ST}   (h : K54 s σ) : PF st1 (K54 s) (f_X11_readsLeaf p0 p1 p2 σ) := by
  unfold f_X11_readsLeaf
  exact (PF.ite (fun _ => (PF.ite (fun _ => (PF.bnd (wo4_X11_readsFlag  (K54.l (by omega) h)) (fun q10 hq10 => (wo4_X11_readsLeaf_108  hq10)))) (fun _ => (PF.ite (fun _ => (PF.bnd (wo4_X11_readsInt  (K54.l (by omega) h)) (fun q8 hq8 => (wo4_X11_readsLeaf_108  hq8)))) (fun _ => (PF.ite (fun _ => (PF.bnd (wo4_X11_readsNumber  (K54.l (by omega) h)) (fun q6 hq6 => (wo4_X11_readsLeaf_108  hq6)))) (fun _ => (PF.ite (fun _ => (PF.bnd (wo4_X11_readsReal  (K54.l (by omega) h)) (fun q4 hq4 => (wo4_X11_readsLeaf_108  hq4)))) (fun _ => (PF.ite (fun _ => (PF.bnd (wo4_X11_readsText  (K54.l (by omega) h)) (fun q2 hq2 => (wo4_X11_readsLeaf_108  hq2)))) (fun _ => (wo4_X11_readsLeaf_108  (K54.l (by omega) h))))))))))))) (fun _ => PF.none))
theorem wo4_X11_reads_227 {s : ST} {r_X11_reads : Int32 → Int32 → Int32 → Int32 → Int32 → ST → Option (Int32 × ST)} {r_X11_readsItems : Int32 → Int32 → Int32 → Int32 → ST → Option (Int32 × ST)} {r_X11_readsRecord : Int32 → Int32 → Int32 → Int32 → ST → Option (Int32 × ST)} {x1 : Int32} {x3 : Int32} {x8 : Int32} {x9 : Int32} {σ : ST} (h_r_X11_reads : ∀ (x1 : Int32) (x2 : Int32) (x3 : Int32) (x4 : Int32) (x5 : Int32) (σ : ST), K54 s σ → PF st1 (K54 s) (r_X11_reads x1 x2 x3 x4 x5 σ)) (h_r_X11_readsItems : ∀ (x1 : Int32) (x2 : Int32) (x3 : Int32) (x4 : Int32) (σ : ST), K54 s σ → PF st1 (K54 s) (r_X11_readsItems x1 x2 x3 x4 σ)) (h_r_X11_readsRecord : ∀ (x1 : Int32) (x2 : Int32) (x3 : Int32) (x4 : Int32) (σ : ST), K54 s σ → PF st1 (K54 s) (r_X11_readsRecord x1 x2 x3 x4 σ))  (h : K54 s σ) : PF st1 (K54 s) (f_X11_reads_227 r_X11_reads r_X11_readsItems r_X11_readsRecord x1 x3 x8 x9 σ) := by
  unfold f_X11_reads_227
  exact (PF.ite (fun _ => (PF.ite (fun _ => (PF.bnd (h_r_X11_readsItems _ _ _ _ _ h) (fun q4 hq4 => (PF.ite (fun _ => (PF.ret1 hq4)) (fun _ => PF.none))))) (fun _ => (PF.ite (fun _ => (PF.bnd (h_r_X11_readsRecord _ _ _ _ _ h) (fun q6 hq6 => (PF.ite (fun _ => (PF.ret1 hq6)) (fun _ => PF.none))))) (fun _ => (PF.bnd (wo4_X11_readsLeaf  h) (fun q8 hq8 => (PF.ite (fun _ => (PF.ret1 hq8)) (fun _ => PF.none))))))))) (fun _ => PF.none))
theorem wo4_X11_joins_147 {s : ST} {x1 : Int32} {x2 : Int32} {σ : ST}   (h : K54 s σ) : PF st0 (K54 s) (f_X11_joins_147 x1 x2 σ) := by
  unfold f_X11_joins_147
  exact (PF.ite (fun _ => (PF.ite (fun _ => (PF.ret0 h)) (fun _ => (PF.ite (fun _ => (PF.ret0 (K54.i rfl h))) (fun _ => PF.none))))) (fun _ => PF.none))
theorem wo4_X11_joins_125 {s : ST} {x1 : Int32} {x2 : Int32} {x3 : Int32} {y0 : Int32} {y1 : Int32} {σ : ST}   (h : K54 s σ) : PF st0 (K54 s) (f_X11_joins_125 x1 x2 x3 y0 y1 σ) := by
  unfold f_X11_joins_125
  exact (PF.ite (fun _ => (PF.ite (fun _ => (PF.ite (fun _ => (wo4_X11_joins_147  (K54.i rfl (K54.i rfl h)))) (fun _ => PF.none))) (fun _ => (PF.ite (fun _ => (wo4_X11_joins_147  (K54.i rfl (K54.i rfl h)))) (fun _ => PF.none))))) (fun _ => PF.none))
theorem wo4_X11_joins_101 {s : ST} {x1 : Int32} {x2 : Int32} {x3 : Int32} {σ : ST}   (h : K54 s σ) : PF st0 (K54 s) (f_X11_joins_101 x1 x2 x3 σ) := by
  unfold f_X11_joins_101
  exact (PF.ite (fun _ => (PF.ite (fun _ => (wo4_X11_joins_125  h)) (fun _ => PF.none))) (fun _ => (PF.ite (fun _ => (wo4_X11_joins_125  h)) (fun _ => PF.none))))
theorem wo4_X11_joins_65 {s : ST}    : ∀ (n : Nat) (x1 : Int32) (x2 : Int32) (x3 : Int32) (x4 : Int32) (σ : ST), K54 s σ → PF st0 (K54 s) (f_X11_joins_65  n x1 x2 x3 x4 σ) := by
  intro n
  induction n with
  | zero => intro x1 x2 x3 x4 σ h; rw [f_X11_joins_65]; exact PF.none
  | succ n ih =>
    intro x1 x2 x3 x4 σ h
    rw [f_X11_joins_65]
    exact (PF.ite (fun _ => (wo4_X11_joins_101  h)) (fun _ => (PF.ite (fun _ => (PF.ite (fun _ => (PF.ite (fun _ => (wo4_X11_joins_101  h)) (fun _ => (ih _ _ _ _ _ h)))) (fun _ => PF.none))) (fun _ => PF.none))))
theorem wo4_X11_joins_51 {s : ST} {x1 : Int32} {x2 : Int32} {x3 : Int32} {y0 : Int32} {σ : ST}   (h : K54 s σ) : PF st0 (K54 s) (f_X11_joins_51 x1 x2 x3 y0 σ) := by
  unfold f_X11_joins_51
  exact (PF.ite (fun _ => (wo4_X11_joins_65  _ _ _ _ _ _ h)) (fun _ => (PF.ite (fun _ => (wo4_X11_joins_65  _ _ _ _ _ _ h)) (fun _ => PF.none))))
theorem wo4_X11_joins_45 {s : ST} {x1 : Int32} {x2 : Int32} {x3 : Int32} {σ : ST}   (h : K54 s σ) : PF st0 (K54 s) (f_X11_joins_45 x1 x2 x3 σ) := by
  unfold f_X11_joins_45
  exact (PF.ite (fun _ => (wo4_X11_joins_51  h)) (fun _ => PF.none))
theorem wo4_X11_joins {s : ST} {p0 : Int32} {p1 : Int32} {σ : ST}   (h : K54 s σ) : PF st0 (K54 s) (f_X11_joins p0 p1 σ) := by
  unfold f_X11_joins
  exact (PF.ite (fun _ => (PF.ite (fun _ => (wo4_X11_joins_45  (K54.i rfl h))) (fun _ => (PF.ite (fun _ => (PF.ite (fun _ => (PF.ite (fun _ => (wo4_X11_joins_45  (K54.i rfl h))) (fun _ => (wo4_X11_joins_51  (K54.i rfl h))))) (fun _ => PF.none))) (fun _ => PF.none))))) (fun _ => PF.none))
theorem wo4_X11_laysNode {s : ST} {p0 : Int32} {p1 : Int32} {p2 : Int32} {p3 : Int32} {σ : ST}   (h : K54 s σ) : PF st1 (K54 s) (f_X11_laysNode p0 p1 p2 p3 σ) := by
  unfold f_X11_laysNode
  exact (PF.ite (fun _ => (PF.bnd (PF.ret0 (K54.l (by omega) (K54.i rfl (K54.i rfl h)))) (fun z2 hz2 => (PF.bnd (PF.ret0 (K54.i rfl (K54.i rfl (K54.l (by omega) hz2)))) (fun z3 hz3 => (PF.bnd (PF.ret0 (K54.i rfl (K54.i rfl (K54.i rfl hz3)))) (fun z4 hz4 => (PF.bnd (PF.ret0 (K54.i rfl (K54.i rfl (K54.i rfl hz4)))) (fun z5 hz5 => (PF.ite (fun _ => (PF.ret1 hz5)) (fun _ => (PF.bnd (wo4_X11_joins  hz5) (fun q6 hq6 => (PF.ret1 hq6)))))))))))))) (fun _ => PF.none))
theorem wo4_X11_reads_180 {s : ST} {r_X11_reads : Int32 → Int32 → Int32 → Int32 → Int32 → ST → Option (Int32 × ST)} {r_X11_readsItems : Int32 → Int32 → Int32 → Int32 → ST → Option (Int32 × ST)} {r_X11_readsRecord : Int32 → Int32 → Int32 → Int32 → ST → Option (Int32 × ST)} {x1 : Int32} {x3 : Int32} {x4 : Int32} {x5 : Int32} {x7 : Int32} {y0 : Int32} {σ : ST} (h_r_X11_reads : ∀ (x1 : Int32) (x2 : Int32) (x3 : Int32) (x4 : Int32) (x5 : Int32) (σ : ST), K54 s σ → PF st1 (K54 s) (r_X11_reads x1 x2 x3 x4 x5 σ)) (h_r_X11_readsItems : ∀ (x1 : Int32) (x2 : Int32) (x3 : Int32) (x4 : Int32) (σ : ST), K54 s σ → PF st1 (K54 s) (r_X11_readsItems x1 x2 x3 x4 σ)) (h_r_X11_readsRecord : ∀ (x1 : Int32) (x2 : Int32) (x3 : Int32) (x4 : Int32) (σ : ST), K54 s σ → PF st1 (K54 s) (r_X11_readsRecord x1 x2 x3 x4 σ))  (h : K54 s σ) : PF st1 (K54 s) (f_X11_reads_180 r_X11_reads r_X11_readsItems r_X11_readsRecord x1 x3 x4 x5 x7 y0 σ) := by
  unfold f_X11_reads_180
  exact (PF.ite (fun _ => (wo4_X11_reads_227 h_r_X11_reads h_r_X11_readsItems h_r_X11_readsRecord h)) (fun _ => (PF.ite (fun _ => (PF.bnd (wo4_X11_fails  h) (fun q4 hq4 => (PF.ite (fun _ => (PF.ret1 hq4)) (fun _ => PF.none))))) (fun _ => (PF.ite (fun _ => (PF.bnd (wo4_X11_laysNode  h) (fun q2 hq2 => (wo4_X11_reads_227 h_r_X11_reads h_r_X11_readsItems h_r_X11_readsRecord hq2)))) (fun _ => PF.none))))))
theorem wo4_X11_reads_158 {s : ST} {r_X11_reads : Int32 → Int32 → Int32 → Int32 → Int32 → ST → Option (Int32 × ST)} {r_X11_readsItems : Int32 → Int32 → Int32 → Int32 → ST → Option (Int32 × ST)} {r_X11_readsRecord : Int32 → Int32 → Int32 → Int32 → ST → Option (Int32 × ST)} {x1 : Int32} {x2 : Int32} {x3 : Int32} {x4 : Int32} {x5 : Int32} {y0 : Int32} {σ : ST} (h_r_X11_reads : ∀ (x1 : Int32) (x2 : Int32) (x3 : Int32) (x4 : Int32) (x5 : Int32) (σ : ST), K54 s σ → PF st1 (K54 s) (r_X11_reads x1 x2 x3 x4 x5 σ)) (h_r_X11_readsItems : ∀ (x1 : Int32) (x2 : Int32) (x3 : Int32) (x4 : Int32) (σ : ST), K54 s σ → PF st1 (K54 s) (r_X11_readsItems x1 x2 x3 x4 σ)) (h_r_X11_readsRecord : ∀ (x1 : Int32) (x2 : Int32) (x3 : Int32) (x4 : Int32) (σ : ST), K54 s σ → PF st1 (K54 s) (r_X11_readsRecord x1 x2 x3 x4 σ))  (h : K54 s σ) : PF st1 (K54 s) (f_X11_reads_158 r_X11_reads r_X11_readsItems r_X11_readsRecord x1 x2 x3 x4 x5 y0 σ) := by
  unfold f_X11_reads_158
  exact (PF.ite (fun _ => (PF.ite (fun _ => (wo4_X11_reads_180 h_r_X11_reads h_r_X11_readsItems h_r_X11_readsRecord h)) (fun _ => PF.none))) (fun _ => (wo4_X11_reads_180 h_r_X11_reads h_r_X11_readsItems h_r_X11_readsRecord h)))
theorem wo4_X11_reads_157 {s : ST} {r_X11_reads : Int32 → Int32 → Int32 → Int32 → Int32 → ST → Option (Int32 × ST)} {r_X11_readsItems : Int32 → Int32 → Int32 → Int32 → ST → Option (Int32 × ST)} {r_X11_readsRecord : Int32 → Int32 → Int32 → Int32 → ST → Option (Int32 × ST)} {x1 : Int32} {x2 : Int32} {x3 : Int32} {x4 : Int32} {x5 : Int32} {σ : ST} (h_r_X11_reads : ∀ (x1 : Int32) (x2 : Int32) (x3 : Int32) (x4 : Int32) (x5 : Int32) (σ : ST), K54 s σ → PF st1 (K54 s) (r_X11_reads x1 x2 x3 x4 x5 σ)) (h_r_X11_readsItems : ∀ (x1 : Int32) (x2 : Int32) (x3 : Int32) (x4 : Int32) (σ : ST), K54 s σ → PF st1 (K54 s) (r_X11_readsItems x1 x2 x3 x4 σ)) (h_r_X11_readsRecord : ∀ (x1 : Int32) (x2 : Int32) (x3 : Int32) (x4 : Int32) (σ : ST), K54 s σ → PF st1 (K54 s) (r_X11_readsRecord x1 x2 x3 x4 σ))  (h : K54 s σ) : PF st1 (K54 s) (f_X11_reads_157 r_X11_reads r_X11_readsItems r_X11_readsRecord x1 x2 x3 x4 x5 σ) := by
  unfold f_X11_reads_157
  exact (wo4_X11_reads_158 h_r_X11_reads h_r_X11_readsItems h_r_X11_readsRecord h)
theorem wo4_T_X11_chosen {s : ST} {p0 : Int32} {p1 : Int32} {σ : ST} (h : K54 s σ) : PF st1 (K54 s) (f_T_X11_chosen p0 p1 σ) := (wo4R_X11_chosen FRB).1 _ _ _  h
theorem wo4_X11_reads {s : ST} {r_X11_reads : Int32 → Int32 → Int32 → Int32 → Int32 → ST → Option (Int32 × ST)} {r_X11_readsItems : Int32 → Int32 → Int32 → Int32 → ST → Option (Int32 × ST)} {r_X11_readsRecord : Int32 → Int32 → Int32 → Int32 → ST → Option (Int32 × ST)} {p0 : Int32} {p1 : Int32} {p2 : Int32} {p3 : Int32} {p4 : Int32} {σ : ST} (h_r_X11_reads : ∀ (x1 : Int32) (x2 : Int32) (x3 : Int32) (x4 : Int32) (x5 : Int32) (σ : ST), K54 s σ → PF st1 (K54 s) (r_X11_reads x1 x2 x3 x4 x5 σ)) (h_r_X11_readsItems : ∀ (x1 : Int32) (x2 : Int32) (x3 : Int32) (x4 : Int32) (σ : ST), K54 s σ → PF st1 (K54 s) (r_X11_readsItems x1 x2 x3 x4 σ)) (h_r_X11_readsRecord : ∀ (x1 : Int32) (x2 : Int32) (x3 : Int32) (x4 : Int32) (σ : ST), K54 s σ → PF st1 (K54 s) (r_X11_readsRecord x1 x2 x3 x4 σ))  (h : K54 s σ) : PF st1 (K54 s) (f_X11_reads r_X11_reads r_X11_readsItems r_X11_readsRecord p0 p1 p2 p3 p4 σ) := by
  unfold f_X11_reads
  exact (PF.ite (fun _ => (PF.ite (fun _ => (PF.ite (fun _ => (PF.bnd (wo4_X11_readsInt  h) (fun q5 hq5 => (PF.ite (fun _ => (PF.ret1 hq5)) (fun _ => (PF.ite (fun _ => (PF.ite (fun _ => (wo4_X11_reads_96 h_r_X11_reads h_r_X11_readsItems h_r_X11_readsRecord hq5)) (fun _ => (PF.bnd (wo4_T_X11_match hq5) (fun q8 hq8 => (PF.ite (fun _ => (PF.bnd (wo4_X11_fails  hq8) (fun q10 hq10 => (PF.ite (fun _ => (PF.ret1 hq10)) (fun _ => PF.none))))) (fun _ => (wo4_X11_reads_96 h_r_X11_reads h_r_X11_readsItems h_r_X11_readsRecord hq8)))))))) (fun _ => PF.none))))))) (fun _ => (PF.ite (fun _ => (wo4_X11_reads_157 h_r_X11_reads h_r_X11_readsItems h_r_X11_readsRecord h)) (fun _ => (PF.ite (fun _ => (PF.ite (fun _ => (PF.bnd (wo4_T_X11_chosen h) (fun q3 hq3 => (wo4_X11_reads_158 h_r_X11_reads h_r_X11_readsItems h_r_X11_readsRecord hq3)))) (fun _ => (wo4_X11_reads_157 h_r_X11_reads h_r_X11_readsItems h_r_X11_readsRecord h)))) (fun _ => PF.none))))))) (fun _ => PF.none))) (fun _ => (PF.bnd (wo4_X11_fails  h) (fun q12 hq12 => (PF.ite (fun _ => (PF.ret1 hq12)) (fun _ => PF.none))))))
theorem wo4_X11_readsItems_64 {s : ST} {r_X11_reads : Int32 → Int32 → Int32 → Int32 → Int32 → ST → Option (Int32 × ST)} {r_X11_readsItems : Int32 → Int32 → Int32 → Int32 → ST → Option (Int32 × ST)} {r_X11_readsRecord : Int32 → Int32 → Int32 → Int32 → ST → Option (Int32 × ST)} {k27 : Int32 → Int32 → Int32 → Int32 → Int32 → Int32 → ST → Option (Int32 × ST)} {x1 : Int32} {x2 : Int32} {x3 : Int32} {x4 : Int32} {x5 : Int32} {x6 : Int32} {y0 : Int32} {y1 : Int32} {σ : ST} (h_r_X11_reads : ∀ (x1 : Int32) (x2 : Int32) (x3 : Int32) (x4 : Int32) (x5 : Int32) (σ : ST), K54 s σ → PF st1 (K54 s) (r_X11_reads x1 x2 x3 x4 x5 σ)) (h_r_X11_readsItems : ∀ (x1 : Int32) (x2 : Int32) (x3 : Int32) (x4 : Int32) (σ : ST), K54 s σ → PF st1 (K54 s) (r_X11_readsItems x1 x2 x3 x4 σ)) (h_r_X11_readsRecord : ∀ (x1 : Int32) (x2 : Int32) (x3 : Int32) (x4 : Int32) (σ : ST), K54 s σ → PF st1 (K54 s) (r_X11_readsRecord x1 x2 x3 x4 σ)) (h_k27 : ∀ (x1 : Int32) (x2 : Int32) (x3 : Int32) (x4 : Int32) (x5 : Int32) (x6 : Int32) (σ : ST), K54 s σ → PF st1 (K54 s) (k27 x1 x2 x3 x4 x5 x6 σ))  (h : K54 s σ) : PF st1 (K54 s) (f_X11_readsItems_64 r_X11_reads r_X11_readsItems r_X11_readsRecord k27 x1 x2 x3 x4 x5 x6 y0 y1 σ) := by
  unfold f_X11_readsItems_64
  exact (PF.bnd (h_r_X11_reads _ _ _ _ _ _ h) (fun q1 hq1 => (PF.ite (fun _ => (PF.ret1 hq1)) (fun _ => (h_k27 _ _ _ _ _ _ _ (K54.i rfl hq1))))))
theorem wo4_X11_readsItems_27 {s : ST} {r_X11_reads : Int32 → Int32 → Int32 → Int32 → Int32 → ST → Option (Int32 × ST)} {r_X11_readsItems : Int32 → Int32 → Int32 → Int32 → ST → Option (Int32 × ST)} {r_X11_readsRecord : Int32 → Int32 → Int32 → Int32 → ST → Option (Int32 × ST)} (h_r_X11_reads : ∀ (x1 : Int32) (x2 : Int32) (x3 : Int32) (x4 : Int32) (x5 : Int32) (σ : ST), K54 s σ → PF st1 (K54 s) (r_X11_reads x1 x2 x3 x4 x5 σ)) (h_r_X11_readsItems : ∀ (x1 : Int32) (x2 : Int32) (x3 : Int32) (x4 : Int32) (σ : ST), K54 s σ → PF st1 (K54 s) (r_X11_readsItems x1 x2 x3 x4 σ)) (h_r_X11_readsRecord : ∀ (x1 : Int32) (x2 : Int32) (x3 : Int32) (x4 : Int32) (σ : ST), K54 s σ → PF st1 (K54 s) (r_X11_readsRecord x1 x2 x3 x4 σ))  : ∀ (n : Nat) (x1 : Int32) (x2 : Int32) (x3 : Int32) (x4 : Int32) (x5 : Int32) (x6 : Int32) (σ : ST), K54 s σ → PF st1 (K54 s) (f_X11_readsItems_27 r_X11_reads r_X11_readsItems r_X11_readsRecord n x1 x2 x3 x4 x5 x6 σ) := by
  intro n
  induction n with
  | zero => intro x1 x2 x3 x4 x5 x6 σ h; rw [f_X11_readsItems_27]; exact PF.none
  | succ n ih =>
    intro x1 x2 x3 x4 x5 x6 σ h
    rw [f_X11_readsItems_27]
    exact (PF.ite (fun _ => (PF.ret1 h)) (fun _ => (PF.bnd (wo4_X11_enters  h) (fun q1 hq1 => (PF.ite (fun _ => (PF.ite (fun _ => (PF.ite (fun _ => (wo4_X11_readsItems_64 h_r_X11_reads h_r_X11_readsItems h_r_X11_readsRecord ih hq1)) (fun _ => PF.none))) (fun _ => (wo4_X11_readsItems_64 h_r_X11_reads h_r_X11_readsItems h_r_X11_readsRecord ih hq1)))) (fun _ => PF.none))))))
theorem wo4_X11_readsItems {s : ST} {r_X11_reads : Int32 → Int32 → Int32 → Int32 → Int32 → ST → Option (Int32 × ST)} {r_X11_readsItems : Int32 → Int32 → Int32 → Int32 → ST → Option (Int32 × ST)} {r_X11_readsRecord : Int32 → Int32 → Int32 → Int32 → ST → Option (Int32 × ST)} {p0 : Int32} {p1 : Int32} {p2 : Int32} {p3 : Int32} {σ : ST} (h_r_X11_reads : ∀ (x1 : Int32) (x2 : Int32) (x3 : Int32) (x4 : Int32) (x5 : Int32) (σ : ST), K54 s σ → PF st1 (K54 s) (r_X11_reads x1 x2 x3 x4 x5 σ)) (h_r_X11_readsItems : ∀ (x1 : Int32) (x2 : Int32) (x3 : Int32) (x4 : Int32) (σ : ST), K54 s σ → PF st1 (K54 s) (r_X11_readsItems x1 x2 x3 x4 σ)) (h_r_X11_readsRecord : ∀ (x1 : Int32) (x2 : Int32) (x3 : Int32) (x4 : Int32) (σ : ST), K54 s σ → PF st1 (K54 s) (r_X11_readsRecord x1 x2 x3 x4 σ))  (h : K54 s σ) : PF st1 (K54 s) (f_X11_readsItems r_X11_reads r_X11_readsItems r_X11_readsRecord p0 p1 p2 p3 σ) := by
  unfold f_X11_readsItems
  exact (PF.bnd (wo4_X11_readsInt  h) (fun q1 hq1 => (PF.ite (fun _ => (PF.ret1 hq1)) (fun _ => (wo4_X11_readsItems_27 h_r_X11_reads h_r_X11_readsItems h_r_X11_readsRecord _ _ _ _ _ _ _ _ hq1)))))
theorem wo4_X11_readsRecord_286 {s : ST} {r_X11_reads : Int32 → Int32 → Int32 → Int32 → Int32 → ST → Option (Int32 × ST)} {r_X11_readsItems : Int32 → Int32 → Int32 → Int32 → ST → Option (Int32 × ST)} {r_X11_readsRecord : Int32 → Int32 → Int32 → Int32 → ST → Option (Int32 × ST)} {k217 : Int32 → Int32 → Int32 → Int32 → Int32 → ST → Option (Int32 × ST)} {x1 : Int32} {x2 : Int32} {x4 : Int32} {x6 : Int32} {x7 : Int32} {σ : ST} (h_r_X11_reads : ∀ (x1 : Int32) (x2 : Int32) (x3 : Int32) (x4 : Int32) (x5 : Int32) (σ : ST), K54 s σ → PF st1 (K54 s) (r_X11_reads x1 x2 x3 x4 x5 σ)) (h_r_X11_readsItems : ∀ (x1 : Int32) (x2 : Int32) (x3 : Int32) (x4 : Int32) (σ : ST), K54 s σ → PF st1 (K54 s) (r_X11_readsItems x1 x2 x3 x4 σ)) (h_r_X11_readsRecord : ∀ (x1 : Int32) (x2 : Int32) (x3 : Int32) (x4 : Int32) (σ : ST), K54 s σ → PF st1 (K54 s) (r_X11_readsRecord x1 x2 x3 x4 σ)) (h_k217 : ∀ (x1 : Int32) (x2 : Int32) (x3 : Int32) (x4 : Int32) (x5 : Int32) (σ : ST), K54 s σ → PF st1 (K54 s) (k217 x1 x2 x3 x4 x5 σ))  (h : K54 s σ) : PF st1 (K54 s) (f_X11_readsRecord_286 r_X11_reads r_X11_readsItems r_X11_readsRecord k217 x1 x2 x4 x6 x7 σ) := by
  unfold f_X11_readsRecord_286
  exact (h_k217 _ _ _ _ _ _ h)
theorem wo4_X11_firstOf {s : ST} {p0 : Int32} {σ : ST}   (h : K54 s σ) : PF st1 (K54 s) (f_X11_firstOf p0 σ) := by
  unfold f_X11_firstOf
  exact (PF.ite (fun _ => (PF.ite (fun _ => (PF.ite (fun _ => (PF.ret1 h)) (fun _ => PF.none))) (fun _ => (PF.ret1 h)))) (fun _ => PF.none))
theorem wo4_X11_fills_103 {s : ST} {x6 : Int32} {y0 : Int32} {y1 : Int32} {σ : ST}   (h : K54 s σ) : PF st0 (K54 s) (f_X11_fills_103 x6 y0 y1 σ) := by
  unfold f_X11_fills_103
  exact (PF.ite (fun _ => (PF.ite (fun _ => (PF.ret0 (K54.i rfl (K54.i rfl h)))) (fun _ => PF.none))) (fun _ => PF.none))
theorem wo4_X11_fills_45 {s : ST} {x1 : Int32} {x5 : Int32} {y0 : Int32} {y1 : Int32} {y2 : Int32} {y3 : Int32} {σ : ST}   (h : K54 s σ) : PF st0 (K54 s) (f_X11_fills_45 x1 x5 y0 y1 y2 y3 σ) := by
  unfold f_X11_fills_45
  exact (PF.bnd (wo4_X11_laysNode  h) (fun q1 hq1 => (PF.ite (fun _ => (PF.ite (fun _ => (PF.bnd (PF.ret0 (K54.l (by omega) (K54.l (by omega) hq1))) (fun z5 hz5 => (PF.ite (fun _ => (PF.ite (fun _ => (wo4_X11_fills_103  hz5)) (fun _ => (wo4_X11_fills_103  hz5)))) (fun _ => PF.none))))) (fun _ => PF.none))) (fun _ => PF.none))))
theorem wo4_X11_fills {s : ST} {p0 : Int32} {p1 : Int32} {p2 : Int32} {σ : ST}   (h : K54 s σ) : PF st0 (K54 s) (f_X11_fills p0 p1 p2 σ) := by
  unfold f_X11_fills
  exact (PF.ite (fun _ => (PF.bnd (wo4_X11_firstOf  h) (fun q2 hq2 => (PF.ite (fun _ => (PF.ite (fun _ => (wo4_X11_fills_45  hq2)) (fun _ => (wo4_X11_fills_45  hq2)))) (fun _ => PF.none))))) (fun _ => PF.none))
theorem wo4_X11_readsRecord_217 {s : ST} {r_X11_reads : Int32 → Int32 → Int32 → Int32 → Int32 → ST → Option (Int32 × ST)} {r_X11_readsItems : Int32 → Int32 → Int32 → Int32 → ST → Option (Int32 × ST)} {r_X11_readsRecord : Int32 → Int32 → Int32 → Int32 → ST → Option (Int32 × ST)} (h_r_X11_reads : ∀ (x1 : Int32) (x2 : Int32) (x3 : Int32) (x4 : Int32) (x5 : Int32) (σ : ST), K54 s σ → PF st1 (K54 s) (r_X11_reads x1 x2 x3 x4 x5 σ)) (h_r_X11_readsItems : ∀ (x1 : Int32) (x2 : Int32) (x3 : Int32) (x4 : Int32) (σ : ST), K54 s σ → PF st1 (K54 s) (r_X11_readsItems x1 x2 x3 x4 σ)) (h_r_X11_readsRecord : ∀ (x1 : Int32) (x2 : Int32) (x3 : Int32) (x4 : Int32) (σ : ST), K54 s σ → PF st1 (K54 s) (r_X11_readsRecord x1 x2 x3 x4 σ))  : ∀ (n : Nat) (x1 : Int32) (x2 : Int32) (x3 : Int32) (x4 : Int32) (x5 : Int32) (σ : ST), K54 s σ → PF st1 (K54 s) (f_X11_readsRecord_217 r_X11_reads r_X11_readsItems r_X11_readsRecord n x1 x2 x3 x4 x5 σ) := by
  intro n
  induction n with
  | zero => intro x1 x2 x3 x4 x5 σ h; rw [f_X11_readsRecord_217]; exact PF.none
  | succ n ih =>
    intro x1 x2 x3 x4 x5 σ h
    rw [f_X11_readsRecord_217]
    exact (PF.ite (fun _ => (PF.ret1 h)) (fun _ => (PF.ite (fun _ => (PF.ite (fun _ => (PF.ret1 h)) (fun _ => (PF.ite (fun _ => (PF.bnd (wo4_X11_fieldFor  h) (fun q3 hq3 => (PF.ite (fun _ => (wo4_X11_readsRecord_286 h_r_X11_reads h_r_X11_readsItems h_r_X11_readsRecord ih hq3)) (fun _ => (PF.ite (fun _ => (PF.bnd (wo4_X11_fails  hq3) (fun q7 hq7 => (PF.ite (fun _ => (PF.ret1 hq7)) (fun _ => PF.none))))) (fun _ => (PF.bnd (wo4_X11_fills  hq3) (fun q5 hq5 => (wo4_X11_readsRecord_286 h_r_X11_reads h_r_X11_readsItems h_r_X11_readsRecord ih hq5)))))))))) (fun _ => PF.none))))) (fun _ => PF.none))))
theorem wo4_X11_readsRecord_198 {s : ST} {r_X11_reads : Int32 → Int32 → Int32 → Int32 → Int32 → ST → Option (Int32 × ST)} {r_X11_readsItems : Int32 → Int32 → Int32 → Int32 → ST → Option (Int32 × ST)} {r_X11_readsRecord : Int32 → Int32 → Int32 → Int32 → ST → Option (Int32 × ST)} {k43 : Int32 → Int32 → Int32 → Int32 → Int32 → Int32 → Int32 → ST → Option (Int32 × ST)} {x1 : Int32} {x2 : Int32} {x3 : Int32} {x4 : Int32} {x5 : Int32} {x6 : Int32} {x7 : Int32} {σ : ST} (h_r_X11_reads : ∀ (x1 : Int32) (x2 : Int32) (x3 : Int32) (x4 : Int32) (x5 : Int32) (σ : ST), K54 s σ → PF st1 (K54 s) (r_X11_reads x1 x2 x3 x4 x5 σ)) (h_r_X11_readsItems : ∀ (x1 : Int32) (x2 : Int32) (x3 : Int32) (x4 : Int32) (σ : ST), K54 s σ → PF st1 (K54 s) (r_X11_readsItems x1 x2 x3 x4 σ)) (h_r_X11_readsRecord : ∀ (x1 : Int32) (x2 : Int32) (x3 : Int32) (x4 : Int32) (σ : ST), K54 s σ → PF st1 (K54 s) (r_X11_readsRecord x1 x2 x3 x4 σ)) (h_k43 : ∀ (x1 : Int32) (x2 : Int32) (x3 : Int32) (x4 : Int32) (x5 : Int32) (x6 : Int32) (x7 : Int32) (σ : ST), K54 s σ → PF st1 (K54 s) (k43 x1 x2 x3 x4 x5 x6 x7 σ))  (h : K54 s σ) : PF st1 (K54 s) (f_X11_readsRecord_198 r_X11_reads r_X11_readsItems r_X11_readsRecord k43 x1 x2 x3 x4 x5 x6 x7 σ) := by
  unfold f_X11_readsRecord_198
  exact (h_k43 _ _ _ _ _ _ _ _ (K54.i rfl h))
theorem wo4_X11_readsRecord_171 {s : ST} {r_X11_reads : Int32 → Int32 → Int32 → Int32 → Int32 → ST → Option (Int32 × ST)} {r_X11_readsItems : Int32 → Int32 → Int32 → Int32 → ST → Option (Int32 × ST)} {r_X11_readsRecord : Int32 → Int32 → Int32 → Int32 → ST → Option (Int32 × ST)} {k43 : Int32 → Int32 → Int32 → Int32 → Int32 → Int32 → Int32 → ST → Option (Int32 × ST)} {x1 : Int32} {x2 : Int32} {x3 : Int32} {x4 : Int32} {x5 : Int32} {x6 : Int32} {x7 : Int32} {x8 : Int32} {x10 : Int32} {σ : ST} (h_r_X11_reads : ∀ (x1 : Int32) (x2 : Int32) (x3 : Int32) (x4 : Int32) (x5 : Int32) (σ : ST), K54 s σ → PF st1 (K54 s) (r_X11_reads x1 x2 x3 x4 x5 σ)) (h_r_X11_readsItems : ∀ (x1 : Int32) (x2 : Int32) (x3 : Int32) (x4 : Int32) (σ : ST), K54 s σ → PF st1 (K54 s) (r_X11_readsItems x1 x2 x3 x4 σ)) (h_r_X11_readsRecord : ∀ (x1 : Int32) (x2 : Int32) (x3 : Int32) (x4 : Int32) (σ : ST), K54 s σ → PF st1 (K54 s) (r_X11_readsRecord x1 x2 x3 x4 σ)) (h_k43 : ∀ (x1 : Int32) (x2 : Int32) (x3 : Int32) (x4 : Int32) (x5 : Int32) (x6 : Int32) (x7 : Int32) (σ : ST), K54 s σ → PF st1 (K54 s) (k43 x1 x2 x3 x4 x5 x6 x7 σ))  (h : K54 s σ) : PF st1 (K54 s) (f_X11_readsRecord_171 r_X11_reads r_X11_readsItems r_X11_readsRecord k43 x1 x2 x3 x4 x5 x6 x7 x8 x10 σ) := by
  unfold f_X11_readsRecord_171
  exact (PF.ite (fun _ => (PF.ite (fun _ => (PF.bnd (h_r_X11_reads _ _ _ _ _ _ h) (fun q2 hq2 => (PF.ite (fun _ => (PF.ret1 hq2)) (fun _ => (wo4_X11_readsRecord_198 h_r_X11_reads h_r_X11_readsItems h_r_X11_readsRecord h_k43 hq2)))))) (fun _ => PF.none))) (fun _ => (wo4_X11_readsRecord_198 h_r_X11_reads h_r_X11_readsItems h_r_X11_readsRecord h_k43 h)))
theorem wo4_X11_readsRecord_165 {s : ST} {r_X11_reads : Int32 → Int32 → Int32 → Int32 → Int32 → ST → Option (Int32 × ST)} {r_X11_readsItems : Int32 → Int32 → Int32 → Int32 → ST → Option (Int32 × ST)} {r_X11_readsRecord : Int32 → Int32 → Int32 → Int32 → ST → Option (Int32 × ST)} {k43 : Int32 → Int32 → Int32 → Int32 → Int32 → Int32 → Int32 → ST → Option (Int32 × ST)} {k83 : Int32 → Int32 → Int32 → Int32 → Int32 → Int32 → Int32 → Int32 → Int32 → Int32 → Int32 → ST → Option (Int32 × ST)} {x1 : Int32} {x2 : Int32} {x3 : Int32} {x4 : Int32} {x5 : Int32} {x6 : Int32} {x7 : Int32} {x8 : Int32} {x9 : Int32} {x10 : Int32} {x11 : Int32} {σ : ST} (h_r_X11_reads : ∀ (x1 : Int32) (x2 : Int32) (x3 : Int32) (x4 : Int32) (x5 : Int32) (σ : ST), K54 s σ → PF st1 (K54 s) (r_X11_reads x1 x2 x3 x4 x5 σ)) (h_r_X11_readsItems : ∀ (x1 : Int32) (x2 : Int32) (x3 : Int32) (x4 : Int32) (σ : ST), K54 s σ → PF st1 (K54 s) (r_X11_readsItems x1 x2 x3 x4 σ)) (h_r_X11_readsRecord : ∀ (x1 : Int32) (x2 : Int32) (x3 : Int32) (x4 : Int32) (σ : ST), K54 s σ → PF st1 (K54 s) (r_X11_readsRecord x1 x2 x3 x4 σ)) (h_k43 : ∀ (x1 : Int32) (x2 : Int32) (x3 : Int32) (x4 : Int32) (x5 : Int32) (x6 : Int32) (x7 : Int32) (σ : ST), K54 s σ → PF st1 (K54 s) (k43 x1 x2 x3 x4 x5 x6 x7 σ)) (h_k83 : ∀ (x1 : Int32) (x2 : Int32) (x3 : Int32) (x4 : Int32) (x5 : Int32) (x6 : Int32) (x7 : Int32) (x8 : Int32) (x9 : Int32) (x10 : Int32) (x11 : Int32) (σ : ST), K54 s σ → PF st1 (K54 s) (k83 x1 x2 x3 x4 x5 x6 x7 x8 x9 x10 x11 σ))  (h : K54 s σ) : PF st1 (K54 s) (f_X11_readsRecord_165 r_X11_reads r_X11_readsItems r_X11_readsRecord k43 k83 x1 x2 x3 x4 x5 x6 x7 x8 x9 x10 x11 σ) := by
  unfold f_X11_readsRecord_165
  exact (h_k83 _ _ _ _ _ _ _ _ _ _ _ _ h)
theorem wo4_X11_readsRecord_83 {s : ST} {r_X11_reads : Int32 → Int32 → Int32 → Int32 → Int32 → ST → Option (Int32 × ST)} {r_X11_readsItems : Int32 → Int32 → Int32 → Int32 → ST → Option (Int32 × ST)} {r_X11_readsRecord : Int32 → Int32 → Int32 → Int32 → ST → Option (Int32 × ST)} {k43 : Int32 → Int32 → Int32 → Int32 → Int32 → Int32 → Int32 → ST → Option (Int32 × ST)} (h_r_X11_reads : ∀ (x1 : Int32) (x2 : Int32) (x3 : Int32) (x4 : Int32) (x5 : Int32) (σ : ST), K54 s σ → PF st1 (K54 s) (r_X11_reads x1 x2 x3 x4 x5 σ)) (h_r_X11_readsItems : ∀ (x1 : Int32) (x2 : Int32) (x3 : Int32) (x4 : Int32) (σ : ST), K54 s σ → PF st1 (K54 s) (r_X11_readsItems x1 x2 x3 x4 σ)) (h_r_X11_readsRecord : ∀ (x1 : Int32) (x2 : Int32) (x3 : Int32) (x4 : Int32) (σ : ST), K54 s σ → PF st1 (K54 s) (r_X11_readsRecord x1 x2 x3 x4 σ)) (h_k43 : ∀ (x1 : Int32) (x2 : Int32) (x3 : Int32) (x4 : Int32) (x5 : Int32) (x6 : Int32) (x7 : Int32) (σ : ST), K54 s σ → PF st1 (K54 s) (k43 x1 x2 x3 x4 x5 x6 x7 σ))  : ∀ (n : Nat) (x1 : Int32) (x2 : Int32) (x3 : Int32) (x4 : Int32) (x5 : Int32) (x6 : Int32) (x7 : Int32) (x8 : Int32) (x9 : Int32) (x10 : Int32) (x11 : Int32) (σ : ST), K54 s σ → PF st1 (K54 s) (f_X11_readsRecord_83 r_X11_reads r_X11_readsItems r_X11_readsRecord k43 n x1 x2 x3 x4 x5 x6 x7 x8 x9 x10 x11 σ) := by
  intro n
  induction n with
  | zero => intro x1 x2 x3 x4 x5 x6 x7 x8 x9 x10 x11 σ h; rw [f_X11_readsRecord_83]; exact PF.none
  | succ n ih =>
    intro x1 x2 x3 x4 x5 x6 x7 x8 x9 x10 x11 σ h
    rw [f_X11_readsRecord_83]
    exact (PF.ite (fun _ => (wo4_X11_readsRecord_171 h_r_X11_reads h_r_X11_readsItems h_r_X11_readsRecord h_k43 h)) (fun _ => (PF.ite (fun _ => (PF.ite (fun _ => (wo4_X11_readsRecord_171 h_r_X11_reads h_r_X11_readsItems h_r_X11_readsRecord h_k43 h)) (fun _ => (PF.ite (fun _ => (PF.bnd (wo4_X11_fieldFor  h) (fun q3 hq3 => (PF.ite (fun _ => (PF.ite (fun _ => (PF.ite (fun _ => (PF.bnd (h_r_X11_reads _ _ _ _ _ _ (K54.i rfl hq3)) (fun q7 hq7 => (PF.ite (fun _ => (PF.ret1 hq7)) (fun _ => (wo4_X11_readsRecord_165 h_r_X11_reads h_r_X11_readsItems h_r_X11_readsRecord h_k43 ih hq7)))))) (fun _ => PF.none))) (fun _ => PF.none))) (fun _ => (wo4_X11_readsRecord_165 h_r_X11_reads h_r_X11_readsItems h_r_X11_readsRecord h_k43 ih hq3)))))) (fun _ => PF.none))))) (fun _ => PF.none))))
theorem wo4_X11_readsRecord_43 {s : ST} {r_X11_reads : Int32 → Int32 → Int32 → Int32 → Int32 → ST → Option (Int32 × ST)} {r_X11_readsItems : Int32 → Int32 → Int32 → Int32 → ST → Option (Int32 × ST)} {r_X11_readsRecord : Int32 → Int32 → Int32 → Int32 → ST → Option (Int32 × ST)} (h_r_X11_reads : ∀ (x1 : Int32) (x2 : Int32) (x3 : Int32) (x4 : Int32) (x5 : Int32) (σ : ST), K54 s σ → PF st1 (K54 s) (r_X11_reads x1 x2 x3 x4 x5 σ)) (h_r_X11_readsItems : ∀ (x1 : Int32) (x2 : Int32) (x3 : Int32) (x4 : Int32) (σ : ST), K54 s σ → PF st1 (K54 s) (r_X11_readsItems x1 x2 x3 x4 σ)) (h_r_X11_readsRecord : ∀ (x1 : Int32) (x2 : Int32) (x3 : Int32) (x4 : Int32) (σ : ST), K54 s σ → PF st1 (K54 s) (r_X11_readsRecord x1 x2 x3 x4 σ))  : ∀ (n : Nat) (x1 : Int32) (x2 : Int32) (x3 : Int32) (x4 : Int32) (x5 : Int32) (x6 : Int32) (x7 : Int32) (σ : ST), K54 s σ → PF st1 (K54 s) (f_X11_readsRecord_43 r_X11_reads r_X11_readsItems r_X11_readsRecord n x1 x2 x3 x4 x5 x6 x7 σ) := by
  intro n
  induction n with
  | zero => intro x1 x2 x3 x4 x5 x6 x7 σ h; rw [f_X11_readsRecord_43]; exact PF.none
  | succ n ih =>
    intro x1 x2 x3 x4 x5 x6 x7 σ h
    rw [f_X11_readsRecord_43]
    exact (PF.ite (fun _ => (PF.ite (fun _ => (wo4_X11_readsRecord_217 h_r_X11_reads h_r_X11_readsItems h_r_X11_readsRecord _ _ _ _ _ _ _ h)) (fun _ => (PF.bnd (wo4_X11_enters  h) (fun q2 hq2 => (wo4_X11_readsRecord_83 h_r_X11_reads h_r_X11_readsItems h_r_X11_readsRecord ih _ _ _ _ _ _ _ _ _ _ _ _ _ hq2)))))) (fun _ => PF.none))
theorem wo4_X11_readsRecord_38 {s : ST} {r_X11_reads : Int32 → Int32 → Int32 → Int32 → Int32 → ST → Option (Int32 × ST)} {r_X11_readsItems : Int32 → Int32 → Int32 → Int32 → ST → Option (Int32 × ST)} {r_X11_readsRecord : Int32 → Int32 → Int32 → Int32 → ST → Option (Int32 × ST)} {x1 : Int32} {x2 : Int32} {x3 : Int32} {x4 : Int32} {x5 : Int32} {y0 : Int32} {σ : ST} (h_r_X11_reads : ∀ (x1 : Int32) (x2 : Int32) (x3 : Int32) (x4 : Int32) (x5 : Int32) (σ : ST), K54 s σ → PF st1 (K54 s) (r_X11_reads x1 x2 x3 x4 x5 σ)) (h_r_X11_readsItems : ∀ (x1 : Int32) (x2 : Int32) (x3 : Int32) (x4 : Int32) (σ : ST), K54 s σ → PF st1 (K54 s) (r_X11_readsItems x1 x2 x3 x4 σ)) (h_r_X11_readsRecord : ∀ (x1 : Int32) (x2 : Int32) (x3 : Int32) (x4 : Int32) (σ : ST), K54 s σ → PF st1 (K54 s) (r_X11_readsRecord x1 x2 x3 x4 σ))  (h : K54 s σ) : PF st1 (K54 s) (f_X11_readsRecord_38 r_X11_reads r_X11_readsItems r_X11_readsRecord x1 x2 x3 x4 x5 y0 σ) := by
  unfold f_X11_readsRecord_38
  exact (wo4_X11_readsRecord_43 h_r_X11_reads h_r_X11_readsItems h_r_X11_readsRecord _ _ _ _ _ _ _ _ _ h)
theorem wo4_X11_readsRecord {s : ST} {r_X11_reads : Int32 → Int32 → Int32 → Int32 → Int32 → ST → Option (Int32 × ST)} {r_X11_readsItems : Int32 → Int32 → Int32 → Int32 → ST → Option (Int32 × ST)} {r_X11_readsRecord : Int32 → Int32 → Int32 → Int32 → ST → Option (Int32 × ST)} {p0 : Int32} {p1 : Int32} {p2 : Int32} {p3 : Int32} {σ : ST} (h_r_X11_reads : ∀ (x1 : Int32) (x2 : Int32) (x3 : Int32) (x4 : Int32) (x5 : Int32) (σ : ST), K54 s σ → PF st1 (K54 s) (r_X11_reads x1 x2 x3 x4 x5 σ)) (h_r_X11_readsItems : ∀ (x1 : Int32) (x2 : Int32) (x3 : Int32) (x4 : Int32) (σ : ST), K54 s σ → PF st1 (K54 s) (r_X11_readsItems x1 x2 x3 x4 σ)) (h_r_X11_readsRecord : ∀ (x1 : Int32) (x2 : Int32) (x3 : Int32) (x4 : Int32) (σ : ST), K54 s σ → PF st1 (K54 s) (r_X11_readsRecord x1 x2 x3 x4 σ))  (h : K54 s σ) : PF st1 (K54 s) (f_X11_readsRecord r_X11_reads r_X11_readsItems r_X11_readsRecord p0 p1 p2 p3 σ) := by
  unfold f_X11_readsRecord
  exact (PF.ite (fun _ => (PF.ite (fun _ => (PF.ite (fun _ => (wo4_X11_readsRecord_38 h_r_X11_reads h_r_X11_readsItems h_r_X11_readsRecord h)) (fun _ => PF.none))) (fun _ => (wo4_X11_readsRecord_38 h_r_X11_reads h_r_X11_readsItems h_r_X11_readsRecord h)))) (fun _ => PF.none))
theorem wo4R_X11_reads {s : ST} : ∀ n : Nat, (∀ (p0 : Int32) (p1 : Int32) (p2 : Int32) (p3 : Int32) (p4 : Int32) (σ : ST), K54 s σ → PF st1 (K54 s) ((R_X11_reads n).1 p0 p1 p2 p3 p4 σ)) ∧ (∀ (p0 : Int32) (p1 : Int32) (p2 : Int32) (p3 : Int32) (σ : ST), K54 s σ → PF st1 (K54 s) ((R_X11_reads n).2.1 p0 p1 p2 p3 σ)) ∧ (∀ (p0 : Int32) (p1 : Int32) (p2 : Int32) (p3 : Int32) (σ : ST), K54 s σ → PF st1 (K54 s) ((R_X11_reads n).2.2 p0 p1 p2 p3 σ)) := by
  intro n
  induction n with
  | zero => exact ⟨fun _ _ _ _ _ _ _ => PF.none, fun _ _ _ _ _ _ => PF.none, fun _ _ _ _ _ _ => PF.none⟩
  | succ n ih => exact ⟨fun _ _ _ _ _ _ h => wo4_X11_reads (ih.1) (ih.2.1) (ih.2.2)  h, fun _ _ _ _ _ h => wo4_X11_readsItems (ih.1) (ih.2.1) (ih.2.2)  h, fun _ _ _ _ _ h => wo4_X11_readsRecord (ih.1) (ih.2.1) (ih.2.2)  h⟩
theorem wo4_T_X11_reads {s : ST} {p0 : Int32} {p1 : Int32} {p2 : Int32} {p3 : Int32} {p4 : Int32} {σ : ST} (h : K54 s σ) : PF st1 (K54 s) (f_T_X11_reads p0 p1 p2 p3 p4 σ) := (wo4R_X11_reads FRB).1 _ _ _ _ _ _  h
theorem wo4_X11_readsAll_106 {s : ST} {x4 : Int32} {σ : ST}   (h : K54 s σ) : PF st1 (K54 s) (f_X11_readsAll_106 x4 σ) := by
  unfold f_X11_readsAll_106
  exact (PF.ite (fun _ => (PF.ret1 h)) (fun _ => (PF.ret1 h)))
theorem wo4_X11_readsAll {s : ST} {p0 : Int32} {p1 : Int32} {σ : ST}   (h : K54 s σ) : PF st1 (K54 s) (f_X11_readsAll p0 p1 σ) := by
  unfold f_X11_readsAll
  exact (PF.ite (fun _ => (PF.bnd (wo4_X11_laysPairs  h) (fun q2 hq2 => (PF.ite (fun _ => (PF.ret1 (K54.i rfl hq2))) (fun _ => (PF.bnd (PF.ret0 (K54.i rfl (K54.i rfl (K54.i rfl (K54.i rfl hq2))))) (fun z4 hz4 => (PF.bnd (wo4_X11_rootType (K54.i rfl (K54.i rfl hz4))) (fun q5 hq5 => (PF.bnd (wo4_T_X11_reads hq5) (fun q7 hq7 => (PF.ite (fun _ => (wo4_X11_readsAll_106  hq7)) (fun _ => (PF.ite (fun _ => (wo4_X11_readsAll_106  hq7)) (fun _ => (PF.bnd (wo4_X11_fails  hq7) (fun q9 hq9 => (wo4_X11_readsAll_106  hq9)))))))))))))))))) (fun _ => PF.none))
theorem wo4_X11_orders_136 {s : ST} {r_X11_orders : Int32 → ST → Option (ST)} (h_r_X11_orders : ∀ (x1 : Int32) (σ : ST), K54 s σ → PF st0 (K54 s) (r_X11_orders x1 σ))  : ∀ (n : Nat) (x1 : Int32) (σ : ST), K54 s σ → PF st0 (K54 s) (f_X11_orders_136 r_X11_orders n x1 σ) := by
  intro n
  induction n with
  | zero => intro x1 σ h; rw [f_X11_orders_136]; exact PF.none
  | succ n ih =>
    intro x1 σ h
    rw [f_X11_orders_136]
    exact (PF.ite (fun _ => (PF.ret0 h)) (fun _ => (PF.bnd (h_r_X11_orders _ _ h) (fun q1 hq1 => (PF.ite (fun _ => (ih _ _ hq1)) (fun _ => PF.none))))))
theorem wo4_X11_orders_70 {s : ST} {r_X11_orders : Int32 → ST → Option (ST)} {x1 : Int32} {x2 : Int32} {y0 : Int32} {y1 : Int32} {σ : ST} (h_r_X11_orders : ∀ (x1 : Int32) (σ : ST), K54 s σ → PF st0 (K54 s) (r_X11_orders x1 σ))  (h : K54 s σ) : PF st0 (K54 s) (f_X11_orders_70 r_X11_orders x1 x2 y0 y1 σ) := by
  unfold f_X11_orders_70
  exact (PF.ite (fun _ => (PF.ite (fun _ => (PF.ite (fun _ => (PF.bnd (PF.ret0 (K54.i rfl (K54.i rfl h))) (fun z4 hz4 => (PF.ite (fun _ => (PF.ite (fun _ => (PF.bnd (PF.ret0 (K54.l (by omega) (K54.i rfl hz4))) (fun z7 hz7 => (PF.ite (fun _ => (PF.val (wo4_X11_orders_136 h_r_X11_orders _ _ _ (K54.l (by omega) hz7)))) (fun _ => PF.none))))) (fun _ => PF.none))) (fun _ => PF.none))))) (fun _ => PF.none))) (fun _ => PF.none))) (fun _ => PF.none))
theorem wo4_X11_orders {s : ST} {r_X11_orders : Int32 → ST → Option (ST)} {p0 : Int32} {σ : ST} (h_r_X11_orders : ∀ (x1 : Int32) (σ : ST), K54 s σ → PF st0 (K54 s) (r_X11_orders x1 σ))  (h : K54 s σ) : PF st0 (K54 s) (f_X11_orders r_X11_orders p0 σ) := by
  unfold f_X11_orders
  exact (PF.ite (fun _ => (PF.bnd (PF.ret0 (K54.i rfl (K54.i rfl h))) (fun z2 hz2 => (PF.ite (fun _ => (PF.ite (fun _ => (PF.bnd (PF.ret0 (K54.i rfl hz2)) (fun z5 hz5 => (PF.ite (fun _ => (PF.ite (fun _ => (wo4_X11_orders_70 h_r_X11_orders hz5)) (fun _ => PF.none))) (fun _ => (wo4_X11_orders_70 h_r_X11_orders hz5)))))) (fun _ => PF.none))) (fun _ => PF.none))))) (fun _ => PF.none))
theorem wo4R_X11_orders {s : ST} : ∀ n : Nat, (∀ (p0 : Int32) (σ : ST), K54 s σ → PF st0 (K54 s) ((R_X11_orders n) p0 σ)) := by
  intro n
  induction n with
  | zero => exact fun _ _ _ => PF.none
  | succ n ih => exact fun _ _ h => wo4_X11_orders ih  h
theorem wo4_T_X11_orders {s : ST} {p0 : Int32} {σ : ST} (h : K54 s σ) : PF st0 (K54 s) (f_T_X11_orders p0 σ) := (wo4R_X11_orders FRB) _ _  h
theorem q_172z {x5 : Int32} {τ : ST} (n : Nat) (x7 : Int32) : QT (f_X11_alike_172 n x5 0 x7 τ) (fun q => q.1 = 0) := by
  cases n with
  | zero =>
    rw [f_X11_alike_172]
    exact QT.none
  | succ n =>
    rw [f_X11_alike_172]
    unfold f_X11_alike_238
    refine QT.ile (fun _ => QT.ite (fun _ => QT.ret rfl) (fun h => absurd rfl h)) (fun _ => QT.ite (fun _ => QT.ite (fun _ => QT.ret rfl) (fun h => absurd rfl h)) (fun h => absurd rfl h))
theorem q_alike98 {m : Nat} (x2 x3 x5 : Int32) (h5 : x5.toInt = m) (hm : m ≤ 400) (σ : ST) {P : Int32 × ST → Prop} (k : ∀ w : ST, w.1 = σ.1 → (∀ c, c ≠ 54 → w.2.1 c = σ.2.1 c) → (∀ j, j < 2 * m → w.2.1 54 j = σ.2.1 52 j) → QT ((f_X11_readsAll x2 x3 w).bind fun q1 => if 0 ≤ q1.1 then ((f_T_X11_orders 0 (stI q1.2 0 88 0)).bind fun q3 => if (q3.1 0 88) = x5 then (f_X11_alike_167 x5 1 q3) else (f_X11_alike_167 x5 0 q3)) else (some (q1.1, q1.2))) P) : ∀ (n j : Nat) (x6 : Int32) (w : ST), x6.toInt = j → j ≤ 2 * m → w.1 = σ.1 → (∀ c, c ≠ 54 → w.2.1 c = σ.2.1 c) → (∀ i, i < j → w.2.1 54 i = σ.2.1 52 i) → QT (f_X11_alike_98 n x2 x3 x5 x6 w) P := by
  have l1 := li_1
  have l2 := li_2
  intro n
  induction n with
  | zero =>
    intro j x6 w _ _ _ _ _
    rw [f_X11_alike_98]
    exact QT.none
  | succ n ih =>
    intro j x6 w h6 hj hI hL hc
    rw [f_X11_alike_98]
    have em := mlE (k := 2) (y := x5) 2 l2 (by omega) (by omega)
    refine QT.ile (fun hle => k w hI hL (fun i hi => hc i (by omega))) (fun hlt => QT.grd (fun _ => ?_))
    have n6 : x6.toNatClampNeg = j := nC h6
    have ea := il_addE (x := x6) (y := 1) (by omega) (by omega)
    rw [n6]
    refine ih (j + 1) (x6 + 1) _ (by omega) (by omega) hI (fun c h => (stL_ne h).trans (hL c h)) (fun i hi => ?_)
    rw [stL_cell]
    by_cases e : i = j
    · rw [updLA e, e, hL 52 (by omega)]
    · rw [updLN e]
      exact hc i (by omega)
theorem q_alike66 {m : Nat} (x2 x3 x5 : Int32) (h5 : x5.toInt = m) (hm : m ≤ 400) (σ : ST) {P : Int32 × ST → Prop} (k : ∀ w : ST, (∀ c, c ≠ 53 → w.1 c = σ.1 c) → w.2 = σ.2 → (∀ j, j < 4 * m → w.1 53 j = σ.1 51 j) → QT (f_X11_alike_98 FU x2 x3 x5 0 w) P) : ∀ (n j : Nat) (x6 : Int32) (w : ST), x6.toInt = j → j ≤ 4 * m → (∀ c, c ≠ 53 → w.1 c = σ.1 c) → w.2 = σ.2 → (∀ i, i < j → w.1 53 i = σ.1 51 i) → QT (f_X11_alike_66 n x2 x3 x5 x6 w) P := by
  have l1 := li_1
  have l4 := li_4
  intro n
  induction n with
  | zero =>
    intro j x6 w _ _ _ _ _
    rw [f_X11_alike_66]
    exact QT.none
  | succ n ih =>
    intro j x6 w h6 hj hI hL hc
    rw [f_X11_alike_66]
    have em := mlE (k := 4) (y := x5) 4 l4 (by omega) (by omega)
    refine QT.ile (fun hle => k w hI hL (fun i hi => hc i (by omega))) (fun hlt => QT.grd (fun _ => ?_))
    have n6 : x6.toNatClampNeg = j := nC h6
    have ea := il_addE (x := x6) (y := 1) (by omega) (by omega)
    rw [n6]
    refine ih (j + 1) (x6 + 1) _ (by omega) (by omega) (fun c h => (stI_ne h).trans (hI c h)) hL (fun i hi => ?_)
    rw [stI_at]
    by_cases e : i = j
    · rw [upA e, e, hI 51 (by omega)]
    · rw [upN e]
      exact hc i (by omega)
/-- a tree read into b/t, put in order by both -/
def ORD2 (t e : Nat) (LL : Nat → Nat × Nat × Int) (s c z w : ST) : Prop := (0 < e ∧ e ≤ 400) ∧ PRZ t s z LL 32 0 e (-1) 0 0 ∧ LL 0 = (0, 0, -1) ∧ (z.1 25 0).toInt = 0 ∧ (KPO t s c ∧ (s.1 t 1).toInt = e ∧ ∀ i, i < e → (LL i).1 < e ∧ (c.1 (t + 10) i).toInt = (LL i).1) ∧ OEL z LL 0 e z w
theorem ord2_mk {b t q : Nat} {qa qb : Int32 × ST} (h : RDT b t q qa qb) (hcap : 400 ≤ (qa.2.1 t 0).toInt) : QT (f_T_X11_orders 0 (stI qb.2 0 88 0)) (fun w => ∃ (LL : Nat → Nat × Nat × Int) (s : ST) (e : Nat), ORD2 t e LL s qa.2 (stI qb.2 0 88 0) w ∧ qa.1.toInt = e) := by
  have l0 := li_0
  obtain ⟨_, S, T, s, e, _, ⟨_, kA, _⟩, ⟨po, ko⟩, hV, ⟨⟨he, he4⟩, c1, _, c2⟩, g1, g2, g3, g4, _⟩ := h
  have zc : ∀ c, c ≠ 0 → (stI qb.2 0 88 0).1 c = qb.2.1 c := fun c hc => stI_ne hc
  have z88 : ((stI qb.2 0 88 0).1 0 88).toInt = 0 := by rw [stI_at, upA rfl]; exact l0
  have zL : (stI qb.2 0 88 0).2 = qb.2.2 := rfl
  generalize stI qb.2 0 88 0 = z at zc z88 zL
  have hV2 : VAL True t q S T s z 32 (S.1 6 q) 799 (0, e) (0, e) := by
    refine hV.ext 32 _ _ _ _ (fun j _ _ => ⟨⟨fun k k1 k5 => rfl, rfl⟩, rfl, rfl, fun _ => rfl⟩) (fun j _ _ => ⟨⟨⟨?_, ?_⟩, fun k k1 k5 => ?_, ?_, ?_⟩, ?_, ?_, fun _ => ?_⟩)
    · rw [zc 20 (by omega)]
    · rw [zc 23 (by omega)]
    · rw [zc k (by omega)]
    · rw [zL]
    · rw [zL]
    · rw [zc 28 (by omega)]
    · rw [zc 29 (by omega)]
    · rw [zc 30 (by omega)]
  obtain ⟨LL, p1, p2, p3⟩ := val_pre 32 _ _ _ _ hV2 0 (-1)
  have ez : 0 + ((0, e).2 - (0, e).1) = e := by
    show 0 + (e - 0) = e
    omega
  rw [ez] at p1 p2 p3
  have p1 : PRZ t s z LL 32 0 e (-1) 0 0 := p1
  have L0 : LL 0 = (0, 0, -1) := p1.1
  have hcap : (e : Int) ≤ (s.1 t 0).toInt := by
    rw [← ko.1 t (by omega) (by omega)]
    omega
  have hr : ∀ i, 0 ≤ i → i < e → ((LL i).1 : Int) < (s.1 t 1).toInt ∧ ((LL i).1 : Int) < (s.1 t 0).toInt := fun i h6 h7 => by
    have : (LL i).1 < e := (p2 i h6 h7).1.2
    omega
  obtain ⟨w, hw⟩ : ∃ w : Int, UPR t s 0 0 w := by
    by_cases hn : (s.1 (t + 9) 0).toInt = -1
    · exact ⟨-1, ⟨by omega, by omega⟩, .inr ⟨hn, g1, rfl⟩⟩
    · exact ⟨_, ⟨by omega, by omega⟩, .inl ⟨hn, rfl⟩⟩
  obtain ⟨r1, r2⟩ := pre_rb 32 0 e (-1) 0 0 p1 hr 0 w hw (by omega)
  have ho := a_order (b := t) (LL := LL) ⟨he, by omega⟩ ⟨c1, hcap⟩ (by rw [L0]) (fun i hi => (p2 i (by omega) hi).1.2) (fun i hi => r1 i (by omega) hi) r2 (fun i j h6 h7 => (p3 i j (by omega) h6 h7).1) qa.2 po
  have z24 : (z.1 24 0).toInt = -1 := by rw [zc 24 (by omega)]; exact g3
  refine QT.mono (q_orders 32 0 e (-1) 0 0 p1 he4 (fun i j h6 h7 h8 => (p3 i j h6 h7 h8).2) FRB 0 z l0 KTO.rf z88 (.inl ⟨z24, rfl⟩)) (fun w hw => ?_)
  exact ⟨LL, s, e, ⟨⟨he, he4⟩, p1, L0, by rw [zc 25 (by omega)]; exact g4, ⟨ko, c1, fun i hi => ⟨(p2 i (by omega) hi).1.2, (ho i hi).1⟩⟩, hw⟩, c2⟩
/-- alike on the one side, alike on the other -/
theorem like_iff {e : Nat} {L1 L2 : Nat → Nat × Nat × Int} {s1 c1 z1 w1 s2 c2 z2 w2 fA fB : ST} (h1 : ORD2 62 e L1 s1 c1 z1 w1) (h2 : ORD2 74 e L2 s2 c2 z2 w2) (hA : (∀ c, 62 ≤ c → c ≤ 73 → fA.1 c = c1.1 c) ∧ fA.2.1 68 = c1.2.1 68) (hA2 : (∀ c, 74 ≤ c → c ≤ 85 → fA.1 c = c2.1 c) ∧ fA.2.1 80 = c2.2.1 80) (hB : (∀ k, k < 4 * e → fB.1 53 k = w1.1 51 k) ∧ (∀ k, k < 2 * e → fB.2.1 54 k = w1.2.1 52 k) ∧ fB.1 51 = w2.1 51 ∧ fB.2.1 52 = w2.2.1 52) : (∀ j, j < e → RLK 62 74 fA (L1 j).1 (L2 j).1) ↔ ∀ k, k < 4 * e → fB.1 53 k = fB.1 51 k ∧ fB.2.1 54 (k / 2) = fB.2.1 52 (k / 2) := by
  have lm := li_m1
  obtain ⟨⟨he, he4⟩, p1, L10, r1, ⟨k1, _, _⟩, _, _, _, o1, _⟩ := h1
  obtain ⟨_, p2, L20, r2, ⟨k2, _, _⟩, _, _, _, o2, _⟩ := h2
  obtain ⟨b1, b2, b3, b4⟩ := hB
  have n1 := fun j (hj : j < e) => (PRZ.par 32 0 e (-1) 0 0 p1 j (by omega) hj)
  have n2 := fun j (hj : j < e) => (PRZ.par 32 0 e (-1) 0 0 p2 j (by omega) hj)
  have a63 : fA.1 (62 + 1) = s1.1 (62 + 1) := (hA.1 63 (by omega) (by omega)).trans (k1.1 63 (by omega) (by omega))
  have a66 : fA.1 (62 + 4) = s1.1 (62 + 4) := (hA.1 66 (by omega) (by omega)).trans (k1.1 66 (by omega) (by omega))
  have a68 : fA.2.1 (62 + 6) = s1.2.1 (62 + 6) := hA.2.trans (by rw [k1.2])
  have a75 : fA.1 (74 + 1) = s2.1 (74 + 1) := (hA2.1 75 (by omega) (by omega)).trans (k2.1 75 (by omega) (by omega))
  have a78 : fA.1 (74 + 4) = s2.1 (74 + 4) := (hA2.1 78 (by omega) (by omega)).trans (k2.1 78 (by omega) (by omega))
  have a80 : fA.2.1 (74 + 6) = s2.2.1 (74 + 6) := hA2.2.trans (by rw [k2.2])
  constructor
  · intro hR
    have hd : ∀ j, j < e → z1.1 20 (L1 j).2.1 = z2.1 20 (L2 j).2.1 ∧ (z1.1 23 (L1 j).2.1).toInt = (z2.1 23 (L2 j).2.1).toInt ∧ (z1.2.1 21 (L1 j).2.1 = z2.2.1 21 (L2 j).2.1 ∧ z1.2.1 22 (L1 j).2.1 = z2.2.1 22 (L2 j).2.1) := fun j hj => by
      obtain ⟨q1, q2, q3⟩ := hR j hj
      have m1 := (n1 j hj).1
      have m2 := (n2 j hj).1
      rw [a63, a75] at q1
      rw [a66, a78] at q2
      rw [a68, a80] at q3
      have d1 : z1.1 20 (L1 j).2.1 = z2.1 20 (L2 j).2.1 := by rw [← m1.1.1, ← m2.1.1]; exact q1
      have d2 : (z1.1 23 (L1 j).2.1).toInt = (z2.1 23 (L2 j).2.1).toInt := by rw [← m1.2.1, ← m2.2.1, q2]
      exact ⟨d1, d2, (ndt_iff m1 m2 d1 d2).mp q3⟩
    have hs := pre_shape (E := e) 32 32 0 e e (-1) 0 0 0 0 p1 p2 (Nat.le_refl _) (Nat.le_refl _) (fun i _ hi => ⟨(hd i hi).1, (hd i hi).2.1⟩)
    have hp : ∀ j, j < e → (L1 j).2.2 = (L2 j).2.2 ∧ (z1.1 25 (L1 j).2.1).toInt = (z2.1 25 (L2 j).2.1).toInt := fun j hj => by
      by_cases h0 : j = 0
      · rw [h0, L10, L20]
        exact ⟨rfl, r1.trans r2.symm⟩
      · exact hs.2 j (by omega) hj
    intro k hk
    obtain ⟨i, d, ek, hd4⟩ : ∃ i d : Nat, k = 4 * i + d ∧ d < 4 := ⟨k / 4, k % 4, by omega, by omega⟩
    have hi : i < e := by omega
    obtain ⟨⟨u1, u2, u3, u4⟩, u5, u6⟩ := o1 i (by omega) hi
    obtain ⟨⟨v1, v2, v3, v4⟩, v5, v6⟩ := o2 i (by omega) hi
    obtain ⟨x1, x2, x3, x4⟩ := hd i hi
    obtain ⟨y1, y2⟩ := hp i hi
    rw [b1 k hk, b3, b2 (k / 2) (by omega), b4]
    have hd : d = 0 ∨ d = 1 ∨ d = 2 ∨ d = 3 := by omega
    rcases hd with hd | hd | hd | hd
    · rw [show k = 4 * i by omega, show 4 * i / 2 = 2 * i by omega, u1, v1, u5, v5]
      exact ⟨x1, x3⟩
    · rw [show k = 4 * i + 1 by omega, show (4 * i + 1) / 2 = 2 * i by omega, u5, v5]
      exact ⟨Int32.toInt_inj.mp (u2.trans (y1.trans v2.symm)), x3⟩
    · rw [show k = 4 * i + 2 by omega, show (4 * i + 2) / 2 = 2 * i + 1 by omega, u3, v3, u6, v6]
      exact ⟨Int32.toInt_inj.mp y2, x4⟩
    · rw [show k = 4 * i + 3 by omega, show (4 * i + 3) / 2 = 2 * i + 1 by omega, u4, v4, u6, v6]
      exact ⟨Int32.toInt_inj.mp x2, x4⟩
  · intro hK j hj
    have m1 := (n1 j hj).1
    have m2 := (n2 j hj).1
    obtain ⟨⟨u1, u2, u3, u4⟩, u5, u6⟩ := o1 j (by omega) hj
    obtain ⟨⟨v1, v2, v3, v4⟩, v5, v6⟩ := o2 j (by omega) hj
    have q0 := hK (4 * j) (by omega)
    have q2 := hK (4 * j + 2) (by omega)
    have q3 := hK (4 * j + 3) (by omega)
    rw [b1 _ (by omega), b3, b2 _ (by omega), b4] at q0 q2 q3
    rw [show 4 * j / 2 = 2 * j by omega, u1, v1, u5, v5] at q0
    rw [show (4 * j + 2) / 2 = 2 * j + 1 by omega, u6, v6] at q2
    rw [u4, v4] at q3
    unfold RLK
    rw [a63, a66, a68, a75, a78, a80]
    refine ⟨by rw [m1.1.1, m2.1.1]; exact q0.1, Int32.toInt_inj.mp (by rw [m1.2.1, m2.2.1, q3.1]), (ndt_iff m1 m2 q0.1 (by rw [q3.1])).mpr ⟨q0.2, q2.2⟩⟩
