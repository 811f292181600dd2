/-! what a call leaves of the tables of the plans: the rules -/
theorem bnd_some {α β : Type} {o : Option α} {f : α → Option β} {z : β} (h : o.bind f = some z) : ∃ x, o = some x ∧ f x = some z := by
  cases o with
  | none => cases h
  | some x => exact ⟨x, rfl, h⟩
def PF {β : Type} (st : β → ST) (K : ST → Prop) (o : Option β) : Prop := ∀ q, o = some q → K (st q)
abbrev st0 : ST → ST := fun q => q
abbrev st1 {α : Type} : α × ST → ST := fun q => q.2
abbrev st2 {α : Type} : (α × ST) × Nat → ST := fun q => q.1.2
theorem PF.none {β : Type} {st : β → ST} {K : ST → Prop} : PF st K (none : Option β) := fun _ h => by cases h
theorem PF.ite {β : Type} {st : β → ST} {K : ST → Prop} {c : Prop} {i : Decidable c} {x y : Option β} (h1 : c → PF st K x) (h2 : ¬ c → PF st K y) : PF st K (@_root_.ite (Option β) c i x y) := by
  by_cases h : c
  · rw [if_pos h]; exact h1 h
  · rw [if_neg h]; exact h2 h
theorem PF.bnd {β γ : Type} {st : β → ST} {st' : γ → ST} {K : ST → Prop} {o : Option β} {f : β → Option γ} (h : PF st K o) (k : ∀ q, K (st q) → PF st' K (f q)) : PF st' K (o.bind f) := by
  cases o with
  | none => exact PF.none
  | some x => exact k x (h x rfl)
theorem PF.val {α β : Type} {st : β → ST} {K : ST → Prop} {e : α} {f : α → Option β} (h : PF st K (f e)) : PF st K ((some e).bind f) := h
theorem PF.ret0 {K : ST → Prop} {σ : ST} (h : K σ) : PF st0 K (some σ) := fun q e => by cases e; exact h
theorem PF.ret1 {α : Type} {K : ST → Prop} {σ : ST} {v : α} (h : K σ) : PF st1 K (some (v, σ)) := fun q e => by cases e; exact h
theorem PF.ret2 {α : Type} {K : ST → Prop} {σ : ST} {v : α} {x : Nat} (h : K σ) : PF st2 K (some ((v, σ), x)) := fun q e => by cases e; exact h
theorem PF.ac {α : Type} {K : ST → Prop} {k : Nat} {o : Option ((α × ST) × Nat)} (h : PF st2 K o) : PF st2 K (ac k o) := by
  intro q e
  cases o with
  | none => cases e
  | some x =>
    have e2 : (x.1, k + x.2) = q := Option.some.inj e
    rw [← e2]
    exact h x rfl
def KTB (s σ : ST) : Prop := (∀ c, c ∈ [4, 5, 8, 10, 11, 13, 15, 16, 19] → σ.1 c = s.1 c) ∧ (∀ i, i < 400 → σ.1 2 i = s.1 2 i ∧ σ.1 3 i = s.1 3 i) ∧ (∀ c, c ∈ [9, 12, 14, 17, 18] → σ.2.1 c = s.2.1 c)
theorem KTB.rf {s : ST} : KTB s s := ⟨fun _ _ => rfl, fun _ _ => ⟨rfl, rfl⟩, fun _ _ => rfl⟩
theorem KTB.i {s σ : ST} {c i : Nat} {v : Int32} (hc : c ∉ [2, 3, 4, 5, 8, 10, 11, 13, 15, 16, 19]) (h : KTB s σ) : KTB s (stI σ c i v) := by
  simp only [List.mem_cons, List.not_mem_nil, or_false, not_or] at hc
  refine ⟨fun d hd => ?_, fun j hj => ?_, h.2.2⟩
  · rw [stI_ne (fun e => by
      simp only [List.mem_cons, List.not_mem_nil, or_false] at hd
      omega)]
    exact h.1 d hd
  · rw [stI_ne (fun e => hc.1 e.symm), stI_ne (fun e => hc.2.1 e.symm)]
    exact h.2.1 j hj
theorem KTB.l {s σ : ST} {c i : Nat} {v : Int64} (hc : c ∉ [9, 12, 14, 17, 18]) (h : KTB s σ) : KTB s (stL σ c i v) := by
  simp only [List.mem_cons, List.not_mem_nil, or_false, not_or] at hc
  refine ⟨h.1, h.2.1, fun d hd => ?_⟩
  rw [stL_ne (fun e => by
    simp only [List.mem_cons, List.not_mem_nil, or_false] at hd
    omega)]
  exact h.2.2 d hd
theorem KTB.d {s σ : ST} {c i : Nat} {v : UInt64} (h : KTB s σ) : KTB s (stD σ c i v) := h
theorem KTB.t {s σ : ST} {v w : Int32} (h : KTB s σ) : KTB s (stI (stI σ 2 799 v) 3 799 w) := by
  refine ⟨fun d hd => ?_, fun j hj => ⟨?_, ?_⟩, h.2.2⟩
  · rw [stI_ne (fun e => by rw [e] at hd; revert hd; decide), stI_ne (fun e => by rw [e] at hd; revert hd; decide)]
    exact h.1 d hd
  · rw [stI_ne (by decide)]
    show upd (σ.1 2) 799 v j = _
    rw [upd_no (by omega)]
    exact (h.2.1 j hj).1
  · have e9 : (stI (stI σ 2 799 v) 3 799 w).1 3 = upd (σ.1 3) 799 w := rfl
    rw [e9, upd_no (by omega)]
    exact (h.2.1 j hj).2
theorem w_X11_rootType {s : ST} {σ : ST} (h : KTB s σ) : PF st1 (KTB s) (f_X11_rootType σ) := by
  unfold f_X11_rootType
  have n799 : (799 : Int32).toNatClampNeg = 799 := by decide
  rw [n799]
  exact PF.ret1 (KTB.t h)
theorem w_X11_spelt {s : ST} {p0 p1 p2 p3 p4 p5 : Int32} {σ : ST} (h : KTB s σ) : PF st2 (KTB s) (f_X11_spelt p0 p1 p2 p3 p4 p5 σ) := by
  unfold f_X11_spelt
  intro q e
  obtain ⟨r, e1, e2⟩ := bnd_some e
  cases e2
  exact h
def KTA (s σ : ST) : Prop := ∀ c, 4 ≤ c → c < 20 → σ.1 c = s.1 c ∧ σ.2.1 c = s.2.1 c
theorem KTA.rf {s : ST} : KTA s s := fun _ _ _ => ⟨rfl, rfl⟩
theorem KTA.i {s σ : ST} {c i : Nat} {v : Int32} (hc : c < 4 ∨ 20 ≤ c) (h : KTA s σ) : KTA s (stI σ c i v) := fun d h1 h2 => by
  rw [stI_ne (by omega)]
  exact h d h1 h2
theorem KTA.l {s σ : ST} {c i : Nat} {v : Int64} (hc : c < 4 ∨ 20 ≤ c) (h : KTA s σ) : KTA s (stL σ c i v) := fun d h1 h2 => by
  rw [stL_ne (by omega)]
  exact h d h1 h2
theorem stF_ne5 {σ : ST} {q c : Nat} {f : Nat → Int32} (h : c ≠ q) : (stF σ q f).1 c = σ.1 c := by
  have e : Nat.beq c q = false := by
    cases h9 : Nat.beq c q with
    | false => rfl
    | true => exact absurd (Nat.eq_of_beq_eq_true h9) h
  show (bif Nat.beq c q then f else σ.1 c) = _
  rw [e]
  rfl
theorem stFL_ne5 {σ : ST} {q c : Nat} {f : Nat → Int64} (h : c ≠ q) : (stFL σ q f).2.1 c = σ.2.1 c := by
  have e : Nat.beq c q = false := by
    cases h9 : Nat.beq c q with
    | false => rfl
    | true => exact absurd (Nat.eq_of_beq_eq_true h9) h
  show (bif Nat.beq c q then f else σ.2.1 c) = _
  rw [e]
  rfl
theorem KTA.f {s σ : ST} {c : Nat} {f : Nat → Int32} (hc : c < 4 ∨ 20 ≤ c) (h : KTA s σ) : KTA s (stF σ c f) := fun d h1 h2 => by
  rw [stF_ne5 (by omega)]
  exact h d h1 h2
theorem KTA.fl {s σ : ST} {c : Nat} {f : Nat → Int64} (hc : c < 4 ∨ 20 ≤ c) (h : KTA s σ) : KTA s (stFL σ c f) := fun d h1 h2 => by
  rw [stFL_ne5 (by omega)]
  exact h d h1 h2
theorem KTA.d {s σ : ST} {c i : Nat} {v : UInt64} (h : KTA s σ) : KTA s (stD σ c i v) := h
theorem KTA.r {s σ : ST} {c v : Nat} (h : KTA s σ) : KTA s (stR σ c v) := h
