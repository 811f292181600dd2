/-! THE REFERENCE'S SAFETY: what its functions leave as it is, and that they answer -/
theorem nC {x : Int32} {n : Nat} (h : x.toInt = (n : Int)) : x.toNatClampNeg = n := by
  have := nN_ (x := x) (by omega)
  omega
theorem mlE {k y : Int32} (kk : Int) (hk : k.toInt = kk) (h1 : -2147483648 ≤ kk * y.toInt) (h2 : kk * y.toInt < 2147483648) : (k * y).toInt = kk * y.toInt := by
  rw [il_mulE (by rw [hk]; exact h1) (by rw [hk]; exact h2), hk]
theorem stL_ne {σ : ST} {q i c : Nat} {v : Int64} (h : c ≠ q) : (stL σ q i v).2.1 c = σ.2.1 c := by
  show (bif Nat.beq c q then vp_updL (σ.2.1 c) i v else σ.2.1 c) = σ.2.1 c
  have hb : Nat.beq c q = false := by
    cases hb : Nat.beq c q with
    | false => rfl
    | true => exact absurd (Nat.eq_of_beq_eq_true hb) h
  rw [hb]; rfl
/-- what is another one at most: rows, and numbers of the object itself; the names stay -/
def CH (C I : List Nat) (σ τ : ST) : Prop := (∀ c, c ≠ 0 → c ∉ C → τ.1 c = σ.1 c) ∧ (∀ i, i ∉ I → τ.1 0 i = σ.1 0 i) ∧ τ.2.1 9 = σ.2.1 9 ∧ τ.2.1 12 = σ.2.1 12 ∧ τ.2.1 14 = σ.2.1 14 ∧ τ.2.1 17 = σ.2.1 17 ∧ τ.2.1 18 = σ.2.1 18
theorem CH.rf {C I : List Nat} {σ : ST} : CH C I σ σ := ⟨fun _ _ _ => rfl, fun _ _ => rfl, rfl, rfl, rfl, rfl, rfl⟩
theorem CH.trans {C I : List Nat} {σ τ υ : ST} (h : CH C I σ τ) (k : CH C I τ υ) : CH C I σ υ := ⟨fun c h0 hc => (k.1 c h0 hc).trans (h.1 c h0 hc), fun i hi => (k.2.1 i hi).trans (h.2.1 i hi), k.2.2.1.trans h.2.2.1, k.2.2.2.1.trans h.2.2.2.1, k.2.2.2.2.1.trans h.2.2.2.2.1, k.2.2.2.2.2.1.trans h.2.2.2.2.2.1, k.2.2.2.2.2.2.trans h.2.2.2.2.2.2⟩
theorem CH.mono {C I C' I' : List Nat} {σ τ : ST} (h : CH C I σ τ) (hC : ∀ c, c ∈ C → c ∈ C') (hI : ∀ c, c ∈ I → c ∈ I') : CH C' I' σ τ := ⟨fun c h0 hc => h.1 c h0 (fun h9 => hc (hC c h9)), fun i hi => h.2.1 i (fun h9 => hi (hI i h9)), h.2.2⟩
theorem CH.i {C I : List Nat} {σ τ : ST} (h : CH C I σ τ) {c i : Nat} {v : Int32} (h0 : c ≠ 0) (hc : c ∈ C) : CH C I σ (stI τ c i v) := ⟨fun d d0 dc => by rw [stI_ne (show d ≠ c from fun e => dc (by rw [e]; exact hc))]; exact h.1 d d0 dc, fun j hj => by rw [stI_ne (fun e => h0 e.symm)]; exact h.2.1 j hj, h.2.2⟩
theorem CH.o {C I : List Nat} {σ τ : ST} (h : CH C I σ τ) {i : Nat} {v : Int32} (hi : i ∈ I) : CH C I σ (stI τ 0 i v) := ⟨fun d d0 dc => by rw [stI_ne d0]; exact h.1 d d0 dc, fun j hj => by
  show upd (τ.1 0) i v j = _
  rw [upd_no (show j ≠ i from fun e => hj (by rw [e]; exact hi))]
  exact h.2.1 j hj, h.2.2⟩
theorem CH.l {C I : List Nat} {σ τ : ST} (h : CH C I σ τ) {c i : Nat} {v : Int64} (h9 : 9 ≠ c) (h12 : 12 ≠ c) (h14 : 14 ≠ c) (h17 : 17 ≠ c) (h18 : 18 ≠ c) : CH C I σ (stL τ c i v) := ⟨h.1, h.2.1, by rw [stL_ne h9]; exact h.2.2.1, by rw [stL_ne h12]; exact h.2.2.2.1, by rw [stL_ne h14]; exact h.2.2.2.2.1, by rw [stL_ne h17]; exact h.2.2.2.2.2.1, by rw [stL_ne h18]; exact h.2.2.2.2.2.2⟩
theorem CH.d {C I : List Nat} {σ τ : ST} (h : CH C I σ τ) {c i : Nat} {v : UInt64} : CH C I σ (stD τ c i v) := h
/-- an answer, what is another one at most, and more -/
def RC {α : Type} (C I : List Nat) (σ : ST) (Q : α → ST → Prop) (q : α × ST) : Prop := CH C I σ q.2 ∧ Q q.1 q.2
def RZ (C I : List Nat) (σ : ST) (Q : ST → Prop) (q : ST) : Prop := CH C I σ q ∧ Q q
theorem OK.cret {α : Type} {C I : List Nat} {σ s : ST} {v : α} {Q : α → ST → Prop} (h : CH C I σ s) (hq : Q v s) : OK (some (v, s)) (RC C I σ Q) := ⟨_, rfl, h, hq⟩
theorem OK.zret {C I : List Nat} {σ s : ST} {Q : ST → Prop} (h : CH C I σ s) (hq : Q s) : OK (some s) (RZ C I σ Q) := ⟨_, rfl, h, hq⟩
theorem OK.bndC {α β : Type} {C I : List Nat} {o : Option (α × ST)} {f : α × ST → Option β} {s : ST} {Q : α → ST → Prop} {P : β → Prop} (h : OK o (RC C I s Q)) (k : ∀ (v : α) (t : ST), CH C I s t → Q v t → OK (f (v, t)) P) : OK (o.bind f) P := by
  obtain ⟨⟨v, t⟩, e, h1, h2⟩ := h
  rw [e]; exact k v t h1 h2
theorem OK.bndZ {β : Type} {C I : List Nat} {o : Option ST} {f : ST → Option β} {s : ST} {Q : ST → Prop} {P : β → Prop} (h : OK o (RZ C I s Q)) (k : ∀ (t : ST), CH C I s t → Q t → OK (f t) P) : OK (o.bind f) P := by
  obtain ⟨t, e, h1, h2⟩ := h
  rw [e]; exact k t h1 h2
theorem OK.trC {α : Type} {C I C' I' : List Nat} {o : Option (α × ST)} {s σ : ST} {Q R : α → ST → Prop} (h : OK o (RC C' I' s Q)) (hs : CH C I σ s) (hC : ∀ c, c ∈ C' → c ∈ C) (hI : ∀ c, c ∈ I' → c ∈ I) (k : ∀ v t, CH C' I' s t → Q v t → R v t) : OK o (RC C I σ R) := h.mono (fun q hq => ⟨hs.trans (hq.1.mono hC hI), k q.1 q.2 hq.1 hq.2⟩)
theorem OK.trZ {C I C' I' : List Nat} {o : Option ST} {s σ : ST} {Q R : ST → Prop} (h : OK o (RZ C' I' s Q)) (hs : CH C I σ s) (hC : ∀ c, c ∈ C' → c ∈ C) (hI : ∀ c, c ∈ I' → c ∈ I) (k : ∀ t, CH C' I' s t → Q t → R t) : OK o (RZ C I σ R) := h.mono (fun q hq => ⟨hs.trans (hq.1.mono hC hI), k q hq.1 hq.2⟩)
theorem i64 (x : Int32) : x.toInt64.toInt = x.toInt := Int32.toInt_toInt64 x
theorem l64_0 : (0 : Int64).toInt = 0 := by decide
theorem l64_1 : (1 : Int64).toInt = 1 := by decide
theorem l64_3 : (3 : Int64).toInt = 3 := by decide
theorem l64_4 : (4 : Int64).toInt = 4 := by decide
theorem l64_12 : (12 : Int64).toInt = 12 := by decide
theorem l64_200 : (200 : Int64).toInt = 200 := by decide
theorem li_72 : (72 : Int32).toInt = 72 := by decide
theorem li_288 : (288 : Int32).toInt = 288 := by decide
theorem li_799 : (799 : Int32).toInt = 799 := by decide
theorem li_m3 : (-3 : Int32).toInt = -3 := by decide
theorem li_m2 : (-2 : Int32).toInt = -2 := by decide
theorem FUi : ((FU : Nat) : Int) = 100000 := rfl
theorem FRi : ((FRB : Nat) : Int) = 340 := rfl
theorem b_within (p0 p1 p2 : Int64) (σ : ST) : OK (f_X11_within p0 p1 p2 σ) (RO σ fun v => v.toInt = 0 ∧ ¬ (p1.toInt ≤ p0.toInt ∧ p0.toInt ≤ p2.toInt) ∨ v.toInt = 1 ∧ p1.toInt ≤ p0.toInt ∧ p0.toInt ≤ p2.toInt) := by
  unfold f_X11_within
  have lt_0 := li_0
  have lt_1 := li_1
  refine OK.ite (fun h => ?_) (fun h => OK.ite (fun k => ?_) (fun k => ?_))
  · have := Int64.lt_iff_toInt_lt.mp ((lg_cmp_lt _ _).mp h)
    exact OK.roret (by omega)
  · rw [lg_cmp_lt, Int64.lt_iff_toInt_lt] at h
    have := Int64.lt_iff_toInt_lt.mp ((lg_cmp_gt _ _).mp k)
    exact OK.roret (by omega)
  · rw [lg_cmp_lt, Int64.lt_iff_toInt_lt] at h
    rw [lg_cmp_gt, Int64.lt_iff_toInt_lt] at k
    exact OK.roret (by omega)
theorem b_isMessage (p0 : Int32) (σ : ST) : OK (f_X11_isMessage p0 σ) (RO σ fun v => v.toInt = 0 ∨ v.toInt = 1 ∧ (0 ≤ p0.toInt ∧ p0.toInt < 4) ∧ 0 ≤ (σ.1 32 p0.toNatClampNeg).toInt) := by
  unfold f_X11_isMessage
  have lt_0 := li_0
  have lt_1 := li_1
  have e := i64 p0
  have l0 := l64_0
  have l3 := l64_3
  refine OK.bndR (b_within _ _ _ _) (fun v hv => ?_)
  dsimp only
  refine OK.ieq (fun h => OK.roret (by omega)) (fun h => ?_)
  refine OK.grd ⟨by omega, by omega⟩ ?_
  exact OK.ilt (fun h => OK.roret (by omega)) (fun h => OK.roret (by omega))
theorem b_isPlanAt (p0 : Int32) (σ : ST) (hp : bI (σ.1 0 32) 0 6) : OK (f_X11_isPlanAt p0 σ) (RO σ fun v => v.toInt = 0 ∧ ¬ (0 ≤ p0.toInt ∧ p0.toInt < (σ.1 0 32).toInt) ∨ v.toInt = 1 ∧ 0 ≤ p0.toInt ∧ p0.toInt < (σ.1 0 32).toInt) := by
  unfold f_X11_isPlanAt
  obtain ⟨hp1, hp2⟩ := hp
  have lt_1 := li_1
  have e1 := il_subE (x := σ.1 0 32) (y := 1) (by omega) (by omega)
  have e := i64 p0
  have e2 := i64 (σ.1 0 32 - 1)
  have l0 := l64_0
  refine OK.bndR (b_within _ _ _ _) (fun v hv => ?_)
  dsimp only
  refine OK.grd (b01 (by omega)) ?_
  exact OK.roret (by omega)
theorem b_isByte (p0 p1 : Int32) (σ : ST) (hm : ∀ i, bI (σ.1 33 i) 0 400) : OK (f_X11_isByte p0 p1 σ) (RO σ fun v => v.toInt = 0 ∨ v.toInt = 1 ∧ (0 ≤ p0.toInt ∧ p0.toInt < 4) ∧ 0 ≤ p1.toInt ∧ p1.toInt < 400) := by
  unfold f_X11_isByte
  have lt_0 := li_0
  have lt_1 := li_1
  have l0 := l64_0
  obtain ⟨h1, h2⟩ := hm p0.toNatClampNeg
  have e1 := il_subE (x := σ.1 33 p0.toNatClampNeg) (y := 1) (by omega) (by omega)
  have e := i64 p1
  have e2 := i64 (σ.1 33 p0.toNatClampNeg - 1)
  refine OK.bndR (b_isMessage _ _) (fun v hv => ?_)
  dsimp only
  refine OK.ieq (fun h => OK.roret (by omega)) (fun h => ?_)
  refine OK.grd ⟨by omega, by omega⟩ ?_
  refine OK.bndR (b_within _ _ _ _) (fun w hw => ?_)
  dsimp only
  exact OK.ieq (fun h => OK.roret (by omega)) (fun h => OK.roret (by omega))
theorem b_fieldOf_3 : ∀ (n : Nat) (x1 : Int32) (x2 : Int64) (x4 : Int32) (σ : ST), (0 ≤ x1.toInt ∧ x1.toInt < 72) → bI (σ.1 11 x1.toNatClampNeg) 0 8 → (0 ≤ x4.toInt ∧ x4.toInt ≤ 8 ∧ (8 : Int) - x4.toInt < n) → OK (f_X11_fieldOf_3 n x1 x2 x4 σ) (RO σ fun v => v.toInt = -1 ∨ ∃ j : Nat, (j : Int) < (σ.1 11 x1.toNatClampNeg).toInt ∧ v.toInt = 8 * x1.toInt + j) := by
  intro n
  induction n with
  | zero => intro x1 x2 x4 σ h1 h2 h3; omega
  | succ n ih =>
    intro x1 x2 x4 σ h1 h2 h3
    rw [f_X11_fieldOf_3]
    have h2' := h2
    obtain ⟨a1, a2⟩ := h2
    have lt_1 := li_1
    have lt_8 := li_8
    have lt_m := li_m1
    have e1 := mlE (k := 8) (y := x1) 8 li_8 (by omega) (by omega)
    have e2 := il_addE (x := 8 * x1) (y := x4) (by omega) (by omega)
    have e3 := il_addE (x := x4) (y := 1) (by omega) (by omega)
    refine OK.grd ⟨by omega, by omega⟩ ?_
    refine OK.ile (fun h => OK.roret (.inl (by omega))) (fun h => ?_)
    refine OK.grd ⟨by omega, by omega⟩ ?_
    refine OK.ieq (fun h => OK.roret (.inr ⟨x4.toInt.toNat, by omega, by omega⟩)) (fun _ => ?_)
    exact ih x1 x2 (x4 + 1) σ h1 h2' (by omega)
theorem b_fieldOf (p0 : Int32) (p1 : Int64) (σ : ST) (h1 : 0 ≤ p0.toInt ∧ p0.toInt < 72) (h2 : bI (σ.1 11 p0.toNatClampNeg) 0 8) : OK (f_X11_fieldOf p0 p1 σ) (RO σ fun v => v.toInt = -1 ∨ ∃ j : Nat, (j : Int) < (σ.1 11 p0.toNatClampNeg).toInt ∧ v.toInt = 8 * p0.toInt + j) := by
  have lt_0 := li_0
  have lu := FUi
  exact b_fieldOf_3 FU p0 p1 0 σ h1 h2 (by omega)
theorem b_fieldFor (p0 p1 : Int32) (σ : ST) (h1 : 0 ≤ p1.toInt ∧ p1.toInt < 576) (h0 : 0 ≤ p0.toInt ∧ p0.toInt < 6) (hw : bI (σ.1 0 53) 0 5) (h2 : bI (σ.1 11 (6 * (σ.1 0 53).toNatClampNeg + p0.toNatClampNeg)) 0 8) : OK (f_X11_fieldFor p0 p1 σ) (RO σ fun v => v.toInt = -1 ∨ ∃ j : Nat, (j : Int) < (σ.1 11 (6 * (σ.1 0 53).toNatClampNeg + p0.toNatClampNeg)).toInt ∧ v.toInt = 8 * (6 * (σ.1 0 53).toInt + p0.toInt) + j) := by
  unfold f_X11_fieldFor
  obtain ⟨w1, w2⟩ := hw
  have lt_0 := li_0
  have lt_6 := li_6
  have e1 := mlE (k := 6) (y := σ.1 0 53) 6 li_6 (by omega) (by omega)
  have e2 := il_addE (x := 6 * σ.1 0 53) (y := p0) (by omega) (by omega)
  have n1 := nN_ (x := σ.1 0 53) w1
  have n2 := nN_ (x := p0) h0.1
  have e3 : (6 * σ.1 0 53 + p0).toNatClampNeg = 6 * (σ.1 0 53).toNatClampNeg + p0.toNatClampNeg := nC (by omega)
  have hf : ∀ x : Int64, OK (f_X11_fieldOf (6 * σ.1 0 53 + p0) x σ) (RO σ fun v => v.toInt = -1 ∨ ∃ j : Nat, (j : Int) < (σ.1 11 (6 * (σ.1 0 53).toNatClampNeg + p0.toNatClampNeg)).toInt ∧ v.toInt = 8 * (6 * (σ.1 0 53).toInt + p0.toInt) + j) := fun x => by
    refine (b_fieldOf _ x σ (by omega) (by rw [e3]; exact h2)).roq (fun v hv => ?_)
    rw [e3] at hv
    rcases hv with hv | ⟨j, j1, j2⟩
    · exact .inl hv
    · exact .inr ⟨j, j1, by omega⟩
  refine OK.grd ⟨by omega, by omega⟩ ?_
  refine OK.bndR (hf _) (fun v hv => ?_)
  dsimp only
  refine OK.ile (fun h => OK.roret hv) (fun h => ?_)
  refine OK.ile (fun h => OK.roret hv) (fun h => ?_)
  refine OK.bndR (hf _) (fun w hw => ?_)
  exact OK.roret hw
theorem b_namesMay (p0 p1 : Int32) (σ : ST) (h0 : 0 ≤ p0.toInt ∧ p0.toInt < 6) (h1 : 0 ≤ p1.toInt ∧ p1.toInt < 6) (hw : bI (σ.1 0 53) 0 5) (hr : bI (σ.1 0 54) 0 5) : OK (f_X11_namesMay p0 p1 σ) (RO σ fun v => v.toInt = 0 ∨ v.toInt = 1) := by
  obtain ⟨w1, w2⟩ := hw
  obtain ⟨r1, r2⟩ := hr
  have lt_0 := li_0
  have lt_1 := li_1
  have lt_6 := li_6
  have e1 := mlE (k := 6) (y := σ.1 0 53) 6 li_6 (by omega) (by omega)
  have e2 := il_addE (x := 6 * σ.1 0 53) (y := p0) (by omega) (by omega)
  have e3 := mlE (k := 6) (y := σ.1 0 54) 6 li_6 (by omega) (by omega)
  have e4 := il_addE (x := 6 * σ.1 0 54) (y := p1) (by omega) (by omega)
  have h8 : OK (f_X11_namesMay_8 p0 p1 σ) (RO σ fun v => v.toInt = 0 ∨ v.toInt = 1) := by
    unfold f_X11_namesMay_8 f_X11_namesMay_40
    refine OK.grd ⟨by omega, by omega⟩ ?_
    refine OK.grd ⟨by omega, by omega⟩ ?_
    exact OK.ieq (fun _ => OK.roret (by omega)) (fun _ => OK.roret (by omega))
  unfold f_X11_namesMay f_X11_namesMay_40
  refine OK.ieq (fun _ => ?_) (fun _ => h8)
  exact OK.ieq (fun _ => OK.roret (by omega)) (fun _ => h8)
theorem b_enters (p0 : Int32) (σ : ST) (h : 0 ≤ (σ.1 0 57).toInt ∧ (σ.1 0 57).toInt < 256) : OK (f_X11_enters p0 σ) (RZ [36] [57] σ fun t => (t.1 0 57).toInt = (σ.1 0 57).toInt + 1) := by
  unfold f_X11_enters
  have lt_1 := li_1
  have e1 := il_addE (x := σ.1 0 57) (y := 1) (by omega) (by omega)
  refine OK.grd h ?_
  exact OK.zret ((CH.rf.i (by decide) (by decide)).o (by decide)) (by show (σ.1 0 57 + 1).toInt = _; omega)
theorem b_fails_36 : ∀ (n : Nat) (x3 : Int32) (σ : ST), bI (σ.1 0 68) 0 256 → (0 ≤ x3.toInt ∧ x3.toInt ≤ 256 ∧ (256 : Int) - x3.toInt < n) → OK (f_X11_fails_36 n x3 σ) (RC [41] [] σ fun v _ => v.toInt = 0) := by
  intro n
  induction n with
  | zero => intro x3 σ h1 h3; omega
  | succ n ih =>
    intro x3 σ h1 h3
    rw [f_X11_fails_36]
    have h1' := h1
    obtain ⟨a1, a2⟩ := h1
    have lt_0 := li_0
    have lt_1 := li_1
    have e3 := il_addE (x := x3) (y := 1) (by omega) (by omega)
    refine OK.ile (fun h => OK.cret CH.rf (by omega)) (fun h => ?_)
    refine OK.grd ⟨by omega, by omega⟩ ?_
    exact OK.trC (ih (x3 + 1) _ h1' (by omega)) (CH.rf.i (by decide) (by decide)) (fun _ h => h) (fun _ h => h) (fun _ _ _ h => h)
theorem b_fails (p0 p1 : Int32) (σ : ST) (hs : bI (σ.1 0 57) 0 256) : OK (f_X11_fails p0 p1 σ) (RC [41] [66, 67, 68] σ fun v t => v.toInt = 0 ∧ bI (t.1 0 68) 0 256) := by
  unfold f_X11_fails f_X11_fails_23
  have lt_0 := li_0
  have lu := FUi
  have key : ∀ (y0 : Int32) (s : ST), CH [41] [66, 67, 68] σ s → bI y0 0 256 → OK (f_X11_fails_31 y0 s) (RC [41] [66, 67, 68] σ fun v t => v.toInt = 0 ∧ bI (t.1 0 68) 0 256) := fun y0 s c hy => by
    unfold f_X11_fails_31
    refine OK.trC (b_fails_36 FU 0 (stI s 0 68 y0) hy (by omega)) (c.o (by decide)) (fun _ h => h) (fun _ h => by cases h) (fun v t ct h => ⟨h, ?_⟩)
    rw [ct.2.1 68 (by decide)]
    exact hy
  have c : CH [41] [66, 67, 68] σ (stI (stI σ 0 66 p0) 0 67 p1) := (CH.rf.o (by decide)).o (by decide)
  refine OK.ieq (fun _ => key _ _ c (bz (by decide) (by decide))) (fun _ => ?_)
  refine OK.ieq (fun _ => key _ _ c (bz (by decide) (by decide))) (fun _ => ?_)
  exact key _ _ c hs
