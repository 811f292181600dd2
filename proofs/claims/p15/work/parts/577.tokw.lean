/-! what a token is worth: more of both tokens, side by side -/
/-- whatever a run answers (the rules stand once more where the walks need them) -/
def QT {α : Type} (o : Option α) (P : α → Prop) : Prop := ∀ q, o = some q → P q
theorem QT.none {α : Type} {P : α → Prop} : QT (none : Option α) P := fun _ h => by cases h
theorem QT.ret {α : Type} {q : α} {P : α → Prop} (h : P q) : QT (some q) P := fun z e => by
  cases e
  exact h
theorem QT.mono {α : Type} {o : Option α} {P Q : α → Prop} (h : QT o P) (k : ∀ q, P q → Q q) : QT o Q := fun q e => k q (h q e)
theorem QT.ok {α : Type} {o : Option α} {P : α → Prop} (h : OK o P) : QT o P := fun q e => by
  obtain ⟨z, e2, hz⟩ := h
  rw [e] at e2
  cases e2
  exact hz
theorem QT.ite {α : Type} {c : Prop} {i : Decidable c} {x y : Option α} {P : α → Prop} (h1 : c → QT x P) (h2 : ¬ c → QT y P) : QT (@_root_.ite (Option α) c i x y) P := by
  by_cases h : c
  · rw [if_pos h]; exact h1 h
  · rw [if_neg h]; exact h2 h
theorem QT.grd {α : Type} {c : Prop} {i : Decidable c} {x : Option α} {P : α → Prop} (h : c → QT x P) : QT (@_root_.ite (Option α) c i x Option.none) P := QT.ite h (fun _ => QT.none)
theorem QT.ilt {α : Type} {a b : Int32} {i : Decidable (a < b)} {x y : Option α} {P : α → Prop} (h1 : a.toInt < b.toInt → QT x P) (h2 : b.toInt ≤ a.toInt → QT y P) : QT (@_root_.ite (Option α) (a < b) i x y) P := QT.ite (fun h => h1 (il_lt h)) (fun h => h2 (il_nlt h))
theorem QT.ile {α : Type} {a b : Int32} {i : Decidable (a ≤ b)} {x y : Option α} {P : α → Prop} (h1 : a.toInt ≤ b.toInt → QT x P) (h2 : b.toInt < a.toInt → QT y P) : QT (@_root_.ite (Option α) (a ≤ b) i x y) P := QT.ite (fun h => h1 (il_le h)) (fun h => h2 (il_nle h))
theorem QT.ieq {α : Type} {a b : Int32} {i : Decidable (a = b)} {x y : Option α} {P : α → Prop} (h1 : a.toInt = b.toInt → QT x P) (h2 : ¬ a.toInt = b.toInt → QT y P) : QT (@_root_.ite (Option α) (a = b) i x y) P := QT.ite (fun h => h1 (il_eq h)) (fun h => h2 (il_ne h))
theorem QT.bnd {α β : Type} {o : Option α} {f : α → Option β} {Q : α → Prop} {P : β → Prop} (h : QT o Q) (k : ∀ q, Q q → QT (f q) P) : QT (o.bind f) P := by
  cases o with
  | none => exact QT.none
  | some x => exact k x (h x rfl)
theorem QT.lt {α β : Type} {e : α} {f : α → Option β} {P : β → Prop} (k : ∀ z, z = e → QT (f z) P) : QT ((some e).bind f) P := k e rfl
theorem QT.bndR {α β : Type} {o : Option (α × ST)} {f : α × ST → Option β} {s : ST} {Q : α → Prop} {P : β → Prop} (h : OK o (RO s Q)) (k : ∀ v, Q v → QT (f (v, s)) P) : QT (o.bind f) P := by
  obtain ⟨⟨v, t⟩, e, e2, hq⟩ := h
  have e2 : t = s := e2
  subst e2
  rw [e]
  exact k v hq
theorem OK.qt {α : Type} {o : Option α} {P Q : α → Prop} (h : OK o P) (k : QT o Q) : OK o (fun q => P q ∧ Q q) := by
  obtain ⟨q, e, hq⟩ := h
  exact ⟨q, e, hq, k q e⟩
theorem sh12 : ∀ (k : Nat), k < 12 → ∀ a : Int64, (a <<< ((5 * Int32.ofNat k).toInt64 &&& 63)).toBitVec = a.toBitVec <<< (5 * k)
  | 0, _, _ => rfl
  | 1, _, _ => rfl
  | 2, _, _ => rfl
  | 3, _, _ => rfl
  | 4, _, _ => rfl
  | 5, _, _ => rfl
  | 6, _, _ => rfl
  | 7, _, _ => rfl
  | 8, _, _ => rfl
  | 9, _, _ => rfl
  | 10, _, _ => rfl
  | 11, _, _ => rfl
  | k + 12, h, _ => by omega
theorem or12 {x a z : Int64} {X A k : Nat} (hx : x.toInt = (X : Int)) (ha : a.toInt = (A : Int)) (hA : A ≤ 26) (hk : k < 12) (hX : X < 32 ^ k) (hz : z.toBitVec = a.toBitVec <<< (5 * k)) : (x ||| z).toInt = ((X + A * 32 ^ k : Nat) : Int) := by
  have e32 : (32 : Nat) ^ k = 2 ^ (5 * k) := by rw [Nat.pow_mul]
  rw [e32] at hX ⊢
  have p1 : 2 ^ (5 * k) ≤ 2 ^ 55 := Nat.pow_le_pow_right (by omega) (by omega)
  have p2 : (2 : Nat) ^ 55 = 36028797018963968 := by decide
  have e1 := nat64 hx
  have e2 := nat64 ha
  have hm : A * 2 ^ (5 * k) ≤ 26 * 36028797018963968 := by
    rw [← p2]
    exact Nat.mul_le_mul hA p1
  have e3 : (x ||| z).toBitVec.toNat = X + A * 2 ^ (5 * k) := by
    show (x.toBitVec ||| z.toBitVec).toNat = _
    rw [hz, BitVec.toNat_or, BitVec.toNat_shiftLeft, e1, e2, Nat.shiftLeft_eq]
    have : A * 2 ^ (5 * k) % 2 ^ 64 = A * 2 ^ (5 * k) := Nat.mod_eq_of_lt (by omega)
    rw [this, Nat.or_comm, Nat.mul_comm A, ← Nat.two_pow_add_eq_or_of_lt hX, Nat.add_comm]
  show (x ||| z).toBitVec.toInt = _
  rw [BitVec.toInt_eq_toNat_of_lt (by rw [e3]; omega), e3]
theorem w5_n12 {T : Nat → Int32} {n : Int} {s : Nat} (hT8 : ∀ i, bI (T i) (-128) 127) : ∀ m, m ≤ 12 → (∀ i, i < m → isL (bt T n (s + i))) → (w5 T s m).toInt = (n5 m (gT T s) : Int) := by
  intro m
  induction m with
  | zero => intro _ _; rfl
  | succ m ih =>
    intro hm hL
    have e := ih (by omega) (fun i hi => hL i (by omega))
    obtain ⟨g1, g2⟩ := gT_L hL
    have b1 := g1 m (by omega)
    have b2 := g2 m (by omega)
    obtain ⟨t1, t2⟩ := hT8 (s + m)
    have l1 := li_1
    have l97 := li_97
    have a1 := il_subE (x := T (s + m)) (y := 97) (by omega) (by omega)
    have a2 := il_addE (x := T (s + m) - 97) (y := 1) (by omega) (by omega)
    rw [n5_last]
    exact or12 (k := m) e (by rw [i64, a2, a1]; omega) b1.2 (by omega) (n5_lt m _ (fun i hi => g1 i (by omega))) (sh12 m (by omega) _)
theorem w27_n12 {T : Nat → Int32} {n : Int} {s : Nat} : ∀ m, m ≤ 12 → (∀ i, i < m → isL (bt T n (s + i))) → (w27 T s m).toInt = (n27 (gT T s) m : Int) := by
  intro m
  induction m with
  | zero => intro _ _; rfl
  | succ m ih =>
    intro hm hL
    have e := ih (by omega) (fun i hi => hL i (by omega))
    obtain ⟨g1, g2⟩ := gT_L hL
    have b1 := g1 m (by omega)
    have b2 := g2 m (by omega)
    have hl := n27_lt m (gT T s) (fun i hi => g1 i (by omega))
    have p1 : (27 : Nat) ^ m ≤ 27 ^ 11 := Nat.pow_le_pow_right (by omega) (by omega)
    have p2 : (27 : Nat) ^ 11 = 5559060566555523 := by decide
    rw [p2] at p1
    have l27 : (27 : Int64).toInt = 27 := by decide
    have l96 : (96 : Int64).toInt = 96 := by decide
    have c1 : (27 * w27 T s m).toInt = 27 * (n27 (gT T s) m : Int) := by
      rw [Int64.toInt_mul, l27, e]
      exact Int.bmod_eq_of_le (by omega) (by omega)
    have c2 : (27 * w27 T s m + (T (s + m) &&& 255).toInt64).toInt = 27 * (n27 (gT T s) m : Int) + ((gT T s m : Int) + 96) := by
      rw [Int64.toInt_add, c1, i64, and255, b2]
      exact Int.bmod_eq_of_le (by omega) (by omega)
    show (27 * w27 T s m + (T (s + m) &&& 255).toInt64 - 96).toInt = ((27 * n27 (gT T s) m + gT T s m : Nat) : Int)
    rw [Int64.toInt_sub, c2, l96]
    rw [Int.bmod_eq_of_le (by omega) (by omega)]
    omega
/-- a text's letters, both ways, counted -/
def WLT (x y : Int64) (n : Int32) : Prop := ∃ (m : Nat) (g : Nat → Nat), m ≤ 12 ∧ GL g m ∧ x.toInt = (n5 m g : Int) ∧ y.toInt = (n27 g m : Int) ∧ n.toInt = m
/-- the class's token -/
def TWA (T : Nat → Int32) (n : Int) (s : Nat) (t : ST) : Prop := ((t.1 2 4).toInt = 5 → ∃ m, RUN isL T n (s + 1) m ∧ m ≤ 12 ∧ t.2.1 2 7 = w5 T (s + 1) m) ∧ ((t.1 2 4).toInt = 4 → ((t.1 2 9).toInt = 1 ∧ bt T n s = 45 ∨ (t.1 2 9).toInt = 0 ∧ ¬ bt T n s = 45) ∧ ((t.1 2 10).toInt = 1 → 1 ≤ (t.1 2 3).toInt ∧ isD (bt T n ((t.1 2 3).toNatClampNeg - 1)) ∧ (t.1 2 11).toInt = bt T n ((t.1 2 3).toNatClampNeg - 1) - 48) ∧ ((t.1 2 10).toInt = 0 → t.1 2 11 = 0))
theorem pa_scanLettered (σ : ST) (s : Nat) (hT8 : ∀ i, bI (σ.1 1 i) (-128) 127) (h5 : (σ.1 2 5).toInt = s) (hs : s < 1000) (hn2 : bI (σ.1 2 2) 0 1000) : QT (f_X6_scanLettered σ) (fun t => TWA (σ.1 1) (σ.1 2 2).toInt s t) := by
  unfold f_X6_scanLettered f_X6_scanLettered_38
  have l1 := li_1
  have l12 := li_12
  have l4 := li_4
  have l5 := li_5
  have e1 := il_addE (x := σ.1 2 5) (y := 1) (by omega) (by omega)
  have bad : ∀ z : ST, TWA (σ.1 1) (σ.1 2 2).toInt s (stI z 2 4 1) := fun z => by
    have e : (stI z 2 4 1).1 2 4 = 1 := rfl
    exact ⟨fun h => by rw [e] at h; omega, fun h => by rw [e] at h; omega⟩
  refine QT.bnd (QT.ok (a_takeLetters (σ.1 2 5 + 1) 12 σ (s + 1) hT8 (by omega) (by omega) (by omega) hn2)) (fun q hq => ?_)
  obtain ⟨⟨e0, ca⟩, hq⟩ := hq
  have e25 : q.2.1 2 5 = σ.1 2 5 := by rw [e0]
  refine QT.ilt (fun _ => QT.ret (bad _)) (fun h12 => ?_)
  rcases hq with ⟨m, m1, m2, m3, m4⟩ | ⟨_, m3⟩
  rotate_left
  · omega
  have e6 := il_addE (x := σ.1 2 5 + 1) (y := q.1) (by omega) (by omega)
  rw [e25]
  refine QT.bndR (a_signAt (σ.1 2 5 + 1 + q.1) q.2 (by omega) (by rw [e0]; exact hn2)) (fun v _ => ?_)
  dsimp only
  refine QT.ieq (fun _ => QT.ret ?_) (fun _ => QT.ret (bad _))
  refine ⟨fun _ => ⟨m, m1, by omega, m4⟩, fun h => ?_⟩
  have e : (stI (stI q.2 2 4 5) 2 3 (σ.1 2 5 + 1 + q.1 + 1)).1 2 4 = 5 := rfl
  rw [e] at h
  omega
theorem stL_at' {σ : ST} {c i : Nat} {v : Int64} : (stL σ c i v).2.1 c i = v := by
  show (bif Nat.beq c c then vp_updL (σ.2.1 c) i v else σ.2.1 c) i = v
  rw [Nat.beq_refl]
  exact updL_at
theorem stD_at {σ : ST} {c i : Nat} {v : UInt64} : (stD σ c i v).2.2.1 c i = v := by
  show (bif Nat.beq c c then (fun j => if j = i then v else σ.2.2.1 c j) else σ.2.2.1 c) i = v
  rw [Nat.beq_refl]
  show (if i = i then v else _) = v
  rw [if_pos rfl]
/-- where a number's token ends -/
def TWN (T : Nat → Int32) (n : Int) (t : ST) : Prop := ((t.1 2 4).toInt = 1 ∨ (t.1 2 4).toInt = 4) ∧ ((t.1 2 4).toInt = 4 → ((t.1 2 10).toInt = 1 → 1 ≤ (t.1 2 3).toInt ∧ isD (bt T n ((t.1 2 3).toNatClampNeg - 1)) ∧ (t.1 2 11).toInt = bt T n ((t.1 2 3).toNatClampNeg - 1) - 48) ∧ ((t.1 2 10).toInt = 0 → t.1 2 11 = 0))
theorem pa_scanNumber_119 (x1 x2 : Int32) (σ : ST) (h1 : 0 ≤ x1.toInt ∧ x1.toInt ≤ 2000) (hn2 : bI (σ.1 2 2) 0 1000) (h4 : (σ.1 2 4).toInt = 1) (h10 : (σ.1 2 10).toInt = 0) (h11 : σ.1 2 11 = 0) : QT (f_X6_scanNumber_119 x1 x2 σ) (fun t => TWN (σ.1 1) (σ.1 2 2).toInt t ∧ t.1 2 9 = σ.1 2 9) := by
  unfold f_X6_scanNumber_119 f_X6_scanNumber_189
  have l0 := li_0
  have l1 := li_1
  have l4 := li_4
  have l48 := li_48
  have l2 := li_2
  have e1 := il_addE (x := x1) (y := 1) (by omega) (by omega)
  have e2 := il_addE (x := x1) (y := 2) (by omega) (by omega)
  have bad : TWN (σ.1 1) (σ.1 2 2).toInt σ ∧ σ.1 2 9 = σ.1 2 9 := ⟨⟨.inl h4, fun h => by omega⟩, rfl⟩
  refine QT.ite (fun _ => QT.ret bad) (fun _ => ?_)
  refine QT.ite (fun _ => ?_) (fun _ => QT.ret bad)
  refine QT.bndR (a_signAt x1 σ h1.1 hn2) (fun v _ => ?_)
  dsimp only
  refine QT.ite (fun _ => ?_) (fun _ => QT.ret ⟨⟨.inr l4, fun _ => ⟨fun h => ?_, fun _ => h11⟩⟩, rfl⟩)
  rotate_left
  · have h : (σ.1 2 10).toInt = 1 := h
    omega
  refine QT.bndR (a_signAt (x1 + 1) σ (by omega) hn2) (fun w hw => ?_)
  dsimp only
  refine QT.bndR (a_isDigit w σ) (fun d hd => ?_)
  dsimp only
  refine QT.ieq (fun _ => QT.ret bad) (fun hd0 => ?_)
  refine QT.bndR (a_signAt (x1 + 2) σ (by omega) hn2) (fun w2 _ => ?_)
  dsimp only
  refine QT.bndR (a_isDigit w2 σ) (fun d2 _ => ?_)
  dsimp only
  refine QT.ieq (fun _ => ?_) (fun _ => QT.ret bad)
  refine QT.bndR (a_signAt (x1 + 1) (stI σ 2 10 1) (by omega) hn2) (fun u hu => ?_)
  dsimp only
  have hD : isD w.toInt := by
    rcases hd with hd | hd
    · omega
    · exact hd.2
  have n1 : (x1 + 1).toNatClampNeg = (x1 + 2).toNatClampNeg - 1 := by
    have a := nN_ (x := x1 + 1) (by omega)
    have b := nN_ (x := x1 + 2) (by omega)
    omega
  have hw1 := hw.1
  have hu1 : u.toInt = sg (σ.1 1) (σ.1 2 2).toInt (x1 + 1).toNatClampNeg := hu.1
  rw [hw1, sgD] at hD
  have hsg := sg_eq (T := σ.1 1) (n := (σ.1 2 2).toInt) (k := (x1 + 1).toNatClampNeg)
  have hD2 := hD
  unfold isD at hD2
  refine QT.ret ⟨⟨.inr l4, fun _ => ⟨fun _ => ⟨?_, ?_, ?_⟩, fun h => ?_⟩⟩, rfl⟩
  · show 1 ≤ (x1 + 2).toInt
    omega
  · show isD (bt (σ.1 1) (σ.1 2 2).toInt ((x1 + 2).toNatClampNeg - 1))
    rw [← n1]
    exact hD
  · show (u - 48).toInt = bt (σ.1 1) (σ.1 2 2).toInt ((x1 + 2).toNatClampNeg - 1) - 48
    rw [← n1, il_subE (by omega) (by omega)]
    omega
  · have h : (1 : Int32).toInt = 0 := h
    omega
theorem pa_scanNumber_65 (T : Nat → Int32) (n : Int) (i : Nat) (hi : i ≤ 1001) : ∀ (f m : Nat) (x1 x2 : Int32) (σ : ST), σ.1 1 = T → (σ.1 2 2).toInt = n → bI (σ.1 2 2) 0 1000 → x1.toInt = i + m → x2.toInt = m → m ≤ 19 → (σ.1 2 4).toInt = 1 → (σ.1 2 10).toInt = 0 → σ.1 2 11 = 0 → QT (f_X6_scanNumber_65 f x1 x2 σ) (fun t => TWN T n t ∧ t.1 2 9 = σ.1 2 9) := by
  intro f
  have l1 := li_1
  have l18 := li_18
  induction f with
  | zero => intro m x1 x2 σ _ _ _ _ _ _ _ _ _; exact QT.none
  | succ f ih =>
    intro m x1 x2 σ hT hn hn2 h1 h2 hm h4 h10 h11
    rw [f_X6_scanNumber_65]
    unfold f_X6_scanNumber_110
    have e1 := il_addE (x := x1) (y := 1) (by omega) (by omega)
    have e2 := il_addE (x := x2) (y := 1) (by omega) (by omega)
    have fin := pa_scanNumber_119 x1 x2 σ ⟨by omega, by omega⟩ hn2 h4 h10 h11
    rw [hT, hn] at fin
    refine QT.ilt (fun _ => fin) (fun _ => ?_)
    refine QT.bndR (a_signAt x1 σ (by omega) hn2) (fun v _ => ?_)
    dsimp only
    refine QT.bndR (a_isDigit v σ) (fun d _ => ?_)
    dsimp only
    refine QT.ite (fun _ => fin) (fun _ => ?_)
    refine QT.ite (fun _ => ih (m + 1) (x1 + 1) (x2 + 1) σ hT hn hn2 (by omega) (by omega) (by omega) h4 h10 h11) (fun _ => ?_)
    refine QT.bndR (a_signAt x1 σ (by omega) hn2) (fun w _ => ?_)
    exact ih (m + 1) (x1 + 1) (x2 + 1) _ hT hn hn2 (by omega) (by omega) (by omega) h4 h10 h11
theorem pa_scanNumber (σ : ST) (s : Nat) (h5 : (σ.1 2 5).toInt = s) (hs : s < 1000) (hn2 : bI (σ.1 2 2) 0 1000) : QT (f_X6_scanNumber σ) (fun t => TWA (σ.1 1) (σ.1 2 2).toInt s t) := by
  unfold f_X6_scanNumber
  have l0 := li_0
  have l1 := li_1
  have l45 := li_45
  have l5 := li_5
  have e1 := il_addE (x := σ.1 2 5) (y := 1) (by omega) (by omega)
  have ns : (σ.1 2 5).toNatClampNeg = s := nC h5
  refine QT.bndR (a_signAt (σ.1 2 5) σ (by omega) hn2) (fun v hv => ?_)
  dsimp only
  rw [ns] at hv
  have hv1 := hv.1
  have hsg := sg_eq (T := σ.1 1) (n := (σ.1 2 2).toInt) (k := s)
  have run : ∀ y0 : Int32, (y0.toInt = 1 ∧ bt (σ.1 1) (σ.1 2 2).toInt s = 45 ∨ y0.toInt = 0 ∧ ¬ bt (σ.1 1) (σ.1 2 2).toInt s = 45) → QT (f_X6_scanNumber_19 y0 σ) (fun t => TWA (σ.1 1) (σ.1 2 2).toInt s t) := fun y0 hy => by
    unfold f_X6_scanNumber_19 f_X6_scanNumber_62
    refine QT.grd (fun _ => ?_)
    have fin : ∀ t : ST, TWN (σ.1 1) (σ.1 2 2).toInt t ∧ t.1 2 9 = y0 → TWA (σ.1 1) (σ.1 2 2).toInt s t := fun t ht => by
      obtain ⟨⟨t1, t2⟩, t3⟩ := ht
      refine ⟨fun h => by omega, fun h => ⟨by rw [t3]; exact hy, t2 h⟩⟩
    refine QT.ite (fun _ => ?_) (fun _ => ?_)
    · refine (pa_scanNumber_65 (σ.1 1) (σ.1 2 2).toInt s (by omega) FU 0 (σ.1 2 5) 0 (stI (stL (stI (stI (stI σ 2 9 y0) 2 10 0) 2 11 0) 2 8 0) 2 4 1) rfl rfl hn2 (by omega) l0 (by omega) l1 l0 rfl).mono (fun t ht => fin t ht)
    · refine (pa_scanNumber_65 (σ.1 1) (σ.1 2 2).toInt (s + 1) (by omega) FU 0 (σ.1 2 5 + 1) 0 (stI (stL (stI (stI (stI σ 2 9 y0) 2 10 0) 2 11 0) 2 8 0) 2 4 1) rfl rfl hn2 (by omega) l0 (by omega) l1 l0 rfl).mono (fun t ht => fin t ht)
  exact QT.ieq (fun _ => run 1 (.inl ⟨l1, by omega⟩)) (fun _ => run 0 (.inr ⟨l0, by omega⟩))
theorem TWA.no {T : Nat → Int32} {n : Int} {s : Nat} {t : ST} (h4 : ¬ (t.1 2 4).toInt = 4) (h5 : ¬ (t.1 2 4).toInt = 5) : TWA T n s t := ⟨fun h => absurd h h5, fun h => absurd h h4⟩
theorem pa_advance_50 (σ : ST) (s : Nat) (hT8 : ∀ i, bI (σ.1 1 i) (-128) 127) (h3 : (σ.1 2 3).toInt = s) (hn2 : bI (σ.1 2 2) 0 1000) : QT (f_X6_advance_50 σ) (fun t => TWA (σ.1 1) (σ.1 2 2).toInt s t ∧ (t.1 2 5).toInt = s) := by
  unfold f_X6_advance_50 f_X6_advance_113 f_X6_advance_169
  have l0 := li_0
  have l1 := li_1
  have hn2' := hn2
  obtain ⟨n1, n2⟩ := hn2'
  have e5 : (stI σ 2 5 (σ.1 2 3)).1 2 5 = σ.1 2 3 := rfl
  have c1 : (stI σ 2 5 (σ.1 2 3)).1 1 = σ.1 1 := rfl
  have c2 : (stI σ 2 5 (σ.1 2 3)).1 2 2 = σ.1 2 2 := rfl
  rw [e5]
  generalize stI σ 2 5 (σ.1 2 3) = z at e5 c1 c2 ⊢
  have z5 : (z.1 2 5).toInt = s := by rw [e5]; exact h3
  have hz2 : bI (z.1 2 2) 0 1000 := by rw [c2]; exact hn2
  refine QT.bndR (a_signAt (σ.1 2 3) z (by omega) hz2) (fun v hv => ?_)
  dsimp only
  refine QT.ilt (fun hlt => ?_) (fun _ => QT.ret ⟨TWA.no (by rw [show (stI z 2 4 0).1 2 4 = 0 from rfl]; omega) (by rw [show (stI z 2 4 0).1 2 4 = 0 from rfl]; omega), z5⟩)
  have hs : s < 1000 := by
    rw [c2] at hlt
    omega
  have num : QT ((f_X6_scanNumber z).bind fun q1 => some q1) (fun t => TWA (σ.1 1) (σ.1 2 2).toInt s t ∧ (t.1 2 5).toInt = s) := by
    refine QT.bnd (Q := fun t => TWA (σ.1 1) (σ.1 2 2).toInt s t ∧ (t.1 2 5).toInt = s) (fun q e => ⟨?_, ?_⟩) (fun q hq => QT.ret hq)
    · have := pa_scanNumber z s z5 hs hz2 q e
      rw [c1, c2] at this
      exact this
    · have := QT.ok (a_scanNumber z s z5 hs hz2) q e
      rw [this.2.1]
      exact z5
  have sgn : ∀ c : Int32, ¬ c.toInt = 4 → ¬ c.toInt = 5 → QT (some (stI (stI z 2 4 c) 2 3 (((stI z 2 4 c).1 2 5) + 1))) (fun t => TWA (σ.1 1) (σ.1 2 2).toInt s t ∧ (t.1 2 5).toInt = s) := fun c h4 h5 => QT.ret ⟨TWA.no h4 h5, z5⟩
  refine QT.bndR (a_isLetter v z) (fun d _ => ?_)
  dsimp only
  refine QT.ite (fun _ => ?_) (fun _ => ?_)
  · refine QT.ite (fun _ => num) (fun _ => ?_)
    refine QT.bndR (a_isDigit v z) (fun d2 _ => ?_)
    dsimp only
    refine QT.ite (fun _ => ?_) (fun _ => num)
    refine QT.ite (fun _ => ?_) (fun _ => ?_)
    · refine QT.bnd (Q := fun t => TWA (σ.1 1) (σ.1 2 2).toInt s t ∧ (t.1 2 5).toInt = s) (fun q e => ⟨?_, ?_⟩) (fun q hq => QT.ret hq)
      · have := pa_scanLettered z s (by rw [c1]; exact hT8) z5 hs hz2 q e
        rw [c1, c2] at this
        exact this
      · have := QT.ok (a_scanLettered z s (by rw [c1]; exact hT8) z5 hs hz2) q e
        rw [this.2.1]
        exact z5
    have l123 := li_123
    have l125 := li_125
    have l91 := li_91
    have l93 := li_93
    have l44 := li_44
    have l59 := li_59
    refine QT.ieq (fun _ => sgn v (by omega) (by omega)) (fun _ => ?_)
    refine QT.ieq (fun _ => sgn v (by omega) (by omega)) (fun _ => ?_)
    refine QT.ieq (fun _ => sgn v (by omega) (by omega)) (fun _ => ?_)
    refine QT.ieq (fun _ => sgn v (by omega) (by omega)) (fun _ => ?_)
    refine QT.ieq (fun _ => sgn v (by omega) (by omega)) (fun _ => ?_)
    refine QT.ieq (fun _ => sgn v (by omega) (by omega)) (fun _ => ?_)
    exact QT.ret ⟨TWA.no (by rw [show (stI z 2 4 1).1 2 4 = 1 from rfl]; omega) (by rw [show (stI z 2 4 1).1 2 4 = 1 from rfl]; omega), z5⟩
  · refine QT.bnd (QT.ok (a_scanWord z s (by rw [c1]; exact hT8) z5 (by omega) hz2)) (fun q hq => QT.ret ?_)
    obtain ⟨_, q5, hq⟩ := hq
    have h4 : (q.1 2 4).toInt = 2 ∨ (q.1 2 4).toInt = 3 ∨ (q.1 2 4).toInt = 1 := by
      rcases hq with ⟨m, _, _, _, _, h | h⟩ | h
      · exact .inl h.1
      · exact .inr (.inl h.1)
      · exact .inr (.inr h.2)
    exact ⟨TWA.no (by omega) (by omega), by rw [q5]; exact z5⟩
theorem pa_advance_0 : ∀ (f k : Nat) (σ : ST), (∀ i, bI (σ.1 1 i) (-128) 127) → bI (σ.1 2 2) 0 1000 → (σ.1 2 3).toInt = k → k ≤ 1100 → QT (f_X6_advance_0 f σ) (fun t => ∃ s : Nat, TWA (σ.1 1) (σ.1 2 2).toInt s t ∧ (t.1 2 5).toInt = s) := by
  intro f
  have l1 := li_1
  induction f with
  | zero => intro k σ _ _ _ _; exact QT.none
  | succ f ih =>
    intro k σ hT8 hn2 h3 hk
    rw [f_X6_advance_0]
    unfold f_X6_advance_37
    have hn2' := hn2
    obtain ⟨n1, n2⟩ := hn2'
    have fin : QT (f_X6_advance_50 σ) (fun t => ∃ s : Nat, TWA (σ.1 1) (σ.1 2 2).toInt s t ∧ (t.1 2 5).toInt = s) := (pa_advance_50 σ k hT8 h3 hn2).mono (fun t ht => ⟨k, ht⟩)
    refine QT.ile (fun _ => fin) (fun hlt => ?_)
    have e3 := il_addE (x := σ.1 2 3) (y := 1) (by omega) (by omega)
    have nx : QT (f_X6_advance_0 f (stI σ 2 3 (σ.1 2 3 + 1))) (fun t => ∃ s : Nat, TWA (σ.1 1) (σ.1 2 2).toInt s t ∧ (t.1 2 5).toInt = s) := ih (k + 1) (stI σ 2 3 (σ.1 2 3 + 1)) hT8 hn2 (by show (σ.1 2 3 + 1).toInt = _; omega) (by omega)
    refine QT.bndR (a_signAt (σ.1 2 3) σ (by omega) hn2) (fun v _ => ?_)
    dsimp only
    refine QT.ite (fun _ => nx) (fun _ => ?_)
    refine QT.bndR (a_signAt (σ.1 2 3) σ (by omega) hn2) (fun w _ => ?_)
    dsimp only
    exact QT.ite (fun _ => nx) (fun _ => fin)
theorem pa_advance (σ : ST) (k : Nat) (hT8 : ∀ i, bI (σ.1 1 i) (-128) 127) (hn2 : bI (σ.1 2 2) 0 1000) (h3 : (σ.1 2 3).toInt = k) (hk : k ≤ 1100) : QT (f_X6_advance σ) (fun t => ∃ s : Nat, TWA (σ.1 1) (σ.1 2 2).toInt s t ∧ (t.1 2 5).toInt = s) := pa_advance_0 FU k σ hT8 hn2 h3 hk
/-- the reference's token -/
def TWB (T : Nat → Int32) (n : Int) (s : Nat) (t : ST) : Prop := ((t.1 0 6).toInt = 3 → ∃ m, RUN isL T n (s + 1) m ∧ m ≤ 12 ∧ (t.1 0 8).toInt = m ∧ t.2.1 0 7 = w27 T (s + 1) m) ∧ ((t.1 0 6).toInt = 2 → (t.1 0 10).toInt = 1 → ∃ (W : Int64) (d : Int32), d.toInt = bt T n ((t.1 0 5).toNatClampNeg - 1) - 48 ∧ (bt T n s = 45 ∧ t.2.1 0 9 = -W ∧ t.2.2.1 0 11 = FP.dneg (DEC W d) ∨ ¬ bt T n s = 45 ∧ t.2.1 0 9 = W ∧ t.2.2.1 0 11 = DEC W d))
theorem TWB.no {T : Nat → Int32} {n : Int} {s : Nat} {t : ST} (h2 : ¬ (t.1 0 6).toInt = 2) (h3 : ¬ (t.1 0 6).toInt = 3) : TWB T n s t := ⟨fun h => absurd h h3, fun h => absurd h h2⟩
theorem kb_byteAt (p : Int32) (σ : ST) : QT (f_X11_byteAt p σ) (fun q => q.2 = σ) := by
  unfold f_X11_byteAt
  refine QT.ite (fun _ => ?_) (fun _ => ?_)
  · first | exact QT.ret rfl | exact QT.grd (fun _ => QT.ret rfl)
  · first | exact QT.ret rfl | exact QT.grd (fun _ => QT.ret rfl)
theorem pb_262 (x1 x3 : Int32) (σ : ST) : QT (f_X11_number_262 x1 x3 σ) (fun t => t.2.2.1 = σ.2.2.1 ∧ t.1 0 5 = σ.1 0 5 ∧ t.1 0 10 = σ.1 0 10 ∧ t.2.1 0 9 = (if x1 = 0 then σ.2.1 0 9 else -(σ.2.1 0 9)) ∧ ((t.1 0 6).toInt = 2 ∨ (t.1 0 6).toInt = 5)) := by
  unfold f_X11_number_262 f_X11_number_279 f_X11_number_292
  have l2 := li_2
  have l5 := li_5
  refine QT.ite (fun h => ?_) (fun h => ?_)
  · rw [if_pos h]
    exact QT.ite (fun _ => QT.ret ⟨rfl, rfl, rfl, stL_at', .inr l5⟩) (fun _ => QT.ret ⟨rfl, rfl, rfl, stL_at', .inl l2⟩)
  · rw [if_neg h]
    exact QT.ite (fun _ => QT.ret ⟨rfl, rfl, rfl, stL_at', .inr l5⟩) (fun _ => QT.ret ⟨rfl, rfl, rfl, stL_at', .inl l2⟩)
theorem pb_225 (x1 x3 : Int32) (y0 : UInt64) (σ : ST) : QT (f_X11_number_225 x1 x3 y0 σ) (fun t => t.2.2.1 0 11 = y0 ∧ t.1 0 5 = σ.1 0 5 + 2 ∧ t.1 0 10 = σ.1 0 10 ∧ t.2.1 0 9 = (if x1 = 0 then σ.2.1 0 9 else -(σ.2.1 0 9)) ∧ ((t.1 0 6).toInt = 2 ∨ (t.1 0 6).toInt = 5)) := by
  unfold f_X11_number_225 f_X11_number_260 f_X11_number_261
  have d1 : (stI (stD σ 0 11 y0) 0 5 (((stD σ 0 11 y0).1 0 5) + 2)).2.2.1 0 11 = y0 := stD_at
  have d2 : (stI (stD σ 0 11 y0) 0 5 (((stD σ 0 11 y0).1 0 5) + 2)).1 0 5 = σ.1 0 5 + 2 := rfl
  have d3 : (stI (stD σ 0 11 y0) 0 5 (((stD σ 0 11 y0).1 0 5) + 2)).1 0 10 = σ.1 0 10 := rfl
  have d4 : (stI (stD σ 0 11 y0) 0 5 (((stD σ 0 11 y0).1 0 5) + 2)).2.1 = σ.2.1 := rfl
  generalize stI (stD σ 0 11 y0) 0 5 (((stD σ 0 11 y0).1 0 5) + 2) = z at d1 d2 d3 d4 ⊢
  have run : ∀ x : Int32, QT (f_X11_number_262 x1 x z) (fun t => t.2.2.1 0 11 = y0 ∧ t.1 0 5 = σ.1 0 5 + 2 ∧ t.1 0 10 = σ.1 0 10 ∧ t.2.1 0 9 = (if x1 = 0 then σ.2.1 0 9 else -(σ.2.1 0 9)) ∧ ((t.1 0 6).toInt = 2 ∨ (t.1 0 6).toInt = 5)) := fun x => (pb_262 x1 x z).mono (fun t ht => by
    obtain ⟨t1, t2, t3, t4, t5⟩ := ht
    rw [t1, t2, t3, t4, d4]
    exact ⟨d1, d2, d3, rfl, t5⟩)
  refine QT.ite (fun _ => run 0) (fun _ => ?_)
  have hb : QT (f_X11_byteAt (z.1 0 5) z) (fun q => q.2 = z) := by
    exact kb_byteAt _ _
  refine QT.bnd hb (fun q hq => ?_)
  rw [hq]
  refine QT.bndR (b_isDigit _ z) (fun d _ => ?_)
  dsimp only
  exact QT.ite (fun _ => run 1) (fun _ => run 0)
theorem pb_170 (T : Nat → Int32) (n : Int) (x1 x3 y0 : Int32) (σ : ST) (hT : σ.1 1 = T) (hn : (σ.1 0 3).toInt = n) (hn2 : bI (σ.1 0 3) 0 1000) (h5 : 0 ≤ (σ.1 0 5).toInt ∧ (σ.1 0 5).toInt ≤ 2000) : QT (f_X11_number_170 x1 x3 y0 σ) (fun t => ((t.1 0 6).toInt = 2 ∨ (t.1 0 6).toInt = 5) ∧ ((t.1 0 10).toInt = 1 → ∃ (W : Int64) (d : Int32), d.toInt = bt T n ((t.1 0 5).toNatClampNeg - 1) - 48 ∧ (¬ x1 = 0 ∧ t.2.1 0 9 = -W ∧ t.2.2.1 0 11 = FP.dneg (DEC W d) ∨ x1 = 0 ∧ t.2.1 0 9 = W ∧ t.2.2.1 0 11 = DEC W d))) := by
  unfold f_X11_number_170
  have l0 := li_0
  have l1 := li_1
  have l2 := li_2
  have l48 := li_48
  refine QT.grd (fun hy => ?_)
  have e10 : (stI σ 0 10 y0).1 0 10 = y0 := rfl
  have e5 : (stI σ 0 10 y0).1 0 5 = σ.1 0 5 := rfl
  have c1 : (stI σ 0 10 y0).1 1 = T := hT
  have c3 : (stI σ 0 10 y0).1 0 3 = σ.1 0 3 := rfl
  generalize stI σ 0 10 y0 = z at e10 e5 c1 c3 ⊢
  have hz3 : bI (z.1 0 3) 0 1000 := by rw [c3]; exact hn2
  refine QT.ieq (fun hz0 => ?_) (fun hz0 => ?_)
  · refine (pb_262 x1 x3 z).mono (fun t ht => ⟨ht.2.2.2.2, fun h => ?_⟩)
    rw [ht.2.2.1] at h
    omega
  have a1 := il_addE (x := z.1 0 5) (y := 1) (by rw [e5]; omega) (by rw [e5]; omega)
  have a2 := il_addE (x := z.1 0 5) (y := 2) (by rw [e5]; omega) (by rw [e5]; omega)
  rw [e5] at a1 a2
  refine QT.bndR (b_byteAt (z.1 0 5 + 1) z (by rw [e5]; omega) hz3) (fun v hv => ?_)
  dsimp only
  refine QT.grd (fun _ => ?_)
  refine QT.grd (fun _ => ?_)
  refine QT.lt (fun w hw => ?_)
  have w11 : w.2.2.1 0 11 = DEC (z.2.1 0 9) (v - 48) := by
    rw [hw]
    exact stD_at
  have w9 : w.2.1 0 9 = z.2.1 0 9 := by rw [hw]; rfl
  have w5' : w.1 0 5 = z.1 0 5 := by rw [hw]; rfl
  clear hw
  have hv1 := hv.1
  rw [c1, c3, hn] at hv1
  have hr := bt_rng (T := T) (n := n) (k := (z.1 0 5 + 1).toNatClampNeg)
  have n1 : (z.1 0 5 + 1).toNatClampNeg = (z.1 0 5 + 2).toNatClampNeg - 1 := by
    have a := nN_ (x := z.1 0 5 + 1) (by rw [e5]; omega)
    have b := nN_ (x := z.1 0 5 + 2) (by rw [e5]; omega)
    rw [e5] at a b ⊢
    omega
  have hd : (v - 48).toInt = bt T n ((z.1 0 5 + 2).toNatClampNeg - 1) - 48 := by
    rw [← n1, il_subE (by omega) (by omega), hv1]
    omega
  refine QT.ite (fun hx => ?_) (fun hx => ?_)
  · refine (pb_225 x1 x3 (w.2.2.1 0 11) w).mono (fun t ht => ⟨ht.2.2.2.2, fun _ => ⟨z.2.1 0 9, v - 48, ?_, .inr ⟨hx, ?_, ?_⟩⟩⟩)
    · rw [ht.2.1, w5']
      exact hd
    · rw [ht.2.2.2.1, if_pos hx, w9]
    · rw [ht.1, w11]
  · refine (pb_225 x1 x3 (FP.dneg (w.2.2.1 0 11)) w).mono (fun t ht => ⟨ht.2.2.2.2, fun _ => ⟨z.2.1 0 9, v - 48, ?_, .inl ⟨hx, ?_, ?_⟩⟩⟩)
    · rw [ht.2.1, w5']
      exact hd
    · rw [ht.2.2.2.1, if_neg hx, w9]
    · rw [ht.1, w11]
theorem pb_47 (T : Nat → Int32) (n : Int) (x1 x2 : Int32) : ∀ (f k : Nat) (σ : ST), σ.1 1 = T → (σ.1 0 3).toInt = n → bI (σ.1 0 3) 0 1000 → (σ.1 0 5).toInt = k → k ≤ 1001 → QT (f_X11_number_47 f x1 x2 σ) (fun t => ((t.1 0 6).toInt = 2 ∨ (t.1 0 6).toInt = 5) ∧ ((t.1 0 10).toInt = 1 → ∃ (W : Int64) (d : Int32), d.toInt = bt T n ((t.1 0 5).toNatClampNeg - 1) - 48 ∧ (¬ x1 = 0 ∧ t.2.1 0 9 = -W ∧ t.2.2.1 0 11 = FP.dneg (DEC W d) ∨ x1 = 0 ∧ t.2.1 0 9 = W ∧ t.2.2.1 0 11 = DEC W d))) := by
  intro f
  have l1 := li_1
  induction f with
  | zero => intro k σ _ _ _ _ _; exact QT.none
  | succ f ih =>
    intro k σ hT hn hn2 h5 hk
    rw [f_X11_number_47]
    unfold f_X11_number_102
    have hn2' := hn2
    obtain ⟨n1, n2⟩ := hn2'
    have nk : (σ.1 0 5).toNatClampNeg = k := nC h5
    have e5 := il_addE (x := σ.1 0 5) (y := 1) (by omega) (by omega)
    have fin : ∀ y0 : Int32, QT (f_X11_number_134 x1 y0 σ) (fun t => ((t.1 0 6).toInt = 2 ∨ (t.1 0 6).toInt = 5) ∧ ((t.1 0 10).toInt = 1 → ∃ (W : Int64) (d : Int32), d.toInt = bt T n ((t.1 0 5).toNatClampNeg - 1) - 48 ∧ (¬ x1 = 0 ∧ t.2.1 0 9 = -W ∧ t.2.2.1 0 11 = FP.dneg (DEC W d) ∨ x1 = 0 ∧ t.2.1 0 9 = W ∧ t.2.2.1 0 11 = DEC W d))) := fun y0 => by
      unfold f_X11_number_134 f_X11_number_169
      have r170 := fun y => pb_170 T n x1 y0 y σ hT hn hn2 ⟨by omega, by omega⟩
      refine QT.bndR (b_byteAt (σ.1 0 5) σ (by omega) hn2) (fun v _ => ?_)
      dsimp only
      refine QT.ite (fun _ => ?_) (fun _ => r170 0)
      refine QT.bndR (b_byteAt (σ.1 0 5 + 1) σ (by omega) hn2) (fun v _ => ?_)
      dsimp only
      refine QT.bndR (b_isDigit v σ) (fun d _ => ?_)
      dsimp only
      exact QT.ite (fun _ => r170 0) (fun _ => r170 1)
    refine QT.bndR (b_byteAt (σ.1 0 5) σ (by omega) hn2) (fun v hv => ?_)
    dsimp only
    refine QT.bndR (b_isDigit v σ) (fun d hd => ?_)
    dsimp only
    refine QT.ieq (fun _ => ?_) (fun hd0 => ?_)
    · exact QT.ite (fun _ => fin 0) (fun _ => fin 1)
    have hD : isD (bt T n k) := by
      rcases hd with hd | hd
      · have l0 := li_0
        omega
      · have := hv.1
        rw [hT, hn, nk] at this
        rw [← this]
        exact hd.2
    have hkn : (k : Int) < n := by
      have := (bt_rng (T := T) (n := n) (k := k)).2.2.mp (isD_0 _ hD)
      exact this
    have nx : ∀ y : Int64, QT (f_X11_number_47 f x1 x2 (stI (stL σ 0 9 y) 0 5 (((stL σ 0 9 y).1 0 5) + 1))) (fun t => ((t.1 0 6).toInt = 2 ∨ (t.1 0 6).toInt = 5) ∧ ((t.1 0 10).toInt = 1 → ∃ (W : Int64) (d : Int32), d.toInt = bt T n ((t.1 0 5).toNatClampNeg - 1) - 48 ∧ (¬ x1 = 0 ∧ t.2.1 0 9 = -W ∧ t.2.2.1 0 11 = FP.dneg (DEC W d) ∨ x1 = 0 ∧ t.2.1 0 9 = W ∧ t.2.2.1 0 11 = DEC W d))) := fun y => ih (k + 1) _ hT hn hn2 (by show (σ.1 0 5 + 1).toInt = _; omega) (by omega)
    refine QT.ite (fun _ => nx _) (fun _ => ?_)
    refine QT.bndR (b_byteAt (σ.1 0 5) σ (by omega) hn2) (fun w _ => ?_)
    exact nx _
theorem pb_number (σ : ST) (s : Nat) (hn2 : bI (σ.1 0 3) 0 1000) (h5 : (σ.1 0 5).toInt = s) (hs : s ≤ 1000) : QT (f_X11_number σ) (fun t => TWB (σ.1 1) (σ.1 0 3).toInt s t) := by
  unfold f_X11_number f_X11_number_18 f_X11_number_33
  have l0 := li_0
  have l1 := li_1
  have l45 := li_45
  have ns : (σ.1 0 5).toNatClampNeg = s := nC h5
  have e5 := il_addE (x := σ.1 0 5) (y := 1) (by omega) (by omega)
  have c0 : (σ.1 0 5 + 0).toInt = s := by rw [il_addE (by omega) (by omega)]; omega
  refine QT.bndR (b_byteAt (σ.1 0 5) σ (by omega) hn2) (fun v hv => ?_)
  dsimp only
  have hv1 := hv.1
  rw [ns] at hv1
  have fin : ∀ (x1 : Int32) (t : ST), (x1 = 0 ↔ ¬ bt (σ.1 1) (σ.1 0 3).toInt s = 45) → (((t.1 0 6).toInt = 2 ∨ (t.1 0 6).toInt = 5) ∧ ((t.1 0 10).toInt = 1 → ∃ (W : Int64) (d : Int32), d.toInt = bt (σ.1 1) (σ.1 0 3).toInt ((t.1 0 5).toNatClampNeg - 1) - 48 ∧ (¬ x1 = 0 ∧ t.2.1 0 9 = -W ∧ t.2.2.1 0 11 = FP.dneg (DEC W d) ∨ x1 = 0 ∧ t.2.1 0 9 = W ∧ t.2.2.1 0 11 = DEC W d))) → TWB (σ.1 1) (σ.1 0 3).toInt s t := fun x1 t hx ht => by
    refine ⟨fun h => by omega, fun _ h10 => ?_⟩
    obtain ⟨W, d, h1, h2⟩ := ht.2 h10
    refine ⟨W, d, h1, ?_⟩
    rcases h2 with ⟨a, b, c⟩ | ⟨a, b, c⟩
    · exact .inl ⟨Classical.byContradiction (fun h => a (hx.mpr h)), b, c⟩
    · exact .inr ⟨hx.mp a, b, c⟩
  have n01 : ¬ (1 : Int32) = 0 := by decide
  refine QT.ieq (fun hm => ?_) (fun hm => ?_)
  · rw [if_neg n01]
    refine (pb_47 (σ.1 1) (σ.1 0 3).toInt 1 _ FU (s + 1) (stL (stI σ 0 5 (σ.1 0 5 + 1)) 0 9 0) rfl rfl hn2 ?_ (by omega)).mono (fun t ht => fin 1 t ⟨fun h => absurd h n01, fun h => absurd (by omega) h⟩ ht)
    show (σ.1 0 5 + 1).toInt = _
    omega
  · rw [if_pos rfl]
    refine (pb_47 (σ.1 1) (σ.1 0 3).toInt 0 _ FU s (stL (stI σ 0 5 (σ.1 0 5 + 0)) 0 9 0) rfl rfl hn2 ?_ (by omega)).mono (fun t ht => fin 0 t ⟨fun _ h => hm (by omega), fun _ => rfl⟩ ht)
    show (σ.1 0 5 + 0).toInt = _
    exact c0
theorem pb_quoted (σ : ST) (s : Nat) (hn2 : bI (σ.1 0 3) 0 1000) (h5 : (σ.1 0 5).toInt = s) (hs : s < 1000) : QT (f_X11_quoted σ) (fun t => TWB (σ.1 1) (σ.1 0 3).toInt s t) := by
  unfold f_X11_quoted f_X11_quoted_42 f_X11_quoted_43 f_X11_quoted_64
  have l1 := li_1
  have l12 := li_12
  have l3 := li_3
  have l5 := li_5
  have e5 := il_addE (x := σ.1 0 5) (y := 1) (by omega) (by omega)
  have hn2' := hn2
  obtain ⟨n1, n2⟩ := hn2'
  have bad : ∀ z : ST, TWB (σ.1 1) (σ.1 0 3).toInt s (stI (stI z 0 5 (z.1 0 5 + 1)) 0 6 5) := fun z => TWB.no (by rw [show (stI (stI z 0 5 (z.1 0 5 + 1)) 0 6 5).1 0 6 = 5 from rfl]; omega) (by rw [show (stI (stI z 0 5 (z.1 0 5 + 1)) 0 6 5).1 0 6 = 5 from rfl]; omega)
  refine QT.bnd (QT.ok (b_word 12 (stI σ 0 5 (σ.1 0 5 + 1)) (by omega) (s + 1) ⟨n1, n2⟩ (by show (σ.1 0 5 + 1).toInt = _; omega) (by omega))) (fun q hq => ?_)
  obtain ⟨qc, m, m1, m2, m3, m4⟩ := hq
  rw [if_pos rfl]
  refine QT.ilt (fun _ => QT.ret (bad q)) (fun h12 => ?_)
  have hb : QT (f_X11_byteAt (q.1 0 5) q) (fun z => z.2 = q) := by
    exact kb_byteAt _ _
  refine QT.bnd hb (fun z hz => ?_)
  rw [hz]
  refine QT.ite (fun _ => ?_) (fun _ => QT.ret (bad q))
  have n01 : ¬ (1 : Int32) = 0 := by decide
  rw [if_neg n01]
  refine QT.ret ⟨fun _ => ⟨m, m1, by omega, m3, ?_⟩, fun h => ?_⟩
  · show q.2.1 0 7 = _
    have e : min m (12 : Int32).toInt.toNat = m := by omega
    rw [m4, e]
    rfl
  · have e : (stI (stI q 0 5 (q.1 0 5 + 1)) 0 6 3).1 0 6 = 3 := rfl
    rw [e] at h
    omega
theorem kb_262 (x1 x3 : Int32) (σ : ST) : QT (f_X11_number_262 x1 x3 σ) (fun t => t.1 0 4 = σ.1 0 4) := by
  unfold f_X11_number_262 f_X11_number_279 f_X11_number_292
  refine QT.ite (fun _ => ?_) (fun _ => ?_)
  · exact QT.ite (fun _ => QT.ret rfl) (fun _ => QT.ret rfl)
  · exact QT.ite (fun _ => QT.ret rfl) (fun _ => QT.ret rfl)
theorem kb_225 (x1 x3 : Int32) (y0 : UInt64) (σ : ST) : QT (f_X11_number_225 x1 x3 y0 σ) (fun t => t.1 0 4 = σ.1 0 4) := by
  unfold f_X11_number_225 f_X11_number_260 f_X11_number_261
  refine QT.ite (fun _ => kb_262 _ _ _) (fun _ => ?_)
  refine QT.bnd (kb_byteAt _ _) (fun q hq => ?_)
  rw [hq]
  refine QT.bndR (b_isDigit _ _) (fun d _ => ?_)
  dsimp only
  exact QT.ite (fun _ => kb_262 _ _ _) (fun _ => kb_262 _ _ _)
theorem kb_170 (x1 x3 y0 : Int32) (σ : ST) : QT (f_X11_number_170 x1 x3 y0 σ) (fun t => t.1 0 4 = σ.1 0 4) := by
  unfold f_X11_number_170
  refine QT.grd (fun _ => ?_)
  refine QT.ite (fun _ => kb_262 _ _ _) (fun _ => ?_)
  refine QT.bnd (kb_byteAt _ _) (fun q hq => ?_)
  rw [hq]
  refine QT.grd (fun _ => ?_)
  refine QT.grd (fun _ => ?_)
  refine QT.lt (fun w hw => ?_)
  have e : w.1 0 4 = σ.1 0 4 := by rw [hw]; rfl
  refine QT.ite (fun _ => (kb_225 _ _ _ w).mono (fun t ht => ht.trans e)) (fun _ => (kb_225 _ _ _ w).mono (fun t ht => ht.trans e))
theorem kb_47 (x1 x2 : Int32) : ∀ (f : Nat) (σ : ST), QT (f_X11_number_47 f x1 x2 σ) (fun t => t.1 0 4 = σ.1 0 4) := by
  intro f
  induction f with
  | zero => intro σ; exact QT.none
  | succ f ih =>
    intro σ
    rw [f_X11_number_47]
    unfold f_X11_number_102
    have fin : ∀ y0 : Int32, QT (f_X11_number_134 x1 y0 σ) (fun t => t.1 0 4 = σ.1 0 4) := fun y0 => by
      unfold f_X11_number_134 f_X11_number_169
      refine QT.bnd (kb_byteAt _ _) (fun q hq => ?_)
      rw [hq]
      refine QT.ite (fun _ => ?_) (fun _ => kb_170 _ _ _ _)
      refine QT.bnd (kb_byteAt _ _) (fun q2 hq2 => ?_)
      rw [hq2]
      refine QT.bndR (b_isDigit _ _) (fun d _ => ?_)
      dsimp only
      exact QT.ite (fun _ => kb_170 _ _ _ _) (fun _ => kb_170 _ _ _ _)
    refine QT.bnd (kb_byteAt _ _) (fun q hq => ?_)
    rw [hq]
    refine QT.bndR (b_isDigit _ _) (fun d _ => ?_)
    dsimp only
    refine QT.ite (fun _ => ?_) (fun _ => ?_)
    · exact QT.ite (fun _ => fin 0) (fun _ => fin 1)
    · refine QT.ite (fun _ => ih _) (fun _ => ?_)
      refine QT.bnd (kb_byteAt _ _) (fun q2 hq2 => ?_)
      rw [hq2]
      exact ih _
theorem kb_number (σ : ST) : QT (f_X11_number σ) (fun t => t.1 0 4 = σ.1 0 4) := by
  unfold f_X11_number f_X11_number_18 f_X11_number_33
  refine QT.bnd (kb_byteAt _ _) (fun q hq => ?_)
  rw [hq]
  refine QT.ite (fun _ => ?_) (fun _ => ?_)
  · exact QT.ite (fun _ => kb_47 _ _ FU _) (fun _ => kb_47 _ _ FU _)
  · exact QT.ite (fun _ => kb_47 _ _ FU _) (fun _ => kb_47 _ _ FU _)
theorem pb_go_0 : ∀ (f k : Nat) (σ : ST), bI (σ.1 0 3) 0 1000 → (σ.1 0 5).toInt = k → k ≤ 1100 → QT (f_X11_go_0 f σ) (fun t => ∃ s : Nat, TWB (σ.1 1) (σ.1 0 3).toInt s t ∧ (t.1 0 4).toInt = s) := by
  intro f
  have l0 := li_0
  have l1 := li_1
  have l4 := li_4
  have l5 := li_5
  have l34 := li_34
  have l32 := li_32
  have l10 := li_10
  induction f with
  | zero => intro k σ _ _ _; exact QT.none
  | succ f ih =>
    intro k σ hn2 h5 hk
    rw [f_X11_go_0]
    unfold f_X11_go_26 f_X11_go_101 f_X11_go_136 f_X11_go_143 f_X11_go_169 f_X11_go_185
    have hn2' := hn2
    obtain ⟨n1, n2⟩ := hn2'
    have nk : (σ.1 0 5).toNatClampNeg = k := nC h5
    have e5 := il_addE (x := σ.1 0 5) (y := 1) (by omega) (by omega)
    refine QT.bndR (b_byteAt (σ.1 0 5) σ (by omega) hn2) (fun v hv => ?_)
    dsimp only
    have hv1 := hv.1
    rw [nk] at hv1
    have hr := bt_rng (T := σ.1 1) (n := (σ.1 0 3).toInt) (k := k)
    have nx : (0 ≤ bt (σ.1 1) (σ.1 0 3).toInt k) → QT (f_X11_go_0 f (stI σ 0 5 (σ.1 0 5 + 1))) (fun t => ∃ s : Nat, TWB (σ.1 1) (σ.1 0 3).toInt s t ∧ (t.1 0 4).toInt = s) := fun h0 => by
      have := hr.2.2.mp h0
      exact ih (k + 1) (stI σ 0 5 (σ.1 0 5 + 1)) hn2 (by show (σ.1 0 5 + 1).toInt = _; omega) (by omega)
    refine QT.ieq (fun _ => nx (by omega)) (fun _ => ?_)
    refine QT.bndR (b_byteAt (σ.1 0 5) σ (by omega) hn2) (fun v2 hv2 => ?_)
    dsimp only
    have hv3 := hv2.1
    rw [nk] at hv3
    refine QT.ieq (fun _ => nx (by omega)) (fun _ => ?_)
    have z5 : (stI σ 0 4 (σ.1 0 5)).1 0 5 = σ.1 0 5 := rfl
    have z4 : (stI σ 0 4 (σ.1 0 5)).1 0 4 = σ.1 0 5 := rfl
    have z3 : (stI σ 0 4 (σ.1 0 5)).1 0 3 = σ.1 0 3 := rfl
    have z1 : (stI σ 0 4 (σ.1 0 5)).1 1 = σ.1 1 := rfl
    generalize stI σ 0 4 (σ.1 0 5) = z at z5 z4 z3 z1 ⊢
    refine QT.bndR (b_byteAt (z.1 0 5) z (by rw [z5]; omega) (by rw [z3]; exact hn2)) (fun v4 hv4 => ?_)
    dsimp only
    have hv5 := hv4.1
    rw [z5, nk, z1, z3] at hv5
    have y5 : (stI z 0 13 0).1 0 5 = σ.1 0 5 := z5
    have y4 : (stI z 0 13 0).1 0 4 = σ.1 0 5 := z4
    have y3 : (stI z 0 13 0).1 0 3 = σ.1 0 3 := z3
    have y1 : (stI z 0 13 0).1 1 = σ.1 1 := z1
    generalize stI z 0 13 0 = y at y5 y4 y3 y1 ⊢
    have hy5 : (y.1 0 5).toInt = k := by rw [y5]; exact h5
    have hy4 : (y.1 0 4).toInt = k := by rw [y4]; exact h5
    have hy3 : bI (y.1 0 3) 0 1000 := by rw [y3]; exact hn2
    refine QT.ile (fun h0 => ?_) (fun _ => QT.ret ⟨k, TWB.no (by rw [show (stI y 0 6 0).1 0 6 = 0 from rfl]; omega) (by rw [show (stI y 0 6 0).1 0 6 = 0 from rfl]; omega), hy4⟩)
    have hkn := hr.2.2.mp (by omega)
    have num : QT ((f_X11_number y).bind fun q1 => some q1) (fun t => ∃ s : Nat, TWB (σ.1 1) (σ.1 0 3).toInt s t ∧ (t.1 0 4).toInt = s) := by
      refine QT.bnd (Q := fun t => TWB (σ.1 1) (σ.1 0 3).toInt k t ∧ (t.1 0 4).toInt = k) (fun q e => ⟨?_, ?_⟩) (fun q hq => QT.ret ⟨k, hq⟩)
      · have := pb_number y k hy3 hy5 (by omega) q e
        rw [y1, y3] at this
        exact this
      · have hc : QT (f_X11_number y) (fun t => t.1 0 4 = y.1 0 4) := kb_number y
        rw [hc q e]
        exact hy4
    have s143 : QT (if v4 = 34 then ((f_X11_quoted y).bind fun q3 => some q3) else ((f_X11_isSign v4 y).bind fun q1 => if q1.1 = 0 then (if ((stI q1.2 0 13 0).1 0 13) ≤ 0 then some (stI (stI (stI q1.2 0 13 0) 0 6 5) 0 5 (((stI (stI q1.2 0 13 0) 0 6 5).1 0 5) + 1)) else some (stI (stI (stI q1.2 0 13 0) 0 6 4) 0 5 (((stI (stI q1.2 0 13 0) 0 6 4).1 0 5) + 1))) else (if ((stI q1.2 0 13 v4).1 0 13) ≤ 0 then some (stI (stI (stI q1.2 0 13 v4) 0 6 5) 0 5 (((stI (stI q1.2 0 13 v4) 0 6 5).1 0 5) + 1)) else some (stI (stI (stI q1.2 0 13 v4) 0 6 4) 0 5 (((stI (stI q1.2 0 13 v4) 0 6 4).1 0 5) + 1))))) (fun t => ∃ s : Nat, TWB (σ.1 1) (σ.1 0 3).toInt s t ∧ (t.1 0 4).toInt = s) := by
      refine QT.ite (fun _ => ?_) (fun _ => ?_)
      · refine QT.bnd (Q := fun t => TWB (σ.1 1) (σ.1 0 3).toInt k t ∧ (t.1 0 4).toInt = k) (fun q e => ⟨?_, ?_⟩) (fun q hq => QT.ret ⟨k, hq⟩)
        · have := pb_quoted y k hy3 hy5 (by omega) q e
          rw [y1, y3] at this
          exact this
        · have := QT.ok (b_quoted y k hy3 hy5 (by omega)) q e
          rw [this.1.2.1 4 (by decide)]
          exact hy4
      · have hs : QT (f_X11_isSign v4 y) (fun q => q.2 = y) := by
          unfold f_X11_isSign f_X11_isSign_36
          refine QT.ite (fun _ => QT.ret rfl) (fun _ => ?_)
          refine QT.ite (fun _ => QT.ret rfl) (fun _ => ?_)
          refine QT.ite (fun _ => QT.ret rfl) (fun _ => ?_)
          refine QT.ite (fun _ => QT.ret rfl) (fun _ => ?_)
          refine QT.ite (fun _ => QT.ret rfl) (fun _ => ?_)
          exact QT.ite (fun _ => QT.ret rfl) (fun _ => QT.ret rfl)
        refine QT.bnd hs (fun q hq => ?_)
        rw [hq]
        have f6 : ∀ (a b : Int32) (c : Int32), ¬ b.toInt = 2 → ¬ b.toInt = 3 → QT (some (stI (stI (stI y 0 13 a) 0 6 b) 0 5 c)) (fun t => ∃ s : Nat, TWB (σ.1 1) (σ.1 0 3).toInt s t ∧ (t.1 0 4).toInt = s) := fun a b c h2 h3 => QT.ret ⟨k, TWB.no h2 h3, hy4⟩
        refine QT.ite (fun _ => ?_) (fun _ => ?_)
        · exact QT.ite (fun _ => f6 _ _ _ (by omega) (by omega)) (fun _ => f6 _ _ _ (by omega) (by omega))
        · exact QT.ite (fun _ => f6 _ _ _ (by omega) (by omega)) (fun _ => f6 _ _ _ (by omega) (by omega))
    refine QT.bndR (b_isLetter v4 y) (fun d _ => ?_)
    dsimp only
    refine QT.ite (fun _ => ?_) (fun _ => ?_)
    · refine QT.bndR (b_isDigit v4 y) (fun d2 _ => ?_)
      dsimp only
      refine QT.ite (fun _ => ?_) (fun _ => num)
      refine QT.ite (fun _ => ?_) (fun _ => s143)
      have a1 := il_addE (x := y.1 0 5) (y := 1) (by omega) (by omega)
      refine QT.bndR (b_byteAt (y.1 0 5 + 1) y (by omega) hy3) (fun v6 _ => ?_)
      dsimp only
      refine QT.bndR (b_isDigit v6 y) (fun d3 _ => ?_)
      dsimp only
      exact QT.ite (fun _ => s143) (fun _ => num)
    · refine QT.bnd (QT.ok (b_word 8 y (by decide) k hy3 hy5 (by omega))) (fun q hq => ?_)
      obtain ⟨qc, _⟩ := hq
      have q4 : (q.1 0 4).toInt = k := by
        rw [qc.2.1 4 (by decide)]
        exact hy4
      refine QT.ite (fun _ => QT.ret ⟨k, TWB.no (by rw [show (stI q 0 6 5).1 0 6 = 5 from rfl]; omega) (by rw [show (stI q 0 6 5).1 0 6 = 5 from rfl]; omega), q4⟩) (fun _ => QT.ret ⟨k, TWB.no (by rw [show (stI q 0 6 1).1 0 6 = 1 from rfl]; omega) (by rw [show (stI q 0 6 1).1 0 6 = 1 from rfl]; omega), q4⟩)
theorem pb_go (σ : ST) (k : Nat) (hn2 : bI (σ.1 0 3) 0 1000) (h5 : (σ.1 0 5).toInt = k) (hk : k ≤ 1100) : QT (f_X11_go σ) (fun t => ∃ s : Nat, TWB (σ.1 1) (σ.1 0 3).toInt s t ∧ (t.1 0 4).toInt = s) := pb_go_0 FU k σ hn2 h5 hk
/-- both tokens, what they are worth -/
def TWX (σ τ : ST) : Prop := ((σ.1 2 4).toInt = 5 → WLT (σ.2.1 2 7) (τ.2.1 0 7) (τ.1 0 8)) ∧ ((σ.1 2 4).toInt = 4 → (0 ≤ (σ.2.1 2 8).toInt ∧ (σ.2.1 2 8).toInt < 1000000000000000000) ∧ (0 ≤ (σ.1 2 11).toInt ∧ (σ.1 2 11).toInt ≤ 9) ∧ ((σ.1 2 10).toInt = 0 → σ.1 2 11 = 0) ∧ ((σ.1 2 10).toInt = 1 → (σ.1 2 9).toInt = 1 ∧ τ.2.2.1 0 11 = FP.dneg (DEC (σ.2.1 2 8) (σ.1 2 11)) ∨ (σ.1 2 9).toInt = 0 ∧ τ.2.2.1 0 11 = DEC (σ.2.1 2 8) (σ.1 2 11)))
theorem dv_n {T : Nat → Int32} {n : Int} {s : Nat} : ∀ m, m ≤ 18 → (∀ i, i < m → isD (bt T n (s + i))) → 0 ≤ (dv T s m).toInt ∧ (dv T s m).toInt < 10 ^ m := by
  intro m
  induction m with
  | zero =>
    intro _ _
    have e : (dv T s 0).toInt = 0 := l64_0
    rw [e]
    exact ⟨by omega, by decide⟩
  | succ m ih =>
    intro hm hD
    obtain ⟨e1, e2⟩ := ih (by omega) (fun i hi => hD i (by omega))
    have b2 := hD m (by omega)
    have b3 : bt T n (s + m) = (T (s + m)).toInt % 256 := by
      unfold bt
      rw [if_pos ((bt_rng (T := T) (n := n) (k := s + m)).2.2.mp (isD_0 _ b2))]
    unfold isD at b2
    have p1 : (10 : Int) ^ m ≤ 10 ^ 17 := by
      have := Nat.pow_le_pow_right (by omega : 0 < 10) (show m ≤ 17 by omega)
      exact_mod_cast this
    have p2 : (10 : Int) ^ 17 = 100000000000000000 := by decide
    have p3 : (10 : Int) ^ (m + 1) = 10 ^ m * 10 := Int.pow_succ 10 m
    rw [p2] at p1
    rw [p3]
    have l10 : (10 : Int64).toInt = 10 := by decide
    have l48 : (48 : Int64).toInt = 48 := by decide
    have c1 : (10 * dv T s m).toInt = 10 * (dv T s m).toInt := by
      rw [Int64.toInt_mul, l10]
      exact Int.bmod_eq_of_le (by omega) (by omega)
    have c2 : (10 * dv T s m + (T (s + m) &&& 255).toInt64).toInt = 10 * (dv T s m).toInt + (T (s + m)).toInt % 256 := by
      rw [Int64.toInt_add, c1, i64, and255]
      exact Int.bmod_eq_of_le (by omega) (by omega)
    have c3 : (dv T s (m + 1)).toInt = 10 * (dv T s m).toInt + (T (s + m)).toInt % 256 - 48 := by
      show (10 * dv T s m + (T (s + m) &&& 255).toInt64 - 48).toInt = _
      rw [Int64.toInt_sub, c2, l48]
      exact Int.bmod_eq_of_le (by omega) (by omega)
    omega
theorem dv18 {T : Nat → Int32} {n : Int} {s m : Nat} (h : RUN isD T n s m) : 0 ≤ (dv T s (min m 18)).toInt ∧ (dv T s (min m 18)).toInt < 1000000000000000000 := by
  obtain ⟨a, b⟩ := dv_n (T := T) (n := n) (s := s) (min m 18) (by omega) (fun i hi => h.1 i (by omega))
  have p1 : (10 : Int) ^ (min m 18) ≤ 10 ^ 18 := by
    have := Nat.pow_le_pow_right (by omega : 0 < 10) (show min m 18 ≤ 18 by omega)
    exact_mod_cast this
  have p2 : (10 : Int) ^ 18 = 1000000000000000000 := by decide
  rw [p2] at p1
  exact ⟨a, by omega⟩
theorem neg64 {x y : Int64} (h : -x = -y) : x = y := by
  have := congrArg (fun z => -z) h
  simpa using this
theorem TWX.mk {a b : ST} {s : Nat} (hX : LX a b) (hs : (b.1 0 4).toInt = s) (hA : TWA (b.1 1) (b.1 0 3).toInt s a) (hB : TWB (b.1 1) (b.1 0 3).toInt s b) : TWX a b := by
  have hK := hX.2.2.1
  have hT8 := hX.1.2.2.1
  obtain ⟨s', hs', hTB⟩ := hX.tb
  have es : s' = s := by omega
  subst es
  refine ⟨fun h5 => ?_, fun h4 => ?_⟩
  · have hb3 : (b.1 0 6).toInt = 3 := by
      have := (hK.bw (by omega)).2.1
      exact this.mpr h5
    obtain ⟨m, m1, m2, m3⟩ := hA.1 h5
    obtain ⟨k, k1, k2, k3, k4⟩ := hB.1 hb3
    have e : k = m := k1.uniq m1
    subst e
    exact ⟨k, gT (b.1 1) (s' + 1), m2, (gT_L m1.1).1, by rw [m3]; exact w5_n12 hT8 k m2 m1.1, by rw [k4]; exact w27_n12 k m2 m1.1, k3⟩
  · obtain ⟨w1, w2, w3, w4⟩ := hK.bw (by omega)
    have hb2 : (b.1 0 6).toInt = 2 := w1.mpr h4
    obtain ⟨g1, g2⟩ := w3 h4
    obtain ⟨a1, a2, a3⟩ := hA.2 h4
    have e5 : a.1 2 3 = b.1 0 5 := w4 (by omega)
    have hnt : NT (b.1 1) (b.1 0 3).toInt s' b := by
      obtain ⟨_, h | h | h | h | h⟩ := hTB
      · have := h.2.1
        omega
      · obtain ⟨_, _, m, _, _, _, _, h6⟩ := h
        omega
      · exact h.2
      · obtain ⟨_, _, m, _, _, _, h6⟩ := h
        omega
      · have : (b.1 0 6).toInt = 4 ∨ (b.1 0 6).toInt = 5 := h.2.2.elim (fun h => .inl h.2.1) (fun h => .inr h.2.1)
        omega
    have hdig : ∃ i m : Nat, RUN isD (b.1 1) (b.1 0 3).toInt i m ∧ a.2.1 2 8 = dv (b.1 1) i (min m 18) ∧ ((b.1 0 10).toInt = 1 ∨ (b.1 0 10).toInt = 0) := by
      rcases hnt with ⟨n1, m, n2, _, n3, n4⟩ | ⟨n1, m, n2, _, n3, n4⟩
      · have h10 : (b.1 0 10).toInt = 1 ∨ (b.1 0 10).toInt = 0 := n4.elim (fun h => .inl h.2.2.1) (fun h => .inr h.2.1)
        refine ⟨s' + 1, m, n2, ?_, h10⟩
        rcases n3 with ⟨_, n3⟩ | ⟨n3, _⟩
        · rcases g2 with ⟨g3, g4⟩ | ⟨g3, g4⟩
          · rw [g4] at n3
            exact neg64 n3
          · rcases a1 with a1 | a1
            · omega
            · exact absurd n1 a1.2
        · exact absurd trivial n3
      · have h10 : (b.1 0 10).toInt = 1 ∨ (b.1 0 10).toInt = 0 := n4.elim (fun h => .inl h.2.2.1) (fun h => .inr h.2.1)
        refine ⟨s', m, n2, ?_, h10⟩
        rcases n3 with ⟨n3, _⟩ | ⟨_, n3⟩
        · exact n3.elim
        · rcases g2 with ⟨g3, g4⟩ | ⟨g3, g4⟩
          · rcases a1 with a1 | a1
            · exact absurd a1.2 n1
            · omega
          · rw [g4] at n3
            exact n3
    obtain ⟨i, m, r1, r2, r3⟩ := hdig
    have hb := dv18 r1
    rw [← r2] at hb
    have e10 : (a.1 2 10).toInt = (b.1 0 10).toInt := by rw [g1]
    refine ⟨hb, ?_, a3, fun h10 => ?_⟩
    · rcases r3 with h | h
      · obtain ⟨_, q1, q2⟩ := a2 (by omega)
        unfold isD at q1
        omega
      · have := a3 (by omega)
        rw [this]
        exact ⟨by decide, by decide⟩
    · obtain ⟨_, q1, q2⟩ := a2 h10
      obtain ⟨W, d, d1, d2⟩ := hB.2 hb2 (by omega)
      have ed : d = a.1 2 11 := Int32.toInt_inj.mp (by rw [d1, q2, e5])
      subst ed
      rcases d2 with ⟨x1, x2, x3⟩ | ⟨x1, x2, x3⟩
      · rcases g2 with ⟨g3, g4⟩ | ⟨g3, g4⟩
        · have eW : W = a.2.1 2 8 := by
            rw [x2] at g4
            exact neg64 g4
          rw [eW] at x3
          exact .inl ⟨g3, x3⟩
        · rcases a1 with a1 | a1
          · omega
          · exact absurd x1 a1.2
      · rcases g2 with ⟨g3, g4⟩ | ⟨g3, g4⟩
        · rcases a1 with a1 | a1
          · exact absurd a1.2 x1
          · omega
        · have eW : W = a.2.1 2 8 := by
            rw [x2] at g4
            exact g4
          rw [eW] at x3
          exact .inr ⟨g3, x3⟩
theorem OK.qt2 {α β : Type} {a : Option α} {b : Option β} {P Q : α → β → Prop} (h : OK a (fun x => OK b (P x))) (k : QT a (fun x => QT b (Q x))) : OK a (fun x => OK b (fun y => P x y ∧ Q x y)) := by
  obtain ⟨x, ex, y, ey, hp⟩ := h
  exact ⟨x, ex, y, ey, hp, k x ex y ey⟩
/-- both go on to the next token, and what it is worth -/
theorem ab_goW (σ τ : ST) (h : LX σ τ) (hg : σ.1 2 3 = τ.1 0 5) : OK (f_X6_advance σ) (fun a => OK (f_X11_go τ) (fun b => (CA σ a ∧ CH [] GI τ b ∧ (∀ c, c ≠ 0 → b.2.1 c = τ.2.1 c) ∧ LX a b ∧ (τ.1 0 5).toInt ≤ (b.1 0 4).toInt ∧ ((τ.1 0 6).toInt = 1 → (b.1 0 6).toInt = 1 → (τ.1 0 5).toInt < (b.1 0 4).toInt) ∧ uT b ≤ ((τ.1 0 3).toInt - (τ.1 0 5).toInt).toNat) ∧ TWX a b)) := by
  have hn := h.2.1
  have hn' := hn
  obtain ⟨n1, n2⟩ := hn'
  have hc := h.1
  have h5 := h.tx.2.1
  obtain ⟨k1, k2⟩ := h5
  have e3 : (σ.1 2 3).toInt = (τ.1 0 5).toInt := by rw [hg]
  refine (OK.qt2 (ab_go σ τ h hg) (Q := fun a b => (∃ s : Nat, TWA (σ.1 1) (σ.1 2 2).toInt s a ∧ (a.1 2 5).toInt = s) ∧ ∃ s : Nat, TWB (τ.1 1) (τ.1 0 3).toInt s b ∧ (b.1 0 4).toInt = s) (fun a ea b eb => ⟨?_, ?_⟩)).mono2 (fun a b hab => ⟨hab.1, ?_⟩)
  · exact pa_advance σ (τ.1 0 5).toInt.toNat (by rw [hc.1]; exact hc.2.2.1) (by rw [hc.2.1]; exact hn) (by omega) (by omega) a ea
  · exact pb_go τ (τ.1 0 5).toInt.toNat hn (by omega) (by omega) b eb
  · obtain ⟨⟨ca, cb, cL, hX1, _⟩, ⟨s, hA, hs⟩, s', hB, hs'⟩ := hab
    have b1 : b.1 1 = τ.1 1 := cb.1 1 (by decide) (by decide)
    have b3 : b.1 0 3 = τ.1 0 3 := cb.2.1 3 (by decide)
    have ek := hX1.2.2.1.1
    have es : s = s' := by omega
    subst es
    refine TWX.mk hX1 hs' ?_ ?_
    · rw [b1, b3, ← hc.1, ← hc.2.1]
      exact hA
    · rw [b1, b3]
      exact hB
