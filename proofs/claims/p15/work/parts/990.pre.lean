/-! a tree's rows in the order in which they are told, both sides -/
/-- a row of both: what is told of it -/
def NDT (b : Nat) (σ τ : ST) (x v : Nat) : Prop := (σ.1 (b + 1) x = τ.1 20 v ∧ (0 ≤ (τ.1 20 v).toInt ∧ (τ.1 20 v).toInt ≤ 7)) ∧ (σ.1 (b + 4) x).toInt = (τ.1 23 v).toInt ∧ ((τ.1 20 v).toInt ≤ 5 → EWR (τ.1 20 v).toInt (σ.2.1 (b + 6) x) (τ.2.1 21 v) (τ.2.1 22 v) (τ.1 23 v)) ∧ (6 ≤ (τ.1 20 v).toInt → σ.2.1 (b + 6) x = τ.2.1 21 v ∧ τ.2.1 22 v = 0)
/-- a child of x and v -/
def KD2 (b : Nat) (σ τ : ST) (x v : Nat) (y : Nat × Nat) : Prop := ((σ.1 (b + 2) y.1).toInt = x ∧ (τ.1 24 y.2).toInt = v) ∧ (σ.1 (b + 3) y.1).toInt = (τ.1 25 y.2).toInt ∧ σ.1 (b + 5) y.1 = τ.1 27 y.2
/-- one behind the other -/
def FLT (P : Nat → Nat → Nat × Nat → Prop) : List (Nat × Nat) → Nat → Nat → Prop
  | [], i, e => i = e
  | y :: l, i, e => ∃ j, i < j ∧ P i j y ∧ FLT P l j e
/-- their places: one after the other -/
def PLC (τ : ST) : List (Nat × Nat) → Nat → Prop
  | [], _ => True
  | y :: l, k => (τ.1 25 y.2).toInt = k ∧ PLC τ l (k + 1)
/-- how many there are -/
def LEN (τ : ST) (v : Nat) (l : List (Nat × Nat)) : Prop := ((τ.1 20 v).toInt ≤ 5 → l.length = 0) ∧ (6 ≤ (τ.1 20 v).toInt → (τ.1 23 v).toInt = l.length) ∧ PLC τ l 0
/-- the rows of a subtree, from place N to e in LL: row (the class's, the reference's) and its parent's place -/
def PRZ (b : Nat) (σ τ : ST) (LL : Nat → Nat × Nat × Int) : Nat → Nat → Nat → Int → Nat → Nat → Prop
  | 0, _, _, _, _, _ => False
  | n + 1, N, e, pn, x, v => LL N = (x, v, pn) ∧ NDT b σ τ x v ∧ ∃ l : List (Nat × Nat), (CN (σ.1 (b + 9)) (σ.1 (b + 7) x) (l.map (fun y => y.1)) ∧ CN (τ.1 30) (τ.1 28 v) (l.map (fun y => y.2)) ∧ LEN τ v l) ∧ (∀ y, y ∈ l → KD2 b σ τ x v y) ∧ FLT (fun i j y => PRZ b σ τ LL n i j N y.1 y.2) l (N + 1) e
theorem FLT.le {P : Nat → Nat → Nat × Nat → Prop} : ∀ (l : List (Nat × Nat)) (i e : Nat), FLT P l i e → i ≤ e := by
  intro l
  induction l with
  | nil =>
    intro i e h
    have h : i = e := h
    omega
  | cons y l ih =>
    intro i e h
    obtain ⟨j, h1, _, h3⟩ := h
    have := ih j e h3
    omega
theorem FLT.mono {P Q : Nat → Nat → Nat × Nat → Prop} : ∀ (l : List (Nat × Nat)) (i e : Nat), FLT P l i e → (∀ j k y, i ≤ j → k ≤ e → y ∈ l → P j k y → Q j k y) → FLT Q l i e := by
  intro l
  induction l with
  | nil => intro i e h _; exact h
  | cons y l ih =>
    intro i e h k
    obtain ⟨j, h1, h2, h3⟩ := h
    have hle := FLT.le l j e h3
    exact ⟨j, h1, k i j y (Nat.le_refl _) hle List.mem_cons_self h2, ih j e h3 (fun a c z h4 h5 h6 h7 => k a c z (by omega) h5 (List.mem_cons_of_mem _ h6) h7)⟩
theorem PRZ.lt {b : Nat} {σ τ : ST} {LL : Nat → Nat × Nat × Int} {n N e : Nat} {pn : Int} {x v : Nat} (h : PRZ b σ τ LL n N e pn x v) : N < e := by
  cases n with
  | zero => exact h.elim
  | succ n =>
    obtain ⟨_, _, l, _, _, h4⟩ := h
    have := FLT.le l (N + 1) e h4
    omega
theorem PRZ.ext {b : Nat} {σ τ : ST} {f g : Nat → Nat × Nat × Int} : ∀ (n N e : Nat) (pn : Int) (x v : Nat), PRZ b σ τ f n N e pn x v → (∀ k, N ≤ k → k < e → g k = f k) → PRZ b σ τ g n N e pn x v := by
  intro n
  induction n with
  | zero => intro N e pn x v h; exact h.elim
  | succ n ih =>
    intro N e pn x v h hg
    have hlt := h.lt
    obtain ⟨h1, h2, l, h3, h4, h5⟩ := h
    refine ⟨by rw [hg N (Nat.le_refl _) hlt]; exact h1, h2, l, h3, h4, h5.mono l _ _ (fun j k y hj hk _ hP => ih j k N y.1 y.2 hP (fun i h6 h7 => hg i (by omega) (by omega)))⟩
/-- of a value that was read: its row, its children -/
theorem VAL.kids {b p n : Nat} {S T σ τ : ST} {tA tB : Int32} {A B : Nat × Nat} (h : VAL True b p S T σ τ (n + 1) tA tB A B) : (A.1 < A.2 ∧ B.1 < B.2) ∧ NDT b σ τ A.1 B.1 ∧ ∃ l : List EN, (CN (σ.1 (b + 9)) (σ.1 (b + 7) A.1) (rA l) ∧ CN (τ.1 30) (τ.1 28 B.1) (rB l)) ∧ (l.Pairwise SEPE ∧ ((τ.1 20 B.1).toInt ≤ 5 → l.length = 0) ∧ (6 ≤ (τ.1 20 B.1).toInt → (τ.1 23 B.1).toInt = l.length) ∧ l.map (fun y => y.1) = List.range l.length) ∧ A.1 + 1 + spA l = A.2 ∧ ∀ y, y ∈ l → (B.1 < y.2.2.1 ∧ y.2.2.2 ≤ B.2) ∧ (A.1 < y.2.1.1 ∧ y.2.1.2 ≤ A.2) ∧ inA y = true ∧ KID b σ τ A.1 B.1 y ∧ ∃ uA uB : Int32, VAL True b p S T σ τ n uA uB y.2.1 y.2.2 := by
  obtain ⟨⟨hA0, hB0⟩, uA, uB, h1, ⟨⟨h2, h3⟩, h4⟩, h5, h6, h7, h8⟩ := h
  refine ⟨⟨hA0, hB0⟩, ?_⟩
  by_cases s5 : (τ.1 20 B.1).toInt ≤ 5
  · obtain ⟨⟨⟨a1, a2⟩, a3, a4⟩, a5⟩ := h5 s5
    refine ⟨⟨⟨h3, h4⟩, a4, fun _ => a3, fun h => by omega⟩, [], ⟨a1, a2⟩, ⟨List.Pairwise.nil, fun _ => rfl, fun h => by omega, rfl⟩, ?_, fun y hy => (by cases hy)⟩
    show A.1 + 1 + 0 = A.2
    omega
  · have w := h6 (by omega)
    by_cases s6 : (τ.1 20 B.1).toInt = 6
    · obtain ⟨l, l1, l2, l3, ⟨⟨k1, _⟩, k3, _⟩, ⟨k5, _⟩, ⟨k7, k8⟩, k9⟩ := h7 s6
      refine ⟨⟨⟨h3, h4⟩, l3.trans k7.symm, fun h => absurd h s5, fun _ => w⟩, l, ⟨k1, k3⟩, ⟨k5, fun h => absurd h s5, fun _ => k7, l1⟩, k8.2, fun y hy => ?_⟩
      obtain ⟨m1, m2, ⟨m3, m4⟩, m5⟩ := k9 y hy
      exact ⟨⟨m1.1, m1.2.2⟩, m2.1 m3, m3, m4, _, _, m5⟩
    · obtain ⟨R, m, l, _, l2, l3, ⟨⟨k1, _⟩, k3, _⟩, ⟨k5, _⟩, ⟨k7, k8⟩, k9⟩ := h8 (by omega)
      obtain ⟨l4, l5⟩ := l3 trivial
      have hlen : l.length = m := by
        have := congrArg List.length l2
        rw [List.length_map, List.length_range] at this
        exact this
      refine ⟨⟨⟨h3, h4⟩, by rw [l4, k7, hlen], fun h => absurd h s5, fun _ => w⟩, l, ⟨k1, k3⟩, ⟨k5, fun h => absurd h s5, fun _ => k7, by rw [hlen]; exact l2⟩, k8.2, fun y hy => ?_⟩
      obtain ⟨m1, m2, m3⟩ := k9 y hy
      have hin := l5 y hy
      rcases m3 with ⟨⟨_, m4⟩, m5⟩ | ⟨m3, _⟩
      · exact ⟨⟨m1.1, m1.2.2⟩, m2.1 hin, hin, m4, _, _, m5⟩
      · rw [hin] at m3
        cases m3
theorem rA_all : ∀ {l : List EN}, (∀ y, y ∈ l → inA y = true) → rA l = (l.map (fun y => (y.2.1.1, y.2.2.1))).map (fun y => y.1) := by
  intro l
  induction l with
  | nil => intro _; rfl
  | cons y l ih =>
    intro h
    have e : rA (y :: l) = y.2.1.1 :: rA l := by
      unfold rA
      rw [List.filter_cons_of_pos (h y List.mem_cons_self), List.map_cons]
    rw [e, ih (fun z hz => h z (List.mem_cons_of_mem _ hz))]
    rfl
theorem rB_all {l : List EN} : rB l = (l.map (fun y => (y.2.1.1, y.2.2.1))).map (fun y => y.2) := by
  induction l with
  | nil => rfl
  | cons y l ih =>
    show y.2.2.1 :: rB l = _
    rw [ih]
    rfl
theorem plc_of {τ : ST} : ∀ (l : List EN) (k : Nat), (∀ y, y ∈ l → (τ.1 25 y.2.2.1).toInt = y.1) → l.map (fun y => y.1) = List.range' k l.length → PLC τ (l.map (fun y => (y.2.1.1, y.2.2.1))) k := by
  intro l
  induction l with
  | nil => intro k _ _; exact trivial
  | cons y l ih =>
    intro k hp hr
    rw [List.length_cons, List.range'_succ, List.map_cons] at hr
    have h1 := (List.cons.inj hr).1
    have h2 := (List.cons.inj hr).2
    refine ⟨?_, ih (k + 1) (fun z hz => hp z (List.mem_cons_of_mem _ hz)) h2⟩
    show (τ.1 25 y.2.2.1).toInt = k
    rw [hp y List.mem_cons_self]
    have h1 : y.1 = k := h1
    rw [h1]
/-- the rows of a value, in order -/
theorem val_pre {b p : Nat} {S T σ τ : ST} : ∀ (n : Nat) (tA tB : Int32) (A B : Nat × Nat), VAL True b p S T σ τ n tA tB A B → ∀ (N : Nat) (pn : Int), ∃ LL : Nat → Nat × Nat × Int, PRZ b σ τ LL n N (N + (A.2 - A.1)) pn A.1 B.1 ∧ (∀ i, N ≤ i → i < N + (A.2 - A.1) → (A.1 ≤ (LL i).1 ∧ (LL i).1 < A.2) ∧ B.1 ≤ (LL i).2.1 ∧ (LL i).2.1 < B.2) ∧ ∀ i j, N ≤ i → i < j → j < N + (A.2 - A.1) → ¬ (LL i).1 = (LL j).1 ∧ ¬ (LL i).2.1 = (LL j).2.1 := by
  intro n
  induction n with
  | zero => intro tA tB A B h; exact h.elim
  | succ n ih =>
    intro tA tB A B h N pn
    obtain ⟨⟨hA0, hB0⟩, hN, l, ⟨c1, c2⟩, ⟨hS, hl5, hl6, hlr⟩, hsp, hK⟩ := h.kids
    -- the children, one behind the other
    have key : ∀ (m : List EN), m.Pairwise SEPE → (∀ y, y ∈ m → inA y = true ∧ ∃ uA uB : Int32, VAL True b p S T σ τ n uA uB y.2.1 y.2.2) → ∀ i, ∃ f : Nat → Nat × Nat × Int, FLT (fun i j y => PRZ b σ τ f n i j N y.1 y.2) (m.map (fun y => (y.2.1.1, y.2.2.1))) i (i + spA m) ∧ (∀ k, i ≤ k → k < i + spA m → ∃ y, y ∈ m ∧ (y.2.1.1 ≤ (f k).1 ∧ (f k).1 < y.2.1.2) ∧ y.2.2.1 ≤ (f k).2.1 ∧ (f k).2.1 < y.2.2.2) ∧ ∀ k j, i ≤ k → k < j → j < i + spA m → ¬ (f k).1 = (f j).1 ∧ ¬ (f k).2.1 = (f j).2.1 := by
      intro m
      induction m with
      | nil =>
        intro _ _ i
        exact ⟨fun _ => (0, 0, 0), rfl, fun k h1 h2 => by
          have h2 : k < i + 0 := h2
          omega, fun k j h1 h2 h3 => by
          have h3 : j < i + 0 := h3
          omega⟩
      | cons y m ihm =>
        intro hS hK i
        obtain ⟨s1, s2⟩ := List.pairwise_cons.mp hS
        obtain ⟨hin, uA, uB, hV⟩ := hK y List.mem_cons_self
        have hlt := inA_lt hin
        obtain ⟨f1, p1, p2, p3⟩ := ih uA uB y.2.1 y.2.2 hV i (N : Int)
        obtain ⟨f2, q1, q2, q3⟩ := ihm s2 (fun z hz => hK z (List.mem_cons_of_mem _ hz)) (i + (y.2.1.2 - y.2.1.1))
        have esp : spA (y :: m) = y.2.1.2 - y.2.1.1 + spA m := spA_one hin m
        have g1 : ∀ k, k < i + (y.2.1.2 - y.2.1.1) → (fun k => if k < i + (y.2.1.2 - y.2.1.1) then f1 k else f2 k) k = f1 k := fun k hk => if_pos hk
        have g2 : ∀ k, i + (y.2.1.2 - y.2.1.1) ≤ k → (fun k => if k < i + (y.2.1.2 - y.2.1.1) then f1 k else f2 k) k = f2 k := fun k hk => if_neg (by omega)
        generalize (fun k => if k < i + (y.2.1.2 - y.2.1.1) then f1 k else f2 k) = g at g1 g2
        refine ⟨g, ⟨i + (y.2.1.2 - y.2.1.1), by omega, p1.ext n _ _ _ _ _ (fun k h1 h2 => g1 k h2), ?_⟩, fun k h1 h2 => ?_, fun k j h1 h2 h3 => ?_⟩
        · rw [esp, ← Nat.add_assoc]
          exact q1.mono _ _ _ (fun j k z hj hk _ hP => hP.ext n _ _ _ _ _ (fun w h1 h2 => g2 w (by omega)))
        · rw [esp] at h2
          by_cases hk : k < i + (y.2.1.2 - y.2.1.1)
          · rw [g1 k hk]
            exact ⟨y, List.mem_cons_self, p2 k h1 hk⟩
          · rw [g2 k (by omega)]
            obtain ⟨z, z1, z2⟩ := q2 k (by omega) (by omega)
            exact ⟨z, List.mem_cons_of_mem _ z1, z2⟩
        · rw [esp] at h3
          by_cases hj : j < i + (y.2.1.2 - y.2.1.1)
          · rw [g1 k (by omega), g1 j hj]
            exact p3 k j h1 h2 hj
          · rw [g2 j (by omega)]
            by_cases hk : k < i + (y.2.1.2 - y.2.1.1)
            · rw [g1 k hk]
              obtain ⟨⟨a1, a2⟩, a3, a4⟩ := p2 k h1 hk
              obtain ⟨z, z1, ⟨z2, z3⟩, z4, z5⟩ := q2 j (by omega) (by omega)
              obtain ⟨hs, hs2⟩ := s1 z z1
              exact ⟨by omega, by omega⟩
            · rw [g2 k (by omega)]
              exact q3 k j (by omega) h2 (by omega)
    obtain ⟨f, k1, k2, k3⟩ := key l hS (fun y hy => ⟨(hK y hy).2.2.1, (hK y hy).2.2.2.2⟩) (N + 1)
    have g1 : (fun k => if k = N then (A.1, B.1, pn) else f k) N = (A.1, B.1, pn) := if_pos rfl
    have g2 : ∀ k, N < k → (fun k => if k = N then (A.1, B.1, pn) else f k) k = f k := fun k hk => if_neg (by omega)
    generalize (fun k => if k = N then (A.1, B.1, pn) else f k) = g at g1 g2
    have ee : N + (A.2 - A.1) = N + 1 + spA l := by omega
    refine ⟨g, ⟨g1, hN, l.map (fun y => (y.2.1.1, y.2.2.1)), ⟨?_, ?_, ?_, ?_, ?_⟩, fun y hy => ?_, ?_⟩, fun i h1 h2 => ?_, fun i j h1 h2 h3 => ?_⟩
    · rw [← rA_all (fun y hy => (hK y hy).2.2.1)]
      exact c1
    · rw [← rB_all]
      exact c2
    · intro h
      rw [List.length_map]
      exact hl5 h
    · intro h
      rw [List.length_map]
      exact hl6 h
    · exact plc_of l 0 (fun y hy => (hK y hy).2.2.2.1.2.1.2) (by rw [hlr, List.range_eq_range'])
    · obtain ⟨z, z1, z2⟩ := List.mem_map.mp hy
      obtain ⟨_, _, _, ⟨⟨d1, d2⟩, ⟨d3, d4⟩, d5⟩, _⟩ := hK z z1
      rw [← z2]
      exact ⟨⟨d1, d3⟩, d2.trans d4.symm, d5⟩
    · rw [ee]
      exact k1.mono _ _ _ (fun j k z hj hk _ hP => hP.ext n _ _ _ _ _ (fun w h1 h2 => g2 w (by omega)))
    · by_cases hi : i = N
      · rw [hi, g1]
        exact ⟨⟨Nat.le_refl _, hA0⟩, Nat.le_refl _, hB0⟩
      · rw [g2 i (by omega)]
        obtain ⟨y, y1, ⟨y2, y3⟩, y4, y5⟩ := k2 i (by omega) (by omega)
        obtain ⟨⟨d1, d2⟩, ⟨d3, d4⟩, _⟩ := hK y y1
        exact ⟨⟨by omega, by omega⟩, by omega, by omega⟩
    · rw [g2 j (by omega)]
      by_cases hi : i = N
      · rw [hi, g1]
        obtain ⟨y, y1, ⟨y2, y3⟩, y4, y5⟩ := k2 j (by omega) (by omega)
        obtain ⟨⟨d1, d2⟩, ⟨d3, d4⟩, _⟩ := hK y y1
        show ¬ A.1 = (f j).1 ∧ ¬ B.1 = (f j).2.1
        exact ⟨by omega, by omega⟩
      · rw [g2 i (by omega)]
        exact k3 i j (by omega) h2 (by omega)
/-- a row's parent stands ahead of it -/
theorem PRZ.par {b : Nat} {σ τ : ST} {LL : Nat → Nat × Nat × Int} : ∀ (n N e : Nat) (pn : Int) (x v : Nat), PRZ b σ τ LL n N e pn x v → ∀ i, N ≤ i → i < e → NDT b σ τ (LL i).1 (LL i).2.1 ∧ (i = N ∨ ∃ k : Nat, (N ≤ k ∧ k < i) ∧ (LL i).2.2 = k ∧ KD2 b σ τ (LL k).1 (LL k).2.1 ((LL i).1, (LL i).2.1)) := by
  intro n
  induction n with
  | zero => intro N e pn x v h; exact h.elim
  | succ n ih =>
    intro N e pn x v h i hi he
    obtain ⟨h1, h2, l, _, h4, h5⟩ := h
    by_cases hiN : i = N
    · rw [hiN, h1]
      exact ⟨h2, .inl rfl⟩
    · have key : ∀ (m : List (Nat × Nat)) (j : Nat), (∀ y, y ∈ m → KD2 b σ τ x v y) → N < j → FLT (fun i j y => PRZ b σ τ LL n i j N y.1 y.2) m j e → j ≤ i → NDT b σ τ (LL i).1 (LL i).2.1 ∧ (i = N ∨ ∃ k : Nat, (N ≤ k ∧ k < i) ∧ (LL i).2.2 = k ∧ KD2 b σ τ (LL k).1 (LL k).2.1 ((LL i).1, (LL i).2.1)) := by
        intro m
        induction m with
        | nil =>
          intro j _ _ hf hji
          have hf : j = e := hf
          omega
        | cons y m ihm =>
          intro j hk hNj hf hji
          obtain ⟨j2, f1, f2, f3⟩ := hf
          have f2 : PRZ b σ τ LL n j j2 N y.1 y.2 := f2
          by_cases hij : i < j2
          · obtain ⟨g1, g2⟩ := ih j j2 N y.1 y.2 f2 i hji hij
            refine ⟨g1, .inr ?_⟩
            rcases g2 with g2 | ⟨k, k1, k2, k3⟩
            · have e1 : LL j = (y.1, y.2, (N : Int)) := by
                cases n with
                | zero => exact f2.elim
                | succ n => exact f2.1
              refine ⟨N, ⟨Nat.le_refl _, by omega⟩, by rw [g2, e1], ?_⟩
              rw [g2, e1, h1]
              exact hk y List.mem_cons_self
            · exact ⟨k, ⟨by omega, k1.2⟩, k2, k3⟩
          · exact ihm j2 (fun z hz => hk z (List.mem_cons_of_mem _ hz)) (by omega) f3 (by omega)
      exact key l (N + 1) h4 (by omega) h5 (by omega)
