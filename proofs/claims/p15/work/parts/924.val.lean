/-! a value in both trees -/
/-- a child: its place, the class's rows of it (none: 0, 0), the reference's -/
abbrev EN : Type := Nat × (Nat × Nat) × (Nat × Nat)
def inA (y : EN) : Bool := decide (y.2.1.1 < y.2.1.2)
def rA (l : List EN) : List Nat := (l.filter inA).map (fun y => y.2.1.1)
def rB (l : List EN) : List Nat := l.map (fun y => y.2.2.1)
def SEPE (a c : EN) : Prop := (a.2.1.2 ≤ c.2.1.1 ∨ c.2.1.2 ≤ a.2.1.1) ∧ (a.2.2.2 ≤ c.2.2.1 ∨ c.2.2.2 ≤ a.2.2.1)
theorem mem_rA {l : List EN} {r : Nat} (h : r ∈ rA l) : ∃ y, y ∈ l ∧ inA y = true ∧ r = y.2.1.1 := by
  obtain ⟨y, hy, e⟩ := List.mem_map.mp h
  obtain ⟨h1, h2⟩ := List.mem_filter.mp hy
  exact ⟨y, h1, h2, e.symm⟩
theorem mem_rB {l : List EN} {r : Nat} (h : r ∈ rB l) : ∃ y, y ∈ l ∧ r = y.2.2.1 := by
  obtain ⟨y, hy, e⟩ := List.mem_map.mp h
  exact ⟨y, hy, e.symm⟩
theorem inA_lt {y : EN} (h : inA y = true) : y.2.1.1 < y.2.1.2 := of_decide_eq_true h
theorem rA_app (l m : List EN) : rA (l ++ m) = rA l ++ rA m := by
  unfold rA
  rw [List.filter_append, List.map_append]
theorem rB_app (l m : List EN) : rB (l ++ m) = rB l ++ rB m := by
  unfold rB
  rw [List.map_append]
/-- a row's own columns, of the class and of the reference -/
def CLA (b : Nat) (σ s : ST) (j : Nat) : Prop := (∀ k, 1 ≤ k → k ≤ 5 → s.1 (b + k) j = σ.1 (b + k) j) ∧ s.2.1 (b + 6) j = σ.2.1 (b + 6) j
def CLB (τ t : ST) (j : Nat) : Prop := (t.1 20 j = τ.1 20 j ∧ t.1 23 j = τ.1 23 j) ∧ (∀ k, 24 ≤ k → k ≤ 27 → t.1 k j = τ.1 k j) ∧ t.2.1 21 j = τ.2.1 21 j ∧ t.2.1 22 j = τ.2.1 22 j
/-- so many rows stayed, but for the first one's next -/
def AGA (b : Nat) (σ s : ST) (x e : Nat) : Prop := ∀ j, x ≤ j → j < e → CLA b σ s j ∧ s.1 (b + 7) j = σ.1 (b + 7) j ∧ s.1 (b + 8) j = σ.1 (b + 8) j ∧ (x < j → s.1 (b + 9) j = σ.1 (b + 9) j)
def AGB (τ t : ST) (v f : Nat) : Prop := ∀ j, v ≤ j → j < f → CLB τ t j ∧ t.1 28 j = τ.1 28 j ∧ t.1 29 j = τ.1 29 j ∧ (v < j → t.1 30 j = τ.1 30 j)
/-- a child's place and where it belongs -/
def KID (b : Nat) (σ τ : ST) (x v : Nat) (y : EN) : Prop := ((σ.1 (b + 2) y.2.1.1).toInt = x ∧ (σ.1 (b + 3) y.2.1.1).toInt = y.1) ∧ ((τ.1 24 y.2.2.1).toInt = v ∧ (τ.1 25 y.2.2.1).toInt = y.1) ∧ σ.1 (b + 5) y.2.1.1 = τ.1 27 y.2.2.1
/-- how many rows are told -/
def spA : List EN → Nat
  | [] => 0
  | y :: l => (bif inA y then y.2.1.2 - y.2.1.1 else 0) + spA l
theorem spA_app : ∀ l m : List EN, spA (l ++ m) = spA l + spA m := by
  intro l
  induction l with
  | nil => intro m; exact (Nat.zero_add _).symm
  | cons y l ih =>
    intro m
    show _ + spA (l ++ m) = _ + spA l + spA m
    rw [ih m, Nat.add_assoc]
theorem spA_one {y : EN} (h : inA y = true) (l : List EN) : spA (y :: l) = y.2.1.2 - y.2.1.1 + spA l := by
  show (bif inA y then y.2.1.2 - y.2.1.1 else 0) + spA l = _
  rw [h]
  rfl
theorem spA_none {y : EN} (h : inA y = false) (l : List EN) : spA (y :: l) = spA l := by
  show (bif inA y then y.2.1.2 - y.2.1.1 else 0) + spA l = _
  rw [h]
  exact Nat.zero_add _
/-- the rows of the children are all that lies behind the first -/
def TGH (l : List EN) (x e : Nat) : Prop := (rA l).length + x < e ∧ x + 1 + spA l = e
/-- the children of x and v, of each of which Q is said -/
def KDS (b : Nat) (σ τ : ST) (A B : Nat × Nat) (l : List EN) (Q : EN → Prop) : Prop := ((CN (σ.1 (b + 9)) (σ.1 (b + 7) A.1) (rA l) ∧ (σ.1 (b + 8) A.1).toInt = lz (-1) (rA l)) ∧ CN (τ.1 30) (τ.1 28 B.1) (rB l) ∧ (τ.1 29 B.1).toInt = lz (-1) (rB l)) ∧ (l.Pairwise SEPE ∧ (l.map (fun y => y.1)).Pairwise (fun i j => i < j)) ∧ ((τ.1 23 B.1).toInt = l.length ∧ TGH l A.1 A.2) ∧ ∀ y, y ∈ l → (B.1 < y.2.2.1 ∧ y.2.2.1 < y.2.2.2 ∧ y.2.2.2 ≤ B.2) ∧ ((inA y = true → A.1 < y.2.1.1 ∧ y.2.1.2 ≤ A.2) ∧ y.2.1.2 ≤ A.2) ∧ Q y
/-- the type itself, or the branch that was chosen -/
def OWN (S T : ST) (tA tB br uA uB : Int32) : Prop := (br.toInt = -1 ∧ uA = tA ∧ uB = tB ∧ ¬ (T.1 2 tB.toNatClampNeg).toInt = 8) ∨ ((T.1 2 tB.toNatClampNeg).toInt = 8 ∧ ∃ k : Nat, br.toInt = k ∧ (k : Int) < (T.1 4 tB.toNatClampNeg).toInt ∧ uA = chn (S.1 17) (S.1 16 tA.toNatClampNeg) k ∧ uB = T.1 5 (4 * tB.toNatClampNeg + k))
def LEAF (b : Nat) (σ τ : ST) (x v : Nat) : Prop := ((σ.1 (b + 7) x).toInt = -1 ∧ (τ.1 28 v).toInt = -1) ∧ EWR (τ.1 20 v).toInt (σ.2.1 (b + 6) x) (τ.2.1 21 v) (τ.2.1 22 v) (τ.1 23 v) ∧ (σ.1 (b + 4) x).toInt = (τ.1 23 v).toInt
/-- a field that the reference alone filled in -/
def ELN (T τ : ST) (v N : Nat) (y : EN) : Prop := ((τ.1 24 y.2.2.1).toInt = v ∧ (τ.1 25 y.2.2.1).toInt = y.1 ∧ (τ.1 27 y.2.2.1).toInt = 1) ∧ (¬ (T.1 16 N).toInt = 0 ∧ (τ.1 20 y.2.2.1).toInt = FCS (T.1 2) (T.1 5) (T.1 15 N)) ∧ ((T.1 2 (T.1 15 N).toNatClampNeg).toInt = 8 ∧ (τ.1 26 y.2.2.1).toInt = 0 ∨ ¬ (T.1 2 (T.1 15 N).toNatClampNeg).toInt = 8 ∧ (τ.1 26 y.2.2.1).toInt = -1) ∧ (τ.2.1 21 y.2.2.1 = T.2.1 17 N ∧ τ.2.1 22 y.2.2.1 = T.2.1 18 N ∧ ((τ.1 20 y.2.2.1).toInt = 5 ∧ τ.1 23 y.2.2.1 = T.1 19 N ∨ ¬ (τ.1 20 y.2.2.1).toInt = 5 ∧ (τ.1 23 y.2.2.1).toInt = 0)) ∧ (τ.1 28 y.2.2.1).toInt = -1
/-- rows [A.1, A.2) of the class, [B.1, B.2) of the reference: one value of the types tA, tB (of plan p, of what S and T tell); rd: it was read -/
def VAL (rd : Prop) (b p : Nat) (S T σ τ : ST) : Nat → Int32 → Int32 → (Nat × Nat) → (Nat × Nat) → Prop
  | 0, _, _, _, _ => False
  | n + 1, tA, tB, A, B => (A.1 < A.2 ∧ B.1 < B.2) ∧ ∃ uA uB : Int32, OWN S T tA tB (τ.1 26 B.1) uA uB ∧ ((T.1 2 uB.toNatClampNeg = τ.1 20 B.1 ∧ σ.1 (b + 1) A.1 = τ.1 20 B.1) ∧ 0 ≤ (τ.1 20 B.1).toInt ∧ (τ.1 20 B.1).toInt ≤ 7) ∧
    ((τ.1 20 B.1).toInt ≤ 5 → LEAF b σ τ A.1 B.1 ∧ A.2 = A.1 + 1) ∧
    (6 ≤ (τ.1 20 B.1).toInt → σ.2.1 (b + 6) A.1 = τ.2.1 21 B.1 ∧ τ.2.1 22 B.1 = 0) ∧
    ((τ.1 20 B.1).toInt = 6 → ∃ l : List EN, l.map (fun y => y.1) = List.range l.length ∧ l.length ≤ 200 ∧ (σ.1 (b + 4) A.1).toInt = l.length ∧ KDS b σ τ A B l (fun y => (inA y = true ∧ KID b σ τ A.1 B.1 y) ∧ VAL rd b p S T σ τ n (S.1 16 uA.toNatClampNeg) (T.1 3 uB.toNatClampNeg) y.2.1 y.2.2)) ∧
    ((τ.1 20 B.1).toInt = 7 → ∃ (R m : Nat) (l : List EN), ((T.1 3 uB.toNatClampNeg).toInt + 6 * (p : Int) = R ∧ (S.1 16 uA.toNatClampNeg).toInt = R ∧ (T.1 11 R).toInt = m) ∧ l.map (fun y => y.1) = List.range m ∧ (rd → (σ.1 (b + 4) A.1).toInt = m ∧ ∀ y, y ∈ l → inA y = true) ∧ KDS b σ τ A B l (fun y => ((inA y = true ∧ KID b σ τ A.1 B.1 y) ∧ VAL rd b p S T σ τ n (S.1 13 (8 * R + y.1)) (T.1 15 (8 * R + y.1)) y.2.1 y.2.2) ∨ inA y = false ∧ ELN T τ B.1 (8 * R + y.1) y))
theorem AGA.sub {b : Nat} {σ s : ST} {x e y f : Nat} (h : AGA b σ s x e) (h1 : x ≤ y) (h2 : f ≤ e) : AGA b σ s y f := fun j a c => by
  obtain ⟨h3, h4, h5, h6⟩ := h j (by omega) (by omega)
  exact ⟨h3, h4, h5, fun h => h6 (by omega)⟩
theorem AGB.sub {τ t : ST} {x e y f : Nat} (h : AGB τ t x e) (h1 : x ≤ y) (h2 : f ≤ e) : AGB τ t y f := fun j a c => by
  obtain ⟨h3, h4, h5, h6⟩ := h j (by omega) (by omega)
  exact ⟨h3, h4, h5, fun h => h6 (by omega)⟩
theorem KID.ext {b : Nat} {σ τ s t : ST} {x v : Nat} {y : EN} (h : KID b σ τ x v y) (hA : CLA b σ s y.2.1.1) (hB : CLB τ t y.2.2.1) : KID b s t x v y := by
  unfold KID
  rw [hA.1 2 (by omega) (by omega), hA.1 3 (by omega) (by omega), hA.1 5 (by omega) (by omega), hB.2.1 24 (by omega) (by omega), hB.2.1 25 (by omega) (by omega), hB.2.1 27 (by omega) (by omega)]
  exact h
theorem ELN.ext {T τ t : ST} {v N : Nat} {y : EN} (h : ELN T τ v N y) (hB : CLB τ t y.2.2.1) (h28 : t.1 28 y.2.2.1 = τ.1 28 y.2.2.1) : ELN T t v N y := by
  unfold ELN
  rw [hB.2.1 24 (by omega) (by omega), hB.2.1 25 (by omega) (by omega), hB.2.1 26 (by omega) (by omega), hB.2.1 27 (by omega) (by omega), hB.1.1, hB.1.2, hB.2.2.1, hB.2.2.2, h28]
  exact h
/-- the children of rows that stayed -/
theorem KDS.ext {b : Nat} {σ τ s t : ST} {A B : Nat × Nat} {l : List EN} {Q R : EN → Prop} (h : KDS b σ τ A B l Q) (hA : AGA b σ s A.1 A.2) (hB : AGB τ t B.1 B.2) (hAn : A.1 < A.2) (hBn : B.1 < B.2) (hQ : ∀ y, y ∈ l → (B.1 < y.2.2.1 ∧ y.2.2.1 < y.2.2.2 ∧ y.2.2.2 ≤ B.2) → (inA y = true → A.1 < y.2.1.1 ∧ y.2.1.2 ≤ A.2) → Q y → R y) : KDS b s t A B l R := by
  obtain ⟨⟨⟨h1, h2⟩, h3, h4⟩, h5, ⟨h6, h7⟩, h8⟩ := h
  obtain ⟨a1, a2, a3, _⟩ := hA A.1 (by omega) hAn
  obtain ⟨b1, b2, b3, _⟩ := hB B.1 (by omega) hBn
  refine ⟨⟨⟨?_, ?_⟩, ?_, ?_⟩, h5, ⟨?_, h7⟩, fun y hy => ?_⟩
  · rw [a2]
    refine h1.ext _ _ (fun r hr => ?_)
    obtain ⟨y, y1, y2, y3⟩ := mem_rA hr
    have k := (h8 y y1).2.1.1 y2
    have := inA_lt y2
    exact (hA r (by omega) (by omega)).2.2.2 (by omega)
  · rw [a3]
    exact h2
  · rw [b2]
    refine h3.ext _ _ (fun r hr => ?_)
    obtain ⟨y, y1, y3⟩ := mem_rB hr
    have k := (h8 y y1).1
    exact (hB r (by omega) (by omega)).2.2.2 (by omega)
  · rw [b3]
    exact h4
  · rw [b1.1.2]
    exact h6
  · obtain ⟨k1, k2, k3⟩ := h8 y hy
    exact ⟨k1, k2, hQ y hy k1 k2.1 k3⟩
theorem VAL.ext {rd : Prop} {b p : Nat} {S T σ τ s t : ST} : ∀ (n : Nat) (tA tB : Int32) (A B : Nat × Nat), VAL rd b p S T σ τ n tA tB A B → AGA b σ s A.1 A.2 → AGB τ t B.1 B.2 → VAL rd b p S T s t n tA tB A B := by
  intro n
  induction n with
  | zero => intro tA tB A B h; exact h.elim
  | succ n ih =>
    intro tA tB A B h hA hB
    obtain ⟨⟨hA0, hB0⟩, uA, uB, h1, ⟨⟨h2, h3⟩, h4⟩, h5, h6, h7, h8⟩ := h
    obtain ⟨a1, a2, a3, _⟩ := hA A.1 (by omega) hA0
    obtain ⟨b1, b2, b3, _⟩ := hB B.1 (by omega) hB0
    have kid : ∀ y : EN, (B.1 < y.2.2.1 ∧ y.2.2.1 < y.2.2.2 ∧ y.2.2.2 ≤ B.2) → (inA y = true → A.1 < y.2.1.1 ∧ y.2.1.2 ≤ A.2) → ∀ u w : Int32, (inA y = true ∧ KID b σ τ A.1 B.1 y) ∧ VAL rd b p S T σ τ n u w y.2.1 y.2.2 → (inA y = true ∧ KID b s t A.1 B.1 y) ∧ VAL rd b p S T s t n u w y.2.1 y.2.2 := fun y k1 k2 u w hy => by
      have k3 := k2 hy.1.1
      have k4 := inA_lt hy.1.1
      exact ⟨⟨hy.1.1, hy.1.2.ext (hA _ (by omega) (by omega)).1 (hB _ (by omega) (by omega)).1⟩, ih u w y.2.1 y.2.2 hy.2 (hA.sub (by omega) (by omega)) (hB.sub (by omega) (by omega))⟩
    refine ⟨⟨hA0, hB0⟩, uA, uB, ?_, ⟨⟨?_, ?_⟩, ?_⟩, fun hs => ?_, fun hs => ?_, fun hs => ?_, fun hs => ?_⟩
    · rw [b1.2.1 26 (by omega) (by omega)]
      exact h1
    · rw [b1.1.1]
      exact h2
    · rw [b1.1.1, a1.1 1 (by omega) (by omega)]
      exact h3
    · rw [b1.1.1]
      exact h4
    · rw [b1.1.1] at hs
      obtain ⟨this, h9⟩ := h5 hs
      refine ⟨?_, h9⟩
      unfold LEAF at this ⊢
      rw [a2, b2, b1.1.1, a1.2, b1.2.2.1, b1.2.2.2, b1.1.2, a1.1 4 (by omega) (by omega)]
      exact this
    · rw [b1.1.1] at hs
      rw [a1.2, b1.2.2.1, b1.2.2.2]
      exact h6 hs
    · rw [b1.1.1] at hs
      obtain ⟨l, l1, l2, l3, l4⟩ := h7 hs
      refine ⟨l, l1, l2, ?_, l4.ext hA hB hA0 hB0 (fun y hy k1 k2 k3 => kid y k1 k2 _ _ k3)⟩
      rw [a1.1 4 (by omega) (by omega)]
      exact l3
    · rw [b1.1.1] at hs
      obtain ⟨R, m, l, l1, l2, l3, l4⟩ := h8 hs
      refine ⟨R, m, l, l1, l2, fun h => ?_, l4.ext hA hB hA0 hB0 (fun y hy k1 k2 k3 => ?_)⟩
      · rw [a1.1 4 (by omega) (by omega)]
        exact l3 h
      · rcases k3 with k3 | ⟨k3, k4⟩
        · exact .inl (kid y k1 k2 _ _ k3)
        · have := hB y.2.2.1 (by omega) (by omega)
          exact .inr ⟨k3, k4.ext this.1 this.2.1⟩
