/-! the two tokens side by side -/
/-- an answer of both, told in the other order -/
theorem OK.sw {α β : Type} {a : Option α} {b : Option β} {P : α → β → Prop} (h : OK b (fun y => OK a (fun x => P x y))) : OK a (fun x => OK b (fun y => P x y)) := by
  obtain ⟨y, e, x, e2, h⟩ := h
  exact ⟨x, e2, y, e, h⟩
theorem OK.bnd2 {α β γ δ : Type} {a : Option α} {b : Option β} {f : α → Option γ} {g : β → Option δ} {Q : α → β → Prop} {P : γ → δ → Prop} (h : OK a (fun x => OK b (Q x))) (k : ∀ x y, Q x y → OK (f x) (fun u => OK (g y) (P u))) : OK (a.bind f) (fun u => OK (b.bind g) (P u)) := by
  obtain ⟨x, e, y, e2, h⟩ := h
  rw [e, e2]
  exact k x y h
theorem OK.mono2 {α β : Type} {a : Option α} {b : Option β} {P Q : α → β → Prop} (h : OK a (fun x => OK b (P x))) (k : ∀ x y, P x y → Q x y) : OK a (fun x => OK b (Q x)) := h.mono (fun x hx => hx.mono (fun y hy => k x y hy))
/-- the letters' two numbers -/
def n5 : Nat → (Nat → Nat) → Nat
  | 0, _ => 0
  | m + 1, g => g 0 + 32 * n5 m (fun i => g (i + 1))
def n27 (g : Nat → Nat) : Nat → Nat
  | 0 => 0
  | m + 1 => 27 * n27 g m + g m
def GL (g : Nat → Nat) (m : Nat) : Prop := ∀ i, i < m → 1 ≤ g i ∧ g i ≤ 26
theorem n5_last : ∀ (m : Nat) (g : Nat → Nat), n5 (m + 1) g = n5 m g + g m * 32 ^ m := by
  intro m
  induction m with
  | zero => intro g; show g 0 + 32 * 0 = 0 + g 0 * 1; omega
  | succ m ih =>
    intro g
    have e := ih (fun i => g (i + 1))
    show g 0 + 32 * n5 (m + 1) (fun i => g (i + 1)) = g 0 + 32 * n5 m (fun i => g (i + 1)) + g (m + 1) * 32 ^ (m + 1)
    rw [e, Nat.pow_succ]
    have e2 : g (m + 1) * (32 ^ m * 32) = 32 * (g (m + 1) * 32 ^ m) := by rw [← Nat.mul_assoc, Nat.mul_comm]
    rw [e2]
    show g 0 + 32 * (n5 m (fun i => g (i + 1)) + g (m + 1) * 32 ^ m) = _
    generalize g (m + 1) * 32 ^ m = y
    omega
theorem n5_lt : ∀ (m : Nat) (g : Nat → Nat), GL g m → n5 m g < 32 ^ m := by
  intro m
  induction m with
  | zero => intro g h; show 0 < 1; omega
  | succ m ih =>
    intro g h
    have e := ih (fun i => g (i + 1)) (fun i hi => h (i + 1) (by omega))
    have h0 := h 0 (by omega)
    show g 0 + 32 * n5 m (fun i => g (i + 1)) < 32 ^ (m + 1)
    rw [Nat.pow_succ]
    omega
theorem n27_lt : ∀ (m : Nat) (g : Nat → Nat), GL g m → n27 g m < 27 ^ m := by
  intro m
  induction m with
  | zero => intro g h; show 0 < 1; omega
  | succ m ih =>
    intro g h
    have e := ih g (fun i hi => h i (by omega))
    have h0 := h m (by omega)
    show 27 * n27 g m + g m < 27 ^ (m + 1)
    rw [Nat.pow_succ]
    omega
theorem n5_inj : ∀ (m k : Nat) (g h : Nat → Nat), GL g m → GL h k → n5 m g = n5 k h → m = k ∧ ∀ i, i < m → g i = h i := by
  intro m
  induction m with
  | zero =>
    intro k g h _ hk e
    cases k with
    | zero => exact ⟨rfl, fun i hi => by omega⟩
    | succ k =>
      have h0 := hk 0 (by omega)
      have e : 0 = h 0 + 32 * n5 k (fun i => h (i + 1)) := e
      omega
  | succ m ih =>
    intro k g h hg hk e
    have g0 := hg 0 (by omega)
    cases k with
    | zero =>
      have e : g 0 + 32 * n5 m (fun i => g (i + 1)) = 0 := e
      omega
    | succ k =>
      have h0 := hk 0 (by omega)
      have e : g 0 + 32 * n5 m (fun i => g (i + 1)) = h 0 + 32 * n5 k (fun i => h (i + 1)) := e
      obtain ⟨e1, e2⟩ := ih k (fun i => g (i + 1)) (fun i => h (i + 1)) (fun i hi => hg (i + 1) (by omega)) (fun i hi => hk (i + 1) (by omega)) (by omega)
      refine ⟨by omega, fun i hi => ?_⟩
      cases i with
      | zero => omega
      | succ i => exact e2 i (by omega)
theorem n27_inj : ∀ (m k : Nat) (g h : Nat → Nat), GL g m → GL h k → n27 g m = n27 h k → m = k ∧ ∀ i, i < m → g i = h i := by
  intro m
  induction m with
  | zero =>
    intro k g h _ hk e
    cases k with
    | zero => exact ⟨rfl, fun i hi => by omega⟩
    | succ k =>
      have h0 := hk k (by omega)
      have e : 0 = 27 * n27 h k + h k := e
      omega
  | succ m ih =>
    intro k g h hg hk e
    have g0 := hg m (by omega)
    cases k with
    | zero =>
      have e : 27 * n27 g m + g m = 0 := e
      omega
    | succ k =>
      have h0 := hk k (by omega)
      have e : 27 * n27 g m + g m = 27 * n27 h k + h k := e
      obtain ⟨e1, e2⟩ := ih k g h (fun i hi => hg i (by omega)) (fun i hi => hk i (by omega)) (by omega)
      refine ⟨by omega, fun i hi => ?_⟩
      by_cases e9 : i = m
      · have e3 : g m = h k := by omega
        rw [e9, e3, e1]
      · exact e2 i (by omega)
theorem n5_ext : ∀ (m : Nat) (g h : Nat → Nat), (∀ i, i < m → g i = h i) → n5 m g = n5 m h := by
  intro m
  induction m with
  | zero => intro g h _; rfl
  | succ m ih =>
    intro g h e
    show g 0 + 32 * _ = h 0 + 32 * _
    rw [e 0 (by omega), ih _ _ (fun i hi => e (i + 1) (by omega))]
theorem n27_ext (g h : Nat → Nat) : ∀ (m : Nat), (∀ i, i < m → g i = h i) → n27 g m = n27 h m := by
  intro m
  induction m with
  | zero => intro _; rfl
  | succ m ih =>
    intro e
    show 27 * n27 g m + g m = 27 * n27 h m + h m
    rw [e m (by omega), ih (fun i hi => e i (by omega))]
/-- one word, the class's number and the reference's -/
def WL (x y : Int64) : Prop := ∃ (m : Nat) (g : Nat → Nat), m ≤ 8 ∧ GL g m ∧ x.toInt = (n5 m g : Int) ∧ y.toInt = (n27 g m : Int)
theorem WL.iff {x y u v : Int64} (h : WL x y) (k : WL u v) : x = u ↔ y = v := by
  obtain ⟨m, g, _, hg, e1, e2⟩ := h
  obtain ⟨l, f, _, hf, e3, e4⟩ := k
  constructor
  · intro e
    rw [e] at e1
    obtain ⟨a, b⟩ := n5_inj m l g f hg hf (by omega)
    subst a
    have := n27_ext g f m b
    exact Int64.toInt_inj.mp (by omega)
  · intro e
    rw [e] at e2
    obtain ⟨a, b⟩ := n27_inj m l g f hg hf (by omega)
    subst a
    have := n5_ext m g f b
    exact Int64.toInt_inj.mp (by omega)
theorem sh5 : ∀ (k : Nat), k < 8 → ∀ a : Int64, (a <<< ((5 * Int32.ofNat k).toInt64 &&& 63)).toBitVec = a.toBitVec <<< (5 * k)
  | 0, _, _ => rfl
  | 1, _, _ => rfl
  | 2, _, _ => rfl
  | 3, _, _ => rfl
  | 4, _, _ => rfl
  | 5, _, _ => rfl
  | 6, _, _ => rfl
  | 7, _, _ => rfl
  | k + 8, h, _ => by omega
theorem nat64 {z : Int64} {N : Nat} (h : z.toInt = (N : Int)) : z.toBitVec.toNat = N := by
  have h2 : z.toInt = z.toBitVec.toInt := rfl
  rw [h2, BitVec.toInt_eq_toNat_cond] at h
  have := z.toBitVec.isLt
  split at h <;> omega
theorem or64 {x a z : Int64} {X A k : Nat} (hx : x.toInt = (X : Int)) (ha : a.toInt = (A : Int)) (hA : A ≤ 26) (hk : k < 8) (hX : X < 32 ^ k) (hz : z.toBitVec = a.toBitVec <<< (5 * k)) : (x ||| z).toInt = ((X + A * 32 ^ k : Nat) : Int) := by
  have e32 : (32 : Nat) ^ k = 2 ^ (5 * k) := by rw [Nat.pow_mul]
  rw [e32] at hX ⊢
  have p1 : 2 ^ (5 * k) ≤ 2 ^ 35 := Nat.pow_le_pow_right (by omega) (by omega)
  have p2 : (2 : Nat) ^ 35 = 34359738368 := by decide
  have e1 := nat64 hx
  have e2 := nat64 ha
  have hm : A * 2 ^ (5 * k) ≤ 26 * 34359738368 := by
    rw [← p2]
    exact Nat.mul_le_mul hA p1
  have e3 : (x ||| z).toBitVec.toNat = X + A * 2 ^ (5 * k) := by
    show (x.toBitVec ||| z.toBitVec).toNat = _
    rw [hz, BitVec.toNat_or, BitVec.toNat_shiftLeft, e1, e2, Nat.shiftLeft_eq]
    have : A * 2 ^ (5 * k) % 2 ^ 64 = A * 2 ^ (5 * k) := Nat.mod_eq_of_lt (by omega)
    rw [this, Nat.or_comm, Nat.mul_comm A, ← Nat.two_pow_add_eq_or_of_lt hX, Nat.add_comm]
  show (x ||| z).toBitVec.toInt = _
  rw [BitVec.toInt_eq_toNat_of_lt (by rw [e3]; omega), e3]
/-- the letters of the text from there on -/
def gT (T : Nat → Int32) (s : Nat) (i : Nat) : Nat := ((T (s + i)).toInt % 256).toNat - 96
theorem gT_L {T : Nat → Int32} {n : Int} {s m : Nat} (h : ∀ i, i < m → isL (bt T n (s + i))) : GL (gT T s) m ∧ ∀ i, i < m → (T (s + i)).toInt % 256 = (gT T s i : Int) + 96 := by
  have z : ∀ i, i < m → 97 ≤ (T (s + i)).toInt % 256 ∧ (T (s + i)).toInt % 256 ≤ 122 := fun i hi => by
    have a := h i hi
    unfold isL bt at a
    split at a <;> omega
  refine ⟨fun i hi => ?_, fun i hi => ?_⟩
  · have := z i hi
    unfold gT
    omega
  · have := z i hi
    unfold gT
    omega
theorem w5_n {T : Nat → Int32} {n : Int} {s : Nat} (hT8 : ∀ i, bI (T i) (-128) 127) : ∀ m, m ≤ 8 → (∀ i, i < m → isL (bt T n (s + i))) → (w5 T s m).toInt = (n5 m (gT T s) : Int) := by
  intro m
  induction m with
  | zero => intro _ _; rfl
  | succ m ih =>
    intro hm hL
    have e := ih (by omega) (fun i hi => hL i (by omega))
    obtain ⟨g1, g2⟩ := gT_L hL
    have b1 := g1 m (by omega)
    have b2 := g2 m (by omega)
    obtain ⟨t1, t2⟩ := hT8 (s + m)
    have l1 := li_1
    have l97 := li_97
    have a1 := il_subE (x := T (s + m)) (y := 97) (by omega) (by omega)
    have a2 := il_addE (x := T (s + m) - 97) (y := 1) (by omega) (by omega)
    rw [n5_last]
    exact or64 (k := m) e (by rw [i64, a2, a1]; omega) b1.2 (by omega) (n5_lt m _ (fun i hi => g1 i (by omega))) (sh5 m (by omega) _)
theorem w27_n {T : Nat → Int32} {n : Int} {s : Nat} : ∀ m, m ≤ 8 → (∀ i, i < m → isL (bt T n (s + i))) → (w27 T s m).toInt = (n27 (gT T s) m : Int) := by
  intro m
  induction m with
  | zero => intro _ _; rfl
  | succ m ih =>
    intro hm hL
    have e := ih (by omega) (fun i hi => hL i (by omega))
    obtain ⟨g1, g2⟩ := gT_L hL
    have b1 := g1 m (by omega)
    have b2 := g2 m (by omega)
    have hl := n27_lt m (gT T s) (fun i hi => g1 i (by omega))
    have p1 : (27 : Nat) ^ m ≤ 27 ^ 8 := Nat.pow_le_pow_right (by omega) (by omega)
    have p2 : (27 : Nat) ^ 8 = 282429536481 := by decide
    rw [p2] at p1
    have l27 : (27 : Int64).toInt = 27 := by decide
    have l96 : (96 : Int64).toInt = 96 := by decide
    have c1 : (27 * w27 T s m).toInt = 27 * (n27 (gT T s) m : Int) := by
      rw [Int64.toInt_mul, l27, e]
      exact Int.bmod_eq_of_le (by omega) (by omega)
    have c2 : (27 * w27 T s m + (T (s + m) &&& 255).toInt64).toInt = 27 * (n27 (gT T s) m : Int) + ((gT T s m : Int) + 96) := by
      rw [Int64.toInt_add, c1, i64, and255, b2]
      exact Int.bmod_eq_of_le (by omega) (by omega)
    show (27 * w27 T s m + (T (s + m) &&& 255).toInt64 - 96).toInt = ((27 * n27 (gT T s) m + gT T s m : Nat) : Int)
    rw [Int64.toInt_sub, c2, l96]
    rw [Int.bmod_eq_of_le (by omega) (by omega)]
    omega
theorem WL.mk {T : Nat → Int32} {n : Int} {s m : Nat} (hT8 : ∀ i, bI (T i) (-128) 127) (hm : m ≤ 8) (hL : ∀ i, i < m → isL (bt T n (s + i))) : WL (w5 T s m) (w27 T s m) := ⟨m, gT T s, hm, (gT_L hL).1, w5_n hT8 m hm hL, w27_n m hm hL⟩
/-- the words that mean something -/
def kwL : List (List Nat) := [[16, 12, 1, 14], [18, 5, 3, 15, 18, 4], [23, 1, 19], [5, 12, 19, 5], [12, 9, 19, 20], [5, 9, 20, 8, 5, 18], [15, 18], [14, 15, 14, 5], [6, 12, 1, 7], [9, 14, 20], [12, 15, 14, 7], [18, 5, 1, 12], [20, 5, 24, 20], [25, 5, 19], [14, 15]]
def kwG (k i : Nat) : Nat := (kwL.getD k []).getD i 0
def kwM (k : Nat) : Nat := (kwL.getD k []).length
def kwV (k : Nat) : Int64 := KB.getD k 0
theorem kw_A : ∀ k, k < 15 → (kw0 k).toInt = (n5 (kwM k) (kwG k) : Int) := by decide +kernel
theorem kw_B : ∀ k, k < 15 → (kwV k).toInt = (n27 (kwG k) (kwM k) : Int) := by decide +kernel
theorem kw_G : ∀ k, k < 15 → kwM k ≤ 8 ∧ ∀ i, i < kwM k → 1 ≤ kwG k i ∧ kwG k i ≤ 26 := by decide +kernel
theorem kw_W (k : Nat) (hk : k < 15) : WL (kw0 k) (kwV k) := ⟨kwM k, kwG k, (kw_G k hk).1, (kw_G k hk).2, kw_A k hk, kw_B k hk⟩
theorem kw_ne : ∀ j, j < 15 → ∀ k, k < 15 → kwV j = kwV k → j = k := by decide +kernel
/-- the token of both -/
def TK (σ τ : ST) : Prop := (σ.1 2 5).toInt = (τ.1 0 4).toInt ∧
  (((σ.1 2 4).toInt = 0 ∧ (τ.1 0 6).toInt = 0 ∧ (τ.1 0 13).toInt = 0) ∨
   ((σ.1 2 4).toInt = 1 ∧ (τ.1 0 13).toInt = 0 ∧ ((τ.1 0 6).toInt = 5 ∨ (τ.1 0 6).toInt = 2 ∧ ∃ k : Nat, (τ.1 0 5).toInt = k ∧ bt (τ.1 1) (τ.1 0 3).toInt k = 46)) ∨
   ((τ.1 0 6).toInt = 1 ∧ (τ.1 0 13).toInt = 0 ∧ σ.1 2 3 = τ.1 0 5 ∧ WL (σ.2.1 2 7) (τ.2.1 0 7) ∧ (((σ.1 2 4).toInt = 2 ∧ ∃ k : Nat, k < 15 ∧ (σ.1 2 6).toInt = k ∧ τ.2.1 0 7 = kwV k) ∨ ((σ.1 2 4).toInt = 3 ∧ NM τ))) ∨
   ((σ.1 2 4).toInt = 4 ∧ (τ.1 0 6).toInt = 2 ∧ (τ.1 0 13).toInt = 0 ∧ σ.1 2 3 = τ.1 0 5 ∧ σ.1 2 10 = τ.1 0 10 ∧ ((σ.1 2 9).toInt = 1 ∧ τ.2.1 0 9 = -(σ.2.1 2 8) ∨ (σ.1 2 9).toInt = 0 ∧ τ.2.1 0 9 = σ.2.1 2 8)) ∨
   ((σ.1 2 4).toInt = 5 ∧ (τ.1 0 6).toInt = 3 ∧ (τ.1 0 13).toInt = 0 ∧ σ.1 2 3 = τ.1 0 5) ∨
   (((σ.1 2 4).toInt = 123 ∨ (σ.1 2 4).toInt = 125 ∨ (σ.1 2 4).toInt = 91 ∨ (σ.1 2 4).toInt = 93 ∨ (σ.1 2 4).toInt = 44 ∨ (σ.1 2 4).toInt = 59) ∧ (τ.1 0 6).toInt = 4 ∧ (τ.1 0 13).toInt = (σ.1 2 4).toInt ∧ σ.1 2 3 = τ.1 0 5))
theorem kwV_mem : ∀ k, k < 15 → kwV k ∈ KB := by decide +kernel
theorem mem_kwV : ∀ V, V ∈ KB → ∃ k, k < 15 ∧ V = kwV k := by
  intro V hV
  simp only [KB, List.mem_cons, List.not_mem_nil, or_false] at hV
  rcases hV with h | h | h | h | h | h | h | h | h | h | h | h | h | h | h
  · exact ⟨0, by omega, h⟩
  · exact ⟨1, by omega, h⟩
  · exact ⟨2, by omega, h⟩
  · exact ⟨3, by omega, h⟩
  · exact ⟨4, by omega, h⟩
  · exact ⟨5, by omega, h⟩
  · exact ⟨6, by omega, h⟩
  · exact ⟨7, by omega, h⟩
  · exact ⟨8, by omega, h⟩
  · exact ⟨9, by omega, h⟩
  · exact ⟨10, by omega, h⟩
  · exact ⟨11, by omega, h⟩
  · exact ⟨12, by omega, h⟩
  · exact ⟨13, by omega, h⟩
  · exact ⟨14, by omega, h⟩
theorem TK.num {T : Nat → Int32} {n : Int} {s i : Nat} {σ τ : ST} {neg : Prop} (hT : τ.1 1 = T) (hn : (τ.1 0 3).toInt = n) (h5 : (σ.1 2 5).toInt = (τ.1 0 4).toInt) (hD : isD (bt T n i)) (hneg : neg ↔ bt T n s = 45) (hB : ∃ m, NB T n i m neg τ)
    (hA : (∃ m, RUN isD T n i m ∧ (1 ≤ m ∧ m ≤ 18) ∧ (σ.1 2 4).toInt = 4 ∧ σ.2.1 2 8 = dv T i m ∧ ((σ.1 2 9).toInt = 1 ∧ bt T n s = 45 ∨ (σ.1 2 9).toInt = 0 ∧ ¬ bt T n s = 45) ∧ ((bt T n (i + m) = 46 ∧ isD (bt T n (i + m + 1)) ∧ ¬ isD (bt T n (i + m + 2)) ∧ (σ.1 2 10).toInt = 1 ∧ (σ.1 2 3).toInt = i + m + 2) ∨ (¬ bt T n (i + m) = 46 ∧ (σ.1 2 10).toInt = 0 ∧ (σ.1 2 3).toInt = i + m))) ∨
      ((σ.1 2 4).toInt = 1 ∧ (¬ isD (bt T n i) ∨ (∀ j : Nat, j ≤ 18 → isD (bt T n (i + j))) ∨ ∃ m, RUN isD T n i m ∧ (1 ≤ m ∧ m ≤ 18) ∧ bt T n (i + m) = 46 ∧ (¬ isD (bt T n (i + m + 1)) ∨ isD (bt T n (i + m + 2)))))) : TK σ τ := by
  obtain ⟨k, hR, h13, h9, hB⟩ := hB
  refine ⟨h5, ?_⟩
  rcases hA with ⟨m, hm, hm2, h4, h8, hsg, hA⟩ | ⟨h4, hA⟩
  · have e := hm.uniq hR
    subst e
    have emn : min m 18 = m := by omega
    rw [emn] at h9
    have hv : ((σ.1 2 9).toInt = 1 ∧ τ.2.1 0 9 = -(σ.2.1 2 8) ∨ (σ.1 2 9).toInt = 0 ∧ τ.2.1 0 9 = σ.2.1 2 8) := by
      rw [h8]
      rcases hsg with ⟨a, b⟩ | ⟨a, b⟩
      · rcases h9 with ⟨c, d⟩ | ⟨c, d⟩
        · exact .inl ⟨a, d⟩
        · exact absurd (hneg.mpr b) c
      · rcases h9 with ⟨c, d⟩ | ⟨c, d⟩
        · exact absurd (hneg.mp c) b
        · exact .inr ⟨a, d⟩
    refine .inr (.inr (.inr (.inl ⟨h4, ?_, h13, ?_, ?_, hv⟩)))
    · rcases hA with ⟨a1, a2, a3, a4, a5⟩ | ⟨a1, a4, a5⟩
      · rcases hB with ⟨b1, b2, b3, b4, b5⟩ | ⟨b1, b3, b4, b5⟩
        · rcases b5 with ⟨b5, _⟩ | ⟨_, b6⟩
          · exact b5
          · exact absurd ⟨by omega, a3⟩ b6
        · exact absurd ⟨a1, a2⟩ b1
      · rcases hB with ⟨b1, b2, b3, b4, b5⟩ | ⟨b1, b3, b4, b5⟩
        · exact absurd b1 a1
        · omega
    · refine Int32.toInt_inj.mp ?_
      rcases hA with ⟨a1, a2, a3, a4, a5⟩ | ⟨a1, a4, a5⟩
      · rcases hB with ⟨b1, b2, b3, b4, b5⟩ | ⟨b1, b3, b4, b5⟩
        · omega
        · exact absurd ⟨a1, a2⟩ b1
      · rcases hB with ⟨b1, b2, b3, b4, b5⟩ | ⟨b1, b3, b4, b5⟩
        · exact absurd b1 a1
        · omega
    · refine Int32.toInt_inj.mp ?_
      rcases hA with ⟨a1, a2, a3, a4, a5⟩ | ⟨a1, a4, a5⟩
      · rcases hB with ⟨b1, b2, b3, b4, b5⟩ | ⟨b1, b3, b4, b5⟩
        · omega
        · exact absurd ⟨a1, a2⟩ b1
      · rcases hB with ⟨b1, b2, b3, b4, b5⟩ | ⟨b1, b3, b4, b5⟩
        · exact absurd b1 a1
        · omega
  · refine .inr (.inl ⟨h4, h13, ?_⟩)
    rcases hA with hA | hA | ⟨m, hm, hm2, a1, a2⟩
    · exact absurd hD hA
    · have hk : ¬ k ≤ 18 := fun h => hR.2 (hA k h)
      rcases hB with ⟨b1, b2, b3, b4, b5⟩ | ⟨b1, b3, b4, b5⟩
      · rcases b5 with ⟨_, b6, _⟩ | ⟨b5, _⟩
        · exact absurd b6 hk
        · exact .inl b5
      · exact .inl (by omega)
    · have e := hm.uniq hR
      subst e
      rcases hB with ⟨b1, b2, b3, b4, b5⟩ | ⟨b1, b3, b4, b5⟩
      · rcases b5 with ⟨_, _, b6⟩ | ⟨b5, _⟩
        · rcases a2 with a2 | a2
          · exact absurd b2 a2
          · exact absurd a2 b6
        · exact .inl b5
      · refine .inr ⟨by omega, i + m, by omega, ?_⟩
        rw [hT, hn]
        exact a1
theorem TK.mk {T : Nat → Int32} {n : Int} {s : Nat} {σ τ : ST} (hT8 : ∀ i, bI (T i) (-128) 127) (hk : σ.2.1 3 = kw0) (hT : τ.1 1 = T) (hn : (τ.1 0 3).toInt = n) (hA : TA_ T n s σ) (hB : TB_ T n s τ) : TK σ τ := by
  obtain ⟨a5, hA⟩ := hA
  obtain ⟨b4, hB⟩ := hB
  have h5 : (σ.1 2 5).toInt = (τ.1 0 4).toInt := by omega
  have hb := bt_rng (T := T) (n := n) (k := s)
  rcases hA with hA | hA | hA | hA | hA
  · -- the end
    rcases hB with hB | hB | hB | hB | hB
    · exact ⟨h5, .inl ⟨hA.2, hB.2.1, hB.2.2.1⟩⟩
    · have := hB.1; unfold isL at this; omega
    · have := hB.1; unfold isD at this; omega
    · omega
    · omega
  · -- a word
    have hL := hA.1
    have hL' := hL
    unfold isL at hL'
    rcases hB with hB | hB | hB | hB | hB
    · omega
    · obtain ⟨_, b13, m, hR, b5, b8, b7, b6⟩ := hB
      refine ⟨h5, ?_⟩
      rcases hA.2 with ⟨k, hR2, hk8, a3, a7, hK⟩ | ⟨hall, a4⟩
      · have e := hR.uniq hR2
        subst e
        have e8 : min m 8 = m := by omega
        rw [e8] at b7
        have hw : WL (σ.2.1 2 7) (τ.2.1 0 7) := by
          rw [a7, b7]
          exact WL.mk hT8 hk8 hR.1
        refine .inr (.inr (.inl ⟨by omega, b13, Int32.toInt_inj.mp (by omega), hw, ?_⟩))
        rcases hK with ⟨k4, k, k1, k2, k3⟩ | ⟨k4, k3⟩
        · rw [hk] at k3
          exact .inl ⟨k4, k, k1, k2, ((kw_W k k1).iff hw).mp k3 |>.symm⟩
        · refine .inr ⟨k4, by omega, fun V hV e9 => ?_⟩
          obtain ⟨k, k1, k2⟩ := mem_kwV V hV
          refine k3 k k1 ?_
          rw [hk]
          exact ((kw_W k k1).iff hw).mpr (by rw [e9, k2])
      · have hm : ¬ m ≤ 8 := fun h => hR.2 (hall m h)
        exact .inr (.inl ⟨a4, b13, .inl (by omega)⟩)
    · have := hB.1; unfold isD at this; omega
    · omega
    · exact absurd hL hB.1.2.1
  · -- a number
    obtain ⟨hd, i, hi, hA⟩ := hA
    have hd' := hd
    unfold isD at hd'
    rcases hB with hB | hB | hB | hB | hB
    · omega
    · have := hB.1; unfold isL at this; omega
    · obtain ⟨hbd, hN⟩ := hB
      rcases hN with ⟨c, hN⟩ | ⟨c, hN⟩
      · have ei : i = s + 1 := by clear hA; omega
        subst ei
        refine TK.num hT hn h5 ?_ ⟨fun _ => c, fun _ => trivial⟩ hN hA
        rcases hbd with h | h
        · unfold isD at h; omega
        · exact h.2
      · have ei : i = s := by clear hA; omega
        subst ei
        refine TK.num hT hn h5 ?_ ⟨fun h => h.elim, fun h => c h⟩ hN hA
        rcases hbd with h | h
        · exact h
        · exact absurd h.1 c
    · omega
    · obtain ⟨⟨c0, c1, c2, c3, c4⟩, b5, hB⟩ := hB
      have c45 : bt T n s = 45 := by
        rcases hd with h | h
        · exact absurd h c2
        · exact h
      have ei : i = s + 1 := by clear hA; omega
      subst ei
      have hnd : ¬ isD (bt T n (s + 1)) := fun h => c3 ⟨c45, h⟩
      have hbad : (τ.1 0 6).toInt = 5 ∧ (τ.1 0 13).toInt = 0 := by clear hA; omega
      refine ⟨h5, .inr (.inl ⟨?_, hbad.2, .inl hbad.1⟩)⟩
      rcases hA with ⟨m, hm, hm2, _⟩ | ⟨h4, _⟩
      · exact absurd (hm.1 0 (by omega)) hnd
      · exact h4
  · -- letters in marks
    obtain ⟨h34, hA⟩ := hA
    rcases hB with hB | hB | hB | hB | hB
    · omega
    · have := hB.1; unfold isL at this; omega
    · have := hB.1; unfold isD at this; omega
    · obtain ⟨_, b13, k, hR, b5, b8, b6⟩ := hB
      refine ⟨h5, ?_⟩
      rcases hA with ⟨m, hm, hm2, a34, a4, a3⟩ | ⟨a4, hA⟩
      · have e := hm.uniq hR
        subst e
        rcases b6 with ⟨b6, _⟩ | ⟨b6, b7⟩
        · exact .inr (.inr (.inr (.inr (.inl ⟨a4, b6, b13, Int32.toInt_inj.mp (by omega)⟩))))
        · exact absurd ⟨hm2, a34⟩ b7
      · refine .inr (.inl ⟨a4, b13, .inl ?_⟩)
        rcases b6 with ⟨b6, b7, b9⟩ | ⟨b6, b7⟩
        · rcases hA with hA | ⟨m, hm, hm2⟩
          · exact absurd (hA k b7) hR.2
          · have e := hm.uniq hR
            subst e
            exact absurd b9 hm2
        · exact b6
    · exact absurd h34 hB.1.2.2.2.2
  · -- a sign
    obtain ⟨⟨c0, c1, c2, c3, c4⟩, hA⟩ := hA
    rcases hB with hB | hB | hB | hB | hB
    · omega
    · exact absurd hB.1 c1
    · rcases hB.1 with h | h
      · exact absurd h c2
      · exact absurd h.1 c3
    · omega
    · obtain ⟨_, b5, hB⟩ := hB
      refine ⟨h5, ?_⟩
      rcases hA with ⟨s1, a4, a3⟩ | ⟨s1, a4⟩
      · rcases hB with ⟨_, b6, b13⟩ | ⟨s2, _⟩
        · exact .inr (.inr (.inr (.inr (.inr ⟨by omega, b6, by omega, Int32.toInt_inj.mp (by omega)⟩))))
        · exact absurd s1 s2
      · rcases hB with ⟨s2, _⟩ | ⟨_, b6, b13⟩
        · exact absurd s2 s1
        · exact .inr (.inl ⟨a4, b13, .inl b6⟩)
