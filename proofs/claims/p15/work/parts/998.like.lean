/-! two trees held against one another, both sides -/
/-- sorts and sizes in order tell the whole tree -/
theorem pre_shape {b1 b2 : Nat} {σ1 τ1 σ2 τ2 : ST} {L1 L2 : Nat → Nat × Nat × Int} {E : Nat} : ∀ (n m N e1 e2 : Nat) (pn : Int) (x1 v1 x2 v2 : Nat), PRZ b1 σ1 τ1 L1 n N e1 pn x1 v1 → PRZ b2 σ2 τ2 L2 m N e2 pn x2 v2 → e1 ≤ E → e2 ≤ E → (∀ i, N ≤ i → i < E → τ1.1 20 (L1 i).2.1 = τ2.1 20 (L2 i).2.1 ∧ (τ1.1 23 (L1 i).2.1).toInt = (τ2.1 23 (L2 i).2.1).toInt) → e1 = e2 ∧ ∀ i, N < i → i < e1 → (L1 i).2.2 = (L2 i).2.2 ∧ (τ1.1 25 (L1 i).2.1).toInt = (τ2.1 25 (L2 i).2.1).toInt := by
  intro n
  induction n with
  | zero => intro m N e1 e2 pn x1 v1 x2 v2 h; exact h.elim
  | succ n ih =>
    intro m N e1 e2 pn x1 v1 x2 v2 h k hE1 hE2 hs
    have hlt := h.lt
    cases m with
    | zero => exact k.elim
    | succ m =>
      obtain ⟨h1, _, l1, ⟨_, _, h3a, h3b, h3c⟩, _, h5⟩ := h
      obtain ⟨k1, _, l2, ⟨_, _, k3a, k3b, k3c⟩, _, k5⟩ := k
      have hlen : l1.length = l2.length := by
        obtain ⟨q1, q2⟩ := hs N (Nat.le_refl _) (by omega)
        rw [h1, k1] at q1 q2
        have q1 : τ1.1 20 v1 = τ2.1 20 v2 := q1
        have q2 : (τ1.1 23 v1).toInt = (τ2.1 23 v2).toInt := q2
        by_cases c : (τ1.1 20 v1).toInt ≤ 5
        · rw [h3a c, k3a (by rw [← q1]; exact c)]
        · have a := h3b (by omega)
          have d := k3b (by rw [← q1]; omega)
          omega
      have key : ∀ (l1 l2 : List (Nat × Nat)) (j k : Nat), l1.length = l2.length → N < j → FLT (fun i j y => PRZ b1 σ1 τ1 L1 n i j N y.1 y.2) l1 j e1 → FLT (fun i j y => PRZ b2 σ2 τ2 L2 m i j N y.1 y.2) l2 j e2 → PLC τ1 l1 k → PLC τ2 l2 k → e1 = e2 ∧ ∀ i, j ≤ i → i < e1 → (L1 i).2.2 = (L2 i).2.2 ∧ (τ1.1 25 (L1 i).2.1).toInt = (τ2.1 25 (L2 i).2.1).toInt := by
        intro l1
        induction l1 with
        | nil =>
          intro l2 j k hl _ f1 f2 _ _
          cases l2 with
          | nil =>
            have f1 : j = e1 := f1
            have f2 : j = e2 := f2
            exact ⟨by omega, fun i h6 h7 => by omega⟩
          | cons y l2 => cases hl
        | cons y1 l1 ihl =>
          intro l2 j k hl hj f1 f2 p1 p2
          cases l2 with
          | nil => cases hl
          | cons y2 l2 =>
            obtain ⟨j1, a1, a2, a3⟩ := f1
            obtain ⟨j2, c1, c2, c3⟩ := f2
            have a2 : PRZ b1 σ1 τ1 L1 n j j1 N y1.1 y1.2 := a2
            have c2 : PRZ b2 σ2 τ2 L2 m j j2 N y2.1 y2.2 := c2
            have la := FLT.le _ _ _ a3
            have lc := FLT.le _ _ _ c3
            obtain ⟨e, g⟩ := ih m j j1 j2 N _ _ _ _ a2 c2 (by omega) (by omega) (fun i h6 h7 => hs i (by omega) h7)
            subst e
            have ea : L1 j = (y1.1, y1.2, (N : Int)) := by
              cases n with
              | zero => exact a2.elim
              | succ n => exact a2.1
            have ec : L2 j = (y2.1, y2.2, (N : Int)) := by
              cases m with
              | zero => exact c2.elim
              | succ m => exact c2.1
            obtain ⟨g1, g2⟩ := ihl l2 j1 (k + 1) (by simp only [List.length_cons] at hl; omega) (by omega) a3 c3 p1.2 p2.2
            refine ⟨g1, fun i h6 h7 => ?_⟩
            by_cases hi : i = j
            · rw [hi, ea, ec]
              exact ⟨rfl, p1.1.trans p2.1.symm⟩
            · by_cases hi2 : i < j1
              · exact g i (by omega) hi2
              · exact g2 i (by omega) h7
      obtain ⟨g1, g2⟩ := key l1 l2 (N + 1) 0 hlen (by omega) h5 k5 h3c k3c
      exact ⟨g1, fun i h6 h7 => g2 i (by omega) h7⟩
/-- of one sort and one size: worth the same on both sides, or on neither -/
theorem ewr_iff {s : Int} {w w' b b' t t' : Int64} {n n' : Int32} (h : EWR s w b t n) (k : EWR s w' b' t' n') (hn : n.toInt = n'.toInt) : w = w' ↔ b = b' ∧ t = t' := by
  unfold EWR at h k
  by_cases c : s = 5
  · rw [if_pos c] at h k
    obtain ⟨h1, m, g, _, hg, h2, h3, h4⟩ := h
    obtain ⟨k1, m', g', _, hg', k2, k3, k4⟩ := k
    have em : m = m' := by omega
    subst em
    constructor
    · intro e
      refine ⟨by rw [h1, k1], Int64.toInt_inj.mp ?_⟩
      have e5 : n5 m g = n5 m g' := by
        have : w.toInt = w'.toInt := by rw [e]
        omega
      rw [h3, k3, n27_ext g g' m (n5_inj m m g g' hg hg' e5).2]
    · rintro ⟨_, e⟩
      refine Int64.toInt_inj.mp ?_
      have e5 : n27 g m = n27 g' m := by
        have : t.toInt = t'.toInt := by rw [e]
        omega
      rw [h2, k2, n5_ext m g g' (n27_inj m m g g' hg hg' e5).2]
  · rw [if_neg c] at h k
    rw [h.1, k.1, h.2.1, k.2.1]
    exact ⟨fun e => ⟨e, rfl⟩, fun e => e.1⟩
theorem ndt_iff {b1 b2 : Nat} {σ1 τ1 σ2 τ2 : ST} {x1 v1 x2 v2 : Nat} (h : NDT b1 σ1 τ1 x1 v1) (k : NDT b2 σ2 τ2 x2 v2) (h20 : τ1.1 20 v1 = τ2.1 20 v2) (h23 : (τ1.1 23 v1).toInt = (τ2.1 23 v2).toInt) : σ1.2.1 (b1 + 6) x1 = σ2.2.1 (b2 + 6) x2 ↔ τ1.2.1 21 v1 = τ2.2.1 21 v2 ∧ τ1.2.1 22 v1 = τ2.2.1 22 v2 := by
  by_cases c : (τ1.1 20 v1).toInt ≤ 5
  · have a := h.2.2.1 c
    have d := k.2.2.1 (by rw [← h20]; exact c)
    rw [← h20] at d
    exact ewr_iff a d h23
  · obtain ⟨a, a2⟩ := h.2.2.2 (by omega)
    obtain ⟨d, d2⟩ := k.2.2.2 (by rw [← h20]; omega)
    rw [a, d, a2, d2]
    exact ⟨fun e => ⟨e, rfl⟩, fun e => e.1⟩
/-- the class's answer: all rows of one sort, one size, one worth -/
theorem q_rowAtR {b n : Nat} {σ : ST} (hn : (σ.1 b 1).toInt = n ∧ (n : Int) ≤ (σ.1 b 0).toInt) (x : Int32) {i r : Nat} (hx : x.toInt = i) (hi : i < n) (hr : (σ.1 (b + 10) i).toInt = r) : QT (f_X7_rowAt b x σ) (fun q => q.1.toInt = r ∧ q.2 = σ) := by
  have l0 := li_0
  have nx : x.toNatClampNeg = i := nC hx
  unfold f_X7_rowAt
  rw [nx]
  refine QT.ilt (fun h => by omega) (fun h => ?_)
  refine QT.ile (fun h => by omega) (fun h2 => ?_)
  refine QT.ile (fun h => by omega) (fun h3 => ?_)
  exact QT.grd (fun _ => QT.ret ⟨hr, rfl⟩)
/-- the rows in order of a tree -/
def ORW (b n : Nat) (σ : ST) (o : Nat → Nat) : Prop := ((σ.1 b 1).toInt = n ∧ (n : Int) ≤ (σ.1 b 0).toInt) ∧ ∀ i, i < n → o i < n ∧ (σ.1 (b + 10) i).toInt = o i
/-- one row like another -/
def RLK (b t : Nat) (σ : ST) (r k : Nat) : Prop := σ.1 (b + 1) r = σ.1 (t + 1) k ∧ σ.1 (b + 4) r = σ.1 (t + 4) k ∧ σ.2.1 (b + 6) r = σ.2.1 (t + 6) k
theorem a_isLike {b t n : Nat} {σ : ST} {o p : Nat → Nat} (hn1 : n ≤ 1000) (hb : ORW b n σ o) (ht : ORW t n σ p) : ∀ (f i : Nat) (x2 : Int32), x2.toInt = i → i ≤ n → (∀ j, j < i → RLK b t σ (o j) (p j)) → QT (f_X7_isLike_15 b t f x2 σ) (fun q => q.2 = σ ∧ ((q.1 = 1 ∧ ∀ j, j < n → RLK b t σ (o j) (p j)) ∨ q.1 = 0 ∧ ¬ ∀ j, j < n → RLK b t σ (o j) (p j))) := by
  have l1 := li_1
  intro f
  induction f with
  | zero =>
    intro i x2 _ _ _
    rw [f_X7_isLike_15]
    exact QT.none
  | succ f ih =>
    intro i x2 h2 hi hp
    rw [f_X7_isLike_15]
    obtain ⟨⟨b1, b0⟩, b2⟩ := hb
    obtain ⟨⟨t1, t0⟩, t2⟩ := ht
    refine QT.ile (fun h => QT.ret ⟨rfl, .inl ⟨rfl, fun j hj => hp j (by omega)⟩⟩) (fun hlt => ?_)
    have hin : i < n := by omega
    obtain ⟨o1, o2⟩ := b2 i hin
    obtain ⟨p1, p2⟩ := t2 i hin
    refine QT.bnd (q_rowAtR ⟨b1, b0⟩ x2 h2 hin o2) (fun q1 h1 => ?_)
    obtain ⟨v1, s1⟩ := q1
    obtain ⟨hv1, e1⟩ := h1
    have e1 : s1 = σ := e1
    have hv1 : v1.toInt = o i := hv1
    rw [e1]
    dsimp only
    refine QT.bnd (q_rowAtR ⟨t1, t0⟩ x2 h2 hin p2) (fun q3 h3 => ?_)
    obtain ⟨v3, s3⟩ := q3
    obtain ⟨hv3, e3⟩ := h3
    have e3 : s3 = σ := e3
    have hv3 : v3.toInt = p i := hv3
    rw [e3]
    dsimp only
    have gb1 : (o i : Int) < (σ.1 b 1).toInt := by omega
    have gb0 : (o i : Int) < (σ.1 b 0).toInt := by omega
    have gt1 : (p i : Int) < (σ.1 t 1).toInt := by omega
    have gt0 : (p i : Int) < (σ.1 t 0).toInt := by omega
    refine QT.bnd (q_sortAt hv1 gb1 gb0) (fun q5 h5 => ?_)
    rw [h5]
    dsimp only
    refine QT.bnd (q_sortAt hv3 gt1 gt0) (fun q7 h7 => ?_)
    rw [h7]
    dsimp only
    refine QT.ite (fun c1 => ?_) (fun c1 => QT.ret ⟨rfl, .inr ⟨rfl, fun h => c1 (h i hin).1⟩⟩)
    refine QT.bnd (q_sizeOf hv1 gb1 gb0) (fun q9 h9 => ?_)
    rw [h9]
    dsimp only
    refine QT.bnd (q_sizeOf hv3 gt1 gt0) (fun q11 h11 => ?_)
    rw [h11]
    dsimp only
    refine QT.ite (fun c2 => ?_) (fun c2 => QT.ret ⟨rfl, .inr ⟨rfl, fun h => c2 (h i hin).2.1⟩⟩)
    refine QT.bnd (q_worthOf hv1 gb1 gb0) (fun q13 h13 => ?_)
    rw [h13]
    dsimp only
    refine QT.bnd (q_worthOf hv3 gt1 gt0) (fun q15 h15 => ?_)
    rw [h15]
    dsimp only
    refine QT.ite (fun c3 => ?_) (fun c3 => QT.ret ⟨rfl, .inr ⟨rfl, fun h => c3 ((lg_cmp_eq _ _).mpr (h i hin).2.2)⟩⟩)
    have ea := il_addE (x := x2) (y := 1) (by omega) (by omega)
    refine ih (i + 1) (x2 + 1) (by omega) (by omega) (fun j hj => ?_)
    by_cases hj2 : j = i
    · rw [hj2]
      exact ⟨c1, c2, (lg_cmp_eq _ _).mp c3⟩
    · exact hp j (by omega)
/-- the reference's answer -/
theorem q_like172 {m : Nat} (x5 : Int32) (h5 : x5.toInt = m) (hm : m ≤ 400) (τ : ST) : ∀ (f k : Nat) (x6 x7 : Int32), x7.toInt = k → k ≤ 4 * m → (x6 = 0 ∨ x6 = 1) → (∀ j, j < k → x6 = 1 → τ.1 53 j = τ.1 51 j ∧ τ.2.1 54 (j / 2) = τ.2.1 52 (j / 2)) → (x6 = 0 → ¬ ∀ j, j < 4 * m → τ.1 53 j = τ.1 51 j ∧ τ.2.1 54 (j / 2) = τ.2.1 52 (j / 2)) → QT (f_X11_alike_172 f x5 x6 x7 τ) (fun q => q.2 = τ ∧ ((q.1 = 1 ∧ ∀ j, j < 4 * m → τ.1 53 j = τ.1 51 j ∧ τ.2.1 54 (j / 2) = τ.2.1 52 (j / 2)) ∨ q.1 = 0 ∧ ¬ ∀ j, j < 4 * m → τ.1 53 j = τ.1 51 j ∧ τ.2.1 54 (j / 2) = τ.2.1 52 (j / 2))) := by
  have l0 := li_0
  have l1 := li_1
  have l2 := li_2
  have l4 := li_4
  intro f
  induction f with
  | zero =>
    intro k x6 x7 _ _ _ _ _
    rw [f_X11_alike_172]
    exact QT.none
  | succ f ih =>
    intro k x6 x7 h7 hk h6 hy hn
    rw [f_X11_alike_172]
    unfold f_X11_alike_238 f_X11_alike_229 f_X11_alike_230
    have em := mlE (k := 4) (y := x5) 4 l4 (by omega) (by omega)
    refine QT.ile (fun hle => ?_) (fun hlt => ?_)
    · refine QT.ite (fun c => QT.ret ⟨rfl, .inr ⟨rfl, hn c⟩⟩) (fun c => QT.ret ⟨rfl, .inl ⟨rfl, fun j hj => hy j (by omega) (h6.resolve_left c)⟩⟩)
    · refine QT.ite (fun c => ?_) (fun c => ?_)
      · refine QT.ite (fun _ => QT.ret ⟨rfl, .inr ⟨rfl, hn c⟩⟩) (fun h => absurd c h)
      have c1 := h6.resolve_left c
      have n7 : x7.toNatClampNeg = k := nC h7
      have eh : (x7 / 2).toInt = ((k / 2 : Nat) : Int) := by
        rw [Int32.toInt_div_of_ne_right _ _ (by decide), h7, l2]
        rfl
      have nh : (x7 / 2).toNatClampNeg = k / 2 := nC eh
      have ea := il_addE (x := x7) (y := 1) (by omega) (by omega)
      rw [n7, nh]
      refine QT.grd (fun _ => ?_)
      have bad : ¬ (τ.1 53 k = τ.1 51 k ∧ τ.2.1 54 (k / 2) = τ.2.1 52 (k / 2)) → QT (f_X11_alike_172 f x5 0 (x7 + 1) τ) (fun q => q.2 = τ ∧ ((q.1 = 1 ∧ ∀ j, j < 4 * m → τ.1 53 j = τ.1 51 j ∧ τ.2.1 54 (j / 2) = τ.2.1 52 (j / 2)) ∨ q.1 = 0 ∧ ¬ ∀ j, j < 4 * m → τ.1 53 j = τ.1 51 j ∧ τ.2.1 54 (j / 2) = τ.2.1 52 (j / 2))) := fun h => ih (k + 1) 0 (x7 + 1) (by omega) (by omega) (.inl rfl) (fun j _ h9 => absurd h9 (by decide)) (fun _ h9 => h (h9 k (by omega)))
      refine QT.ite (fun d1 => ?_) (fun d1 => bad (fun h => d1 h.1))
      refine QT.grd (fun _ => ?_)
      refine QT.ite (fun d2 => ?_) (fun d2 => bad (fun h => d2 ((lg_cmp_eq _ _).mpr h.2)))
      refine ih (k + 1) 1 (x7 + 1) (by omega) (by omega) (.inr rfl) (fun j hj _ => ?_) (fun h => absurd h (by decide))
      by_cases hj2 : j = k
      · rw [hj2]
        exact ⟨d1, (lg_cmp_eq _ _).mp d2⟩
      · exact hy j (by omega) c1
