/-! a new node of the reference -/
/-- the reference's nodes, when x came below p -/
def LJS (x p : Nat) (l m : List Nat) (σ s : ST) : Prop := (∀ c, c ≠ 28 → c ≠ 29 → c ≠ 30 → s.1 c = σ.1 c) ∧ s.2 = σ.2 ∧ LKG (σ.1 28) (σ.1 29) (σ.1 30) (s.1 28) (s.1 29) (s.1 30) x p l m
def LJP (x p : Nat) (l m : List Nat) (σ : ST) : Prop := x ∉ l ++ m ∧ (l ++ m).Nodup ∧ CN (σ.1 30) (σ.1 28 p) (l ++ m) ∧ (σ.1 29 p).toInt = lz (-1) (l ++ m)
theorem b_j147 (x1 x2 : Int32) (σ : ST) {x p : Nat} (h1 : x1.toInt = p) (h2 : x2.toInt = x) : QT (f_X11_joins_147 x1 x2 σ) (fun s => (∀ c, c ≠ 29 → s.1 c = σ.1 c) ∧ s.2 = σ.2 ∧ ((σ.1 30 x).toInt < 0 ∧ s.1 29 p = x2 ∨ 0 ≤ (σ.1 30 x).toInt ∧ s.1 29 p = σ.1 29 p) ∧ ∀ j, j ≠ p → s.1 29 j = σ.1 29 j) := by
  have l0 := li_0
  have n1 : x1.toNatClampNeg = p := by have := nN_ (x := x1) (by omega); omega
  have n2 : x2.toNatClampNeg = x := by have := nN_ (x := x2) (by omega); omega
  unfold f_X11_joins_147
  rw [n1, n2]
  refine QT.grd (fun _ => ?_)
  refine QT.ile (fun e => ?_) (fun e => ?_)
  · exact QT.ret ⟨fun c hc => rfl, rfl, .inr ⟨by omega, rfl⟩, fun j hj => rfl⟩
  · refine QT.grd (fun _ => QT.ret ⟨fun c hc => stI_ne hc, rfl, .inl ⟨by omega, by rw [stI_at, upA rfl]⟩, fun j hj => by rw [stI_at, upN hj]⟩)
theorem b_j101 (x1 x2 x3 : Int32) (σ : ST) {x p : Nat} {l m : List Nat} (h1 : x1.toInt = p) (h2 : x2.toInt = x) (h3 : x3.toInt = lz (-1) l) (hP : LJP x p l m σ) : QT (f_X11_joins_101 x1 x2 x3 σ) (LJS x p l m σ) := by
  have lm := li_m1
  have l0 := li_0
  have n1 : x1.toNatClampNeg = p := by have := nN_ (x := x1) (by omega); omega
  have n2 : x2.toNatClampNeg = x := by have := nN_ (x := x2) (by omega); omega
  obtain ⟨hx, hd, hc, hl⟩ := hP
  unfold f_X11_joins_101
  refine QT.ile (fun h0 => ?_) (fun h0 => ?_)
  · have h0 : 0 ≤ x3.toInt := by omega
    have n3 := nN_ h0
    generalize hq : x3.toNatClampNeg = q at n3
    have hqx : q ≠ x := fun e9 => by
      rcases lz_in l (-1) with ⟨_, h9⟩ | ⟨q', h8, h9⟩
      · omega
      · exact hx (List.mem_append_left _ (by rw [show x = q' by omega]; exact h8))
    refine QT.grd (fun _ => ?_)
    unfold f_X11_joins_125
    rw [hq, n2]
    refine QT.grd (fun _ => QT.ite (fun _ => ?_) (fun h => absurd (Int32.le_iff_toInt_le.mpr (by omega)) h))
    refine QT.grd (fun _ => ?_)
    generalize ez : stI (stI σ 30 x (σ.1 30 q)) 30 q x2 = z
    have z9 : z.1 30 = upd (upd (σ.1 30) x (σ.1 30 q)) q x2 := by rw [← ez, stI_at, stI_at]
    have zc : ∀ c, c ≠ 30 → z.1 c = σ.1 c := fun c h9 => by rw [← ez, stI_ne h9, stI_ne h9]
    have zL : z.2 = σ.2 := by rw [← ez]; rfl
    refine (b_j147 x1 x2 z h1 h2).mono (fun w hw => ?_)
    obtain ⟨w1, w2, w3, w4⟩ := hw
    refine ⟨fun c c7 c8 c9 => (w1 c c8).trans (zc c c9), w2.trans zL, ?_⟩
    have e7 : w.1 28 = σ.1 28 := (w1 _ (by omega)).trans (zc _ (by omega))
    have e9 : w.1 30 = upd (upd (σ.1 30) x (σ.1 30 q)) q x2 := (w1 _ (by omega)).trans z9
    have e8 : z.1 29 = σ.1 29 := zc _ (by omega)
    rw [z9, upN (fun e => hqx e.symm), upA rfl, e8] at w3
    rw [e8] at w4
    obtain ⟨y, hy, hy2⟩ := CN.mid l m (σ.1 28 p) hc
    have ey : y = σ.1 30 q := by
      rcases hy2 with ⟨e, _⟩ | ⟨q', e, h⟩
      · rw [e] at h3
        have h3 : x3.toInt = -1 := h3
        omega
      · rw [h, show q' = q by omega]
    have hm1 : (σ.1 30 q).toInt < 0 → (σ.1 30 q).toInt = -1 := fun h9 => by
      rw [← ey] at h9 ⊢
      cases m with
      | nil => exact hy
      | cons r m =>
        have := hy.1
        omega
    rw [e7, e9]
    refine lkg_1 (q := q) h2 hx hd hc (by omega) hl (fun j => rfl) ⟨⟨by rw [upN (fun e => hqx e.symm), upA rfl], upA rfl⟩, fun j h1 h2 => by rw [upN h2, upN h1]⟩ ⟨?_, w4⟩
    rcases w3 with ⟨a, b⟩ | ⟨a, b⟩
    · exact .inl ⟨hm1 a, b⟩
    · exact .inr ⟨by omega, b⟩
  · have hle : l = [] := by
      rcases lz_in l (-1) with ⟨e, _⟩ | ⟨q, h8, h9⟩
      · exact e
      · omega
    subst hle
    refine QT.grd (fun _ => ?_)
    unfold f_X11_joins_125
    rw [n1, n2]
    refine QT.grd (fun _ => QT.ite (fun h => absurd (Int32.le_iff_toInt_le.mp h) (by omega)) (fun _ => ?_))
    refine QT.grd (fun _ => ?_)
    generalize ez : stI (stI σ 30 x (σ.1 28 p)) 28 p x2 = z
    have z9 : z.1 30 = upd (σ.1 30) x (σ.1 28 p) := by rw [← ez, stI_ne (by omega), stI_at]
    have z7 : z.1 28 = upd (σ.1 28) p x2 := by rw [← ez, stI_at, stI_ne (by omega)]
    have zc : ∀ c, c ≠ 28 → c ≠ 30 → z.1 c = σ.1 c := fun c h7 h9 => by rw [← ez, stI_ne h7, stI_ne h9]
    have zL : z.2 = σ.2 := by rw [← ez]; rfl
    refine (b_j147 x1 x2 z h1 h2).mono (fun w hw => ?_)
    obtain ⟨w1, w2, w3, w4⟩ := hw
    refine ⟨fun c c7 c8 c9 => (w1 c c8).trans (zc c c7 c9), w2.trans zL, ?_⟩
    have e7 : w.1 28 = upd (σ.1 28) p x2 := (w1 _ (by omega)).trans z7
    have e9 : w.1 30 = upd (σ.1 30) x (σ.1 28 p) := (w1 _ (by omega)).trans z9
    have e8 : z.1 29 = σ.1 29 := zc _ (by omega) (by omega)
    rw [z9, upA rfl, e8] at w3
    rw [e8] at w4
    rw [e7, e9]
    have hm1 : (σ.1 28 p).toInt < 0 → (σ.1 28 p).toInt = -1 := fun h9 => by
      have hc : CN (σ.1 30) (σ.1 28 p) m := hc
      cases m with
      | nil => exact hc
      | cons r m =>
        have := hc.1
        omega
    refine lkg_0 h2 hx hc hl ⟨upA rfl, fun j hj => upN hj⟩ ⟨upA rfl, fun j hj => upN hj⟩ ⟨?_, w4⟩
    rcases w3 with ⟨a, b⟩ | ⟨a, b⟩
    · exact .inl ⟨hm1 a, b⟩
    · exact .inr ⟨by omega, b⟩
theorem b_j65 (x1 x2 : Int32) (σ : ST) {x p : Nat} {m : List Nat} (h1 : x1.toInt = p) (h2 : x2.toInt = x) : ∀ (l : List Nat) (n : Nat) (l0 : List Nat) (x3 x4 : Int32), LJP x p (l0 ++ l) m σ → x3.toInt = lz (-1) l0 → CN (σ.1 30) x4 (l ++ m) → (∀ r, r ∈ l → (σ.1 25 r).toInt < (σ.1 25 x).toInt) → (∀ r, r ∈ m → (σ.1 25 x).toInt ≤ (σ.1 25 r).toInt) → QT (f_X11_joins_65 n x1 x2 x3 x4 σ) (LJS x p (l0 ++ l) m σ) := by
  have l0' := li_0
  have n2 : x2.toNatClampNeg = x := by have := nN_ (x := x2) (by omega); omega
  intro l
  induction l with
  | nil =>
    intro n l0 x3 x4 hP h3 hc hl hm
    cases n with
    | zero => exact QT.none
    | succ n =>
      rw [f_X11_joins_65]
      rw [List.append_nil] at hP ⊢
      have go := b_j101 x1 x2 x3 σ h1 h2 h3 hP
      refine QT.ilt (fun _ => go) (fun hge => ?_)
      refine QT.grd (fun _ => QT.grd (fun _ => ?_))
      refine QT.ile (fun _ => go) (fun hlt => ?_)
      have n5 := nN_ (x := x4) (by omega)
      rw [n2] at hlt
      cases m with
      | nil =>
        have hc : x4.toInt = -1 := hc
        omega
      | cons r m =>
        have hc1 := hc.1
        have := hm r List.mem_cons_self
        rw [show x4.toNatClampNeg = r by omega] at hlt
        omega
  | cons a l ih =>
    intro n l0 x3 x4 hP h3 hc hl hm
    cases n with
    | zero => exact QT.none
    | succ n =>
      rw [f_X11_joins_65]
      have hc1 := hc.1
      refine QT.ilt (fun h => by omega) (fun _ => ?_)
      have n5 : x4.toNatClampNeg = a := by have := nN_ (x := x4) (by omega); omega
      have hla := hl a List.mem_cons_self
      rw [n2, n5]
      refine QT.grd (fun _ => QT.grd (fun _ => ?_))
      refine QT.ile (fun h => by omega) (fun _ => ?_)
      have eapp : l0 ++ a :: l = (l0 ++ [a]) ++ l := by simp
      rw [eapp] at hP ⊢
      refine ih n (l0 ++ [a]) x4 _ hP ?_ hc.2 (fun r h => hl r (List.mem_cons_of_mem _ h)) hm
      rw [lz_app]
      show x4.toInt = (a : Int)
      exact hc1
/-- x comes below p, behind those of lesser places -/
theorem bj_joins (x1 x2 : Int32) (τ : ST) {x p : Nat} {l m : List Nat} (h1 : x1.toInt = p) (h2 : x2.toInt = x) (hP : LJP x p l m τ) (hl : ∀ r, r ∈ l → (τ.1 25 r).toInt < (τ.1 25 x).toInt) (hm : ∀ r, r ∈ m → (τ.1 25 x).toInt ≤ (τ.1 25 r).toInt) : QT (f_X11_joins x1 x2 τ) (LJS x p l m (stI τ 23 p (τ.1 23 p + 1))) := by
  have l0' := li_0
  have lm := li_m1
  have n1 : x1.toNatClampNeg = p := by have := nN_ (x := x1) (by omega); omega
  have n2 : x2.toNatClampNeg = x := by have := nN_ (x := x2) (by omega); omega
  unfold f_X11_joins
  rw [n1]
  have k (c : Nat) (h : c ≠ 23) : (stI τ 23 p (τ.1 23 p + 1)).1 c = τ.1 c := stI_ne h
  have hP : LJP x p l m (stI τ 23 p (τ.1 23 p + 1)) := by
    unfold LJP
    rw [k 30 (by omega), k 28 (by omega), k 29 (by omega)]
    exact hP
  rw [← k 25 (by omega)] at hl hm
  generalize stI τ 23 p (τ.1 23 p + 1) = σ at hP hl hm
  have go : QT (f_X11_joins_45 x1 x2 (-1) σ) (LJS x p l m σ) := by
    unfold f_X11_joins_45
    refine QT.grd (fun _ => ?_)
    rw [n1]
    unfold f_X11_joins_51
    refine QT.ile (fun _ => b_j65 x1 x2 σ h1 h2 l FU [] (-1) _ hP (by show (-1 : Int32).toInt = -1; exact lm) hP.2.2.1 hl hm) (fun hneg => ?_)
    refine QT.grd (fun _ => ?_)
    have hle : l ++ m = [] := by
      have hc := hP.2.2.1
      generalize l ++ m = k at hc
      cases k with
      | nil => rfl
      | cons r k =>
        have := hc.1
        omega
    have hl0 : l = [] := (List.append_eq_nil_iff.mp hle).1
    subst hl0
    refine b_j65 x1 x2 σ h1 h2 [] FU [] _ _ hP ?_ hP.2.2.1 hl hm
    rw [n1, hP.2.2.2, hle]
  refine QT.grd (fun _ => ?_)
  refine QT.ilt (fun _ => go) (fun h0 => ?_)
  refine QT.grd (fun _ => QT.grd (fun _ => ?_))
  refine QT.ile (fun _ => go) (fun hlt => ?_)
  rw [n2] at hlt
  have nq := nN_ (x := σ.1 29 p) (by omega)
  generalize (σ.1 29 p).toNatClampNeg = q at nq hlt
  have hL := hP.2.2.2
  have hme : m = [] := by
    cases m with
    | nil => rfl
    | cons r m =>
      exfalso
      rw [lz_app] at hL
      have hL : (σ.1 29 p).toInt = lz (r : Int) m := hL
      rcases lz_in m (r : Int) with ⟨_, h9⟩ | ⟨q', h8, h9⟩
      · have := hm r List.mem_cons_self
        rw [show q = r by omega] at hlt
        omega
      · have := hm q' (List.mem_cons_of_mem _ h8)
        rw [show q = q' by omega] at hlt
        omega
  subst hme
  rw [List.append_nil] at hL
  unfold f_X11_joins_51
  refine QT.ite (fun h => absurd (Int32.le_iff_toInt_le.mp h) (by omega)) (fun _ => ?_)
  refine QT.grd (fun _ => ?_)
  rw [n1]
  generalize FU = n
  cases n with
  | zero => exact QT.none
  | succ n =>
    rw [f_X11_joins_65]
    exact QT.ite (fun _ => b_j101 x1 x2 _ σ h1 h2 hL hP) (fun h => absurd (Int32.lt_iff_toInt_lt.mpr (by omega)) h)
/-- the reference's tree, when node x came -/
def GRB (x : Nat) (so pa pl br : Int32) (l m : List Nat) (τ t : ST) : Prop := ((∀ c, c ≠ 0 → c ≠ 20 → (c < 23 ∨ 30 < c) → t.1 c = τ.1 c) ∧ (∀ c, c ≠ 21 → c ≠ 22 → t.2.1 c = τ.2.1 c) ∧ t.2.2 = τ.2.2 ∧ (∀ j, j ≠ 46 → t.1 0 j = τ.1 0 j)) ∧ (t.1 0 46).toInt = (x : Int) + 1 ∧ ((t.1 20 x = so ∧ t.1 23 x = 0) ∧ (t.1 24 x = pa ∧ t.1 25 x = pl) ∧ (t.1 26 x = br ∧ t.1 27 x = 0) ∧ t.2.1 21 x = 0 ∧ t.2.1 22 x = 0) ∧ (∀ j, j ≠ x → t.1 20 j = τ.1 20 j ∧ ((j : Int) ≠ pa.toInt → t.1 23 j = τ.1 23 j) ∧ ((j : Int) = pa.toInt → t.1 23 j = τ.1 23 j + 1) ∧ (∀ k, 24 ≤ k → k ≤ 27 → t.1 k j = τ.1 k j) ∧ t.2.1 21 j = τ.2.1 21 j ∧ t.2.1 22 j = τ.2.1 22 j) ∧ GRL (τ.1 28) (τ.1 29) (τ.1 30) (t.1 28) (t.1 29) (t.1 30) x pa.toInt l m
theorem b_lays (so pa pl br : Int32) (τ : ST) {x : Nat} {l m : List Nat} (hx : (τ.1 0 46).toInt = x) (hpa : pa.toInt = -1 ∨ 0 ≤ pa.toInt ∧ pa.toInt < x ∧ ((l ++ m).Nodup ∧ CN (τ.1 30) (τ.1 28 pa.toNatClampNeg) (l ++ m) ∧ (τ.1 29 pa.toNatClampNeg).toInt = lz (-1) (l ++ m)) ∧ (∀ r, r ∈ l ++ m → r < x) ∧ (∀ r, r ∈ l → (τ.1 25 r).toInt < pl.toInt) ∧ (∀ r, r ∈ m → pl.toInt ≤ (τ.1 25 r).toInt)) : QT (f_X11_laysNode so pa pl br τ) (fun q => (q.1.toInt = x ∧ x < 4096) ∧ GRB x so pa pl br l m τ q.2) := by
  have lm := li_m1
  have l0 := li_0
  have l1 := li_1
  unfold f_X11_laysNode
  refine QT.grd (fun hg => ?_)
  have nx := nN_ (x := τ.1 0 46) (by omega)
  have ex : (τ.1 0 46 + 1).toInt = x + 1 := by rw [il_addE (by omega) (by omega)]; omega
  generalize hv : τ.1 0 46 = v at hx nx ex hg
  rw [show v.toNatClampNeg = x by omega]
  refine QT.lt (fun z2 e2 => QT.lt (fun z3 e3 => QT.lt (fun z4 e4 => QT.lt (fun z5 e5 => ?_))))
  have z2J (c : Nat) (h0 : c ≠ 0) (h2 : c ≠ 20) : z2.1 c = τ.1 c := by
    rw [e2]
    show (stI (stI τ 0 46 (v + 1)) 20 x so).1 c = _
    rw [stI_ne h2, stI_ne h0]
  have z20 : z2.1 0 = upd (τ.1 0) 46 (v + 1) := by
    rw [e2]
    show (stI (stI τ 0 46 (v + 1)) 20 x so).1 0 = _
    rw [stI_ne (by omega), stI_at]
  have z2S : z2.1 20 = upd (τ.1 20) x so := by
    rw [e2]
    show (stI (stI τ 0 46 (v + 1)) 20 x so).1 20 = _
    rw [stI_at, stI_ne (by omega)]
  have z3J (c : Nat) (h0 : c ≠ 23) (h2 : c ≠ 24) : z3.1 c = z2.1 c := by
    rw [e3, stI_ne h2, stI_ne h0]
    rfl
  have z4J (c : Nat) (h0 : c ≠ 25) (h2 : c ≠ 26) (h3 : c ≠ 27) : z4.1 c = z3.1 c := by
    rw [e4, stI_ne h3, stI_ne h2, stI_ne h0]
  have z5J (c : Nat) (h0 : c ≠ 28) (h2 : c ≠ 29) (h3 : c ≠ 30) : z5.1 c = z4.1 c := by
    rw [e5, stI_ne h3, stI_ne h2, stI_ne h0]
  have lo (c : Nat) (h : c < 23) : z5.1 c = z2.1 c := by
    rw [z5J c (by omega) (by omega) (by omega), z4J c (by omega) (by omega) (by omega), z3J c (by omega) (by omega)]
  have co (c : Nat) (h0 : c ≠ 0) (h2 : c ≠ 20) (h : c < 23 ∨ 30 < c) : z5.1 c = τ.1 c := by
    rw [z5J c (by omega) (by omega) (by omega), z4J c (by omega) (by omega) (by omega), z3J c (by omega) (by omega), z2J c h0 h2]
  have c23 : z5.1 23 = upd (τ.1 23) x 0 := by
    rw [z5J _ (by omega) (by omega) (by omega), z4J _ (by omega) (by omega) (by omega), e3, stI_ne (by omega), stI_at]
    show upd (z2.1 23) x 0 = _
    rw [z2J _ (by omega) (by omega)]
  have c24 : z5.1 24 = upd (τ.1 24) x pa := by
    rw [z5J _ (by omega) (by omega) (by omega), z4J _ (by omega) (by omega) (by omega), e3, stI_at, stI_ne (by omega)]
    show upd (z2.1 24) x pa = _
    rw [z2J _ (by omega) (by omega)]
  have c25 : z5.1 25 = upd (τ.1 25) x pl := by
    rw [z5J _ (by omega) (by omega) (by omega), e4, stI_ne (by omega), stI_ne (by omega), stI_at, z3J _ (by omega) (by omega), z2J _ (by omega) (by omega)]
  have c26 : z5.1 26 = upd (τ.1 26) x br := by
    rw [z5J _ (by omega) (by omega) (by omega), e4, stI_ne (by omega), stI_at, stI_ne (by omega), z3J _ (by omega) (by omega), z2J _ (by omega) (by omega)]
  have c27 : z5.1 27 = upd (τ.1 27) x 0 := by
    rw [z5J _ (by omega) (by omega) (by omega), e4, stI_at, stI_ne (by omega), stI_ne (by omega), z3J _ (by omega) (by omega), z2J _ (by omega) (by omega), nbF]
  have z4t (c : Nat) (h : 28 ≤ c) : z4.1 c = τ.1 c := by rw [z4J c (by omega) (by omega) (by omega), z3J c (by omega) (by omega), z2J c (by omega) (by omega)]
  have c28 : z5.1 28 = upd (τ.1 28) x (-1) := by rw [e5, stI_ne (by omega), stI_ne (by omega), stI_at, z4t _ (by omega)]
  have c29 : z5.1 29 = upd (τ.1 29) x (-1) := by rw [e5, stI_ne (by omega), stI_at, stI_ne (by omega), z4t _ (by omega)]
  have c30 : z5.1 30 = upd (τ.1 30) x (-1) := by rw [e5, stI_at, stI_ne (by omega), stI_ne (by omega), z4t _ (by omega)]
  have cL : z5.2 = (stL z2 22 x 0).2 := by
    rw [e5, e4, e3]
    rfl
  have z2L : z2.2 = (stL τ 21 x 0).2 := by
    rw [e2]
    rfl
  have cl (c : Nat) (h1 : c ≠ 21) (h2 : c ≠ 22) : z5.2.1 c = τ.2.1 c := by
    rw [cL, stL_ne h2, z2L, stL_ne h1]
  have c21 : z5.2.1 21 = vp_updL (τ.2.1 21) x 0 := by rw [cL, stL_ne (by omega), z2L]; rfl
  have c22 : z5.2.1 22 = vp_updL (τ.2.1 22) x 0 := by
    rw [cL]
    show vp_updL (z2.2.1 22) x 0 = _
    rw [z2L, stL_ne (by omega)]
  have cE : z5.2.2 = τ.2.2 := by
    rw [cL]
    show z2.2.2 = _
    rw [z2L]
    rfl
  have fin (t : ST) (h1 : ∀ c, c ≠ 23 → c ≠ 28 → c ≠ 29 → c ≠ 30 → t.1 c = z5.1 c) (h2 : t.2 = z5.2) (h23 : ∀ j : Nat, ((j : Int) ≠ pa.toInt → t.1 23 j = z5.1 23 j) ∧ ((j : Int) = pa.toInt → t.1 23 j = z5.1 23 j + 1)) (hne : (x : Int) ≠ pa.toInt) (h3 : GRL (τ.1 28) (τ.1 29) (τ.1 30) (t.1 28) (t.1 29) (t.1 30) x pa.toInt l m) : GRB x so pa pl br l m τ t := by
    refine ⟨⟨fun c h0 h20 h => ?_, fun c h21 h22 => ?_, ?_, fun j hj => ?_⟩, ?_, ⟨⟨?_, ?_⟩, ⟨?_, ?_⟩, ⟨?_, ?_⟩, ?_, ?_⟩, fun j hj => ⟨?_, fun h => ?_, fun h => ?_, fun k k1 k5 => ?_, ?_, ?_⟩, h3⟩
    · rw [h1 c (by omega) (by omega) (by omega) (by omega), co c h0 h20 h]
    · rw [h2, cl c h21 h22]
    · rw [h2, cE]
    · rw [h1 0 (by omega) (by omega) (by omega) (by omega), lo 0 (by omega), z20, upN hj]
    · rw [h1 0 (by omega) (by omega) (by omega) (by omega), lo 0 (by omega), z20, upA rfl]
      exact ex
    · rw [h1 _ (by omega) (by omega) (by omega) (by omega), lo _ (by omega), z2S, upA rfl]
    · rw [(h23 x).1 hne, c23, upA rfl]
    · rw [h1 _ (by omega) (by omega) (by omega) (by omega), c24, upA rfl]
    · rw [h1 _ (by omega) (by omega) (by omega) (by omega), c25, upA rfl]
    · rw [h1 _ (by omega) (by omega) (by omega) (by omega), c26, upA rfl]
    · rw [h1 _ (by omega) (by omega) (by omega) (by omega), c27, upA rfl]
    · rw [h2, c21, upLA rfl]
    · rw [h2, c22, upLA rfl]
    · rw [h1 _ (by omega) (by omega) (by omega) (by omega), lo _ (by omega), z2S, upN hj]
    · rw [(h23 j).1 h, c23, upN hj]
    · rw [(h23 j).2 h, c23, upN hj]
    · rw [h1 _ (by omega) (by omega) (by omega) (by omega)]
      have : k = 24 ∨ k = 25 ∨ k = 26 ∨ k = 27 := by omega
      rcases this with e | e | e | e
      · rw [e, c24, upN hj]
      · rw [e, c25, upN hj]
      · rw [e, c26, upN hj]
      · rw [e, c27, upN hj]
    · rw [h2, c21, upLN hj]
    · rw [h2, c22, upLN hj]
  refine QT.ilt (fun hneg => QT.ret ⟨⟨hx, by omega⟩, ?_⟩) (fun hnn => ?_)
  · have hp : pa.toInt = -1 := by
      rcases hpa with h | h
      · exact h
      · omega
    refine fin z5 (fun c _ _ _ _ => rfl) rfl (fun j => ⟨fun _ => rfl, fun h => by omega⟩) (by omega) ⟨?_, fun j _ hj => ?_, fun j hj _ => ?_, fun q hq => by omega⟩
    · rw [c28, c29, upA rfl, upA rfl]
      exact ⟨lm, lm⟩
    · rw [c28, c29, upN hj, upN hj]
      exact ⟨rfl, rfl⟩
    · rw [c30, upN hj]
  · rcases hpa with h | ⟨p0, px, ⟨hd, hc, hl⟩, hr, hpl, hpm⟩
    · exact absurd h (by omega)
    · have np := nN_ p0
      generalize pa.toNatClampNeg = p at np hc hl
      have hxm : x ∉ l ++ m := fun h => by have := hr x h; omega
      have hP : LJP x p l m z5 := by
        refine ⟨hxm, hd, ?_, ?_⟩
        · rw [c30, c28, upN (by omega)]
          exact hc.ext _ _ (fun r h => upN (fun e => by have := hr r h; omega))
        · rw [c29, upN (by omega)]
          exact hl
      have g := bj_joins pa v z5 (x := x) (p := p) np.symm hx hP (fun r h => by
        have := hr r (List.mem_append_left _ h)
        rw [c25, upN (by omega), upA rfl]
        exact hpl r h) (fun r h => by
        have := hr r (List.mem_append_right _ h)
        rw [c25, upA (j := x) rfl, upN (by omega)]
        exact hpm r h)
      refine QT.bnd g (fun t ht => QT.ret ⟨⟨hx, by omega⟩, ?_⟩)
      obtain ⟨t1, t2, t3⟩ := ht
      have k (c : Nat) (h : c ≠ 23) : (stI z5 23 p (z5.1 23 p + 1)).1 c = z5.1 c := stI_ne h
      refine fin t (fun c h1 h2 h3 h4 => (t1 c h2 h3 h4).trans (k c h1)) t2 (fun j => ⟨fun h => ?_, fun h => ?_⟩) (by omega) ?_
      · rw [t1 23 (by omega) (by omega) (by omega), stI_at, upN (by omega)]
      · rw [t1 23 (by omega) (by omega) (by omega), stI_at, upA (by omega), show j = p by omega]
      · rw [k 28 (by omega), k 29 (by omega), k 30 (by omega)] at t3
        have := GRL.of (F := τ.1 28) (L := τ.1 29) (N := τ.1 30) t3 (by omega) c28 c29 (fun j hj => by rw [c30, upN hj])
        rw [np] at this
        exact this
