/-! a value's node: both sides, and what has no others in it -/
theorem TWX.ext {σ τ a b : ST} (h : TWX σ τ) (a1 : a.1 2 = σ.1 2) (a2 : a.2.1 2 = σ.2.1 2) (b1 : b.1 0 8 = τ.1 0 8) (b2 : b.2.1 0 = τ.2.1 0) (b3 : b.2.2.1 = τ.2.2.1) : TWX a b := by
  unfold TWX
  rw [a1, a2, b1, b2, b3]
  exact h
theorem CA.kva {σ a : ST} (h : CA σ a) : KVA σ a := ⟨fun c c2 _ => h.1 c c2, ⟨h.2.1, fun i _ => by rw [h.1 62 (by omega)]⟩, fun c c2 _ => h.2.2.1 c c2, h.2.2.2⟩
theorem CH.kvb {τ b : ST} (h : CH [] GI τ b) (hL : ∀ c, c ≠ 0 → b.2.1 c = τ.2.1 c) : KVB τ b := ⟨fun c c0 _ _ => h.1 c c0 (by simp), fun i i4 i5 i6 i8 i10 i12 i13 i46 => h.2.1 i (by
  simp only [GI, List.mem_cons, List.not_mem_nil, or_false, not_or]
  exact ⟨i4, i5, i6, i8, i10, i13⟩), fun c c0 _ _ => hL c c0⟩
theorem GRW.kva {x : Nat} {so pa pl : Int32} {l m : List Nat} {σ s : ST} (h : GRW 62 x so pa pl l m σ s) : KVA σ s := by
  obtain ⟨⟨h1, h2, h3, h4⟩, _⟩ := h
  exact ⟨fun c _ hc => h1 c (by omega), ⟨by rw [h1 2 (by omega)], fun i hi => h4 i hi⟩, fun c _ hc => h2 c (by omega), h3⟩
theorem GRB.kvb {x : Nat} {so pa pl br : Int32} {l m : List Nat} {τ t : ST} (h : GRB x so pa pl br l m τ t) : KVB τ t := by
  obtain ⟨⟨h1, h2, h3, h4⟩, _⟩ := h
  exact ⟨fun c c0 c20 hc => h1 c c0 c20 hc, fun i _ _ _ _ _ _ _ h46 => h4 i h46, fun c _ c21 c22 => h2 c c21 c22⟩
/-- the tokens stay as a node comes -/
theorem LX.grow {x v : Nat} {so so' pa pb pl br : Int32} {l m l' m' : List Nat} {σ τ s t : ST} (h : LX σ τ ∧ TWX σ τ) (hA : GRW 62 x so pa pl l m σ s) (hB : GRB v so' pb pl br l' m' τ t) : LX s t ∧ TWX s t := by
  obtain ⟨⟨h1, h2, h3, h4⟩, _⟩ := hA
  obtain ⟨⟨k1, k2, k3, k4⟩, _⟩ := hB
  refine ⟨h.1.ext (h1 1 (by omega)) (h1 2 (by omega)) (h2 3 (by omega)) (h2 2 (by omega)) (k1 1 (by omega) (by omega) (by omega)) (fun i hi => k4 i (fun e => by rw [e] at hi; revert hi; decide)) (k2 0 (by omega) (by omega)), h.2.ext (h1 2 (by omega)) (h2 2 (by omega)) (k4 8 (by omega)) (k2 0 (by omega) (by omega)) (by rw [k3])⟩
theorem a_setW (b : Nat) (p0 p1 : Int32) (p2 : Int64) (σ : ST) {x : Nat} (h : p0.toInt = x) (h1 : (x : Int) < (σ.1 b 1).toInt) (h0 : (x : Int) < (σ.1 b 0).toInt) : QT (f_X7_setWorth b p0 p1 p2 σ) (fun s => s = stL (stI σ (b + 4) x p1) (b + 6) x p2) := by
  have l0 := li_0
  have n0 : p0.toNatClampNeg = x := nC h
  unfold f_X7_setWorth
  refine QT.bnd (pt_isRow b p0 σ) (fun q hq => ?_)
  obtain ⟨v, s⟩ := q
  obtain ⟨e, hv⟩ := hq
  have e : s = σ := e
  subst e
  have hv : v.toInt = 0 ∧ ¬ (0 ≤ p0.toInt ∧ p0.toInt < (s.1 b 1).toInt ∧ p0.toInt < (s.1 b 0).toInt) ∨ v.toInt = 1 ∧ 0 ≤ p0.toInt ∧ p0.toInt < (s.1 b 1).toInt ∧ p0.toInt < (s.1 b 0).toInt := hv
  dsimp only
  refine QT.ieq (fun e => ?_) (fun e => ?_)
  · omega
  · refine QT.grd (fun _ => ?_)
    rw [n0]
    exact QT.ret rfl
/-- where both stand: so many rows of each tree, and what is left of the text -/
def CXT (S T σ τ : ST) (x v : Nat) (F : Int) : Prop := (KVA S σ ∧ KVB T τ) ∧ (LX σ τ ∧ TWX σ τ) ∧ ((σ.1 62 1).toInt = x ∧ (σ.1 62 0).toInt = 502) ∧ (τ.1 0 46).toInt = v ∧ (2 * (x : Int) + (uT τ : Int) ≤ F ∧ x ≤ 502)
/-- the parent of what comes next, at a place between l and m -/
def PAR (σ τ : ST) (x v : Nat) (pa pb pl : Int32) (l m : List EN) : Prop := ((pa.toInt = -1 ∧ pb.toInt = -1) ∧ l = [] ∧ m = [] ∧ pl.toInt = 0) ∨ ∃ (x0 v0 : Nat) (Q : EN → Prop), ((pa.toInt = x0 ∧ x0 < x) ∧ pb.toInt = v0 ∧ v0 < v) ∧ KDS 62 σ τ (x0, x) (v0, v) (l ++ m) Q ∧ (∀ y, y ∈ l ++ m → (inA y = true → (σ.1 (62 + 3) y.2.1.1).toInt = y.1) ∧ (τ.1 25 y.2.2.1).toInt = y.1) ∧ (∀ y, y ∈ l → (y.1 : Int) < pl.toInt) ∧ (∀ y, y ∈ m → pl.toInt < y.1) ∧ (0 ≤ pl.toInt ∧ pl.toInt ≤ 200) ∧ (pl.toInt < 200 ∨ (τ.1 20 v0).toInt = 6)
theorem rA_in {l : List EN} {y : EN} (h : y ∈ l) (k : inA y = true) : y.2.1.1 ∈ rA l := List.mem_map.mpr ⟨y, List.mem_filter.mpr ⟨h, k⟩, rfl⟩
theorem PAR.lt {σ τ : ST} {x v : Nat} {pa pb pl : Int32} {l m : List EN} (h : PAR σ τ x v pa pb pl l m) : pa.toInt < x ∧ pb.toInt < v ∧ (∀ r, r ∈ rA l ++ rA m → r < x) ∧ (∀ r, r ∈ rB l ++ rB m → r < v) ∧ 0 ≤ pl.toInt ∧ pl.toInt ≤ 200 := by
  rcases h with ⟨⟨h1, h2⟩, h3, h4, h5⟩ | ⟨x0, v0, Q, ⟨⟨h1, h2⟩, h3, h4⟩, h5, _, _, _, h9, _⟩
  · refine ⟨by omega, by omega, fun r hr => ?_, fun r hr => ?_, by omega, by omega⟩
    · rw [h3, h4] at hr
      exact absurd hr (by simp [rA])
    · rw [h3, h4] at hr
      exact absurd hr (by simp [rB])
  · refine ⟨by omega, by omega, fun r hr => ?_, fun r hr => ?_, h9.1, h9.2⟩
    · rw [← rA_app] at hr
      obtain ⟨y, y1, y2, y3⟩ := mem_rA hr
      have k := (h5.2.2.2 y y1).2.1
      have k1 := k.1 y2
      have k2 := inA_lt y2
      have k1 : x0 < y.2.1.1 ∧ y.2.1.2 ≤ x := k1
      omega
    · rw [← rB_app] at hr
      obtain ⟨y, y1, y3⟩ := mem_rB hr
      have k : v0 < y.2.2.1 ∧ y.2.2.1 < y.2.2.2 ∧ y.2.2.2 ≤ v := (h5.2.2.2 y y1).1
      omega
theorem PAR.gA {σ τ : ST} {x v : Nat} {pa pb pl : Int32} {l m : List EN} (h : PAR σ τ x v pa pb pl l m) : pa.toInt = -1 ∨ 0 ≤ pa.toInt ∧ pa.toInt < x ∧ ((rA l ++ rA m).Nodup ∧ CN (σ.1 (62 + 9)) (σ.1 (62 + 7) pa.toNatClampNeg) (rA l ++ rA m) ∧ (σ.1 (62 + 8) pa.toNatClampNeg).toInt = lz (-1) (rA l ++ rA m)) ∧ (∀ r, r ∈ rA l ++ rA m → r < x) ∧ (rA l).length ≤ x ∧ (∀ r, r ∈ rA l → (σ.1 (62 + 3) r).toInt < pl.toInt) ∧ (∀ r, r ∈ rA m → pl.toInt ≤ (σ.1 (62 + 3) r).toInt) := by
  have hlt := h.lt
  rcases h with ⟨⟨h1, h2⟩, h3, h4, h5⟩ | ⟨x0, v0, Q, ⟨⟨h1, h2⟩, h3, h4⟩, h5, h6, h7, h8, _⟩
  · exact .inl h1
  · obtain ⟨⟨⟨k1, k2⟩, _⟩, ⟨k3, _⟩, ⟨_, k4⟩, _⟩ := h5
    have n0 : pa.toNatClampNeg = x0 := nC h1
    rw [n0]
    rw [← rA_app]
    have k4 : (rA (l ++ m)).length + x0 < x := k4.1
    have e4 : (rA (l ++ m)).length = (rA l).length + (rA m).length := by rw [rA_app, List.length_append]
    refine .inr ⟨by omega, by omega, ⟨rA_nd k3, k1, k2⟩, by rw [rA_app]; exact hlt.2.2.1, by omega, fun r hr => ?_, fun r hr => ?_⟩
    · obtain ⟨y, y1, y2, y3⟩ := mem_rA hr
      have := (h6 y (List.mem_append_left _ y1)).1 y2
      have := h7 y y1
      rw [y3]
      omega
    · obtain ⟨y, y1, y2, y3⟩ := mem_rA hr
      have := (h6 y (List.mem_append_right _ y1)).1 y2
      have := h8 y y1
      rw [y3]
      omega
theorem PAR.gB {σ τ : ST} {x v : Nat} {pa pb pl : Int32} {l m : List EN} (h : PAR σ τ x v pa pb pl l m) : pb.toInt = -1 ∨ 0 ≤ pb.toInt ∧ pb.toInt < v ∧ ((rB l ++ rB m).Nodup ∧ CN (τ.1 30) (τ.1 28 pb.toNatClampNeg) (rB l ++ rB m) ∧ (τ.1 29 pb.toNatClampNeg).toInt = lz (-1) (rB l ++ rB m)) ∧ (∀ r, r ∈ rB l ++ rB m → r < v) ∧ (∀ r, r ∈ rB l → (τ.1 25 r).toInt < pl.toInt) ∧ (∀ r, r ∈ rB m → pl.toInt ≤ (τ.1 25 r).toInt) := by
  have hlt := h.lt
  rcases h with ⟨⟨h1, h2⟩, h3, h4, h5⟩ | ⟨x0, v0, Q, ⟨⟨h1, h2⟩, h3, h4⟩, h5, h6, h7, h8, _⟩
  · exact .inl h2
  · obtain ⟨⟨_, k1, k2⟩, ⟨k3, _⟩, _, k5⟩ := h5
    have n0 : pb.toNatClampNeg = v0 := nC h3
    rw [n0]
    rw [← rB_app]
    refine .inr ⟨by omega, by omega, ⟨rB_nd k3 (fun y hy => (k5 y hy).1.2.1), k1, k2⟩, by rw [rB_app]; exact hlt.2.2.2.1, fun r hr => ?_, fun r hr => ?_⟩
    · obtain ⟨y, y1, y3⟩ := mem_rB hr
      have := (h6 y (List.mem_append_left _ y1)).2
      have := h7 y y1
      rw [y3]
      omega
    · obtain ⟨y, y1, y3⟩ := mem_rB hr
      have := (h6 y (List.mem_append_right _ y1)).2
      have := h8 y y1
      rw [y3]
      omega
/-- the reference's node and what it does then -/
theorem q_104 {ri rp : Int32 → Int32 → Int32 → Int32 → ST → Option ((Int32 × ST) × Nat)} {rv : Int32 → Int32 → Int32 → Int32 → Int32 → ST → Option ((Int32 × ST) × Nat)} (x1 x3 pb pl br u : Int32) (τ : ST) {v : Nat} {l m : List Nat} (hu : 0 ≤ u.toInt ∧ u.toInt < 800) (hv : (τ.1 0 46).toInt = v) (hpa : pb.toInt = -1 ∨ 0 ≤ pb.toInt ∧ pb.toInt < v ∧ ((l ++ m).Nodup ∧ CN (τ.1 30) (τ.1 28 pb.toNatClampNeg) (l ++ m) ∧ (τ.1 29 pb.toNatClampNeg).toInt = lz (-1) (l ++ m)) ∧ (∀ r, r ∈ l ++ m → r < v) ∧ (∀ r, r ∈ l → (τ.1 25 r).toInt < pl.toInt) ∧ (∀ r, r ∈ m → pl.toInt ≤ (τ.1 25 r).toInt)) (P : Int32 × ST → Prop)
    (k6 : (τ.1 2 u.toNatClampNeg).toInt = 6 → ∀ (w : Int32) (t : ST), w.toInt = v ∧ v < 4096 → GRB v (τ.1 2 u.toNatClampNeg) pb pl br l m τ t → QT (ri x1 u x3 w t) (fun q => P q.1))
    (k7 : (τ.1 2 u.toNatClampNeg).toInt = 7 → ∀ (w : Int32) (t : ST), w.toInt = v ∧ v < 4096 → GRB v (τ.1 2 u.toNatClampNeg) pb pl br l m τ t → QT (rp x1 u x3 w t) (fun q => P q.1))
    (k5 : ¬ (τ.1 2 u.toNatClampNeg).toInt = 6 → ¬ (τ.1 2 u.toNatClampNeg).toInt = 7 → ∀ (t : ST) (c e : Int64) (n : Int32), GRB v (τ.1 2 u.toNatClampNeg) pb pl br l m τ t → BTS (τ.1 2 u.toNatClampNeg).toInt t c → ((τ.1 2 u.toNatClampNeg).toInt = 5 ∧ e = t.2.1 0 7 ∧ n = t.1 0 8 ∨ ¬ (τ.1 2 u.toNatClampNeg).toInt = 5 ∧ e = 0 ∧ n = 0) → QT (f_X11_go (stI (stL (stL t 21 v c) 22 v e) 23 v n)) (fun b => P (1, b))) : QT (f_X11_value_104 ri rp rv x1 x3 pb pl br u 0 τ) (fun q => P q.1) := by
  have l0 := li_0
  have l5 := li_5
  have l6 := li_6
  have l7 := li_7
  unfold f_X11_value_104
  refine QT.ile (fun _ => ?_) (fun h => by omega)
  refine QT.grd (fun _ => ?_)
  refine QT.bnd (b_lays _ pb pl br τ hv hpa) (fun q hq => ?_)
  obtain ⟨w, t⟩ := q
  obtain ⟨⟨hw, hv4⟩, g⟩ := hq
  have hw : w.toInt = v := hw
  have g : GRB v (τ.1 2 u.toNatClampNeg) pb pl br l m τ t := g
  have e2 : t.1 2 = τ.1 2 := g.1.1 2 (by omega) (by omega) (by omega)
  dsimp only
  rw [e2]
  have nw : w.toNatClampNeg = v := nC hw
  refine QT.ieq (fun e6 => ?_) (fun e6 => ?_)
  · refine QT.bnd (k6 (by omega) w t ⟨hw, hv4⟩ g) (fun z hz => QT.kac ?_)
    exact QT.grd (fun _ => QT.ret hz)
  refine QT.ieq (fun e7 => ?_) (fun e7 => ?_)
  · refine QT.bnd (k7 (by omega) w t ⟨hw, hv4⟩ g) (fun z hz => QT.kac ?_)
    exact QT.grd (fun _ => QT.ret hz)
  refine QT.bndK (bx_bitsOf u t hu) (fun c x hc => QT.kac ?_)
  rw [e2] at hc
  dsimp only
  refine QT.grd (fun _ => ?_)
  rw [nw]
  have es : (stL t 21 v c).1 2 = τ.1 2 := e2
  rw [es]
  unfold f_X11_value_221 f_X11_value_247
  rw [nw]
  have fin : ∀ (e : Int64) (n : Int32), ((τ.1 2 u.toNatClampNeg).toInt = 5 ∧ e = t.2.1 0 7 ∧ n = t.1 0 8 ∨ ¬ (τ.1 2 u.toNatClampNeg).toInt = 5 ∧ e = 0 ∧ n = 0) → QT ((f_X11_go (stI (stL (stL t 21 v c) 22 v e) 23 v n)).bind fun q2 => some (((1 : Int32), q2), 0)) (fun q => P q.1) := fun e n he => QT.bnd (k5 (by omega) (by omega) t c e n g hc he) (fun z hz => QT.ret hz)
  have e7L : (stL t 21 v c).2.1 0 = t.2.1 0 := stL_ne (by omega)
  refine QT.ieq (fun e5 => ?_) (fun e5 => ?_)
  · refine QT.grd (fun _ => QT.grd (fun _ => ?_))
    have es2 : (stL (stL t 21 v c) 22 v ((stL t 21 v c).2.1 0 7)).1 2 = τ.1 2 := e2
    rw [es2]
    refine QT.ieq (fun _ => ?_) (fun h => by omega)
    refine QT.grd (fun _ => ?_)
    rw [e7L]
    exact fin _ _ (.inl ⟨by omega, rfl, rfl⟩)
  · refine QT.grd (fun _ => QT.grd (fun _ => ?_))
    have es2 : (stL (stL t 21 v c) 22 v 0).1 2 = τ.1 2 := e2
    rw [es2]
    refine QT.ieq (fun h => by omega) (fun _ => ?_)
    refine QT.grd (fun _ => ?_)
    exact fin _ _ (.inr ⟨by omega, rfl, rfl⟩)
/-! where the class takes a number for none -/
theorem q_ptn (τ : ST) (h : PTN τ) (hX : TX τ) : QT (f_X11_go τ) (fun t => TX t ∧ (t.1 0 6).toInt = 5 ∧ (t.1 0 13).toInt = 0) := by
  obtain ⟨h13, h6, k, h5, h46⟩ := h
  have b5 := hX.2.1
  have b3 := hX.1
  unfold bI at b5 b3
  refine (QT.ok ((b_go τ k b3 h5 (by omega)).and (b_goT τ hX))).mono (fun t ht => ?_)
  obtain ⟨⟨_, s, hs, hT⟩, _, tx, _⟩ := ht
  have es : s = k := by
    rcases Nat.lt_or_ge k s with h9 | h9
    · have := hs.2.1 k (Nat.le_refl _) h9
      unfold isB at this
      omega
    · exact Nat.le_antisymm h9 hs.1
  subst es
  refine ⟨tx, ?_⟩
  obtain ⟨_, h | h | h | h | h⟩ := hT
  · have := h.1
    clear h
    omega
  · have := h.1
    clear h
    unfold isL at this
    omega
  · have h9 := h.1
    clear h
    unfold isD at h9
    omega
  · have := h.1
    clear h
    omega
  · rcases h.2.2 with h9 | h9
    · have := h9.1
      clear h h9
      omega
    · exact h9.2
theorem PTN.ext {τ t : ST} (h : PTN τ) (e0 : ∀ j, j ≠ 46 → t.1 0 j = τ.1 0 j) (e1 : t.1 1 = τ.1 1) : PTN t := by
  unfold PTN
  rw [e0 13 (by omega), e0 6 (by omega), e0 5 (by omega), e0 3 (by omega), e1]
  exact h
theorem TX.ext {τ t : ST} (h : TX τ) (e0 : ∀ j, j ≠ 46 → t.1 0 j = τ.1 0 j) : TX t ∧ uT t = uT τ := TX.of h (e0 3 (by omega)) (e0 5 (by omega)) (e0 6 (by omega)) (e0 8 (by omega)) (e0 13 (by omega))
theorem stI0 {σ : ST} {c i : Nat} {v : Int32} (h : ¬ c = 0) : (stI σ c i v).1 0 = σ.1 0 := stI_ne (fun e => h e.symm)
/-- the reference, where the class takes a number for none: it stands at a point then -/
theorem q_ptn42 {ri rp : Int32 → Int32 → Int32 → Int32 → ST → Option ((Int32 × ST) × Nat)} {rv : Int32 → Int32 → Int32 → Int32 → Int32 → ST → Option ((Int32 × ST) × Nat)} (x1 x3 pb pl br u : Int32) (τ : ST) {v : Nat} {l m : List Nat} (hu : 0 ≤ u.toInt ∧ u.toInt < 800) (hv : (τ.1 0 46).toInt = v) (hpa : pb.toInt = -1 ∨ 0 ≤ pb.toInt ∧ pb.toInt < v ∧ ((l ++ m).Nodup ∧ CN (τ.1 30) (τ.1 28 pb.toNatClampNeg) (l ++ m) ∧ (τ.1 29 pb.toNatClampNeg).toInt = lz (-1) (l ++ m)) ∧ (∀ r, r ∈ l ++ m → r < v) ∧ (∀ r, r ∈ l → (τ.1 25 r).toInt < pl.toInt) ∧ (∀ r, r ∈ m → pl.toInt ≤ (τ.1 25 r).toInt)) (h : PTN τ) (hX : TX τ) (L : Int) : QT (f_X11_value_42 ri rp rv x1 x3 pb pl br u τ) (fun q => q.1.1 = 0 ∨ ¬ q.1.1 = 0 ∧ DMD L q.1.2) := by
  have h13 := h.1
  have h6 := h.2.1
  refine q_val42 x1 x3 pb pl br u τ hu (fun q => q.1 = 0 ∨ ¬ q.1 = 0 ∧ DMD L q.2) (fun _ q hq => .inl hq) (fun _ hF _ _ => ?_)
  have hs : ¬ (τ.1 2 u.toNatClampNeg).toInt = 6 ∧ ¬ (τ.1 2 u.toNatClampNeg).toInt = 7 := by
    refine ⟨fun e => ?_, fun e => ?_⟩
    · rw [e] at hF
      have := ft_6.mp hF
      omega
    · rw [e] at hF
      have := ft_7.mp hF
      omega
  refine q_104 x1 x3 pb pl br u τ hu hv hpa (fun q => q.1 = 0 ∨ ¬ q.1 = 0 ∧ DMD L q.2) (fun e => absurd e hs.1) (fun e => absurd e hs.2) (fun _ _ t c e n g _ _ => ?_)
  have e0 : ∀ j, j ≠ 46 → (stI (stL (stL t 21 v c) 22 v e) 23 v n).1 0 j = τ.1 0 j := fun j hj => by
    rw [stI0 (by omega)]
    exact g.1.2.2.2 j hj
  have e1 : (stI (stL (stL t 21 v c) 22 v e) 23 v n).1 1 = τ.1 1 := by
    rw [stI_ne (by omega)]
    exact g.1.1 1 (by omega) (by omega) (by omega)
  refine (q_ptn _ (h.ext e0 e1) (hX.ext e0).1).mono (fun z hz => .inr ⟨one_ne, hz.1, .inl hz.2⟩)
