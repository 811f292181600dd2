/-! a value's node: both sides, and what has no others in it -/
theorem TWX.ext {σ τ a b : ST} (h : TWX σ τ) (a1 : a.1 2 = σ.1 2) (a2 : a.2.1 2 = σ.2.1 2) (b1 : b.1 0 8 = τ.1 0 8) (b2 : b.2.1 0 = τ.2.1 0) (b3 : b.2.2.1 = τ.2.2.1) : TWX a b := by
  unfold TWX
  rw [a1, a2, b1, b2, b3]
  exact h
theorem CA.kva {σ a : ST} (h : CA σ a) : KVA σ a := ⟨fun c c2 _ => h.1 c c2, ⟨h.2.1, fun i _ => by rw [h.1 62 (by omega)]⟩, fun c c2 _ => h.2.2.1 c c2, h.2.2.2⟩
theorem CH.kvb {τ b : ST} (h : CH [] GI τ b) (hL : ∀ c, c ≠ 0 → b.2.1 c = τ.2.1 c) : KVB τ b := ⟨fun c c0 _ _ => h.1 c c0 (by simp), fun i i4 i5 i6 i8 i10 i12 i13 i46 => h.2.1 i (by
  simp only [GI, List.mem_cons, List.not_mem_nil, or_false, not_or]
  exact ⟨i4, i5, i6, i8, i10, i13⟩), fun c c0 _ _ => hL c c0⟩
theorem GRW.kva {x : Nat} {so pa pl : Int32} {l m : List Nat} {σ s : ST} (h : GRW 62 x so pa pl l m σ s) : KVA σ s := by
  obtain ⟨⟨h1, h2, h3, h4⟩, _⟩ := h
  exact ⟨fun c _ hc => h1 c (by omega), ⟨by rw [h1 2 (by omega)], fun i hi => h4 i hi⟩, fun c _ hc => h2 c (by omega), h3⟩
theorem GRB.kvb {x : Nat} {so pa pl br : Int32} {l m : List Nat} {τ t : ST} (h : GRB x so pa pl br l m τ t) : KVB τ t := by
  obtain ⟨⟨h1, h2, h3, h4⟩, _⟩ := h
  exact ⟨fun c c0 c20 hc => h1 c c0 c20 hc, fun i _ _ _ _ _ _ _ h46 => h4 i h46, fun c _ c21 c22 => h2 c c21 c22⟩
/-- the tokens stay as a node comes -/
theorem LX.grow {x v : Nat} {so so' pa pb pl br : Int32} {l m l' m' : List Nat} {σ τ s t : ST} (h : LX σ τ ∧ TWX σ τ) (hA : GRW 62 x so pa pl l m σ s) (hB : GRB v so' pb pl br l' m' τ t) : LX s t ∧ TWX s t := by
  obtain ⟨⟨h1, h2, h3, h4⟩, _⟩ := hA
  obtain ⟨⟨k1, k2, k3, k4⟩, _⟩ := hB
  refine ⟨h.1.ext (h1 1 (by omega)) (h1 2 (by omega)) (h2 3 (by omega)) (h2 2 (by omega)) (k1 1 (by omega) (by omega) (by omega)) (fun i hi => k4 i (fun e => by rw [e] at hi; revert hi; decide)) (k2 0 (by omega) (by omega)), h.2.ext (h1 2 (by omega)) (h2 2 (by omega)) (k4 8 (by omega)) (k2 0 (by omega) (by omega)) (by rw [k3])⟩
theorem a_setW (b : Nat) (p0 p1 : Int32) (p2 : Int64) (σ : ST) {x : Nat} (h : p0.toInt = x) (h1 : (x : Int) < (σ.1 b 1).toInt) (h0 : (x : Int) < (σ.1 b 0).toInt) : QT (f_X7_setWorth b p0 p1 p2 σ) (fun s => s = stL (stI σ (b + 4) x p1) (b + 6) x p2) := by
  have l0 := li_0
  have n0 : p0.toNatClampNeg = x := nC h
  unfold f_X7_setWorth
  refine QT.bnd (pt_isRow b p0 σ) (fun q hq => ?_)
  obtain ⟨v, s⟩ := q
  obtain ⟨e, hv⟩ := hq
  have e : s = σ := e
  subst e
  have hv : v.toInt = 0 ∧ ¬ (0 ≤ p0.toInt ∧ p0.toInt < (s.1 b 1).toInt ∧ p0.toInt < (s.1 b 0).toInt) ∨ v.toInt = 1 ∧ 0 ≤ p0.toInt ∧ p0.toInt < (s.1 b 1).toInt ∧ p0.toInt < (s.1 b 0).toInt := hv
  dsimp only
  refine QT.ieq (fun e => ?_) (fun e => ?_)
  · omega
  · refine QT.grd (fun _ => ?_)
    rw [n0]
    exact QT.ret rfl
/-- where both stand: so many rows of each tree, and what is left of the text -/
def CXT (S T σ τ : ST) (x v : Nat) (F : Int) : Prop := (KVA S σ ∧ KVB T τ) ∧ (LX σ τ ∧ TWX σ τ) ∧ ((σ.1 62 1).toInt = x ∧ (σ.1 62 0).toInt = 502) ∧ (τ.1 0 46).toInt = v ∧ (2 * (x : Int) + (uT τ : Int) ≤ F ∧ x ≤ 502)
/-- the parent of what comes next, at a place between l and m -/
def PAR (σ τ : ST) (x v : Nat) (pa pb pl : Int32) (l m : List EN) : Prop := ((pa.toInt = -1 ∧ pb.toInt = -1) ∧ l = [] ∧ m = [] ∧ pl.toInt = 0) ∨ ∃ (x0 v0 : Nat) (Q : EN → Prop), ((pa.toInt = x0 ∧ x0 < x) ∧ pb.toInt = v0 ∧ v0 < v) ∧ KDS 62 σ τ (x0, x) (v0, v) (l ++ m) Q ∧ (∀ y, y ∈ l ++ m → (inA y = true → (σ.1 (62 + 3) y.2.1.1).toInt = y.1) ∧ (τ.1 25 y.2.2.1).toInt = y.1) ∧ (∀ y, y ∈ l → (y.1 : Int) < pl.toInt) ∧ (∀ y, y ∈ m → pl.toInt < y.1) ∧ (0 ≤ pl.toInt ∧ pl.toInt ≤ 200) ∧ (pl.toInt < 200 ∨ (τ.1 20 v0).toInt = 6)
theorem rA_in {l : List EN} {y : EN} (h : y ∈ l) (k : inA y = true) : y.2.1.1 ∈ rA l := List.mem_map.mpr ⟨y, List.mem_filter.mpr ⟨h, k⟩, rfl⟩
theorem PAR.lt {σ τ : ST} {x v : Nat} {pa pb pl : Int32} {l m : List EN} (h : PAR σ τ x v pa pb pl l m) : pa.toInt < x ∧ pb.toInt < v ∧ (∀ r, r ∈ rA l ++ rA m → r < x) ∧ (∀ r, r ∈ rB l ++ rB m → r < v) ∧ 0 ≤ pl.toInt ∧ pl.toInt ≤ 200 := by
  rcases h with ⟨⟨h1, h2⟩, h3, h4, h5⟩ | ⟨x0, v0, Q, ⟨⟨h1, h2⟩, h3, h4⟩, h5, _, _, _, h9, _⟩
  · refine ⟨by omega, by omega, fun r hr => ?_, fun r hr => ?_, by omega, by omega⟩
    · rw [h3, h4] at hr
      exact absurd hr (by simp [rA])
    · rw [h3, h4] at hr
      exact absurd hr (by simp [rB])
  · refine ⟨by omega, by omega, fun r hr => ?_, fun r hr => ?_, h9.1, h9.2⟩
    · rw [← rA_app] at hr
      obtain ⟨y, y1, y2, y3⟩ := mem_rA hr
      have k := (h5.2.2.2 y y1).2.1
      have k1 := k.1 y2
      have k2 := inA_lt y2
      have k1 : x0 < y.2.1.1 ∧ y.2.1.2 ≤ x := k1
      omega
    · rw [← rB_app] at hr
      obtain ⟨y, y1, y3⟩ := mem_rB hr
      have k : v0 < y.2.2.1 ∧ y.2.2.1 < y.2.2.2 ∧ y.2.2.2 ≤ v := (h5.2.2.2 y y1).1
      omega
theorem PAR.gA {σ τ : ST} {x v : Nat} {pa pb pl : Int32} {l m : List EN} (h : PAR σ τ x v pa pb pl l m) : pa.toInt = -1 ∨ 0 ≤ pa.toInt ∧ pa.toInt < x ∧ ((rA l ++ rA m).Nodup ∧ CN (σ.1 (62 + 9)) (σ.1 (62 + 7) pa.toNatClampNeg) (rA l ++ rA m) ∧ (σ.1 (62 + 8) pa.toNatClampNeg).toInt = lz (-1) (rA l ++ rA m)) ∧ (∀ r, r ∈ rA l ++ rA m → r < x) ∧ (rA l).length ≤ x ∧ (∀ r, r ∈ rA l → (σ.1 (62 + 3) r).toInt < pl.toInt) ∧ (∀ r, r ∈ rA m → pl.toInt ≤ (σ.1 (62 + 3) r).toInt) := by
  have hlt := h.lt
  rcases h with ⟨⟨h1, h2⟩, h3, h4, h5⟩ | ⟨x0, v0, Q, ⟨⟨h1, h2⟩, h3, h4⟩, h5, h6, h7, h8, _⟩
  · exact .inl h1
  · obtain ⟨⟨⟨k1, k2⟩, _⟩, ⟨k3, _⟩, ⟨_, k4⟩, _⟩ := h5
    have n0 : pa.toNatClampNeg = x0 := nC h1
    rw [n0]
    rw [← rA_app]
    have k4 : (rA (l ++ m)).length + x0 < x := k4.1
    have e4 : (rA (l ++ m)).length = (rA l).length + (rA m).length := by rw [rA_app, List.length_append]
    refine .inr ⟨by omega, by omega, ⟨rA_nd k3, k1, k2⟩, by rw [rA_app]; exact hlt.2.2.1, by omega, fun r hr => ?_, fun r hr => ?_⟩
    · obtain ⟨y, y1, y2, y3⟩ := mem_rA hr
      have := (h6 y (List.mem_append_left _ y1)).1 y2
      have := h7 y y1
      rw [y3]
      omega
    · obtain ⟨y, y1, y2, y3⟩ := mem_rA hr
      have := (h6 y (List.mem_append_right _ y1)).1 y2
      have := h8 y y1
      rw [y3]
      omega
theorem PAR.gB {σ τ : ST} {x v : Nat} {pa pb pl : Int32} {l m : List EN} (h : PAR σ τ x v pa pb pl l m) : pb.toInt = -1 ∨ 0 ≤ pb.toInt ∧ pb.toInt < v ∧ ((rB l ++ rB m).Nodup ∧ CN (τ.1 30) (τ.1 28 pb.toNatClampNeg) (rB l ++ rB m) ∧ (τ.1 29 pb.toNatClampNeg).toInt = lz (-1) (rB l ++ rB m)) ∧ (∀ r, r ∈ rB l ++ rB m → r < v) ∧ (∀ r, r ∈ rB l → (τ.1 25 r).toInt < pl.toInt) ∧ (∀ r, r ∈ rB m → pl.toInt ≤ (τ.1 25 r).toInt) := by
  have hlt := h.lt
  rcases h with ⟨⟨h1, h2⟩, h3, h4, h5⟩ | ⟨x0, v0, Q, ⟨⟨h1, h2⟩, h3, h4⟩, h5, h6, h7, h8, _⟩
  · exact .inl h2
  · obtain ⟨⟨_, k1, k2⟩, ⟨k3, _⟩, _, k5⟩ := h5
    have n0 : pb.toNatClampNeg = v0 := nC h3
    rw [n0]
    rw [← rB_app]
    refine .inr ⟨by omega, by omega, ⟨rB_nd k3 (fun y hy => (k5 y hy).1.2.1), k1, k2⟩, by rw [rB_app]; exact hlt.2.2.2.1, fun r hr => ?_, fun r hr => ?_⟩
    · obtain ⟨y, y1, y3⟩ := mem_rB hr
      have := (h6 y (List.mem_append_left _ y1)).2
      have := h7 y y1
      rw [y3]
      omega
    · obtain ⟨y, y1, y3⟩ := mem_rB hr
      have := (h6 y (List.mem_append_right _ y1)).2
      have := h8 y y1
      rw [y3]
      omega
/-- the reference's node and what it does then -/
theorem q_104 {ri rp : Int32 → Int32 → Int32 → Int32 → ST → Option ((Int32 × ST) × Nat)} {rv : Int32 → Int32 → Int32 → Int32 → Int32 → ST → Option ((Int32 × ST) × Nat)} (x1 x3 pb pl br u : Int32) (τ : ST) {v : Nat} {l m : List Nat} (hu : 0 ≤ u.toInt ∧ u.toInt < 800) (hv : (τ.1 0 46).toInt = v) (hpa : pb.toInt = -1 ∨ 0 ≤ pb.toInt ∧ pb.toInt < v ∧ ((l ++ m).Nodup ∧ CN (τ.1 30) (τ.1 28 pb.toNatClampNeg) (l ++ m) ∧ (τ.1 29 pb.toNatClampNeg).toInt = lz (-1) (l ++ m)) ∧ (∀ r, r ∈ l ++ m → r < v) ∧ (∀ r, r ∈ l → (τ.1 25 r).toInt < pl.toInt) ∧ (∀ r, r ∈ m → pl.toInt ≤ (τ.1 25 r).toInt)) (P : Int32 × ST → Prop)
    (k6 : (τ.1 2 u.toNatClampNeg).toInt = 6 → ∀ (w : Int32) (t : ST), w.toInt = v ∧ v < 4096 → GRB v (τ.1 2 u.toNatClampNeg) pb pl br l m τ t → QT (ri x1 u x3 w t) (fun q => P q.1))
    (k7 : (τ.1 2 u.toNatClampNeg).toInt = 7 → ∀ (w : Int32) (t : ST), w.toInt = v ∧ v < 4096 → GRB v (τ.1 2 u.toNatClampNeg) pb pl br l m τ t → QT (rp x1 u x3 w t) (fun q => P q.1))
    (k5 : ¬ (τ.1 2 u.toNatClampNeg).toInt = 6 → ¬ (τ.1 2 u.toNatClampNeg).toInt = 7 → ∀ (t : ST) (c e : Int64) (n : Int32), GRB v (τ.1 2 u.toNatClampNeg) pb pl br l m τ t → BTS (τ.1 2 u.toNatClampNeg).toInt t c → ((τ.1 2 u.toNatClampNeg).toInt = 5 ∧ e = t.2.1 0 7 ∧ n = t.1 0 8 ∨ ¬ (τ.1 2 u.toNatClampNeg).toInt = 5 ∧ e = 0 ∧ n = 0) → QT (f_X11_go (stI (stL (stL t 21 v c) 22 v e) 23 v n)) (fun b => P (1, b))) : QT (f_X11_value_104 ri rp rv x1 x3 pb pl br u 0 τ) (fun q => P q.1) := by
  have l0 := li_0
  have l5 := li_5
  have l6 := li_6
  have l7 := li_7
  unfold f_X11_value_104
  refine QT.ile (fun _ => ?_) (fun h => by omega)
  refine QT.grd (fun _ => ?_)
  refine QT.bnd (b_lays _ pb pl br τ hv hpa) (fun q hq => ?_)
  obtain ⟨w, t⟩ := q
  obtain ⟨⟨hw, hv4⟩, g⟩ := hq
  have hw : w.toInt = v := hw
  have g : GRB v (τ.1 2 u.toNatClampNeg) pb pl br l m τ t := g
  have e2 : t.1 2 = τ.1 2 := g.1.1 2 (by omega) (by omega) (by omega)
  dsimp only
  rw [e2]
  have nw : w.toNatClampNeg = v := nC hw
  refine QT.ieq (fun e6 => ?_) (fun e6 => ?_)
  · refine QT.bnd (k6 (by omega) w t ⟨hw, hv4⟩ g) (fun z hz => QT.kac ?_)
    exact QT.grd (fun _ => QT.ret hz)
  refine QT.ieq (fun e7 => ?_) (fun e7 => ?_)
  · refine QT.bnd (k7 (by omega) w t ⟨hw, hv4⟩ g) (fun z hz => QT.kac ?_)
    exact QT.grd (fun _ => QT.ret hz)
  refine QT.bndK (bx_bitsOf u t hu) (fun c x hc => QT.kac ?_)
  rw [e2] at hc
  dsimp only
  refine QT.grd (fun _ => ?_)
  rw [nw]
  have es : (stL t 21 v c).1 2 = τ.1 2 := e2
  rw [es]
  unfold f_X11_value_221 f_X11_value_247
  rw [nw]
  have fin : ∀ (e : Int64) (n : Int32), ((τ.1 2 u.toNatClampNeg).toInt = 5 ∧ e = t.2.1 0 7 ∧ n = t.1 0 8 ∨ ¬ (τ.1 2 u.toNatClampNeg).toInt = 5 ∧ e = 0 ∧ n = 0) → QT ((f_X11_go (stI (stL (stL t 21 v c) 22 v e) 23 v n)).bind fun q2 => some (((1 : Int32), q2), 0)) (fun q => P q.1) := fun e n he => QT.bnd (k5 (by omega) (by omega) t c e n g hc he) (fun z hz => QT.ret hz)
  have e7L : (stL t 21 v c).2.1 0 = t.2.1 0 := stL_ne (by omega)
  refine QT.ieq (fun e5 => ?_) (fun e5 => ?_)
  · refine QT.grd (fun _ => QT.grd (fun _ => ?_))
    have es2 : (stL (stL t 21 v c) 22 v ((stL t 21 v c).2.1 0 7)).1 2 = τ.1 2 := e2
    rw [es2]
    refine QT.ieq (fun _ => ?_) (fun h => by omega)
    refine QT.grd (fun _ => ?_)
    rw [e7L]
    exact fin _ _ (.inl ⟨by omega, rfl, rfl⟩)
  · refine QT.grd (fun _ => QT.grd (fun _ => ?_))
    have es2 : (stL (stL t 21 v c) 22 v 0).1 2 = τ.1 2 := e2
    rw [es2]
    refine QT.ieq (fun h => by omega) (fun _ => ?_)
    refine QT.grd (fun _ => ?_)
    exact fin _ _ (.inr ⟨by omega, rfl, rfl⟩)
/-! where the class takes a number for none -/
theorem q_ptn (τ : ST) (h : PTN τ) (hX : TX τ) : QT (f_X11_go τ) (fun t => TX t ∧ (t.1 0 6).toInt = 5 ∧ (t.1 0 13).toInt = 0) := by
  obtain ⟨h13, h6, k, h5, h46⟩ := h
  have b5 := hX.2.1
  have b3 := hX.1
  unfold bI at b5 b3
  refine (QT.ok ((b_go τ k b3 h5 (by omega)).and (b_goT τ hX))).mono (fun t ht => ?_)
  obtain ⟨⟨_, s, hs, hT⟩, _, tx, _⟩ := ht
  have es : s = k := by
    rcases Nat.lt_or_ge k s with h9 | h9
    · have := hs.2.1 k (Nat.le_refl _) h9
      unfold isB at this
      omega
    · exact Nat.le_antisymm h9 hs.1
  subst es
  refine ⟨tx, ?_⟩
  obtain ⟨_, h | h | h | h | h⟩ := hT
  · have := h.1
    clear h
    omega
  · have := h.1
    clear h
    unfold isL at this
    omega
  · have h9 := h.1
    clear h
    unfold isD at h9
    omega
  · have := h.1
    clear h
    omega
  · rcases h.2.2 with h9 | h9
    · have := h9.1
      clear h h9
      omega
    · exact h9.2
theorem PTN.ext {τ t : ST} (h : PTN τ) (e0 : ∀ j, j ≠ 46 → t.1 0 j = τ.1 0 j) (e1 : t.1 1 = τ.1 1) : PTN t := by
  unfold PTN
  rw [e0 13 (by omega), e0 6 (by omega), e0 5 (by omega), e0 3 (by omega), e1]
  exact h
theorem TX.ext {τ t : ST} (h : TX τ) (e0 : ∀ j, j ≠ 46 → t.1 0 j = τ.1 0 j) : TX t ∧ uT t = uT τ := TX.of h (e0 3 (by omega)) (e0 5 (by omega)) (e0 6 (by omega)) (e0 8 (by omega)) (e0 13 (by omega))
theorem stI0 {σ : ST} {c i : Nat} {v : Int32} (h : ¬ c = 0) : (stI σ c i v).1 0 = σ.1 0 := stI_ne (fun e => h e.symm)
/-- the reference, where the class takes a number for none: it stands at a point then -/
theorem q_ptn42 {ri rp : Int32 → Int32 → Int32 → Int32 → ST → Option ((Int32 × ST) × Nat)} {rv : Int32 → Int32 → Int32 → Int32 → Int32 → ST → Option ((Int32 × ST) × Nat)} (x1 x3 pb pl br u : Int32) (τ : ST) {v : Nat} {l m : List Nat} (hu : 0 ≤ u.toInt ∧ u.toInt < 800) (hv : (τ.1 0 46).toInt = v) (hpa : pb.toInt = -1 ∨ 0 ≤ pb.toInt ∧ pb.toInt < v ∧ ((l ++ m).Nodup ∧ CN (τ.1 30) (τ.1 28 pb.toNatClampNeg) (l ++ m) ∧ (τ.1 29 pb.toNatClampNeg).toInt = lz (-1) (l ++ m)) ∧ (∀ r, r ∈ l ++ m → r < v) ∧ (∀ r, r ∈ l → (τ.1 25 r).toInt < pl.toInt) ∧ (∀ r, r ∈ m → pl.toInt ≤ (τ.1 25 r).toInt)) (h : PTN τ) (hX : TX τ) (L : Int) : QT (f_X11_value_42 ri rp rv x1 x3 pb pl br u τ) (fun q => q.1.1 = 0 ∨ ¬ q.1.1 = 0 ∧ DMD L q.1.2) := by
  have h13 := h.1
  have h6 := h.2.1
  refine q_val42 x1 x3 pb pl br u τ hu (fun q => q.1 = 0 ∨ ¬ q.1 = 0 ∧ DMD L q.2) (fun _ q hq => .inl hq) (fun _ hF _ _ => ?_)
  have hs : ¬ (τ.1 2 u.toNatClampNeg).toInt = 6 ∧ ¬ (τ.1 2 u.toNatClampNeg).toInt = 7 := by
    refine ⟨fun e => ?_, fun e => ?_⟩
    · rw [e] at hF
      have := ft_6.mp hF
      omega
    · rw [e] at hF
      have := ft_7.mp hF
      omega
  refine q_104 x1 x3 pb pl br u τ hu hv hpa (fun q => q.1 = 0 ∨ ¬ q.1 = 0 ∧ DMD L q.2) (fun e => absurd e hs.1) (fun e => absurd e hs.2) (fun _ _ t c e n g _ _ => ?_)
  have e0 : ∀ j, j ≠ 46 → (stI (stL (stL t 21 v c) 22 v e) 23 v n).1 0 j = τ.1 0 j := fun j hj => by
    rw [stI0 (by omega)]
    exact g.1.2.2.2 j hj
  have e1 : (stI (stL (stL t 21 v c) 22 v e) 23 v n).1 1 = τ.1 1 := by
    rw [stI_ne (by omega)]
    exact g.1.1 1 (by omega) (by omega) (by omega)
  refine (q_ptn _ (h.ext e0 e1) (hX.ext e0).1).mono (fun z hz => .inr ⟨one_ne, hz.1, .inl hz.2⟩)
/-! a value that has no others in it: both sides -/
theorem FT_.to {τ t : ST} (e0 : ∀ j, j ≠ 46 → t.1 0 j = τ.1 0 j) (eL : t.2.1 0 = τ.2.1 0) (s : Int) : FT_ t s ↔ FT_ τ s := by
  unfold FT_ W_
  rw [e0 6 (by omega), e0 10 (by omega), e0 13 (by omega), eL]
/-- what the class keeps of a token as a value -/
def WCN (s : Int32) (t : ST) (w : Int64) (cnt : Int32) : Prop := ∀ (c e : Int64) (n : Int32), BTS s.toInt t c → (s.toInt = 5 ∧ e = t.2.1 0 7 ∧ n = t.1 0 8 ∨ ¬ s.toInt = 5 ∧ e = 0 ∧ n = 0) → EWR s.toInt w c e n ∧ cnt.toInt = n.toInt
theorem a_93 {rF rI : Int32 → Int32 → Int32 → ST → Option (Int32 × ST)} {rV : Int32 → Int32 → Int32 → Int32 → ST → Option (Int32 × ST)} (x4 x5 s row : Int32) (σ t : ST) (hrow : 0 ≤ row.toInt) (hX : LX σ t) (hW : TWX σ t) (hk : ¬ (σ.1 2 4).toInt = 1) (hF : FT_ t s.toInt) (P : Int32 × ST → Prop) (k : ∀ (w : Int64) (cnt : Int32), WCN s t w cnt → QT (f_X8_parseValue_142 rF rI rV x4 x5 s row w cnt row σ) P) : QT (f_X8_parseValue_93 rF rI rV x4 x5 s row σ) P := by
  have l0 := li_0
  have l5 := li_5
  have lm := li_m1
  unfold f_X8_parseValue_93
  refine QT.ieq (fun e => by omega) (fun _ => ?_)
  refine QT.bndR (ab_ewr s σ t hX hW hk hF) (fun w hw => ?_)
  dsimp only
  refine QT.ieq (fun e5 => ?_) (fun e5 => ?_)
  · have h5 : (t.1 0 6).toInt = 3 := by
      rw [show s.toInt = 5 by omega] at hF
      exact ft_5.mp hF
    have bts : BTS s.toInt t 0 := ⟨fun h => by omega, fun h => by omega, fun h => by omega, fun _ => rfl⟩
    have k0 := hw 0 (t.2.1 0 7) (t.1 0 8) bts (.inl ⟨h5, rfl, rfl⟩)
    unfold EWR at k0
    rw [if_pos (by omega)] at k0
    rw [a_lettersIn12 w (t.2.1 0 7) (t.1 0 8) σ k0.2]
    rw [sbnd]
    dsimp only
    refine k w _ (fun c e n hc he => ?_)
    rcases he with ⟨_, he, hn⟩ | ⟨h9, _⟩
    · exact ⟨hw c e n hc (.inl ⟨h5, he, hn⟩), by rw [hn]⟩
    · exact absurd (by omega) h9
  · have hn5 := ft_n5 hF (by omega) (fun h => hX.q13 h)
    refine k w 0 (fun c e n hc he => ?_)
    rcases he with ⟨h9, _⟩ | ⟨_, he, hn⟩
    · exact absurd h9 (by omega)
    · exact ⟨hw c e n hc (.inr ⟨hn5, he, by rw [hn]; exact l0⟩), by rw [hn]⟩
theorem SUA.set {b x : Nat} {σ : ST} {c : Int32} {w : Int64} : SUA b x σ (stL (stI σ (b + 4) x c) (b + 6) x w) := by
  have e1 : ∀ d, d ≠ b + 4 → (stL (stI σ (b + 4) x c) (b + 6) x w).1 d = σ.1 d := fun d hd => stI_ne hd
  have e4 : ∀ i, i ≠ x → (stL (stI σ (b + 4) x c) (b + 6) x w).1 (b + 4) i = σ.1 (b + 4) i := fun i hi => by
    show (stI σ (b + 4) x c).1 (b + 4) i = _
    rw [stI_at, upN hi]
  have e6 : ∀ i, i ≠ x → (stL (stI σ (b + 4) x c) (b + 6) x w).2.1 (b + 6) i = σ.2.1 (b + 6) i := fun i hi => by
    rw [stLA, upLN hi]
    rfl
  refine ⟨fun i hi => ⟨⟨fun k k1 k5 => ?_, e6 i (by omega)⟩, by rw [e1 _ (by omega)], by rw [e1 _ (by omega)], by rw [e1 _ (by omega)]⟩, by rw [e1 _ (by omega)], by rw [e1 _ (by omega)], by rw [e1 _ (by omega)], by rw [e1 _ (by omega)], by rw [e1 _ (by omega)]⟩
  by_cases e : k = 4
  · rw [e]
    exact e4 i (by omega)
  · rw [e1 _ (by omega)]
theorem SUA.eq {b x : Nat} {σ s : ST} (h : ∀ c, b ≤ c → s.1 c = σ.1 c) (h2 : s.2.1 (b + 6) = σ.2.1 (b + 6)) : SUA b x σ s := ⟨fun i _ => ⟨⟨fun k _ _ => by rw [h _ (by omega)], by rw [h2]⟩, by rw [h _ (by omega)], by rw [h _ (by omega)], by rw [h _ (by omega)]⟩, by rw [h _ (by omega)], by rw [h _ (by omega)], by rw [h _ (by omega)], by rw [h _ (by omega)], by rw [h _ (by omega)]⟩
theorem CA.sua {x : Nat} {σ a : ST} (h : CA σ a) : SUA 62 x σ a := SUA.eq (fun c hc => h.1 c (by omega)) (h.2.2.1 _ (by omega))
theorem SUB.set {v : Nat} {τ : ST} {c e : Int64} {n : Int32} : SUB v τ (stI (stL (stL τ 21 v c) 22 v e) 23 v n) := by
  have e1 : ∀ d, d ≠ 23 → (stI (stL (stL τ 21 v c) 22 v e) 23 v n).1 d = τ.1 d := fun d hd => stI_ne hd
  have e23 : ∀ i, i ≠ v → (stI (stL (stL τ 21 v c) 22 v e) 23 v n).1 23 i = τ.1 23 i := fun i hi => by
    rw [stI_at, upN hi]
    rfl
  have e21 : ∀ i, i ≠ v → (stI (stL (stL τ 21 v c) 22 v e) 23 v n).2.1 21 i = τ.2.1 21 i := fun i hi => by
    show (stL (stL τ 21 v c) 22 v e).2.1 21 i = _
    rw [stL_ne (by omega), stLA, upLN hi]
  have e22 : ∀ i, i ≠ v → (stI (stL (stL τ 21 v c) 22 v e) 23 v n).2.1 22 i = τ.2.1 22 i := fun i hi => by
    show (stL (stL τ 21 v c) 22 v e).2.1 22 i = _
    rw [stLA, upLN hi, stL_ne (by omega)]
  refine ⟨fun i hi => ⟨⟨⟨by rw [e1 _ (by omega)], e23 i (by omega)⟩, fun k k1 k5 => by rw [e1 _ (by omega)], e21 i (by omega), e22 i (by omega)⟩, by rw [e1 _ (by omega)], by rw [e1 _ (by omega)], by rw [e1 _ (by omega)]⟩, by rw [e1 _ (by omega)], by rw [e1 _ (by omega)], fun k k1 k5 => by rw [e1 _ (by omega)]⟩
theorem SUB.eq {v : Nat} {τ t : ST} (h : ∀ c, 20 ≤ c → t.1 c = τ.1 c) (h2 : t.2.1 21 = τ.2.1 21 ∧ t.2.1 22 = τ.2.1 22) : SUB v τ t := ⟨fun i _ => ⟨⟨⟨by rw [h _ (by omega)], by rw [h _ (by omega)]⟩, fun k _ _ => by rw [h _ (by omega)], by rw [h2.1], by rw [h2.2]⟩, by rw [h _ (by omega)], by rw [h _ (by omega)], by rw [h _ (by omega)]⟩, by rw [h _ (by omega)], by rw [h _ (by omega)], fun k _ _ => by rw [h _ (by omega)]⟩
/-- what comes of a token read on both sides -/
def GOF (t a b : ST) (F : Int) : Prop := ((∀ c, c ≠ 0 → b.1 c = t.1 c) ∧ b.1 0 46 = t.1 0 46 ∧ (∀ c, c ≠ 0 → b.2.1 c = t.2.1 c)) ∧ KVB t b ∧ (LX a b ∧ TWX a b) ∧ (uT b : Int) ≤ F
theorem GOF.sub {t a b : ST} {F : Int} {v : Nat} (h : GOF t a b F) : SUB v t b := SUB.eq (fun c hc => h.1.1 c (by omega)) ⟨h.1.2.2 21 (by omega), h.1.2.2 22 (by omega)⟩
theorem ab_gof (σ τ : ST) (h : LX σ τ) (h0 : ¬ (σ.1 2 4).toInt = 0) (h1 : ¬ (σ.1 2 4).toInt = 1) : QT (f_X6_advance σ) (fun a => CA σ a ∧ QT (f_X11_go τ) (fun b => GOF τ a b ((uT τ : Int) - 1))) := by
  have hK := h.2.2.1
  have hg := hK.hg h0 h1
  have k0 : ¬ (τ.1 0 6).toInt = 0 := fun e => h0 (hK.t0.mpr e)
  have hu := uT_ne k0
  intro a ea
  obtain ⟨a', ea', b', eb', hq⟩ := ab_goW σ τ h hg
  have e : a = a' := Option.some.inj (ea.symm.trans ea')
  subst e
  obtain ⟨⟨ca, cb, cL, hX, _, _, hu2⟩, hW⟩ := hq
  refine ⟨ca, fun b eb => ?_⟩
  have e : b = b' := Option.some.inj (eb.symm.trans eb')
  subst e
  exact ⟨⟨fun c hc => cb.1 c hc (by simp), cb.2.1 46 (by decide), cL⟩, cb.kvb cL, ⟨hX, hW⟩, by omega⟩
/-- an answer of both: the class refuses (then the reference can't end well), or both go on -/
def VOUT (L : Int) (K : ST → ST → Prop) (qa qb : Int32 × ST) : Prop := (qa.1.toInt = 0 ∧ (qb.1 = 0 ∨ ¬ qb.1 = 0 ∧ DMD L qb.2)) ∨ (qa.1.toInt = 1 ∧ qb.1.toInt = 1 ∧ K qa.2 qb.2)
/-- what stands there when a value of the types tA, tB was told, below pa, pb, at pl -/
def VPOST (p : Nat) (S T : ST) (L : Nat) (tA tB : Int32) (x v : Nat) (pa pb pl : Int32) (l m : List EN) (σ τ a b : ST) : Prop := ∃ e f : Nat, CXT S T a b e f (1000 + L + 1) ∧ (x < e ∧ v < f ∧ pl.toInt < 200) ∧ VAL False 62 p S T a b (32 - L) tA tB (x, e) (v, f) ∧ ((a.1 (62 + 2) x = pa ∧ a.1 (62 + 3) x = pl) ∧ (b.1 24 v = pb ∧ b.1 25 v = pl) ∧ a.1 (62 + 5) x = b.1 27 v) ∧ XTA 62 x pa.toInt (rA l) (rA m) σ a ∧ XTB v pb.toInt (rB l) (rB m) τ b
/-- a new node and what its rows kept -/
theorem vp_kid {p : Nat} {S T : ST} {L : Nat} {tA tB : Int32} {x v e f : Nat} {pa pb pl br so : Int32} {l m : List EN} {σ τ s t a b : ST} (hP : PAR σ τ x v pa pb pl l m) (gA : GRW 62 x so pa pl (rA l) (rA m) σ s) (gB : GRB v so pb pl br (rB l) (rB m) τ t) (hA : SUA 62 x s a) (hB : SUB v t b) (hC : CXT S T a b e f (1000 + L + 1)) (h1 : x < e ∧ v < f ∧ pl.toInt < 200) (hV : VAL False 62 p S T a b (32 - L) tA tB (x, e) (v, f)) : VPOST p S T L tA tB x v pa pb pl l m σ τ a b := by
  have hlt := hP.lt
  refine ⟨e, f, hC, h1, hV, ⟨⟨?_, ?_⟩, ⟨?_, ?_⟩, ?_⟩, XTA.mk gA hA hlt.2.2.1 hlt.1, XTB.mk gB hB hlt.2.2.2.1 hlt.2.1⟩
  · exact hA.2.2.2.1.trans gA.2.2.1.2.1
  · exact hA.2.2.2.2.1.trans gA.2.2.1.2.2.1
  · exact (hB.2.2.2 24 (by omega) (by omega)).trans gB.2.2.1.2.1.1
  · exact (hB.2.2.2 25 (by omega) (by omega)).trans gB.2.2.1.2.1.2
  · rw [hA.2.2.2.2.2, gA.2.2.1.2.2.2.2.1, hB.2.2.2 27 (by omega) (by omega), gB.2.2.1.2.2.1.2]
theorem GRW.suc {x : Nat} {so pa pl : Int32} {l m : List Nat} {σ s : ST} {b : Nat} (h : GRW b x so pa pl l m σ s) : (s.1 b 1).toInt = (x : Int) + 1 ∧ s.1 b 0 = σ.1 b 0 := ⟨h.2.1, h.1.2.2.2 0 (by omega)⟩
/-- the leaf itself -/
theorem ab_leaf {p : Nat} {S T : ST} {L : Nat} {tA tB uA u : Int32} {x v : Nat} {pa pb pl br so : Int32} {l m : List EN} {σ τ s t : ST} (hL : L ≤ 30) (h200 : pl.toInt < 200) (hP : PAR σ τ x v pa pb pl l m) (hC : CXT S T σ τ x v (1000 + L)) (hx : (x : Int) < 502) (gA : GRW 62 x so pa pl (rA l) (rA m) σ s) (gB : GRB v so pb pl br (rB l) (rB m) τ t) (hso : so = T.1 2 u.toNatClampNeg) (hs5 : 0 ≤ so.toInt ∧ so.toInt ≤ 5) (hO : OWN S T tA tB br uA u) (h0 : ¬ (σ.1 2 4).toInt = 0) (h1 : ¬ (σ.1 2 4).toInt = 1) (w c e : Int64) (cnt n : Int32) (hE : EWR so.toInt w c e n) (hn : cnt.toInt = n.toInt) : QT (f_X6_advance (stL (stI s (62 + 4) x cnt) (62 + 6) x w)) (fun a => QT (f_X11_go (stI (stL (stL t 21 v c) 22 v e) 23 v n)) (fun b => VPOST p S T L tA tB x v pa pb pl l m σ τ a b)) := by
  obtain ⟨⟨kA, kB⟩, hXW, ⟨c1, c0⟩, cv, cF⟩ := hC
  have hXW1 := LX.grow hXW gA gB
  have l0 := li_0
  have sc := gA.suc
  have e2 : s.1 2 = σ.1 2 := gA.1.1 2 (by omega)
  have t0 : ∀ j, j ≠ 46 → t.1 0 j = τ.1 0 j := gB.1.2.2.2
  generalize hs2 : stL (stI s (62 + 4) x cnt) (62 + 6) x w = s2
  generalize ht2 : stI (stL (stL t 21 v c) 22 v e) 23 v n = t2
  have sA : SUA 62 x s s2 := by rw [← hs2]; exact SUA.set
  have sB : SUB v t t2 := by rw [← ht2]; exact SUB.set
  have s2c : ∀ d, d ≠ 62 + 4 → s2.1 d = s.1 d := fun d hd => by rw [← hs2]; exact stI_ne hd
  have s2L : ∀ d, d ≠ 62 + 6 → s2.2.1 d = s.2.1 d := fun d hd => by rw [← hs2]; exact stL_ne hd
  have s2E : s2.2.2 = s.2.2 := by rw [← hs2]; rfl
  have t2c : ∀ d, d ≠ 23 → t2.1 d = t.1 d := fun d hd => by rw [← ht2]; exact stI_ne hd
  have t2L : ∀ d, d ≠ 21 → d ≠ 22 → t2.2.1 d = t.2.1 d := fun d h1 h2 => by
    rw [← ht2]
    show (stL (stL t 21 v c) 22 v e).2.1 d = _
    rw [stL_ne h2, stL_ne h1]
  have t2E : t2.2.2 = t.2.2 := by rw [← ht2]; rfl
  have hX2 : LX s2 t2 := hXW1.1.ext (s2c 1 (by omega)) (s2c 2 (by omega)) (s2L 3 (by omega)) (s2L 2 (by omega)) (t2c 1 (by omega)) (fun i _ => by rw [t2c 0 (by omega)]) (t2L 0 (by omega) (by omega))
  have kA2 : KVA σ s2 := gA.kva.trans ⟨fun d d2 d6 => s2c d (by omega), ⟨by rw [s2c 2 (by omega)], fun i _ => by rw [s2c 62 (by omega)]⟩, fun d d2 d6 => s2L d (by omega), s2E⟩
  have kB2 : KVB τ t2 := gB.kvb.trans ⟨fun d d0 d20 hd => t2c d (by omega), fun i _ _ _ _ _ _ _ _ => by rw [t2c 0 (by omega)], fun d d0 d21 d22 => t2L d d21 d22⟩
  have ht46 : (t2.1 0 46).toInt = (v : Int) + 1 := by rw [t2c 0 (by omega)]; exact gB.2.1
  have hu2 : uT t2 = uT τ := by
    have := (hX2.tx)
    have e9 := (TX.ext (τ := τ) (t := t2) hXW.1.tx (fun j hj => by rw [t2c 0 (by omega)]; exact t0 j hj)).2
    exact e9
  refine (ab_gof s2 t2 hX2 (by rw [s2c 2 (by omega), e2]; exact h0) (by rw [s2c 2 (by omega), e2]; exact h1)).mono (fun a ha => ?_)
  obtain ⟨ca, hb⟩ := ha
  refine hb.mono (fun b hb => ?_)
  have sA2 := sA.trans ca.sua
  have sB2 := sB.trans (hb.sub (v := v))
  obtain ⟨⟨b1, b46, bL⟩, kb, hXb, hub⟩ := hb
  have ax1 : ∀ d, d ≠ 62 + 4 → 62 ≤ d → a.1 d = s.1 d := fun d hd h62 => (ca.1 d (by omega)).trans (s2c d hd)
  refine vp_kid hP gA gB sA2 sB2 (e := x + 1) (f := v + 1) ⟨⟨kA.trans (kA2.trans ca.kva), kB.trans (kB2.trans kb)⟩, hXb, ⟨?_, ?_⟩, ?_, ?_⟩ ⟨by omega, by omega, h200⟩ ?_
  · rw [ax1 62 (by omega) (by omega), sc.1]
    omega
  · rw [ax1 62 (by omega) (by omega), sc.2]
    exact c0
  · rw [b46, ht46]
    omega
  · omega
  · rw [show 32 - L = (31 - L) + 1 by omega]
    have b20 : b.1 20 v = so := (sB2.2.2.1).trans gB.2.2.1.1.1
    have b26 : b.1 26 v = br := (sB2.2.2.2 26 (by omega) (by omega)).trans gB.2.2.1.2.2.1.1
    have a1 : a.1 (62 + 1) x = so := (sA2.2.2.1).trans gA.2.2.1.1
    refine ⟨⟨by show x < x + 1; omega, by show v < v + 1; omega⟩, uA, u, ?_, ⟨⟨?_, ?_⟩, ?_⟩, fun _ => ?_, fun h => ?_, fun h => ?_, fun h => ?_⟩
    · show OWN S T tA tB (b.1 26 v) uA u
      rw [b26]
      exact hO
    · exact hso.symm.trans b20.symm
    · exact a1.trans b20.symm
    · show 0 ≤ (b.1 20 v).toInt ∧ (b.1 20 v).toInt ≤ 7
      rw [b20]
      omega
    · refine ⟨?_, rfl⟩
      show LEAF 62 a b x v
      have a7 : a.1 (62 + 7) x = s.1 (62 + 7) x := by rw [ax1 _ (by omega) (by omega)]
      have a6 : a.2.1 (62 + 6) x = w := by rw [ca.2.2.1 _ (by omega), ← hs2, stLA, upLA rfl]
      have a4 : a.1 (62 + 4) x = cnt := by
        rw [ca.1 _ (by omega), ← hs2]
        show (stI s (62 + 4) x cnt).1 (62 + 4) x = _
        rw [stI_at, upA rfl]
      have b28 : b.1 28 v = t.1 28 v := by rw [b1 _ (by omega), t2c _ (by omega)]
      have b21 : b.2.1 21 v = c := by
        rw [bL _ (by omega), ← ht2]
        show (stL (stL t 21 v c) 22 v e).2.1 21 v = _
        rw [stL_ne (by omega), stLA, upLA rfl]
      have b22 : b.2.1 22 v = e := by
        rw [bL _ (by omega), ← ht2]
        show (stL (stL t 21 v c) 22 v e).2.1 22 v = _
        rw [stLA, upLA rfl]
      have b23 : b.1 23 v = n := by rw [b1 _ (by omega), ← ht2, stI_at, upA rfl]
      unfold LEAF
      rw [a7, b28, b20, a6, b21, b22, b23, a4]
      exact ⟨⟨gA.2.2.2.2.1.1, gB.2.2.2.2.1.1⟩, hE, hn⟩
    · have h : 6 ≤ (b.1 20 v).toInt := h
      rw [b20] at h
      omega
    · have h : (b.1 20 v).toInt = 6 := h
      rw [b20] at h
      omega
    · have h : (b.1 20 v).toInt = 7 := h
      rw [b20] at h
      omega
/-! lists: both sides, item by item -/
theorem DMD.of {L M : Int} {b : ST} (h : DMD L b) (e : L = M) : DMD M b := e ▸ h
theorem CXT.go {S T σ τ a b : ST} {x v : Nat} {F : Int} (h : CXT S T σ τ x v F) (ca : CA σ a) (hb : GOF τ a b ((uT τ : Int) - 1)) : CXT S T a b x v (F - 1) := by
  obtain ⟨⟨h1, h2⟩, _, ⟨h3, h4⟩, h5, h6⟩ := h
  have hu := hb.2.2.2
  refine ⟨⟨h1.trans ca.kva, h2.trans hb.2.1⟩, hb.2.2.1, ⟨?_, ?_⟩, ?_, by omega⟩
  · rw [ca.1 62 (by omega)]
    exact h3
  · rw [ca.1 62 (by omega)]
    exact h4
  · rw [hb.1.2.1]
    exact h5
/-- all rows behind x stayed -/
def SAM (b x : Nat) (σ s : ST) : Prop := ∀ j, x < j → CLA b σ s j ∧ s.1 (b + 7) j = σ.1 (b + 7) j ∧ s.1 (b + 8) j = σ.1 (b + 8) j ∧ s.1 (b + 9) j = σ.1 (b + 9) j
def SBM (v : Nat) (τ t : ST) : Prop := ∀ j, v < j → CLB τ t j ∧ t.1 28 j = τ.1 28 j ∧ t.1 29 j = τ.1 29 j ∧ t.1 30 j = τ.1 30 j
theorem SAM.ag {b x y e : Nat} {σ s : ST} (h : SAM b x σ s) (hx : x < y) : AGA b σ s y e := fun j h1 _ => ⟨(h j (by omega)).1, (h j (by omega)).2.1, (h j (by omega)).2.2.1, fun _ => (h j (by omega)).2.2.2⟩
theorem SBM.ag {v y f : Nat} {τ t : ST} (h : SBM v τ t) (hx : v < y) : AGB τ t y f := fun j h1 _ => ⟨(h j (by omega)).1, (h j (by omega)).2.1, (h j (by omega)).2.2.1, fun _ => (h j (by omega)).2.2.2⟩
theorem SAM.eq {b x : Nat} {σ s : ST} (h : ∀ c, b ≤ c → s.1 c = σ.1 c) (h2 : s.2.1 (b + 6) = σ.2.1 (b + 6)) : SAM b x σ s := fun j _ => ⟨⟨fun k _ _ => by rw [h _ (by omega)], by rw [h2]⟩, by rw [h _ (by omega)], by rw [h _ (by omega)], by rw [h _ (by omega)]⟩
theorem SBM.eq {v : Nat} {τ t : ST} (h : ∀ c, 20 ≤ c → t.1 c = τ.1 c) (h2 : t.2.1 21 = τ.2.1 21 ∧ t.2.1 22 = τ.2.1 22) : SBM v τ t := fun j _ => ⟨⟨⟨by rw [h _ (by omega)], by rw [h _ (by omega)]⟩, fun k _ _ => by rw [h _ (by omega)], by rw [h2.1], by rw [h2.2]⟩, by rw [h _ (by omega)], by rw [h _ (by omega)], by rw [h _ (by omega)]⟩
theorem SAM.set {b x : Nat} {σ : ST} {c : Int32} {w : Int64} : SAM b x σ (stL (stI σ (b + 4) x c) (b + 6) x w) := by
  have e1 : ∀ d, d ≠ b + 4 → (stL (stI σ (b + 4) x c) (b + 6) x w).1 d = σ.1 d := fun d hd => stI_ne hd
  have e4 : ∀ i, i ≠ x → (stL (stI σ (b + 4) x c) (b + 6) x w).1 (b + 4) i = σ.1 (b + 4) i := fun i hi => by
    show (stI σ (b + 4) x c).1 (b + 4) i = _
    rw [stI_at, upN hi]
  have e6 : ∀ i, i ≠ x → (stL (stI σ (b + 4) x c) (b + 6) x w).2.1 (b + 6) i = σ.2.1 (b + 6) i := fun i hi => by
    rw [stLA, upLN hi]
    rfl
  refine fun i hi => ⟨⟨fun k k1 k5 => ?_, e6 i (by omega)⟩, by rw [e1 _ (by omega)], by rw [e1 _ (by omega)], by rw [e1 _ (by omega)]⟩
  by_cases e : k = 4
  · rw [e]
    exact e4 i (by omega)
  · rw [e1 _ (by omega)]
theorem SAM.trans {b x : Nat} {σ s u : ST} (h : SAM b x σ s) (k : SAM b x s u) : SAM b x σ u := fun j hj => by
  obtain ⟨a1, a2, a3, a4⟩ := h j hj
  obtain ⟨b1, b2, b3, b4⟩ := k j hj
  exact ⟨a1.trans b1, b2.trans a2, b3.trans a3, b4.trans a4⟩
theorem CA.sam {x : Nat} {σ a : ST} (h : CA σ a) : SAM 62 x σ a := SAM.eq (fun c hc => h.1 c (by omega)) (h.2.2.1 _ (by omega))
theorem GOF.sbm {t a b : ST} {F : Int} {v : Nat} (h : GOF t a b F) : SBM v t b := SBM.eq (fun c hc => h.1.1 c (by omega)) ⟨h.1.2.2 21 (by omega), h.1.2.2 22 (by omega)⟩
theorem KDS.sam {b x e v f : Nat} {σ τ s t : ST} {l : List EN} {Q R : EN → Prop} (h : KDS b σ τ (x, e) (v, f) l Q) (hA : SAM b x σ s) (hB : SBM v τ t) (a7 : s.1 (b + 7) x = σ.1 (b + 7) x) (a8 : s.1 (b + 8) x = σ.1 (b + 8) x) (b8 : t.1 28 v = τ.1 28 v) (b9 : t.1 29 v = τ.1 29 v) (b3 : t.1 23 v = τ.1 23 v) (hQ : ∀ y, y ∈ l → (inA y = true → x < y.2.1.1) → v < y.2.2.1 → y.2.2.1 < y.2.2.2 → Q y → R y) : KDS b s t (x, e) (v, f) l R := by
  obtain ⟨⟨⟨h1, h2⟩, h3, h4⟩, h5, ⟨h6, h7⟩, h8⟩ := h
  refine ⟨⟨⟨?_, ?_⟩, ?_, ?_⟩, h5, ⟨?_, h7⟩, fun y hy => ?_⟩
  · show CN (s.1 (b + 9)) (s.1 (b + 7) x) (rA l)
    rw [a7]
    refine h1.ext _ _ (fun r hr => ?_)
    obtain ⟨y, y1, y2, y3⟩ := mem_rA hr
    have k := ((h8 y y1).2.1.1 y2).1
    have k : x < y.2.1.1 := k
    exact (hA r (by omega)).2.2.2
  · show (s.1 (b + 8) x).toInt = _
    rw [a8]
    exact h2
  · show CN (t.1 30) (t.1 28 v) (rB l)
    rw [b8]
    refine h3.ext _ _ (fun r hr => ?_)
    obtain ⟨y, y1, y3⟩ := mem_rB hr
    have k : v < y.2.2.1 := (h8 y y1).1.1
    exact (hB r (by omega)).2.2.2
  · show (t.1 29 v).toInt = _
    rw [b9]
    exact h4
  · show (t.1 23 v).toInt = _
    rw [b3]
    exact h6
  · obtain ⟨k1, k2, k3⟩ := h8 y hy
    exact ⟨k1, k2, hQ y hy (fun hi => (k2.1 hi).1) k1.1 k1.2.1 k3⟩
/-- a child of rows x and v, read by its types -/
def CHD (p : Nat) (S T : ST) (n : Nat) (x v : Nat) (tI tJ : Int32) (σ τ : ST) (y : EN) : Prop := (inA y = true ∧ KID 62 σ τ x v y) ∧ VAL False 62 p S T σ τ n tI tJ y.2.1 y.2.2
theorem CHD.ext {p : Nat} {S T : ST} {n x v : Nat} {tI tJ : Int32} {σ τ s t : ST} {y : EN} (h : CHD p S T n x v tI tJ σ τ y) (hn : y.2.2.1 < y.2.2.2) (hA : AGA 62 σ s y.2.1.1 y.2.1.2) (hB : AGB τ t y.2.2.1 y.2.2.2) : CHD p S T n x v tI tJ s t y := by
  have := inA_lt h.1.1
  exact ⟨⟨h.1.1, h.1.2.ext (hA _ (by omega) (by omega)).1 (hB _ (by omega) (by omega)).1⟩, h.2.ext _ _ _ _ _ hA hB⟩
/-- while the items of a list are told -/
def ILI (p : Nat) (S T : ST) (L : Nat) (tI tJ : Int32) (x v : Nat) (a t : ST) (k : Nat) (F : Int) (σ τ : ST) (e f : Nat) (l : List EN) : Prop := (CXT S T σ τ e f F ∧ x < e ∧ v < f) ∧ (SUA 62 x a σ ∧ SUB v t τ) ∧ (l.map (fun y => y.1) = List.range k ∧ l.length = k ∧ k ≤ 200) ∧ KDS 62 σ τ (x, e) (v, f) l (CHD p S T (31 - L) x v tI tJ σ τ) ∧ (σ.1 (62 + 4) x = 0 ∧ σ.2.1 (62 + 6) x = 0) ∧ (τ.2.1 21 v = 0 ∧ τ.2.1 22 v = 0) ∧ (τ.1 20 v).toInt = 6
/-- a list's items told -/
def IPO (p : Nat) (S T : ST) (L : Nat) (tI tJ : Int32) (x v : Nat) (a t a' b' : ST) : Prop := ∃ (e f : Nat) (l : List EN), (CXT S T a' b' e f (1000 + L + 1) ∧ x < e ∧ v < f) ∧ (SUA 62 x a a' ∧ SUB v t b') ∧ (l.map (fun y => y.1) = List.range l.length ∧ l.length ≤ 200 ∧ (a'.1 (62 + 4) x).toInt = l.length) ∧ KDS 62 a' b' (x, e) (v, f) l (CHD p S T (31 - L) x v tI tJ a' b') ∧ a'.2.1 (62 + 6) x = 0 ∧ b'.2.1 21 v = 0 ∧ b'.2.1 22 v = 0
theorem ILI.rows {p : Nat} {S T : ST} {L : Nat} {tI tJ : Int32} {x v : Nat} {a t : ST} {k : Nat} {F : Int} {σ τ : ST} {e f : Nat} {l : List EN} (h : ILI p S T L tI tJ x v a t k F σ τ e f l) : (∀ r, r ∈ rA l → x < r) ∧ ∀ r, r ∈ rB l → v < r := by
  obtain ⟨_, _, _, hK, _⟩ := h
  refine ⟨fun r hr => ?_, fun r hr => ?_⟩
  · obtain ⟨y, y1, y2, y3⟩ := mem_rA hr
    have k : x < y.2.1.1 := ((hK.2.2.2 y y1).2.1.1 y2).1
    omega
  · obtain ⟨y, y1, y3⟩ := mem_rB hr
    have k : v < y.2.2.1 := (hK.2.2.2 y y1).1.1
    omega
theorem ILI.par {p : Nat} {S T : ST} {L : Nat} {tI tJ : Int32} {x v : Nat} {a t : ST} {k : Nat} {F : Int} {σ τ : ST} {e f : Nat} {l : List EN} (h : ILI p S T L tI tJ x v a t k F σ τ e f l) {row w pl : Int32} (hr : row.toInt = x) (hw : w.toInt = v) (hp : pl.toInt = k) : PAR σ τ e f row w pl l [] := by
  obtain ⟨⟨_, h1, h2⟩, _, ⟨h3, _, h4⟩, hK, _, _, h5⟩ := h
  refine .inr ⟨x, v, _, ⟨⟨hr, h1⟩, hw, h2⟩, by rw [List.append_nil]; exact hK, fun y hy => ?_, fun y hy => ?_, fun y hy => (by cases hy), ⟨by omega, by omega⟩, .inr h5⟩
  · rw [List.append_nil] at hy
    obtain ⟨_, _, ⟨_, hk⟩, _⟩ := hK.2.2.2 y hy
    exact ⟨fun _ => hk.1.2, hk.2.1.2⟩
  · have : y.1 ∈ l.map (fun y => y.1) := List.mem_map.mpr ⟨y, hy, rfl⟩
    rw [h3] at this
    have := List.mem_range.mp this
    omega
/-- one item more -/
theorem ILI.add {p : Nat} {S T : ST} {L : Nat} {tI tJ : Int32} {x v : Nat} {a t : ST} {k : Nat} {F : Int} {σ τ s u : ST} {e f : Nat} {l : List EN} (h : ILI p S T L tI tJ x v a t k F σ τ e f l) {row w pl : Int32} (hr : row.toInt = x) (hw : w.toInt = v) (hp : pl.toInt = k) (hL : L ≤ 30) (hV : VPOST p S T (L + 1) tI tJ e f row w pl l [] σ τ s u) : ∃ e' f', ILI p S T L tI tJ x v a t (k + 1) (1000 + (L + 1 : Nat) + 1) s u e' f' (l ++ [(k, (e, e'), (f, f'))]) := by
  have hrow := h.rows
  obtain ⟨⟨_, h1, h2⟩, ⟨hs1, hs2⟩, ⟨h3, h3b, h4⟩, hK, ⟨h5, h5b⟩, ⟨h6, h6b⟩, h7⟩ := h
  obtain ⟨e', f', hC, ⟨g1, g2, hk⟩, hVal, ⟨⟨g3, g4⟩, ⟨g5, g6⟩, g7⟩, hXA, hXB⟩ := hV
  rw [hr] at hXA
  rw [hw] at hXB
  have hsu : SUA 62 x σ s := hXA.su h1 (fun r hr => hrow.1 r hr)
  have hsb : SUB v τ u := hXB.su h2 (fun r hr => hrow.2 r hr)
  refine ⟨e', f', ⟨hC, by omega, by omega⟩, ⟨hs1.trans hsu, hs2.trans hsb⟩, ⟨?_, ?_, by omega⟩, ?_, ⟨?_, ?_⟩, ⟨?_, ?_⟩, ?_⟩
  · rw [List.map_append, h3, List.range_succ]
    rfl
  · rw [List.length_append, h3b]
    rfl
  · refine KDS.add (l := l) (m := []) (Q := CHD p S T (31 - L) x v tI tJ σ τ) (by rw [List.append_nil]; exact hK) hXA hXB h1 h2 g1 g2 (by rw [List.append_nil]; omega) (fun y hy => ?_) (fun y hy => (by cases hy)) (fun y hy hy1 hyA hyB hQ => ?_) ?_
    · have : y.1 ∈ l.map (fun y => y.1) := List.mem_map.mpr ⟨y, hy, rfl⟩
      rw [h3] at this
      exact List.mem_range.mp this
    · exact hQ.ext hy1.2 (hyA hQ.1.1) hyB
    · refine ⟨⟨decide_eq_true g1, ⟨⟨?_, ?_⟩, ⟨?_, ?_⟩, g7⟩⟩, ?_⟩
      · show (s.1 (62 + 2) e).toInt = x
        rw [g3]
        exact hr
      · show (s.1 (62 + 3) e).toInt = k
        rw [g4]
        exact hp
      · show (u.1 24 f).toInt = v
        rw [g5]
        exact hw
      · show (u.1 25 f).toInt = k
        rw [g6]
        exact hp
      · have e9 : 32 - (L + 1) = 31 - L := by omega
        rw [e9] at hVal
        exact hVal
  · rw [(hXA.1 x h1).1 4 (by omega) (by omega)]
    exact h5
  · rw [(hXA.1 x h1).2]
    exact h5b
  · rw [(hXB.1.1 v h2).2.2.1]
    exact h6
  · rw [(hXB.1.1 v h2).2.2.2]
    exact h6b
  · rw [(hXB.1.1 v h2).1]
    exact h7
/-- as the next token is read -/
theorem ILI.go {p : Nat} {S T : ST} {L : Nat} {tI tJ : Int32} {x v : Nat} {a t : ST} {k : Nat} {F : Int} {σ τ s u : ST} {e f : Nat} {l : List EN} (h : ILI p S T L tI tJ x v a t k F σ τ e f l) (ca : CA σ s) (hb : GOF τ s u ((uT τ : Int) - 1)) : ILI p S T L tI tJ x v a t k (F - 1) s u e f l := by
  obtain ⟨⟨hC, h1, h2⟩, ⟨hs1, hs2⟩, h3, hK, ⟨h5, h5b⟩, ⟨h6, h6b⟩, h7⟩ := h
  refine ⟨⟨hC.go ca hb, h1, h2⟩, ⟨hs1.trans ca.sua, hs2.trans hb.sub⟩, h3, ?_, ⟨?_, ?_⟩, ⟨?_, ?_⟩, ?_⟩
  · refine hK.sam ca.sam hb.sbm (by rw [ca.1 _ (by omega)]) (by rw [ca.1 _ (by omega)]) (by rw [hb.1.1 _ (by omega)]) (by rw [hb.1.1 _ (by omega)]) (by rw [hb.1.1 _ (by omega)]) (fun y _ hx hv hn hQ => hQ.ext hn (ca.sam.ag (hx hQ.1.1)) (hb.sbm.ag hv))
  · rw [ca.1 _ (by omega)]
    exact h5
  · rw [ca.2.2.1 _ (by omega)]
    exact h5b
  · rw [hb.1.2.2 _ (by omega)]
    exact h6
  · rw [hb.1.2.2 _ (by omega)]
    exact h6b
  · rw [hb.1.1 _ (by omega)]
    exact h7
theorem LX.set4 {b x : Nat} {σ τ : ST} {c : Int32} {w : Int64} (h : LX σ τ) (hb : 4 < b) : LX (stL (stI σ (b + 4) x c) (b + 6) x w) τ := by
  have e1 : ∀ d, d ≠ b + 4 → (stL (stI σ (b + 4) x c) (b + 6) x w).1 d = σ.1 d := fun d hd => stI_ne hd
  have e2 : ∀ d, d ≠ b + 6 → (stL (stI σ (b + 4) x c) (b + 6) x w).2.1 d = σ.2.1 d := fun d hd => stL_ne hd
  exact h.ext (e1 1 (by omega)) (e1 2 (by omega)) (e2 3 (by omega)) (e2 2 (by omega)) rfl (fun _ _ => rfl) rfl
/-- the list ends -/
theorem ILI.fin {p : Nat} {S T : ST} {L : Nat} {tI tJ : Int32} {x v : Nat} {a t : ST} {k : Nat} {σ τ s u : ST} {e f : Nat} {l : List EN} (h : ILI p S T L tI tJ x v a t k (1000 + (L + 1 : Nat) + 1) σ τ e f l) {c : Int32} (hc : c.toInt = k) (ca : CA (stL (stI σ (62 + 4) x c) (62 + 6) x 0) s) (hb : GOF τ s u ((uT τ : Int) - 1)) : IPO p S T L tI tJ x v a t s u := by
  obtain ⟨⟨⟨⟨hC1, hC2⟩, _, ⟨hC3, hC4⟩, hC5, hC6⟩, h1, h2⟩, ⟨hs1, hs2⟩, ⟨h3, h3b, h4⟩, hK, ⟨h5, h5b⟩, ⟨h6, h6b⟩, h7⟩ := h
  have e1 : ∀ d, d ≠ 62 + 4 → (stL (stI σ (62 + 4) x c) (62 + 6) x 0).1 d = σ.1 d := fun d hd => stI_ne hd
  have e2 : ∀ d, d ≠ 62 + 6 → (stL (stI σ (62 + 4) x c) (62 + 6) x 0).2.1 d = σ.2.1 d := fun d hd => stL_ne hd
  have e4 : (stL (stI σ (62 + 4) x c) (62 + 6) x 0).1 (62 + 4) x = c := by
    show (stI σ (62 + 4) x c).1 (62 + 4) x = _
    rw [stI_at, upA rfl]
  have e6 : (stL (stI σ (62 + 4) x c) (62 + 6) x 0).2.1 (62 + 6) x = 0 := by rw [stLA, upLA rfl]
  have sE : (stL (stI σ (62 + 4) x c) (62 + 6) x 0).2.2 = σ.2.2 := rfl
  have sS : SUA 62 x σ (stL (stI σ (62 + 4) x c) (62 + 6) x 0) := SUA.set
  have sM : SAM 62 x σ (stL (stI σ (62 + 4) x c) (62 + 6) x 0) := SAM.set
  generalize stL (stI σ (62 + 4) x c) (62 + 6) x 0 = σ2 at ca e1 e2 e4 e6 sE sS sM
  have kA : KVA σ σ2 := ⟨fun d d2 d6 => e1 d (by omega), ⟨by rw [e1 2 (by omega)], fun i _ => by rw [e1 62 (by omega)]⟩, fun d d2 d6 => e2 d (by omega), sE⟩
  have hu := hb.2.2.2
  have sMA := sM.trans ca.sam
  have c7 : ∀ d, d ≠ 62 + 4 → 62 ≤ d → s.1 d = σ.1 d := fun d hd h62 => (ca.1 d (by omega)).trans (e1 d hd)
  refine ⟨e, f, l, ⟨⟨⟨hC1.trans (kA.trans ca.kva), hC2.trans hb.2.1⟩, hb.2.2.1, ⟨?_, ?_⟩, ?_, ?_⟩, h1, h2⟩, ⟨hs1.trans (sS.trans ca.sua), hs2.trans hb.sub⟩, ⟨by rw [h3b]; exact h3, by omega, ?_⟩, ?_, ?_, ?_, ?_⟩
  · rw [c7 62 (by omega) (by omega)]
    exact hC3
  · rw [c7 62 (by omega) (by omega)]
    exact hC4
  · rw [hb.1.2.1]
    exact hC5
  · omega
  · rw [ca.1 _ (by omega), e4, hc, h3b]
  · exact hK.sam sMA hb.sbm (by rw [c7 _ (by omega) (by omega)]) (by rw [c7 _ (by omega) (by omega)]) (by rw [hb.1.1 _ (by omega)]) (by rw [hb.1.1 _ (by omega)]) (by rw [hb.1.1 _ (by omega)]) (fun y _ hx hv hn hQ => hQ.ext hn (sMA.ag (hx hQ.1.1)) (hb.sbm.ag hv))
  · rw [ca.2.2.1 _ (by omega)]
    exact e6
  · rw [hb.1.2.2 _ (by omega)]
    exact h6
  · rw [hb.1.2.2 _ (by omega)]
    exact h6b
/-- a value of both sides, at level L -/
def VTP (p : Nat) (rm : Int) (S T : ST) (rV : Int32 → Int32 → Int32 → Int32 → ST → Option (Int32 × ST)) (rv : Int32 → Int32 → Int32 → Int32 → Int32 → ST → Option ((Int32 × ST) × Nat)) : Prop := ∀ (L : Nat) (lev dp tA tB pa pb pl P32 : Int32) (d : Nat) (l m : List EN) (σ τ : ST) (x v : Nat), L ≤ 31 → lev.toInt = L → dp.toInt = L → P32.toInt = p → TG p rm S T d tA tB → CXT S T σ τ x v (1000 + L) → PAR σ τ x v pa pb pl l m → QT (rV tA pa pl lev σ) (fun qa => QT (rv P32 tB dp pb pl τ) (fun qb => VOUT L (VPOST p S T L tA tB x v pa pb pl l m σ τ) qa qb.1))
theorem q_items0 {ri rp : Int32 → Int32 → Int32 → Int32 → ST → Option ((Int32 × ST) × Nat)} {rv : Int32 → Int32 → Int32 → Int32 → Int32 → ST → Option ((Int32 × ST) × Nat)} (n : Nat) (x1 x2 x3 x4 x5 : Int32) (b : ST) (h : ¬ (b.1 0 13).toInt = 93) : QT (f_X11_items_70 ri rp rv (f_X11_items_25 ri rp rv n) x1 x2 x3 x4 x5 0 b) (fun q => q.1.1 = 0) := by
  have l93 : (93 : Int32).toInt = 93 := by decide
  unfold f_X11_items_70
  refine QT.ite (fun _ => ?_) (fun h => absurd rfl h)
  cases n with
  | zero =>
    rw [f_X11_items_25]
    exact QT.none
  | succ n =>
    rw [f_X11_items_25]
    refine QT.ite (fun _ => ?_) (fun h => absurd rfl h)
    unfold f_X11_mark
    refine QT.bnd (Q := fun q => q.1 = 0) ?_ (fun q hq => QT.grd (fun _ => QT.ret hq))
    refine QT.ieq (fun e => absurd (e.trans l93) h) (fun _ => ?_)
    exact QT.bnd (q_wrong 1 b) (fun _ hq => QT.grd (fun _ => QT.ret hq))
theorem q_items1 {ri rp : Int32 → Int32 → Int32 → Int32 → ST → Option ((Int32 × ST) × Nat)} {rv : Int32 → Int32 → Int32 → Int32 → Int32 → ST → Option ((Int32 × ST) × Nat)} (n : Nat) (x1 x2 x3 x4 x5 : Int32) (b : ST) (h : (b.1 0 13).toInt = 93) {Q : ST → Prop} (hg : QT (f_X11_go b) Q) : QT (f_X11_items_70 ri rp rv (f_X11_items_25 ri rp rv n) x1 x2 x3 x4 x5 0 b) (fun q => q.1.1 = 1 ∧ Q q.1.2) := by
  have l93 : (93 : Int32).toInt = 93 := by decide
  unfold f_X11_items_70
  refine QT.ite (fun _ => ?_) (fun h => absurd rfl h)
  cases n with
  | zero =>
    rw [f_X11_items_25]
    exact QT.none
  | succ n =>
    rw [f_X11_items_25]
    refine QT.ite (fun _ => ?_) (fun h => absurd rfl h)
    unfold f_X11_mark
    refine QT.bnd (Q := fun q => q.1 = 1 ∧ Q q.2) ?_ (fun q hq => QT.grd (fun _ => QT.ret hq))
    refine QT.ieq (fun _ => QT.bnd hg (fun z hz => QT.ret ⟨rfl, hz⟩)) (fun e => absurd (h.trans l93.symm) e)
theorem ab_items24 {rF rI : Int32 → Int32 → Int32 → ST → Option (Int32 × ST)} {rV : Int32 → Int32 → Int32 → Int32 → ST → Option (Int32 × ST)} {ri rp : Int32 → Int32 → Int32 → Int32 → ST → Option ((Int32 × ST) × Nat)} {rv : Int32 → Int32 → Int32 → Int32 → Int32 → ST → Option ((Int32 × ST) × Nat)} {p : Nat} {rm : Int} {S T : ST} (hV : VTP p rm S T rV rv) (hN : NUV rv) {L d x v : Nat} {lev dp tI u row w P32 : Int32} {a t : ST} (hL : L ≤ 30) (hlev : lev.toInt = L) (hdp : dp.toInt = L) (hP : P32.toInt = p) (hT : TY p rm S T d tI (T.1 3 u.toNatClampNeg)) (hr : row.toInt = x) (hw : w.toInt = v) : ∀ (n n' k : Nat) (x4 x5 : Int32) (σ τ : ST) (e f : Nat) (l : List EN), x4.toInt = k → x5.toInt = k → ILI p S T L tI (T.1 3 u.toNatClampNeg) x v a t k (1000 + (L + 1 : Nat)) σ τ e f l → QT (f_X8_parseItems_24 rF rI rV n tI row lev x4 σ) (fun qa => QT (f_X11_items_25 ri rp rv n' P32 u dp w x5 1 τ) (fun qb => VOUT L (IPO p S T L tI (T.1 3 u.toNatClampNeg) x v a t) qa qb.1)) := by
  have l0 := li_0
  have l1 := li_1
  have l44 : (44 : Int32).toInt = 44 := by decide
  have l93 : (93 : Int32).toInt = 93 := by decide
  have l200 : (200 : Int32).toInt = 200 := by decide
  intro n
  induction n with
  | zero =>
    intro n' k x4 x5 σ τ e f l _ _ _
    rw [f_X8_parseItems_24]
    exact QT.none
  | succ n ih =>
    intro n' k x4 x5 σ τ e f l h4 h5 hI
    have hpl : x4 = x5 := Int32.toInt_inj.mp (by omega)
    subst hpl
    cases n' with
    | zero =>
      rw [f_X11_items_25]
      exact fun _ _ => QT.none
    | succ n' =>
      have hk := hI.2.2.1.2.2
      have hC := hI.1.1
      obtain ⟨⟨_, k3, _, _⟩, _⟩ := hC.1.2.t
      rw [f_X8_parseItems_24, f_X11_items_25]
      refine QT.ilt (fun h => by omega) (fun _ => ?_)
      refine QT.sw ?_
      refine QT.ite (fun e => absurd e one_ne) (fun _ => QT.grd (fun _ => ?_))
      refine QT.sw ?_
      rw [k3]
      obtain ⟨d', hG⟩ := TG.ex hT
      have el := il_addE (x := lev) (y := 1) (by omega) (by omega)
      have ed := il_addE (x := dp) (y := 1) (by omega) (by omega)
      have e4 := il_addE (x := x4) (y := 1) (by omega) (by omega)
      refine QT.bnd2 (hV (L + 1) (lev + 1) (dp + 1) tI (T.1 3 u.toNatClampNeg) row w x4 P32 d' l [] σ τ e f (by omega) (by omega) (by omega) hP hG hC (hI.par hr hw h4)) (fun qa qb hq => ?_)
      rcases hq with ⟨ha, hb⟩ | ⟨ha, hb, hPo⟩
      · refine QT.ieq (fun _ => QT.ret ?_) (fun h => absurd (ha.trans l0.symm) h)
        refine QT.kac ?_
        refine QT.ite (fun _ => QT.ret (.inl ⟨l0, .inl rfl⟩)) (fun hne => ?_)
        rcases hb with hb | ⟨_, hb⟩
        · exact absurd hb hne
        · exact (dm_items hN L n' P32 u dp w (x4 + 1) qb.1.2 (hb.of (by omega))).mono (fun z hz => .inl ⟨l0, hz⟩)
      · obtain ⟨e', f', hI2⟩ := hI.add hr hw h4 hL hPo
        have hX2 := hI2.1.1.2.1.1
        have hK2 := hX2.2.2.1
        refine QT.ieq (fun h => by omega) (fun _ => ?_)
        refine QT.sw ?_
        refine QT.kac ?_
        refine QT.ieq (fun h => by omega) (fun _ => ?_)
        refine QT.sw ?_
        refine QT.ieq (fun h93 => ?_) (fun h93 => ?_)
        · have hs : (qb.1.2.1 0 13).toInt = 93 := (hK2.sg (by omega)).mpr (by omega)
          refine QT.bnd (a_setW 62 row (x4 + 1) 0 qa.2 hr (by rw [hI2.1.1.2.2.1.1]; have := hI2.1.2.1; omega) (by rw [hI2.1.1.2.2.1.2]; have := hI2.1.1.2.2.2.2.2; have := hI2.1.2.1; omega)) (fun s2 hs2 => ?_)
          have e2 : s2.1 2 = qa.2.1 2 := by
            rw [hs2]
            show (stI qa.2 (62 + 4) x (x4 + 1)).1 2 = _
            exact stI_ne (by omega)
          have hX3 : LX s2 qb.1.2 := by
            rw [hs2]
            exact hX2.set4 (by omega)
          refine QT.bnd (ab_gof s2 qb.1.2 hX3 (by rw [e2]; omega) (by rw [e2]; omega)) (fun s hs9 => ?_)
          refine QT.ret ?_
          refine QT.ieq (fun h => by omega) (fun _ => ?_)
          refine (q_items1 n' P32 u dp w (x4 + 1) qb.1.2 hs hs9.2).mono (fun z hz => .inr ⟨l1, by show z.1.1.toInt = 1; rw [hz.1]; exact l1, ?_⟩)
          have hs1 := hs9.1
          rw [hs2] at hs1
          exact hI2.fin (by omega) hs1 hz.2
        · refine QT.ieq (fun h44 => ?_) (fun h44 => ?_)
          · have hs : (qb.1.2.1 0 13).toInt = 44 := (hK2.sg (by omega)).mpr (by omega)
            refine QT.sw ?_
            refine QT.ieq (fun _ => ?_) (fun h => by omega)
            unfold f_X11_items_70
            refine QT.ite (fun h => absurd h one_ne) (fun _ => ?_)
            refine QT.sw ?_
            refine QT.bnd2 (Q := fun s z => CA qa.2 s ∧ GOF qb.1.2 s z ((uT qb.1.2 : Int) - 1)) ((ab_gof qa.2 qb.1.2 hX2 (by omega) (by omega)).mono (fun s hs => hs.2.mono (fun z hz => ⟨hs.1, hz⟩))) (fun s z hq => ?_)
            have hI3 := hI2.go hq.1 hq.2
            rw [show (1000 + ((L + 1 : Nat) : Int) + 1 - 1) = 1000 + ((L + 1 : Nat) : Int) by omega] at hI3
            exact ih n' (k + 1) (x4 + 1) (x4 + 1) s z e' f' _ (by omega) (by omega) hI3
          · have hs1 : ¬ (qb.1.2.1 0 13).toInt = 44 := fun e => h44 (((hK2.sg (by omega)).mp e).trans l44.symm)
            have hs2 : ¬ (qb.1.2.1 0 13).toInt = 93 := fun e => h93 (((hK2.sg (by omega)).mp e).trans l93.symm)
            refine (qa_ref 1 qa.2).mono (fun z hz => ?_)
            refine QT.ieq (fun h => by omega) (fun _ => ?_)
            exact (q_items0 n' P32 u dp w (x4 + 1) qb.1.2 hs2).mono (fun y hy => .inl ⟨hz, .inl hy⟩)
/-- a list's items of both sides -/
def NEWA (x : Nat) (a : ST) : Prop := ((a.1 (62 + 7) x).toInt = -1 ∧ (a.1 (62 + 8) x).toInt = -1) ∧ a.1 (62 + 4) x = 0 ∧ a.2.1 (62 + 6) x = 0
def NEWB (v : Nat) (s : Int) (t : ST) : Prop := ((t.1 28 v).toInt = -1 ∧ (t.1 29 v).toInt = -1) ∧ (t.1 23 v = 0 ∧ (t.1 20 v).toInt = s) ∧ t.2.1 21 v = 0 ∧ t.2.1 22 v = 0
theorem kds_0 {x v : Nat} {s : Int} {σ τ : ST} {Q : EN → Prop} (hA : NEWA x σ) (hB : NEWB v s τ) : KDS 62 σ τ (x, x + 1) (v, v + 1) [] Q := by
  have l0 := li_0
  refine ⟨⟨⟨hA.1.1, hA.1.2⟩, hB.1.1, hB.1.2⟩, ⟨List.Pairwise.nil, List.Pairwise.nil⟩, ⟨?_, ?_⟩, fun y hy => (by cases hy)⟩
  · show (τ.1 23 v).toInt = ((0 : Nat) : Int)
    rw [hB.2.1.1]
    exact l0
  · refine ⟨?_, rfl⟩
    show 0 + x < x + 1
    omega
def ITP (p : Nat) (rm : Int) (S T : ST) (rI : Int32 → Int32 → Int32 → ST → Option (Int32 × ST)) (ri : Int32 → Int32 → Int32 → Int32 → ST → Option ((Int32 × ST) × Nat)) : Prop := ∀ (L d x v : Nat) (lev dp tI u row w P32 : Int32) (a t : ST), L ≤ 30 → lev.toInt = L → dp.toInt = L → P32.toInt = p → TY p rm S T d tI (T.1 3 u.toNatClampNeg) → row.toInt = x → w.toInt = v → KVA S a → KVB T t → ((a.1 62 1).toInt = (x : Int) + 1 ∧ (a.1 62 0).toInt = 502 ∧ x < 502) → (t.1 0 46).toInt = (v : Int) + 1 → NEWA x a → NEWB v 6 t → QT (f_X11_go t) (fun b => GOF t a b (1000 + (L + 1 : Nat) - 2 * ((x : Int) + 1))) → QT (rI tI row lev a) (fun qa => QT (ri P32 u dp w t) (fun qb => VOUT L (IPO p S T L tI (T.1 3 u.toNatClampNeg) x v a t) qa qb.1))
theorem ab_items {rF rI : Int32 → Int32 → Int32 → ST → Option (Int32 × ST)} {rV : Int32 → Int32 → Int32 → Int32 → ST → Option (Int32 × ST)} {ri rp : Int32 → Int32 → Int32 → Int32 → ST → Option ((Int32 × ST) × Nat)} {rv : Int32 → Int32 → Int32 → Int32 → Int32 → ST → Option ((Int32 × ST) × Nat)} {p : Nat} {rm : Int} {S T : ST} (hV : VTP p rm S T rV rv) (hN : NUV rv) : ITP p rm S T (f_X8_parseItems rF rI rV) (f_X11_items ri rp rv) := by
  have l0 := li_0
  have l1 := li_1
  have l93 : (93 : Int32).toInt = 93 := by decide
  intro L d x v lev dp tI u row w P32 a t hL hlev hdp hP hT hr hw kA kB ⟨a1, a0, hx⟩ ht hNA hNB hgo
  unfold f_X8_parseItems f_X11_items
  refine QT.sw ?_
  refine QT.bnd hgo (fun b hb => ?_)
  have kb := hb.2.1
  have hX := hb.2.2.1
  have hu := hb.2.2.2
  have hK := hX.1.2.2.1
  have b46 : (b.1 0 46).toInt = (v : Int) + 1 := by rw [hb.1.2.1]; exact ht
  have hNB2 : NEWB v 6 b := by
    unfold NEWB
    rw [hb.1.1 28 (by omega), hb.1.1 29 (by omega), hb.1.1 23 (by omega), hb.1.1 20 (by omega), hb.1.2.2 21 (by omega), hb.1.2.2 22 (by omega)]
    exact hNB
  have hC : CXT S T a b (x + 1) (v + 1) (1000 + (L + 1 : Nat)) := ⟨⟨kA, kB.trans kb⟩, hX, ⟨by omega, a0⟩, by omega, by omega⟩
  refine QT.ieq (fun hs => ?_) (fun hs => ?_)
  · have hk : (a.1 2 4).toInt = 93 := (hK.sg (by omega)).mp (by omega)
    refine QT.sw ?_
    refine QT.ieq (fun _ => ?_) (fun h => by omega)
    refine QT.bnd (ab_gof a b hX.1 (by omega) (by omega)) (fun s hs9 => QT.ret ?_)
    refine QT.bnd hs9.2 (fun z hz => QT.ret (.inr ⟨l1, l1, ?_⟩))
    have hC2 := hC.go hs9.1 hz
    have ca := hs9.1
    refine ⟨x + 1, v + 1, [], ⟨?_, by omega, by omega⟩, ⟨ca.sua, (SUB.trans hb.sub hz.sub)⟩, ⟨rfl, by show 0 ≤ 200; omega, ?_⟩, ?_, ?_, ?_, ?_⟩
    · have e9 : (1000 + ((L + 1 : Nat) : Int) - 1) = 1000 + (L : Int) := by omega
      rw [e9] at hC2
      obtain ⟨c1, c2, c3, c4, c5, c6⟩ := hC2
      exact ⟨c1, c2, c3, c4, by dsimp only; omega, c6⟩
    · rw [ca.1 _ (by omega), hNA.2.1]
      exact l0
    · refine kds_0 (s := 6) ?_ ?_
      · unfold NEWA
        rw [ca.1 _ (by omega), ca.1 _ (by omega), ca.1 _ (by omega), ca.2.2.1 _ (by omega)]
        exact hNA
      · unfold NEWB
        rw [hz.1.1 28 (by omega), hz.1.1 29 (by omega), hz.1.1 23 (by omega), hz.1.1 20 (by omega), hz.1.2.2 21 (by omega), hz.1.2.2 22 (by omega)]
        exact hNB2
    · rw [ca.2.2.1 _ (by omega)]
      exact hNA.2.2
    · rw [hz.1.2.2 21 (by omega)]
      exact hNB2.2.2.1
    · rw [hz.1.2.2 22 (by omega)]
      exact hNB2.2.2.2
  · refine QT.sw ?_
    refine QT.ieq (fun h => absurd (((hK.sg (by omega)).mpr (h.trans l93)).trans l93.symm) hs) (fun _ => ?_)
    exact ab_items24 hV hN hL hlev hdp hP hT hr hw FU FU 0 0 0 a b (x + 1) (v + 1) [] l0 l0 ⟨⟨hC, by omega, by omega⟩, ⟨SUA.rf, hb.sub⟩, ⟨rfl, rfl, by omega⟩, kds_0 hNA hNB2, ⟨hNA.2.1, hNA.2.2⟩, ⟨hNB2.2.2.1, hNB2.2.2.2⟩, hNB2.2.1.2⟩
/-! lists of places -/
theorem spt_list : ∀ (l : List EN), (l.map (fun y => y.1)).Pairwise (fun i j => i < j) → ∀ (j : Nat), (∀ y, y ∈ l → ¬ y.1 = j) → ∃ l1 l2, l = l1 ++ l2 ∧ (∀ y, y ∈ l1 → y.1 < j) ∧ ∀ y, y ∈ l2 → j < y.1 := by
  intro l
  induction l with
  | nil => intro _ j _; exact ⟨[], [], rfl, fun y h => (by cases h), fun y h => (by cases h)⟩
  | cons z l ih =>
    intro h j hj
    rw [List.map_cons] at h
    obtain ⟨h1, h2⟩ := List.pairwise_cons.mp h
    rcases Nat.lt_or_ge z.1 j with hz | hz
    · obtain ⟨l1, l2, e, k1, k2⟩ := ih h2 j (fun y hy => hj y (List.mem_cons_of_mem _ hy))
      refine ⟨z :: l1, l2, by rw [e]; rfl, fun y hy => ?_, k2⟩
      rcases List.mem_cons.mp hy with e9 | hy
      · rw [e9]
        exact hz
      · exact k1 y hy
    · have hne := hj z List.mem_cons_self
      refine ⟨[], z :: l, rfl, fun y h => (by cases h), fun y hy => ?_⟩
      rcases List.mem_cons.mp hy with e9 | hy
      · rw [e9]
        omega
      · have := h1 y.1 (List.mem_map.mpr ⟨y, hy, rfl⟩)
        omega
theorem rg_list : ∀ (n k : Nat) (L : List Nat), L.Pairwise (fun i j => i < j) → (∀ i, i ∈ L → k ≤ i ∧ i < k + n) → (∀ j, k ≤ j → j < k + n → j ∈ L) → L = List.range' k n := by
  intro n
  induction n with
  | zero =>
    intro k L _ h _
    cases L with
    | nil => rfl
    | cons y L =>
      have := h y List.mem_cons_self
      omega
  | succ n ih =>
    intro k L hp h1 h2
    cases L with
    | nil =>
      have := h2 k (by omega) (by omega)
      cases this
    | cons y L =>
      obtain ⟨p1, p2⟩ := List.pairwise_cons.mp hp
      have hy := h1 y List.mem_cons_self
      have ey : y = k := by
        rcases List.mem_cons.mp (h2 k (by omega) (by omega)) with e | e
        · exact e.symm
        · have := p1 k e
          omega
      rw [List.range'_succ, ey, ih (k + 1) L p2 (fun i hi => ?_) (fun j j1 j2 => ?_)]
      · have := h1 i (List.mem_cons_of_mem _ hi)
        have := p1 i hi
        omega
      · rcases List.mem_cons.mp (h2 j (by omega) (by omega)) with e | e
        · omega
        · exact e
theorem ln_list : ∀ (L : List Nat) (lo hi : Nat), L.Pairwise (fun i j => i < j) → (∀ i, i ∈ L → lo ≤ i ∧ i < hi) → L.length ≤ hi - lo := by
  intro L
  induction L with
  | nil => intro lo hi _ _; exact Nat.zero_le _
  | cons y L ih =>
    intro lo hi hp h
    obtain ⟨p1, p2⟩ := List.pairwise_cons.mp hp
    have hy := h y List.mem_cons_self
    have := ih (y + 1) hi p2 (fun i hi2 => by
      have := h i (List.mem_cons_of_mem _ hi2)
      have := p1 i hi2
      omega)
    rw [List.length_cons]
    omega
/-! whether a place was told, in the reference -/
theorem q_hasChild10 (p1 : Int32) (σ : ST) {j : Nat} (hp : p1.toInt = j) : ∀ (l : List EN) (n : Nat) (x3 x4 : Int32), CN (σ.1 30) x4 (rB l) → (∀ y, y ∈ l → (σ.1 25 y.2.2.1).toInt = y.1) → (x3.toInt = 0 ∨ x3.toInt = 1) → QT (f_X11_hasChild_10 n p1 x3 x4 σ) (fun q => q.2 = σ ∧ (q.1.toInt = 0 ∧ x3.toInt = 0 ∧ (∀ y, y ∈ l → ¬ y.1 = j) ∨ q.1.toInt = 1 ∧ (x3.toInt = 1 ∨ ∃ y, y ∈ l ∧ y.1 = j))) := by
  have l0 := li_0
  have l1 := li_1
  intro l
  induction l with
  | nil =>
    intro n x3 x4 hc hpl hx
    cases n with
    | zero =>
      rw [f_X11_hasChild_10]
      exact QT.none
    | succ n =>
      rw [f_X11_hasChild_10]
      have hc : x4.toInt = -1 := hc
      refine QT.ilt (fun _ => QT.grd (fun _ => QT.ret ⟨rfl, ?_⟩)) (fun h => by omega)
      rcases hx with hx | hx
      · exact .inl ⟨hx, hx, fun y hy => (by cases hy)⟩
      · exact .inr ⟨hx, .inl hx⟩
  | cons z l ih =>
    intro n x3 x4 hc hpl hx
    cases n with
    | zero =>
      rw [f_X11_hasChild_10]
      exact QT.none
    | succ n =>
      rw [f_X11_hasChild_10]
      obtain ⟨hc1, hc2⟩ := hc
      have hc1 : x4.toInt = (z.2.2.1 : Int) := hc1
      have n4 : x4.toNatClampNeg = z.2.2.1 := nC hc1
      have hz := hpl z List.mem_cons_self
      have hpl2 : ∀ y, y ∈ l → (σ.1 25 y.2.2.1).toInt = y.1 := fun y hy => hpl y (List.mem_cons_of_mem _ hy)
      refine QT.ilt (fun h => by omega) (fun _ => ?_)
      unfold f_X11_hasChild_30 f_X11_hasChild_35
      rw [n4]
      have one : ∀ (P : x3.toInt = 1 ∨ ∃ y, y ∈ z :: l ∧ y.1 = j), QT (f_X11_hasChild_10 n p1 1 (σ.1 30 z.2.2.1) σ) (fun q => q.2 = σ ∧ (q.1.toInt = 0 ∧ x3.toInt = 0 ∧ (∀ y, y ∈ z :: l → ¬ y.1 = j) ∨ q.1.toInt = 1 ∧ (x3.toInt = 1 ∨ ∃ y, y ∈ z :: l ∧ y.1 = j))) := fun P => (ih n 1 _ hc2 hpl2 (.inr l1)).mono (fun q hq => ⟨hq.1, by
        rcases hq.2 with h9 | h9
        · have := h9.2.1
          omega
        · exact .inr ⟨h9.1, P⟩⟩)
      refine QT.ieq (fun h3 => ?_) (fun h3 => ?_)
      · refine QT.grd (fun _ => ?_)
        refine QT.ieq (fun he => ?_) (fun he => ?_)
        · exact QT.grd (fun _ => one (.inr ⟨z, List.mem_cons_self, by omega⟩))
        · refine QT.grd (fun _ => ?_)
          refine (ih n 0 _ hc2 hpl2 (.inl l0)).mono (fun q hq => ⟨hq.1, ?_⟩)
          rcases hq.2 with ⟨h9, _, h8⟩ | ⟨h9, h8⟩
          · refine .inl ⟨h9, by omega, fun y hy => ?_⟩
            rcases List.mem_cons.mp hy with e9 | hy
            · rw [e9]
              omega
            · exact h8 y hy
          · refine .inr ⟨h9, .inr ?_⟩
            rcases h8 with h8 | ⟨y, hy, e9⟩
            · omega
            · exact ⟨y, List.mem_cons_of_mem _ hy, e9⟩
      · refine QT.grd (fun _ => one (.inl ?_))
        rcases hx with hx | hx
        · omega
        · exact hx
theorem q_hasChild (p0 p1 : Int32) (σ : ST) {v j : Nat} {l : List EN} (h0 : p0.toInt = v) (hp : p1.toInt = j) (hc : CN (σ.1 30) (σ.1 28 v) (rB l)) (hpl : ∀ y, y ∈ l → (σ.1 25 y.2.2.1).toInt = y.1) : QT (f_X11_hasChild p0 p1 σ) (fun q => q.2 = σ ∧ (q.1.toInt = 0 ∧ (∀ y, y ∈ l → ¬ y.1 = j) ∨ q.1.toInt = 1 ∧ ∃ y, y ∈ l ∧ y.1 = j)) := by
  have l0 := li_0
  have n0 : p0.toNatClampNeg = v := nC h0
  unfold f_X11_hasChild
  refine QT.grd (fun _ => ?_)
  rw [n0]
  refine (q_hasChild10 p1 σ hp l FU 0 _ hc hpl (.inl l0)).mono (fun q hq => ⟨hq.1, ?_⟩)
  rcases hq.2 with ⟨h1, _, h2⟩ | ⟨h1, h2⟩
  · exact .inl ⟨h1, h2⟩
  · refine .inr ⟨h1, ?_⟩
    rcases h2 with h2 | h2
    · omega
    · exact h2
/-! what else tells becomes a node of the reference -/
theorem q_first {p : Nat} {rm : Int} {S T τ : ST} {d : Nat} {x y : Int32} (h : TY p rm S T (d + 1) x y) (kv : KVB T τ) : ∃ u : Int32, f_X11_firstOf y τ = some (u, τ) ∧ (0 ≤ u.toInt ∧ u.toInt < 800) ∧ (T.1 2 u.toNatClampNeg).toInt = FCS (T.1 2) (T.1 5) y ∧ ((T.1 2 y.toNatClampNeg).toInt = 8 ∧ ¬ u = y ∨ ¬ (T.1 2 y.toNatClampNeg).toInt = 8 ∧ u = y) := by
  have l8 : (8 : Int32).toInt = 8 := by decide
  obtain ⟨⟨k2, _, _, k5⟩, _⟩ := kv.t
  obtain ⟨⟨h1, h2⟩, h3, h4, h5, h6, _, h8⟩ := h
  have ny := nN_ h2.1
  unfold f_X11_firstOf FCS
  rw [if_pos (by omega), k2, k5]
  by_cases e : T.1 2 y.toNatClampNeg = 8
  · have e8 : (T.1 2 y.toNatClampNeg).toInt = 8 := by rw [e]; exact l8
    obtain ⟨m1, m2, _⟩ := h8 e8
    obtain ⟨hT, hn8⟩ := m2 0 (by omega)
    have e4 := mlE (k := 4) (y := y) 4 li_4 (by omega) (by omega)
    have n4 : (4 * y).toNatClampNeg = 4 * y.toNatClampNeg := nC (by omega)
    have r := (TG.ex hT).choose_spec.1.2
    rw [Nat.add_zero] at hT hn8 r
    rw [if_pos e, if_pos (by omega), n4, if_pos e8]
    exact ⟨_, rfl, r, rfl, .inl ⟨e8, fun e9 => by rw [e9] at hn8; exact hn8 e8⟩⟩
  · have e8 : ¬ (T.1 2 y.toNatClampNeg).toInt = 8 := fun h => e (Int32.toInt_inj.mp (h.trans l8.symm))
    rw [if_neg e, if_neg e8]
    exact ⟨_, rfl, by omega, rfl, .inr ⟨e8, rfl⟩⟩
/-- a node that was filled in -/
def FIL (T : ST) (v0 N j v : Nat) (l m : List Nat) (τ t : ST) : Prop := ELN T t v0 N (j, (0, 0), (v, v + 1)) ∧ XTB v v0 l m τ t ∧ (t.1 0 46).toInt = (v : Int) + 1 ∧ KVB τ t ∧ (∀ i, i ≠ 46 → t.1 0 i = τ.1 0 i) ∧ t.1 1 = τ.1 1 ∧ t.2.1 0 = τ.2.1 0 ∧ t.2.2.1 = τ.2.2.1
theorem q_fills {p : Nat} {rm : Int} {S T τ : ST} {d : Nat} {x : Int32} (p0 p1 p2 : Int32) {N v0 j v : Nat} {l m : List Nat} (kv : KVB T τ) (h0 : p0.toInt = N) (h1 : p1.toInt = v0) (h2 : p2.toInt = j) (hv : (τ.1 0 46).toInt = v) (hv0 : v0 < v) (hT : TY p rm S T (d + 1) x (T.1 15 N)) (hE : ¬ (T.1 16 N).toInt = 0) (hr : ∀ r, r ∈ l ++ m → r < v) (hpa : (l ++ m).Nodup ∧ CN (τ.1 30) (τ.1 28 v0) (l ++ m) ∧ (τ.1 29 v0).toInt = lz (-1) (l ++ m)) (hl : ∀ r, r ∈ l → (τ.1 25 r).toInt < j) (hm : ∀ r, r ∈ m → (j : Int) ≤ (τ.1 25 r).toInt) : QT (f_X11_fills p0 p1 p2 τ) (fun t => FIL T v0 N j v l m τ t) := by
  have l0 := li_0
  have l1 := li_1
  have l5 := li_5
  have lm := li_m1
  obtain ⟨⟨k2, _, _, k5⟩, ⟨_, k15, k16, k19⟩, _, k17, k18⟩ := kv.t
  obtain ⟨u, hu1, hu2, hu3, hu4⟩ := q_first hT kv
  have n0 : p0.toNatClampNeg = N := nC h0
  have n1 : p1.toNatClampNeg = v0 := nC h1
  unfold f_X11_fills
  refine QT.grd (fun hN => ?_)
  rw [n0, k15, hu1]
  rw [sbnd]
  dsimp only
  refine QT.grd (fun _ => ?_)
  rw [k2]
  have go : ∀ br : Int32, ((T.1 2 (T.1 15 N).toNatClampNeg).toInt = 8 ∧ br.toInt = 0 ∨ ¬ (T.1 2 (T.1 15 N).toNatClampNeg).toInt = 8 ∧ br.toInt = -1) → QT (f_X11_fills_45 p0 u br p2 p1 (T.1 2 u.toNatClampNeg) τ) (fun t => FIL T v0 N j v l m τ t) := fun br hbr => by
    unfold f_X11_fills_45
    refine QT.bnd (b_lays (T.1 2 u.toNatClampNeg) p1 p2 br τ (x := v) (l := l) (m := m) hv (.inr ⟨by omega, by omega, by rw [n1]; exact hpa, hr, fun r h => by rw [h2]; exact hl r h, fun r h => by rw [h2]; exact hm r h⟩)) (fun q hq => ?_)
    obtain ⟨w, t⟩ := q
    obtain ⟨⟨hw, _⟩, g⟩ := hq
    have hw : w.toInt = v := hw
    have g : GRB v (T.1 2 u.toNatClampNeg) p1 p2 br l m τ t := g
    have nw : w.toNatClampNeg = v := nC hw
    dsimp only
    refine QT.grd (fun _ => QT.grd (fun _ => ?_))
    rw [nw, n0]
    have gc : ∀ c, c < 20 → c ≠ 0 → t.1 c = τ.1 c := fun c h9 h8 => g.1.1 c h8 (by omega) (by omega)
    have t17 : t.2.1 17 N = T.2.1 17 N := by rw [g.1.2.1 17 (by omega) (by omega), k17]
    have t18 : (stL t 21 v (t.2.1 17 N)).2.1 18 N = T.2.1 18 N := by rw [stL_ne (by omega), g.1.2.1 18 (by omega) (by omega), k18]
    rw [t17] at t18 ⊢
    rw [t18]
    refine QT.lt (fun z ez => ?_)
    have z2 : z.1 2 = T.1 2 := by rw [ez]; exact (gc 2 (by omega) (by omega)).trans k2
    have z19 : z.1 19 = T.1 19 := by rw [ez]; exact (gc 19 (by omega) (by omega)).trans k19
    refine QT.grd (fun _ => ?_)
    rw [z2, z19]
    unfold f_X11_fills_103
    rw [nw, nbT]
    have fin : ∀ n : Int32, ((T.1 2 u.toNatClampNeg).toInt = 5 ∧ n = T.1 19 N ∨ ¬ (T.1 2 u.toNatClampNeg).toInt = 5 ∧ n.toInt = 0) → FIL T v0 N j v l m τ (stI (stI z 23 v n) 27 v 1) := fun n hn => by
      have e1 : ∀ c, c ≠ 23 → c ≠ 27 → (stI (stI z 23 v n) 27 v 1).1 c = t.1 c := fun c h23 h27 => by
        rw [stI_ne h27, stI_ne h23, ez]
        rfl
      have e23 : (stI (stI z 23 v n) 27 v 1).1 23 = upd (t.1 23) v n := by
        rw [stI_ne (by omega), stI_at, ez]
        rfl
      have e27 : (stI (stI z 23 v n) 27 v 1).1 27 = upd (t.1 27) v 1 := by
        rw [stI_at, stI_ne (by omega), ez]
        rfl
      have e21 : (stI (stI z 23 v n) 27 v 1).2.1 21 = vp_updL (t.2.1 21) v (T.2.1 17 N) := by
        show z.2.1 21 = _
        rw [ez, stL_ne (by omega), stLA]
      have e22 : (stI (stI z 23 v n) 27 v 1).2.1 22 = vp_updL (t.2.1 22) v (T.2.1 18 N) := by
        show z.2.1 22 = _
        rw [ez, stLA, stL_ne (by omega)]
      have eL : ∀ c, c ≠ 21 → c ≠ 22 → (stI (stI z 23 v n) 27 v 1).2.1 c = t.2.1 c := fun c h1 h2 => by
        show z.2.1 c = _
        rw [ez, stL_ne h2, stL_ne h1]
      have eE : (stI (stI z 23 v n) 27 v 1).2.2 = t.2.2 := by
        show z.2.2 = _
        rw [ez]
        rfl
      generalize stI (stI z 23 v n) 27 v 1 = y at e1 e23 e27 e21 e22 eL eE
      obtain ⟨⟨f1, f2, f3, f4⟩, f5, ⟨⟨f6, f7⟩, ⟨f8, f9⟩, ⟨f10, f11⟩, f12, f13⟩, f14, f15, f16, f17⟩ := g
      refine ⟨⟨⟨?_, ?_, ?_⟩, ⟨hE, ?_⟩, ?_, ⟨?_, ?_, ?_⟩, ?_⟩, ⟨⟨fun i hi => ⟨?_, fun k k1 k2 => ?_, ?_, ?_⟩, fun i hi hn => ?_, fun i hi => ?_⟩, fun i hi hn => ⟨?_, ?_⟩, fun i hi hn => ?_, fun q hq => ?_⟩, ?_, ⟨fun c c0 c20 hc => ?_, fun i _ _ _ _ _ _ _ h46 => ?_, fun c _ c21 c22 => ?_⟩, fun i hi => ?_, ?_, ?_, ?_⟩
      · show (y.1 24 v).toInt = v0
        rw [e1 24 (by omega) (by omega), f8]
        exact h1
      · show (y.1 25 v).toInt = j
        rw [e1 25 (by omega) (by omega), f9]
        exact h2
      · show (y.1 27 v).toInt = 1
        rw [e27, upA rfl]
        exact l1
      · show (y.1 20 v).toInt = _
        rw [e1 20 (by omega) (by omega), f6]
        exact hu3
      · show _ ∧ (y.1 26 v).toInt = 0 ∨ _ ∧ (y.1 26 v).toInt = -1
        rw [e1 26 (by omega) (by omega), f10]
        exact hbr
      · show y.2.1 21 v = _
        rw [e21, upLA rfl]
      · show y.2.1 22 v = _
        rw [e22, upLA rfl]
      · show (y.1 20 v).toInt = 5 ∧ y.1 23 v = _ ∨ ¬ (y.1 20 v).toInt = 5 ∧ (y.1 23 v).toInt = 0
        rw [e1 20 (by omega) (by omega), f6, e23, upA rfl]
        exact hn
      · show (y.1 28 v).toInt = -1
        rw [e1 28 (by omega) (by omega)]
        exact f15.1
      · rw [e1 20 (by omega) (by omega)]
        exact (f14 i (by omega)).1
      · have h9 := (f14 i (by omega)).2.2.2.1 k k1 k2
        by_cases e9 : k = 27
        · rw [e9] at h9 ⊢
          rw [e27, upN (by omega)]
          exact h9
        · rw [e1 k (by omega) e9]
          exact h9
      · rw [e21, upLN (by omega)]
        exact (f14 i (by omega)).2.2.2.2.1
      · rw [e22, upLN (by omega)]
        exact (f14 i (by omega)).2.2.2.2.2
      · rw [e23, upN (by omega)]
        exact (f14 i (by omega)).2.1 (by omega)
      · rw [e23, upN (by omega)]
        exact (f14 i (by omega)).2.2.1 (by omega)
      · rw [e1 28 (by omega) (by omega)]
        exact (f16 i (by omega) (by omega)).1
      · rw [e1 29 (by omega) (by omega)]
        exact (f16 i (by omega) (by omega)).2
      · rw [e1 30 (by omega) (by omega)]
        exact f17.1 i (by omega) hn
      · rw [e1 30 (by omega) (by omega), e1 28 (by omega) (by omega), e1 29 (by omega) (by omega)]
        exact f17.2 q (by omega)
      · rw [e1 0 (by omega) (by omega)]
        exact f5
      · rw [e1 c (by omega) (by omega)]
        exact f1 c c0 c20 hc
      · rw [e1 0 (by omega) (by omega)]
        exact f4 i h46
      · rw [eL c c21 c22]
        exact f2 c c21 c22
      · rw [e1 0 (by omega) (by omega)]
        exact f4 i hi
      · rw [e1 1 (by omega) (by omega)]
        exact f1 1 (by omega) (by omega) (by omega)
      · rw [eL 0 (by omega) (by omega)]
        exact f2 0 (by omega) (by omega)
      · rw [eE, f3]
    refine QT.ieq (fun e5 => ?_) (fun e5 => ?_)
    · exact QT.grd (fun _ => QT.grd (fun _ => QT.ret (fin _ (.inl ⟨by omega, rfl⟩))))
    · exact QT.grd (fun _ => QT.grd (fun _ => QT.ret (fin _ (.inr ⟨by omega, l0⟩))))
  refine QT.ite (fun e => ?_) (fun e => ?_)
  · refine go (-1) (.inr ⟨?_, lm⟩)
    rcases hu4 with h9 | h9
    · exact absurd e h9.2
    · exact h9.1
  · refine go 0 (.inl ⟨?_, l0⟩)
    rcases hu4 with h9 | h9
    · exact h9.1
    · exact absurd h9.2 e
/-! records: both sides, field by field -/
/-- a child of a record's rows x and v: told, or (in the reference alone) filled in -/
def RCH (p : Nat) (S T : ST) (n x v R : Nat) (σ τ : ST) (y : EN) : Prop := ((inA y = true ∧ KID 62 σ τ x v y) ∧ VAL False 62 p S T σ τ n (S.1 13 (8 * R + y.1)) (T.1 15 (8 * R + y.1)) y.2.1 y.2.2) ∨ inA y = false ∧ ELN T τ v (8 * R + y.1) y
theorem RCH.ext {p : Nat} {S T : ST} {n x v R : Nat} {σ τ s t : ST} {y : EN} (h : RCH p S T n x v R σ τ y) (hn : y.2.2.1 < y.2.2.2) (hA : inA y = true → AGA 62 σ s y.2.1.1 y.2.1.2) (hB : AGB τ t y.2.2.1 y.2.2.2) : RCH p S T n x v R s t y := by
  rcases h with h | ⟨h, k⟩
  · have := inA_lt h.1.1
    have hA := hA h.1.1
    exact .inl ⟨⟨h.1.1, h.1.2.ext (hA _ (by omega) (by omega)).1 (hB _ (by omega) (by omega)).1⟩, h.2.ext _ _ _ _ _ hA hB⟩
  · have h9 := hB _ (Nat.le_refl _) hn
    exact .inr ⟨h, k.ext h9.1 h9.2.1⟩
theorem RCH.pl {p : Nat} {S T : ST} {n x v R : Nat} {σ τ : ST} {y : EN} (h : RCH p S T n x v R σ τ y) : (inA y = true → (σ.1 (62 + 3) y.2.1.1).toInt = y.1) ∧ (τ.1 25 y.2.2.1).toInt = y.1 := by
  rcases h with h | ⟨h, k⟩
  · exact ⟨fun _ => h.1.2.1.2, h.1.2.2.1.2⟩
  · exact ⟨fun h9 => (by rw [h] at h9; cases h9), k.1.2.1⟩
/-- while the fields of a record are told (w: those that were), or filled in up to the k-th -/
def RLI (p : Nat) (S T : ST) (L R m x v : Nat) (a t : ST) (w k : Nat) (F : Int) (σ τ : ST) (e f : Nat) (l : List EN) : Prop := (CXT S T σ τ e f F ∧ x < e ∧ v < f) ∧ (SUA 62 x a σ ∧ SUB v t τ) ∧ (w < 512 ∧ (∀ y, y ∈ l → y.1 < m ∧ (inA y = false → y.1 < k)) ∧ (∀ j, j < 8 → (w.testBit j = true ↔ ∃ y, y ∈ l ∧ inA y = true ∧ y.1 = j)) ∧ ∀ j, j < k → ∃ y, y ∈ l ∧ y.1 = j) ∧ KDS 62 σ τ (x, e) (v, f) l (RCH p S T (31 - L) x v R σ τ) ∧ (σ.1 (62 + 4) x = 0 ∧ σ.2.1 (62 + 6) x = 0) ∧ (τ.2.1 21 v = 0 ∧ τ.2.1 22 v = 0) ∧ (τ.1 20 v).toInt = 7
/-- a record's fields told and filled in -/
def PPO (p : Nat) (S T : ST) (L R m x v : Nat) (a t a' b' : ST) : Prop := ∃ (e f : Nat) (l : List EN), (CXT S T a' b' e f (1000 + L + 1) ∧ x < e ∧ v < f) ∧ (SUA 62 x a a' ∧ SUB v t b') ∧ l.map (fun y => y.1) = List.range m ∧ KDS 62 a' b' (x, e) (v, f) l (RCH p S T (31 - L) x v R a' b') ∧ a'.2.1 (62 + 6) x = 0 ∧ b'.2.1 21 v = 0 ∧ b'.2.1 22 v = 0
theorem RLI.len {p : Nat} {S T : ST} {L R m x v : Nat} {a t : ST} {w k : Nat} {F : Int} {σ τ : ST} {e f : Nat} {l : List EN} (h : RLI p S T L R m x v a t w k F σ τ e f l) : l.length ≤ m := by
  have := ln_list (l.map (fun y => y.1)) 0 m h.2.2.2.1.2.1.2 (fun i hi => by
    obtain ⟨y, hy, e⟩ := List.mem_map.mp hi
    have := (h.2.2.1.2.1 y hy).1
    omega)
  rw [List.length_map] at this
  omega
theorem RLI.rows {p : Nat} {S T : ST} {L R m x v : Nat} {a t : ST} {w k : Nat} {F : Int} {σ τ : ST} {e f : Nat} {l : List EN} (h : RLI p S T L R m x v a t w k F σ τ e f l) : (∀ r, r ∈ rA l → x < r) ∧ ∀ r, r ∈ rB l → v < r ∧ r < f := by
  have hK := h.2.2.2.1
  refine ⟨fun r hr => ?_, fun r hr => ?_⟩
  · obtain ⟨y, y1, y2, y3⟩ := mem_rA hr
    have k : x < y.2.1.1 := ((hK.2.2.2 y y1).2.1.1 y2).1
    omega
  · obtain ⟨y, y1, y3⟩ := mem_rB hr
    have k : v < y.2.2.1 ∧ y.2.2.1 < y.2.2.2 ∧ y.2.2.2 ≤ f := (hK.2.2.2 y y1).1
    omega
theorem RLI.par {p : Nat} {S T : ST} {L R m x v : Nat} {a t : ST} {w k : Nat} {F : Int} {σ τ : ST} {e f : Nat} {l1 l2 : List EN} (h : RLI p S T L R m x v a t w k F σ τ e f (l1 ++ l2)) {row wB pl : Int32} {j : Nat} (hr : row.toInt = x) (hw : wB.toInt = v) (hp : pl.toInt = j) (hj : j < 8) (h1 : ∀ y, y ∈ l1 → y.1 < j) (h2 : ∀ y, y ∈ l2 → j < y.1) : PAR σ τ e f row wB pl l1 l2 := by
  obtain ⟨⟨_, h3, h4⟩, _, _, hK, _⟩ := h
  refine .inr ⟨x, v, _, ⟨⟨hr, h3⟩, hw, h4⟩, hK, fun y hy => ?_, fun y hy => ?_, fun y hy => ?_, ⟨by omega, by omega⟩, .inl (by omega)⟩
  · exact (hK.2.2.2 y hy).2.2.pl
  · have := h1 y hy
    omega
  · have := h2 y hy
    omega
theorem tb_set {w j : Nat} (hw : w < 512) (hj : j < 9) (h0 : w.testBit j = false) : ((Int32.ofNat w) ||| (1 <<< ((Int32.ofNat j) &&& 31))) = Int32.ofNat (w + 2 ^ j) ∧ w + 2 ^ j < 512 ∧ ∀ i : Nat, i < 9 → ((w + 2 ^ j).testBit i = true ↔ w.testBit i = true ∨ i = j) := by
  obtain ⟨h1, h2, _, h3⟩ := mk_or w hw j hj h0
  refine ⟨h1, h2, fun i hi => ?_⟩
  rw [h3 i hi]
  cases e : w.testBit i with
  | true => simp
  | false => simp
/-- one field more, told -/
theorem RLI.add {p : Nat} {S T : ST} {L R m x v : Nat} {a t : ST} {w : Nat} {F : Int} {σ τ s u : ST} {e f : Nat} {l1 l2 : List EN} (h : RLI p S T L R m x v a t w 0 F σ τ e f (l1 ++ l2)) {row wB pl : Int32} {j : Nat} (hr : row.toInt = x) (hw : wB.toInt = v) (hp : pl.toInt = j) (hj : j < m) (hm : m ≤ 8) (h1 : ∀ y, y ∈ l1 → y.1 < j) (h2 : ∀ y, y ∈ l2 → j < y.1) (h0 : w.testBit j = false) (hL : L ≤ 30) (hV : VPOST p S T (L + 1) (S.1 13 (8 * R + j)) (T.1 15 (8 * R + j)) e f row wB pl l1 l2 σ τ s u) : ∃ e' f', RLI p S T L R m x v a t (w + 2 ^ j) 0 (1000 + (L + 1 : Nat) + 1) s u e' f' (l1 ++ (j, (e, e'), (f, f')) :: l2) := by
  have hrow := h.rows
  have hlen := h.len
  obtain ⟨⟨_, h3, h4⟩, ⟨hs1, hs2⟩, ⟨h5, h6, h7, _⟩, hK, ⟨h8, h8b⟩, ⟨h9, h9b⟩, h10⟩ := h
  obtain ⟨e', f', hC, ⟨g1, g2, hk⟩, hVal, ⟨⟨g3, g4⟩, ⟨g5, g6⟩, g7⟩, hXA, hXB⟩ := hV
  rw [hr] at hXA
  rw [hw] at hXB
  have hsu : SUA 62 x σ s := hXA.su h3 (fun r hr => hrow.1 r (by rw [rA_app]; exact List.mem_append_left _ hr))
  have hsb : SUB v τ u := hXB.su h4 (fun r hr => (hrow.2 r (by rw [rB_app]; exact List.mem_append_left _ hr)).1)
  obtain ⟨_, b1, b2⟩ := tb_set h5 (by omega) h0
  have hin : inA (j, (e, e'), (f, f')) = true := decide_eq_true g1
  have hmem : ∀ y, y ∈ l1 ++ (j, (e, e'), (f, f')) :: l2 → y = (j, (e, e'), (f, f')) ∨ y ∈ l1 ++ l2 := fun y hy => by
    rcases List.mem_append.mp hy with hy | hy
    · exact .inr (List.mem_append_left _ hy)
    · rcases List.mem_cons.mp hy with hy | hy
      · exact .inl hy
      · exact .inr (List.mem_append_right _ hy)
  have hmem2 : ∀ y, y ∈ l1 ++ l2 → y ∈ l1 ++ (j, (e, e'), (f, f')) :: l2 := fun y hy => by
    rcases List.mem_append.mp hy with hy | hy
    · exact List.mem_append_left _ hy
    · exact List.mem_append_right _ (List.mem_cons_of_mem _ hy)
  refine ⟨e', f', ⟨hC, by omega, by omega⟩, ⟨hs1.trans hsu, hs2.trans hsb⟩, ⟨b1, fun y hy => ?_, fun i hi => ?_, fun i hi => by omega⟩, ?_, ⟨?_, ?_⟩, ⟨?_, ?_⟩, ?_⟩
  · rcases hmem y hy with e9 | hy
    · rw [e9]
      exact ⟨hj, fun h => by rw [hin] at h; cases h⟩
    · exact h6 y hy
  · rw [b2 i (by omega), h7 i hi]
    constructor
    · rintro (⟨y, hy, k1, k2⟩ | e9)
      · exact ⟨y, hmem2 y hy, k1, k2⟩
      · exact ⟨_, List.mem_append_right _ List.mem_cons_self, hin, e9.symm⟩
    · rintro ⟨y, hy, k1, k2⟩
      rcases hmem y hy with e9 | hy
      · rw [e9] at k2
        exact .inr k2.symm
      · exact .inl ⟨y, hy, k1, k2⟩
  · refine KDS.add hK hXA hXB h3 h4 g1 g2 (by omega) h1 h2 (fun y hy hy1 hyA hyB hQ => hQ.ext hy1.2 hyA hyB) (.inl ⟨⟨hin, ⟨⟨?_, ?_⟩, ⟨?_, ?_⟩, g7⟩⟩, ?_⟩)
    · show (s.1 (62 + 2) e).toInt = x
      rw [g3]
      exact hr
    · show (s.1 (62 + 3) e).toInt = j
      rw [g4]
      exact hp
    · show (u.1 24 f).toInt = v
      rw [g5]
      exact hw
    · show (u.1 25 f).toInt = j
      rw [g6]
      exact hp
    · have e9 : 32 - (L + 1) = 31 - L := by omega
      rw [e9] at hVal
      exact hVal
  · rw [(hXA.1 x h3).1 4 (by omega) (by omega)]
    exact h8
  · rw [(hXA.1 x h3).2]
    exact h8b
  · rw [(hXB.1.1 v h4).2.2.1]
    exact h9
  · rw [(hXB.1.1 v h4).2.2.2]
    exact h9b
  · rw [(hXB.1.1 v h4).1]
    exact h10
/-- one field more, filled in -/
theorem RLI.fil {p : Nat} {S T : ST} {L R m x v : Nat} {a t : ST} {w k : Nat} {F : Int} {σ τ u : ST} {e f : Nat} {l1 l2 : List EN} (h : RLI p S T L R m x v a t w k F σ τ e f (l1 ++ l2)) (hk : k < m) (hm : m ≤ 8) (h1 : ∀ y, y ∈ l1 → y.1 < k) (h2 : ∀ y, y ∈ l2 → k < y.1) (hV : FIL T v (8 * R + k) k f (rB l1) (rB l2) τ u) : RLI p S T L R m x v a t w (k + 1) F σ u e (f + 1) (l1 ++ (k, (0, 0), (f, f + 1)) :: l2) := by
  have hrow := h.rows
  have hlen := h.len
  obtain ⟨⟨⟨⟨hC1, hC2⟩, hC3, hC4, hC5, hC6⟩, h3, h4⟩, ⟨hs1, hs2⟩, ⟨h5, h6, h7, h7b⟩, hK, ⟨h8, h8b⟩, ⟨h9, h9b⟩, h10⟩ := h
  obtain ⟨hE, hXB, hv, hkv, e0, e1, eL, eE⟩ := hV
  have hsb : SUB v τ u := hXB.su h4 (fun r hr => (hrow.2 r (by rw [rB_app]; exact List.mem_append_left _ hr)).1)
  have hin : inA (k, (0, 0), (f, f + 1)) = false := rfl
  have hmem : ∀ y, y ∈ l1 ++ (k, (0, 0), (f, f + 1)) :: l2 → y = (k, (0, 0), (f, f + 1)) ∨ y ∈ l1 ++ l2 := fun y hy => by
    rcases List.mem_append.mp hy with hy | hy
    · exact .inr (List.mem_append_left _ hy)
    · rcases List.mem_cons.mp hy with hy | hy
      · exact .inl hy
      · exact .inr (List.mem_append_right _ hy)
  have hmem2 : ∀ y, y ∈ l1 ++ l2 → y ∈ l1 ++ (k, (0, 0), (f, f + 1)) :: l2 := fun y hy => by
    rcases List.mem_append.mp hy with hy | hy
    · exact List.mem_append_left _ hy
    · exact List.mem_append_right _ (List.mem_cons_of_mem _ hy)
  have hX : LX σ u := hC3.1.ext rfl rfl rfl rfl e1 (fun i hi => e0 i (fun e => by rw [e] at hi; revert hi; decide)) eL
  have hW : TWX σ u := hC3.2.ext rfl rfl (e0 8 (by omega)) eL eE
  have hu := (TX.ext hC3.1.tx e0).2
  refine ⟨⟨⟨⟨hC1, hC2.trans hkv⟩, ⟨hX, hW⟩, hC4, by omega, by omega⟩, h3, by omega⟩, ⟨hs1, hs2.trans hsb⟩, ⟨h5, fun y hy => ?_, fun i hi => ?_, fun i hi => ?_⟩, ?_, ⟨h8, h8b⟩, ⟨?_, ?_⟩, ?_⟩
  · rcases hmem y hy with e9 | hy
    · rw [e9]
      exact ⟨hk, fun _ => Nat.lt_succ_self k⟩
    · exact ⟨(h6 y hy).1, fun h => by have := (h6 y hy).2 h; omega⟩
  · rw [h7 i hi]
    constructor
    · rintro ⟨y, hy, k1, k2⟩
      exact ⟨y, hmem2 y hy, k1, k2⟩
    · rintro ⟨y, hy, k1, k2⟩
      rcases hmem y hy with e9 | hy
      · rw [e9, hin] at k1
        cases k1
      · exact ⟨y, hy, k1, k2⟩
  · rcases Nat.lt_or_ge i k with hi | hi
    · obtain ⟨y, hy, e9⟩ := h7b i hi
      exact ⟨y, hmem2 y hy, e9⟩
    · exact ⟨_, List.mem_append_right _ List.mem_cons_self, by show k = i; omega⟩
  · exact KDS.addB hK hXB h4 (by omega) (by omega) h1 h2 (fun y hy hy1 hyB hQ => hQ.ext hy1.2 (fun _ j _ _ => ⟨⟨fun _ _ _ => rfl, rfl⟩, rfl, rfl, fun _ => rfl⟩) hyB) (.inr ⟨hin, hE⟩)
  · rw [(hXB.1.1 v h4).2.2.1]
    exact h9
  · rw [(hXB.1.1 v h4).2.2.2]
    exact h9b
  · rw [(hXB.1.1 v h4).1]
    exact h10
theorem RLI.go {p : Nat} {S T : ST} {L R m x v : Nat} {a t : ST} {w k : Nat} {F : Int} {σ τ s u : ST} {e f : Nat} {l : List EN} (h : RLI p S T L R m x v a t w k F σ τ e f l) (ca : CA σ s) (hb : GOF τ s u ((uT τ : Int) - 1)) : RLI p S T L R m x v a t w k (F - 1) s u e f l := by
  obtain ⟨⟨hC, h1, h2⟩, ⟨hs1, hs2⟩, h3, hK, ⟨h5, h5b⟩, ⟨h6, h6b⟩, h7⟩ := h
  refine ⟨⟨hC.go ca hb, h1, h2⟩, ⟨hs1.trans ca.sua, hs2.trans hb.sub⟩, h3, ?_, ⟨?_, ?_⟩, ⟨?_, ?_⟩, ?_⟩
  · refine hK.sam ca.sam hb.sbm (by rw [ca.1 _ (by omega)]) (by rw [ca.1 _ (by omega)]) (by rw [hb.1.1 _ (by omega)]) (by rw [hb.1.1 _ (by omega)]) (by rw [hb.1.1 _ (by omega)]) (fun y _ hx hv hn hQ => hQ.ext hn (fun hi => ca.sam.ag (hx hi)) (hb.sbm.ag hv))
  · rw [ca.1 _ (by omega)]
    exact h5
  · rw [ca.2.2.1 _ (by omega)]
    exact h5b
  · rw [hb.1.2.2 _ (by omega)]
    exact h6
  · rw [hb.1.2.2 _ (by omega)]
    exact h6b
  · rw [hb.1.1 _ (by omega)]
    exact h7
theorem RLI.next {p : Nat} {S T : ST} {L R m x v : Nat} {a t : ST} {w k : Nat} {F : Int} {σ τ : ST} {e f : Nat} {l : List EN} (h : RLI p S T L R m x v a t w k F σ τ e f l) (hk : ∃ y, y ∈ l ∧ y.1 = k) : RLI p S T L R m x v a t w (k + 1) F σ τ e f l := by
  obtain ⟨h1, h2, ⟨h3, h4, h5, h6⟩, h7⟩ := h
  refine ⟨h1, h2, ⟨h3, fun y hy => ⟨(h4 y hy).1, fun h => by have := (h4 y hy).2 h; omega⟩, h5, fun j hj => ?_⟩, h7⟩
  rcases Nat.lt_or_ge j k with h9 | h9
  · exact h6 j h9
  · rw [show j = k by omega]
    exact hk
/-- the mask as the class asks it -/
theorem a_bit {w j : Nat} (hw : w < 512) (hj : j < 9) (x : Int32) (hx : x.toInt = j) : (((Int32.ofNat w) >>> (x &&& 31)) &&& 1).toInt = (if w.testBit j then 1 else 0) := by
  rw [intOf hx (by omega)]
  exact mk_bit w hw j hj
/-- the record that is told: its number in the plan, its row, its fields -/
def REC (p : Nat) (rm : Int) (S T : ST) (R m : Nat) : Prop := R < 36 ∧ ((S.1 7 R).toInt = m ∧ (T.1 11 R).toInt = m ∧ m ≤ 8) ∧ ELH 4 R m S T ∧ ∀ j : Nat, j < m → FLH 4 p rm (8 * R + j) S T
theorem PHB.rec {p : Nat} {S T : ST} (h : PHB 4 p S T) (hp : p < 6) {i : Nat} (hi : (i : Int) < (T.1 8 p).toInt) : ∃ m, REC p (T.1 8 p).toInt S T (6 * p + i) m := by
  obtain ⟨_, h2, h3, h4, h5⟩ := h.acc hi
  have h6 := h.cnt.2.1.2
  unfold bI at h3
  refine ⟨(T.1 11 (6 * p + i)).toInt.toNat, by omega, ⟨by rw [h2]; omega, by omega, by omega⟩, h4, fun j hj => h5 j (by omega)⟩
theorem REC.els {p : Nat} {rm : Int} {S T : ST} {R m : Nat} (h : REC p rm S T R m) {j : Nat} (hj : j < m) : (T.1 16 (8 * R + j)).toInt = 0 ∨ (T.1 16 (8 * R + j)).toInt = 1 := by
  rcases (h.2.2.2 j hj).2.2.2 with h | h
  · exact .inl h
  · exact .inr h.1
theorem ELH.kv {R m : Nat} {S T σ τ : ST} (h : ELH 4 R m S T) (kA : KVA S σ) (kB : KVB T τ) : ELH 4 R m σ τ := by
  obtain ⟨w, w1, w2, w3⟩ := h
  have e9 : σ.1 9 = S.1 9 := kA.t.2.1.1
  have e16 : τ.1 16 = T.1 16 := kB.t.2.1.2.2.1
  refine ⟨w, w1, ?_, fun i hi => ?_⟩
  · show σ.1 9 R = _
    rw [e9]
    exact w2
  · rw [e16]
    exact w3 i hi
theorem kv_fieldsOf {S σ : ST} (k : KVA S σ) (p0 : Int32) {R : Nat} (h0 : p0.toInt = R) (hR : R < 36) : f_X5_fieldsOf 4 p0 σ = some (S.1 7 R, σ) := by
  rw [a4_fieldsOf p0 σ h0 hR, k.t.1.2]
/-- the record ends -/
theorem ab_close {ri rp : Int32 → Int32 → Int32 → Int32 → ST → Option ((Int32 × ST) × Nat)} {rv : Int32 → Int32 → Int32 → Int32 → Int32 → ST → Option ((Int32 × ST) × Nat)} {p : Nat} {rm : Int} {S T : ST} {L R m x v : Nat} {wB xA xB : Int32} {a t : ST} (hR : REC p rm S T R m) (hw : wB.toInt = v) (hxA : xA.toInt = R) (hxB : xB.toInt = R) : ∀ (n n' k w : Nat) (x3 x7 : Int32) (σ τ : ST) (e f : Nat) (l : List EN), x3.toInt = k → x7.toInt = k → k ≤ m → RLI p S T L R m x v a t w k (1000 + L + 1 + 1) σ τ e f l → (σ.1 2 4).toInt = 125 → QT (f_X8_closeRecord_2 n xA (Int32.ofNat w) x3 σ) (fun qa => QT (f_X11_parts_171 ri rp rv n' wB xB x7 τ) (fun qb => VOUT L (PPO p S T L R m x v a t) qa qb.1)) := by
  have l0 := li_0
  have l1 := li_1
  obtain ⟨hR36, ⟨hm1, hm2, hm8⟩, hELH, hFLH⟩ := id hR
  intro n
  induction n with
  | zero =>
    intro n' k w x3 x7 σ τ e f l _ _ _ _ _
    rw [f_X8_closeRecord_2]
    exact QT.none
  | succ n ih =>
    intro n' k w x3 x7 σ τ e f l h3 h7 hk hI h125
    have e37 : x3 = x7 := Int32.toInt_inj.mp (by omega)
    subst e37
    cases n' with
    | zero =>
      rw [f_X11_parts_171]
      exact fun _ _ => QT.none
    | succ n' =>
      have hC := hI.1.1
      have kA := hC.1.1
      have kB := hC.1.2
      have hX := hC.2.1.1
      have hK := hX.2.2.1
      obtain ⟨_, ⟨k11, k15, k16, _⟩, _⟩ := kB.t
      have nB : xB.toNatClampNeg = R := nC hxB
      rw [f_X8_closeRecord_2, f_X11_parts_171]
      rw [kv_fieldsOf kA xA hxA hR36]
      rw [sbnd]
      dsimp only
      rw [k11, nB]
      refine QT.sw ?_
      refine QT.grd (fun _ => ?_)
      have e3 := il_addE (x := x3) (y := 1) (by omega) (by omega)
      refine QT.ile (fun hle => ?_) (fun hlt => ?_)
      · -- all were told or filled in
        refine QT.sw ?_
        refine QT.ile (fun _ => ?_) (fun h => by omega)
        refine QT.bnd2 (Q := fun s z => CA σ s ∧ GOF τ s z ((uT τ : Int) - 1)) ((ab_gof σ τ hX (by omega) (by omega)).mono (fun s hs => hs.2.mono (fun z hz => ⟨hs.1, hz⟩))) (fun s z hq => QT.ret (QT.ret (.inr ⟨l1, l1, ?_⟩)))
        obtain ⟨g1, g2, g3, g4, g5, g6, _⟩ := hI.go hq.1 hq.2
        rw [show (1000 + (L : Int) + 1 + 1 - 1) = 1000 + L + 1 by omega] at g1
        refine ⟨e, f, l, g1, g2, ?_, g4, g5.2, g6⟩
        rw [List.range_eq_range']
        refine rg_list m 0 _ g4.2.1.2 (fun i hi => ?_) (fun j _ hj => ?_)
        · obtain ⟨y, hy, e9⟩ := List.mem_map.mp hi
          have := (g3.2.1 y hy).1
          omega
        · obtain ⟨y, hy, e9⟩ := g3.2.2.2 j (by omega)
          exact List.mem_map.mpr ⟨y, hy, e9⟩
      · have hkm : k < m := by omega
        have hpl : ∀ y, y ∈ l → (τ.1 25 y.2.2.1).toInt = y.1 := fun y hy => ((hI.2.2.2.1.2.2.2 y hy).2.2.pl).2
        have hbit := a_bit (w := w) (j := k) hI.2.2.1.1 (by omega) x3 h3
        refine QT.bnd (q_hasChild wB x3 τ (l := l) hw h3 hI.2.2.2.1.1.2.1 hpl) (fun q hq => ?_)
        obtain ⟨c, s⟩ := q
        obtain ⟨es, hq⟩ := hq
        have es : s = τ := es
        subst es
        have hq : c.toInt = 0 ∧ (∀ y, y ∈ l → ¬ y.1 = k) ∨ c.toInt = 1 ∧ ∃ y, y ∈ l ∧ y.1 = k := hq
        dsimp only
        have N8 : ((8 * xB) + x3).toNatClampNeg = 8 * R + k := by
          have e1 := mlE (k := 8) (y := xB) 8 li_8 (by omega) (by omega)
          have e2 := il_addE (x := 8 * xB) (y := x3) (by omega) (by omega)
          exact nC (by omega)
        have N8i : ((8 * xB) + x3).toInt = (8 * R + k : Nat) := by
          have e1 := mlE (k := 8) (y := xB) 8 li_8 (by omega) (by omega)
          have e2 := il_addE (x := 8 * xB) (y := x3) (by omega) (by omega)
          omega
        refine QT.ieq (fun hc0 => ?_) (fun hc0 => ?_)
        · -- it was not told
          have hno : ∀ y, y ∈ l → ¬ y.1 = k := by
            rcases hq with hq | hq
            · exact hq.2
            · have := hq.1
              omega
          have hwb : w.testBit k = false := by
            cases hb : w.testBit k with
            | false => rfl
            | true =>
              obtain ⟨y, hy, _, e9⟩ := (hI.2.2.1.2.2.1 k (by omega)).mp hb
              exact absurd e9 (hno y hy)
          rw [hwb, if_neg (by decide)] at hbit
          refine QT.grd (fun _ => ?_)
          rw [N8, k16]
          have hh := (hELH.kv kA kB).has hR36 xA x3 hxA h3 hkm (by omega) (by rw [k16]; exact hR.els hkm)
          refine QT.ieq (fun he => ?_) (fun he => ?_)
          · refine QT.sw ?_
            refine QT.ile (fun h => by omega) (fun _ => ?_)
            refine QT.ieq (fun _ => ?_) (fun h => by omega)
            refine QT.bndR hh (fun z hz => ?_)
            rw [k16] at hz
            dsimp only
            refine QT.ieq (fun _ => ?_) (fun hz1 => ?_)
            · refine (qa_ref 6 σ).mono (fun u hu => ?_)
              exact (qb_wr 6 s).mono (fun y hy => .inl ⟨hu, .inl hy⟩)
            · exfalso
              rcases hz with hz | hz
              · have := hz.1
                omega
              · exact hz.2 (Int32.toInt_inj.mp he)
          · obtain ⟨l1', l2', el, hl1, hl2⟩ := spt_list l hI.2.2.2.1.2.1.2 k hno
            subst el
            have hrw := hI.rows.2
            have hKd := hI.2.2.2.1
            refine QT.bnd (q_fills (T := T) (S := S) (p := p) (rm := rm) (d := 3) (x := S.1 13 (8 * R + k)) ((8 * xB) + x3) wB x3 (N := 8 * R + k) (v0 := v) (j := k) (v := f) (l := rB l1') (m := rB l2') kB N8i hw h3 hC.2.2.2.1 hI.1.2.2 (hFLH k hkm).2.2.1 (fun h => he (by rw [h]; rfl)) (fun r hr => by rw [← rB_app] at hr; exact (hrw r hr).2) ?_ (fun r hr => ?_) (fun r hr => ?_)) (fun z hz => ?_)
            · rw [← rB_app]
              exact ⟨rB_nd hKd.2.1.1 (fun y hy => (hKd.2.2.2 y hy).1.2.1), hKd.1.2.1, hKd.1.2.2⟩
            · obtain ⟨y, y1, y3⟩ := mem_rB hr
              have := hpl y (List.mem_append_left _ y1)
              have := hl1 y y1
              rw [y3]
              omega
            · obtain ⟨y, y1, y3⟩ := mem_rB hr
              have := hpl y (List.mem_append_right _ y1)
              have := hl2 y y1
              rw [y3]
              omega
            · unfold f_X11_parts_233
              refine QT.sw ?_
              refine QT.ile (fun h => by omega) (fun _ => ?_)
              refine QT.ieq (fun _ => ?_) (fun h => by omega)
              refine QT.bndR hh (fun z9 hz9 => ?_)
              rw [k16] at hz9
              dsimp only
              refine QT.ieq (fun hz1 => ?_) (fun _ => ?_)
              · exfalso
                rcases hz9 with hz9 | hz9
                · exact he (by rw [hz9.2])
                · have := hz9.1
                  omega
              · unfold f_X8_closeRecord_44
                exact ih n' (k + 1) w (x3 + 1) (x3 + 1) σ z e (f + 1) _ (by omega) (by omega) (by omega) (hI.fil hkm hm8 hl1 hl2 hz) h125
        · -- it was told
          have hy : ∃ y, y ∈ l ∧ y.1 = k := by
            rcases hq with hq | hq
            · have := hq.1
              omega
            · exact hq.2
          have hwb : w.testBit k = true := by
            obtain ⟨y, hy, e9⟩ := hy
            refine (hI.2.2.1.2.2.1 k (by omega)).mpr ⟨y, hy, ?_, e9⟩
            cases hb : inA y with
            | true => rfl
            | false =>
              have := (hI.2.2.1.2.1 y hy).2 hb
              omega
          rw [hwb, if_pos rfl] at hbit
          unfold f_X11_parts_233
          refine QT.sw ?_
          refine QT.ile (fun h => by omega) (fun _ => ?_)
          refine QT.ieq (fun h => by omega) (fun _ => ?_)
          unfold f_X8_closeRecord_44
          exact ih n' (k + 1) w (x3 + 1) (x3 + 1) σ s e f l (by omega) (by omega) (by omega) (hI.next hy) h125
/-! the fields of a record, as they are told -/
/-- the reference's end of the fields told -/
theorem q_parts0 {ri rp : Int32 → Int32 → Int32 → Int32 → ST → Option ((Int32 × ST) × Nat)} {rv : Int32 → Int32 → Int32 → Int32 → Int32 → ST → Option ((Int32 × ST) × Nat)} (n : Nat) (x1 x3 x4 x5 : Int32) (b : ST) (h : ¬ (b.1 0 13).toInt = 125) : QT (f_X11_parts_139 ri rp rv (f_X11_parts_33 ri rp rv n) x1 x3 x4 x5 0 b) (fun q => q.1.1 = 0) := by
  have l125 : (125 : Int32).toInt = 125 := by decide
  unfold f_X11_parts_139
  refine QT.ite (fun _ => ?_) (fun h => absurd rfl h)
  cases n with
  | zero =>
    rw [f_X11_parts_33]
    exact QT.none
  | succ n =>
    rw [f_X11_parts_33]
    refine QT.ite (fun _ => ?_) (fun h => absurd rfl h)
    refine QT.ieq (fun e => absurd (e.trans l125) h) (fun _ => qb_wr 1 b)
theorem ab_end {rF rI : Int32 → Int32 → Int32 → ST → Option (Int32 × ST)} {rV : Int32 → Int32 → Int32 → Int32 → ST → Option (Int32 × ST)} {ri rp : Int32 → Int32 → Int32 → Int32 → ST → Option ((Int32 × ST) × Nat)} {rv : Int32 → Int32 → Int32 → Int32 → Int32 → ST → Option ((Int32 × ST) × Nat)} {p : Nat} {rm : Int} {S T : ST} {L R m x v : Nat} {wB xA xB : Int32} {a t : ST} (hR : REC p rm S T R m) (hw : wB.toInt = v) (hxA : xA.toInt = R) (hxB : xB.toInt = R) {w : Nat} {σ τ : ST} {e f : Nat} {l : List EN} (hI : RLI p S T L R m x v a t w 0 (1000 + L + 1 + 1) σ τ e f l) (h125 : (σ.1 2 4).toInt = 125) (n' : Nat) (x1 x3 : Int32) : QT (f_X8_parseFields_210 rF rI rV xA (Int32.ofNat w) σ) (fun qa => QT (f_X11_parts_33 ri rp rv n' x1 x3 wB xB 0 τ) (fun qb => VOUT L (PPO p S T L R m x v a t) qa qb.1)) := by
  have l0 := li_0
  have l125 : (125 : Int32).toInt = 125 := by decide
  have hK := hI.1.1.2.1.1.2.2.1
  cases n' with
  | zero =>
    rw [f_X11_parts_33]
    exact fun _ _ => QT.none
  | succ n' =>
    rw [f_X11_parts_33]
    refine QT.sw ?_
    refine QT.ite (fun _ => ?_) (fun h => absurd rfl h)
    refine QT.ieq (fun _ => ?_) (fun h => absurd (((hK.sg (by omega)).mpr h125).trans l125.symm) h)
    refine QT.sw ?_
    unfold f_X8_parseFields_210 f_X8_closeRecord
    refine QT.bnd (ab_close hR hw hxA hxB FU FU 0 w 0 0 σ τ e f l l0 l0 (by omega) hI h125) (fun q hq => QT.grd (fun _ => QT.ret hq))
theorem ab_flds25 {rF rI : Int32 → Int32 → Int32 → ST → Option (Int32 × ST)} {rV : Int32 → Int32 → Int32 → Int32 → ST → Option (Int32 × ST)} {ri rp : Int32 → Int32 → Int32 → Int32 → ST → Option ((Int32 × ST) × Nat)} {rv : Int32 → Int32 → Int32 → Int32 → Int32 → ST → Option ((Int32 × ST) × Nat)} {p : Nat} {rm : Int} {S T : ST} (hV : VTP p rm S T rV rv) (hN : NUV rv) {L R m x v : Nat} {lev dp row wB xA xB P32 : Int32} {a t : ST} (hL : L ≤ 30) (hlev : lev.toInt = L) (hdp : dp.toInt = L) (hP : P32.toInt = p) (hR : REC p rm S T R m) (hr : row.toInt = x) (hw : wB.toInt = v) (hxA : xA.toInt = R) (hxB : xB.toInt = R) : ∀ (n n' k w : Nat) (x5 x6 : Int32) (σ τ : ST) (e f : Nat) (l : List EN) (F : Int), x6.toInt = k → l.length = k → RLI p S T L R m x v a t w 0 F σ τ e f l → (x5 = 0 ∧ (σ.1 2 4).toInt = 125 ∧ F = 1000 + L + 1 + 1 ∨ x5 = 1 ∧ F = 1000 + L + 1) → QT (f_X8_parseFields_25 rF rI rV n xA row lev (Int32.ofNat w) x5 x6 σ) (fun qa => QT (f_X11_parts_33 ri rp rv n' P32 dp wB xB x5 τ) (fun qb => VOUT L (PPO p S T L R m x v a t) qa qb.1)) := by
  have l0 := li_0
  have l1 := li_1
  have l3 := li_3
  have l8 := li_8
  have lm := li_m1
  have l44 : (44 : Int32).toInt = 44 := by decide
  have l125 : (125 : Int32).toInt = 125 := by decide
  obtain ⟨hR36, ⟨hm1, hm2, hm8⟩, hELH, hFLH⟩ := id hR
  intro n
  induction n with
  | zero =>
    intro n' k w x5 x6 σ τ e f l F _ _ _ _
    rw [f_X8_parseFields_25]
    exact QT.none
  | succ n ih =>
    intro n' k w x5 x6 σ τ e f l F h6 hlk hI h5
    have hlen := hI.len
    rw [f_X8_parseFields_25]
    refine QT.ilt (fun h => by omega) (fun _ => ?_)
    rcases h5 with ⟨h5, h125, hF⟩ | ⟨h5, hF⟩
    · subst h5
      subst hF
      refine QT.ite (fun _ => ?_) (fun h => absurd rfl h)
      exact ab_end hR hw hxA hxB hI h125 n' P32 dp
    · subst h5
      subst hF
      refine QT.ite (fun h => absurd h one_ne) (fun _ => ?_)
      have hC := hI.1.1
      have kA := hC.1.1
      have kB := hC.1.2
      have hX := hC.2.1.1
      have hK := hX.2.2.1
      obtain ⟨_, ⟨k11, k15, k16, _⟩, k12, _⟩ := kB.t
      obtain ⟨⟨k4, k7⟩, ⟨_, k13⟩, _, _, _, k11A⟩ := kA.t
      have nA : xA.toNatClampNeg = R := nC hxA
      have nB : xB.toNatClampNeg = R := nC hxB
      cases n' with
      | zero =>
        rw [f_X11_parts_33]
        exact fun _ _ => QT.none
      | succ n' =>
        rw [f_X11_parts_33]
        refine QT.sw ?_
        refine QT.ite (fun h => absurd h one_ne) (fun _ => ?_)
        refine QT.bndK (b_isName τ) (fun c y hc => QT.kac ?_)
        dsimp only
        refine QT.sw ?_
        refine QT.ieq (fun hk3 => ?_) (fun hk3 => ?_)
        rotate_left
        · -- no name
          refine (qa_ref 1 σ).mono (fun u hu => ?_)
          refine QT.ieq (fun _ => (qb_wr 1 τ).mono (fun y hy => .inl ⟨hu, .inl hy⟩)) (fun h => ?_)
          exfalso
          rcases hc with hc | hc
          · have := hc.1
            omega
          · exact hk3 ((hK.nm.mp hc.2).trans l3.symm)
        · have hNM : NM τ := hK.nm.mpr (by omega)
          have hWL : WL (σ.2.1 2 7) (τ.2.1 0 7) := (hK.wd (by rw [sv_3 (by omega)]; omega)).2.2
          have names : ∀ i, i < m → (σ.2.1 11 (8 * R + i) = σ.2.1 2 7 ↔ τ.2.1 12 (8 * R + i) = τ.2.1 0 7) := fun i hi => by
            rw [k11A, k12]
            exact WL.iff (hFLH i hi).1.1 hWL
          refine QT.sw ?_
          refine QT.ieq (fun h => ?_) (fun _ => ?_)
          · exfalso
            rcases hc with hc | hc
            · exact hc.2 hNM
            · have := hc.1
              omega
          refine QT.sw ?_
          refine QT.bndR (a4_fieldNamed xA (σ.2.1 2 7) σ R m hR36 hxA (by rw [k7]; exact hm1) hm8) (fun zA hzA => ?_)
          dsimp only
          refine QT.sw ?_
          refine QT.bndR (by_fieldOf xB (τ.2.1 0 7) τ R m (by omega) hxB (by rw [k11]; exact hm2) hm8) (fun zB hzB => ?_)
          dsimp only
          refine QT.sw ?_
          have bad : ∀ s : ST, QT (f_X8_parseFields_90 rF rI rV σ) (fun qa => QT (f_X11_parts_85 ri rp rv s) (fun qb => VOUT L (PPO p S T L R m x v a t) qa qb.1)) := fun s => by
            unfold f_X8_parseFields_90 f_X11_parts_85
            exact (qa_ref 3 σ).mono (fun u hu => (qb_wr 3 s).mono (fun y hy => .inl ⟨hu, .inl hy⟩))
          rcases FIX.uniq names hzA hzB with ⟨e1, e2⟩ | ⟨j, hj, e1, e2⟩
          · refine QT.ieq (fun _ => ?_) (fun h => absurd (e1.trans lm.symm) h)
            refine QT.sw ?_
            refine QT.ilt (fun _ => ?_) (fun h => by omega)
            exact QT.sw (bad τ)
          · refine QT.ieq (fun h => by omega) (fun _ => ?_)
            refine QT.sw ?_
            refine QT.ilt (fun h => by omega) (fun _ => ?_)
            have e8 := mlE (k := 8) (y := xB) 8 l8 (by omega) (by omega)
            have esub : (zB - 8 * xB).toInt = j := by
              rw [il_subE (by omega) (by omega)]
              omega
            have hpl : ∀ y, y ∈ l → (τ.1 25 y.2.2.1).toInt = y.1 := fun y hy => ((hI.2.2.2.1.2.2.2 y hy).2.2.pl).2
            refine QT.bnd (q_hasChild wB (zB - 8 * xB) τ (l := l) hw esub hI.2.2.2.1.1.2.1 hpl) (fun q hq => ?_)
            obtain ⟨c2, s⟩ := q
            obtain ⟨es, hq⟩ := hq
            have es : s = τ := es
            subst es
            have hq : c2.toInt = 0 ∧ (∀ y, y ∈ l → ¬ y.1 = j) ∨ c2.toInt = 1 ∧ ∃ y, y ∈ l ∧ y.1 = j := hq
            dsimp only
            have hbit := a_bit (w := w) (j := j) hI.2.2.1.1 (by omega) zA e1
            have alla : ∀ y, y ∈ l → inA y = true := fun y hy => by
              cases hb : inA y with
              | true => rfl
              | false =>
                have := (hI.2.2.1.2.1 y hy).2 hb
                omega
            refine QT.ieq (fun hc0 => ?_) (fun hc0 => ?_)
            rotate_left
            · -- told before
              have hwb : w.testBit j = true := by
                rcases hq with hq | ⟨_, y, hy, e9⟩
                · have := hq.1
                  omega
                · exact (hI.2.2.1.2.2.1 j (by omega)).mpr ⟨y, hy, alla y hy, e9⟩
              rw [hwb, if_pos rfl] at hbit
              refine QT.sw ?_
              refine QT.ieq (fun h => by omega) (fun _ => ?_)
              exact bad s
            · have hno : ∀ y, y ∈ l → ¬ y.1 = j := by
                rcases hq with hq | hq
                · exact hq.2
                · have := hq.1
                  omega
              have hwb : w.testBit j = false := by
                cases hb : w.testBit j with
                | false => rfl
                | true =>
                  obtain ⟨y, hy, _, e9⟩ := (hI.2.2.1.2.2.1 j (by omega)).mp hb
                  exact absurd e9 (hno y hy)
              rw [hwb, if_neg (by decide)] at hbit
              refine QT.sw ?_
              refine QT.ieq (fun _ => ?_) (fun h => by omega)
              refine QT.bnd2 (Q := fun s1 z => CA σ s1 ∧ GOF s s1 z ((uT s : Int) - 1)) ((ab_gof σ s hX (by omega) (by omega)).mono (fun s1 hs => hs.2.mono (fun z hz => ⟨hs.1, hz⟩))) (fun s1 z hg => ?_)
              have hI1 := hI.go hg.1 hg.2
              rw [show (1000 + (L : Int) + 1 - 1) = 1000 + L by omega] at hI1
              have hC1 := hI1.1.1
              have z15 : z.1 15 = T.1 15 := (hC1.1.2.t).2.1.2.1
              have s13 : s1.1 13 = S.1 13 := (hC1.1.1.t).2.1.2
              have nzB : zB.toNatClampNeg = 8 * R + j := nC (by omega)
              rw [a4_typeOf xA zA s1 (r := R) (j := j) hxA e1 hR36 (by omega)]
              rw [sbnd]
              dsimp only
              refine QT.sw ?_
              refine QT.grd (fun _ => ?_)
              refine QT.sw ?_
              rw [nzB, z15, s13]
              obtain ⟨l1', l2', el, hl1, hl2⟩ := spt_list l hI.2.2.2.1.2.1.2 j hno
              subst el
              have el := il_addE (x := lev) (y := 1) (by omega) (by omega)
              have ed := il_addE (x := dp) (y := 1) (by omega) (by omega)
              have e6 := il_addE (x := x6) (y := 1) (by omega) (by omega)
              obtain ⟨d', hG⟩ := TG.ex (hFLH j hj).2.2.1
              have ezz : zB - 8 * xB = zA := Int32.toInt_inj.mp (by omega)
              rw [ezz]
              have hCx : CXT S T s1 z e f (1000 + (L + 1 : Nat)) := by
                obtain ⟨c1, c2, c3, c4, c5, c6⟩ := hC1
                exact ⟨c1, c2, c3, c4, by omega, c6⟩
              refine QT.bnd2 (hV (L + 1) (lev + 1) (dp + 1) _ _ row wB zA P32 d' l1' l2' s1 z e f (by omega) (by omega) (by omega) hP hG hCx (hI1.par hr hw e1 (by omega) hl1 hl2)) (fun qa qb hq => ?_)
              rcases hq with ⟨ha, hb⟩ | ⟨ha, hb, hPo⟩
              · refine QT.ieq (fun _ => QT.ret ?_) (fun h => absurd (ha.trans l0.symm) h)
                refine QT.kac ?_
                refine QT.ite (fun _ => QT.ret (.inl ⟨l0, .inl rfl⟩)) (fun hne => ?_)
                rcases hb with hb | ⟨_, hb⟩
                · exact absurd hb hne
                · exact (dm_parts hN L n' P32 dp wB xB qb.1.2 (hb.of (by omega))).mono (fun z hz => .inl ⟨l0, hz⟩)
              · obtain ⟨e', f', hI2⟩ := hI1.add hr hw e1 hj hm8 hl1 hl2 hwb hL hPo
                obtain ⟨tb1, tb2, _⟩ := tb_set hI.2.2.1.1 (by omega : j < 9) hwb
                have hX2 := hI2.1.1.2.1.1
                have hK2 := hX2.2.2.1
                have hlen2 : (l1' ++ (j, (e, e'), (f, f')) :: l2').length = k + 1 := by
                  simp only [List.length_append, List.length_cons] at hlk ⊢
                  omega
                refine QT.ieq (fun h => by omega) (fun _ => ?_)
                refine QT.sw ?_
                refine QT.kac ?_
                refine QT.ieq (fun h => by omega) (fun _ => ?_)
                refine QT.sw ?_
                rw [intOf e1 (by omega), tb1]
                have hF2 : (1000 + ((L + 1 : Nat) : Int) + 1) = 1000 + (L : Int) + 1 + 1 := by omega
                rw [hF2] at hI2
                refine QT.ieq (fun h44 => ?_) (fun h44 => ?_)
                · -- another field
                  have hs : (qb.1.2.1 0 13).toInt = 44 := (hK2.sg (by omega)).mpr (by omega)
                  unfold f_X8_parseFields_173 f_X8_parseFields_190 f_X8_parseFields_204
                  refine QT.ieq (fun _ => ?_) (fun h => absurd h44 h)
                  refine QT.ite (fun h => absurd h one_ne) (fun _ => ?_)
                  refine QT.sw ?_
                  refine QT.ieq (fun _ => ?_) (fun h => by omega)
                  unfold f_X11_parts_139
                  refine QT.ite (fun h => absurd h one_ne) (fun _ => ?_)
                  refine QT.sw ?_
                  refine QT.bnd2 (Q := fun s2 z2 => CA qa.2 s2 ∧ GOF qb.1.2 s2 z2 ((uT qb.1.2 : Int) - 1)) ((ab_gof qa.2 qb.1.2 hX2 (by omega) (by omega)).mono (fun s2 hs => hs.2.mono (fun z2 hz => ⟨hs.1, hz⟩))) (fun s2 z2 hg2 => ?_)
                  have hI3 := hI2.go hg2.1 hg2.2
                  exact ih n' (k + 1) (w + 2 ^ j) 1 (x6 + 1) s2 z2 e' f' _ _ (by omega) hlen2 hI3 (.inr ⟨rfl, by omega⟩)
                · refine QT.ieq (fun h125 => ?_) (fun h125 => ?_)
                  · -- the last one
                    have hs : (qb.1.2.1 0 13).toInt = 125 := (hK2.sg (by omega)).mpr (by omega)
                    unfold f_X8_parseFields_173 f_X8_parseFields_190 f_X8_parseFields_204
                    refine QT.ieq (fun h => absurd h h44) (fun _ => ?_)
                    refine QT.ite (fun _ => ?_) (fun h => absurd rfl h)
                    refine QT.sw ?_
                    refine QT.ieq (fun h => by omega) (fun _ => ?_)
                    unfold f_X11_parts_139
                    refine QT.ite (fun _ => ?_) (fun h => absurd rfl h)
                    refine QT.sw ?_
                    exact ih n' (k + 1) (w + 2 ^ j) 0 (x6 + 1) qa.2 qb.1.2 e' f' _ _ (by omega) hlen2 hI2 (.inl ⟨rfl, by omega, rfl⟩)
                  · have hs1 : ¬ (qb.1.2.1 0 13).toInt = 44 := fun e => h44 (((hK2.sg (by omega)).mp e).trans l44.symm)
                    have hs2 : ¬ (qb.1.2.1 0 13).toInt = 125 := fun e => h125 (((hK2.sg (by omega)).mp e).trans l125.symm)
                    refine (qa_ref 1 qa.2).mono (fun u hu => ?_)
                    refine QT.ieq (fun h => by omega) (fun _ => ?_)
                    exact (q_parts0 n' P32 dp wB xB qb.1.2 hs2).mono (fun y hy => .inl ⟨hu, .inl hy⟩)
def PTP (p : Nat) (rm : Int) (S T : ST) (rF : Int32 → Int32 → Int32 → ST → Option (Int32 × ST)) (rp : Int32 → Int32 → Int32 → Int32 → ST → Option ((Int32 × ST) × Nat)) : Prop := ∀ (L R m x v : Nat) (lev dp xA u row w P32 : Int32) (a t : ST), L ≤ 30 → lev.toInt = L → dp.toInt = L → P32.toInt = p → p < 6 → REC p rm S T R m → xA.toInt = R → (0 ≤ u.toInt ∧ u.toInt < 800) → (0 ≤ (T.1 3 u.toNatClampNeg).toInt ∧ 6 * (p : Int) + (T.1 3 u.toNatClampNeg).toInt = R) → row.toInt = x → w.toInt = v → KVA S a → KVB T t → ((a.1 62 1).toInt = (x : Int) + 1 ∧ (a.1 62 0).toInt = 502 ∧ x < 502) → (t.1 0 46).toInt = (v : Int) + 1 → NEWA x a → NEWB v 7 t → QT (f_X11_go t) (fun b => GOF t a b (1000 + (L + 1 : Nat) - 2 * ((x : Int) + 1))) → QT (rF xA row lev a) (fun qa => QT (rp P32 u dp w t) (fun qb => VOUT L (PPO p S T L R m x v a t) qa qb.1))
theorem ab_parts {rF rI : Int32 → Int32 → Int32 → ST → Option (Int32 × ST)} {rV : Int32 → Int32 → Int32 → Int32 → ST → Option (Int32 × ST)} {ri rp : Int32 → Int32 → Int32 → Int32 → ST → Option ((Int32 × ST) × Nat)} {rv : Int32 → Int32 → Int32 → Int32 → Int32 → ST → Option ((Int32 × ST) × Nat)} {p : Nat} {rm : Int} {S T : ST} (hV : VTP p rm S T rV rv) (hN : NUV rv) : PTP p rm S T (f_X8_parseFields rF rI rV) (f_X11_parts ri rp rv) := by
  have l0 := li_0
  have l6 := li_6
  have l125 : (125 : Int32).toInt = 125 := by decide
  intro L R m x v lev dp xA u row w P32 a t hL hlev hdp hP hp6 hR hxA hu ⟨hT3, hT3R⟩ hr hw kA kB ⟨a1, a0, hx⟩ ht hNA hNB hgo
  have hR36 := hR.1
  unfold f_X8_parseFields f_X11_parts f_X8_parseFields_20 f_X11_parts_31
  refine QT.sw ?_
  refine QT.grd (fun _ => ?_)
  refine QT.bnd hgo (fun b hb => ?_)
  have kb := hb.2.1
  have hX := hb.2.2.1
  have hu9 := hb.2.2.2
  have hK := hX.1.2.2.1
  have b46 : (b.1 0 46).toInt = (v : Int) + 1 := by rw [hb.1.2.1]; exact ht
  have t3 : t.1 3 = T.1 3 := (kB.t).1.2.1
  rw [t3]
  have hxB : ((6 * P32) + T.1 3 u.toNatClampNeg).toInt = R := by
    have e1 := mlE (k := 6) (y := P32) 6 l6 (by omega) (by omega)
    rw [il_addE (by omega) (by omega)]
    omega
  have hNB2 : NEWB v 7 b := by
    unfold NEWB
    rw [hb.1.1 28 (by omega), hb.1.1 29 (by omega), hb.1.1 23 (by omega), hb.1.1 20 (by omega), hb.1.2.2 21 (by omega), hb.1.2.2 22 (by omega)]
    exact hNB
  have hC : ∀ F : Int, 1000 + (L : Int) + 1 ≤ F → CXT S T a b (x + 1) (v + 1) F := fun F hF => ⟨⟨kA, kB.trans kb⟩, hX, ⟨by omega, a0⟩, by omega, by omega, by omega⟩
  have hI : ∀ F : Int, 1000 + (L : Int) + 1 ≤ F → RLI p S T L R m x v a t 0 0 F a b (x + 1) (v + 1) [] := fun F hF => ⟨⟨hC F hF, by omega, by omega⟩, ⟨SUA.rf, hb.sub⟩, ⟨by omega, fun y hy => (by cases hy), fun j _ => ⟨fun h => (by rw [Nat.zero_testBit] at h; cases h), fun ⟨y, hy, _⟩ => (by cases hy)⟩, fun j hj => by omega⟩, kds_0 hNA hNB2, ⟨hNA.2.1, hNA.2.2⟩, ⟨hNB2.2.2.1, hNB2.2.2.2⟩, hNB2.2.1.2⟩
  have z0 : (0 : Int32) = Int32.ofNat 0 := rfl
  refine QT.ieq (fun hs => ?_) (fun hs => ?_)
  · have hk : (a.1 2 4).toInt = 125 := (hK.sg (by omega)).mp (by omega)
    refine QT.sw ?_
    refine QT.ieq (fun _ => ?_) (fun h => by omega)
    exact ab_flds25 hV hN hL hlev hdp hP hR hr hw hxA hxB FU FU 0 0 0 0 a b (x + 1) (v + 1) [] _ l0 rfl (hI _ (by omega)) (.inl ⟨rfl, hk, rfl⟩)
  · refine QT.sw ?_
    refine QT.ieq (fun h => absurd (((hK.sg (by omega)).mpr (h.trans l125)).trans l125.symm) hs) (fun _ => ?_)
    exact ab_flds25 hV hN hL hlev hdp hP hR hr hw hxA hxB FU FU 0 0 1 0 a b (x + 1) (v + 1) [] _ l0 rfl (hI _ (by omega)) (.inr ⟨rfl, rfl⟩)
/-! a value of both sides -/
theorem CHO.rng {p : Nat} {rm : Int} {S T τ : ST} {d : Nat} {x y br u : Int32} (h : TG p rm S T d x y) (k : CHO T τ y br u) : 0 ≤ u.toInt ∧ u.toInt < 800 := by
  rcases k with ⟨_, _, e⟩ | ⟨h8, m, hm, hf, k1, k2⟩
  · rw [e]
    exact h.1.2
  · rcases hf with ⟨hf, _⟩ | ⟨i, hi, e, _⟩
    · rw [k1 hf]
      exact h.1.2
    · obtain ⟨m2, _, hM, hT, _⟩ := h.2.2.2.2.2 h8
      obtain ⟨d', hG⟩ := TG.ex (hT i (by omega)).1
      rw [k2 i e]
      exact hG.1.2
theorem VOUT.imp {L : Int} {K K' : ST → ST → Prop} {qa qb : Int32 × ST} (h : VOUT L K qa qb) (k : ∀ a b, K a b → K' a b) : VOUT L K' qa qb := by
  rcases h with h | ⟨h1, h2, h3⟩
  · exact .inl h
  · exact .inr ⟨h1, h2, k _ _ h3⟩
theorem BTS.to {s : Int} {τ t : ST} {v : Int64} (h : BTS s t v) (e0 : ∀ j, j ≠ 46 → t.1 0 j = τ.1 0 j) (eL : t.2.1 0 = τ.2.1 0) (eE : t.2.2.1 = τ.2.2.1) : BTS s τ v := by
  unfold BTS W_ at h ⊢
  rw [e0 6 (by omega), e0 10 (by omega), eL, eE] at h
  exact h
theorem a_78 {rF rI : Int32 → Int32 → Int32 → ST → Option (Int32 × ST)} {rV : Int32 → Int32 → Int32 → Int32 → ST → Option (Int32 × ST)} (x4 x5 x6 : Int32) (σ : ST) : QT (f_X8_parseValue_93 rF rI rV x4 x5 x6 (-1) σ) (fun q => q.1.toInt = 0) := by
  unfold f_X8_parseValue_93
  exact QT.ite (fun _ => qa_ref 4 σ) (fun h => absurd rfl h)
theorem NEWB.of {v : Nat} {so pb pl br : Int32} {l m : List Nat} {τ t : ST} (g : GRB v so pb pl br l m τ t) : NEWB v so.toInt t := by
  obtain ⟨_, _, ⟨⟨f6, f7⟩, _, _, f12, f13⟩, _, f15, _⟩ := g
  exact ⟨f15, ⟨f7, by rw [f6]⟩, f12, f13⟩
theorem NEWA.of {x : Nat} {so pa pl : Int32} {l m : List Nat} {σ s : ST} (g : GRW 62 x so pa pl l m σ s) : NEWA x (stL (stI s (62 + 4) x 0) (62 + 6) x 0) := by
  obtain ⟨_, _, _, _, f15, _⟩ := g
  have e1 : ∀ d, d ≠ 62 + 4 → (stL (stI s (62 + 4) x 0) (62 + 6) x 0).1 d = s.1 d := fun d hd => stI_ne hd
  refine ⟨⟨?_, ?_⟩, ?_, ?_⟩
  · rw [e1 _ (by omega)]
    exact f15.1
  · rw [e1 _ (by omega)]
    exact f15.2
  · show (stI s (62 + 4) x 0).1 (62 + 4) x = 0
    rw [stI_at, upA rfl]
  · rw [stLA, upLA rfl]
theorem NEWA.ca {x : Nat} {σ a : ST} (h : NEWA x σ) (ca : CA σ a) : NEWA x a := by
  unfold NEWA
  rw [ca.1 _ (by omega), ca.1 _ (by omega), ca.1 _ (by omega), ca.2.2.1 _ (by omega)]
  exact h
/-- a list's node -/
theorem vp_list {p : Nat} {S T : ST} {L x v : Nat} {tA tB uA u pa pb pl br so : Int32} {l m : List EN} {σ τ s t s2 a a' b' : ST} (hL : L ≤ 30) (h200 : pl.toInt < 200) (hP : PAR σ τ x v pa pb pl l m) (gA : GRW 62 x so pa pl (rA l) (rA m) σ s) (gB : GRB v so pb pl br (rB l) (rB m) τ t) (hso : so = T.1 2 u.toNatClampNeg) (hs6 : so.toInt = 6) (hO : OWN S T tA tB br uA u) (h12 : SUA 62 x s s2) (ca : CA s2 a) (h : IPO p S T L (S.1 16 uA.toNatClampNeg) (T.1 3 u.toNatClampNeg) x v a t a' b') : VPOST p S T L tA tB x v pa pb pl l m σ τ a' b' := by
  obtain ⟨e, f, k, ⟨hC, h1, h2⟩, ⟨hs1, hs2⟩, ⟨h3, h4, h5⟩, hK, h6, h7, h8⟩ := h
  have sA := h12.trans (ca.sua.trans hs1)
  refine vp_kid hP gA gB sA hs2 hC ⟨h1, h2, h200⟩ ?_
  rw [show 32 - L = (31 - L) + 1 by omega]
  have b20 : b'.1 20 v = so := (hs2.2.2.1).trans gB.2.2.1.1.1
  have b26 : b'.1 26 v = br := (hs2.2.2.2 26 (by omega) (by omega)).trans gB.2.2.1.2.2.1.1
  have a1 : a'.1 (62 + 1) x = so := (sA.2.2.1).trans gA.2.2.1.1
  refine ⟨⟨h1, h2⟩, uA, u, ?_, ⟨⟨?_, ?_⟩, ?_⟩, fun h => ?_, fun _ => ⟨?_, h8⟩, fun _ => ⟨k, h3, h4, h5, hK⟩, fun h => ?_⟩
  · show OWN S T tA tB (b'.1 26 v) uA u
    rw [b26]
    exact hO
  · exact hso.symm.trans b20.symm
  · exact a1.trans b20.symm
  · show 0 ≤ (b'.1 20 v).toInt ∧ (b'.1 20 v).toInt ≤ 7
    rw [b20]
    omega
  · have h : (b'.1 20 v).toInt ≤ 5 := h
    rw [b20] at h
    omega
  · exact h6.trans h7.symm
  · have h : (b'.1 20 v).toInt = 7 := h
    rw [b20] at h
    omega
/-- a record's node -/
theorem vp_rec {p : Nat} {S T : ST} {L x v R k : Nat} {tA tB uA u pa pb pl br so : Int32} {l m : List EN} {σ τ s t s2 a a' b' : ST} (hL : L ≤ 30) (h200 : pl.toInt < 200) (hP : PAR σ τ x v pa pb pl l m) (gA : GRW 62 x so pa pl (rA l) (rA m) σ s) (gB : GRB v so pb pl br (rB l) (rB m) τ t) (hso : so = T.1 2 u.toNatClampNeg) (hs7 : so.toInt = 7) (hO : OWN S T tA tB br uA u) (h12 : SUA 62 x s s2) (ca : CA s2 a) (hR : (T.1 3 u.toNatClampNeg).toInt + 6 * (p : Int) = R ∧ (S.1 16 uA.toNatClampNeg).toInt = R ∧ (T.1 11 R).toInt = k) (h : PPO p S T L R k x v a t a' b') : VPOST p S T L tA tB x v pa pb pl l m σ τ a' b' := by
  obtain ⟨e, f, z, ⟨hC, h1, h2⟩, ⟨hs1, hs2⟩, h3, hK, h6, h7, h8⟩ := h
  have sA := h12.trans (ca.sua.trans hs1)
  refine vp_kid hP gA gB sA hs2 hC ⟨h1, h2, h200⟩ ?_
  rw [show 32 - L = (31 - L) + 1 by omega]
  have b20 : b'.1 20 v = so := (hs2.2.2.1).trans gB.2.2.1.1.1
  have b26 : b'.1 26 v = br := (hs2.2.2.2 26 (by omega) (by omega)).trans gB.2.2.1.2.2.1.1
  have a1 : a'.1 (62 + 1) x = so := (sA.2.2.1).trans gA.2.2.1.1
  refine ⟨⟨h1, h2⟩, uA, u, ?_, ⟨⟨?_, ?_⟩, ?_⟩, fun h => ?_, fun _ => ⟨?_, h8⟩, fun h => ?_, fun _ => ⟨R, k, z, hR, h3, fun h => h.elim, hK⟩⟩
  · show OWN S T tA tB (b'.1 26 v) uA u
    rw [b26]
    exact hO
  · exact hso.symm.trans b20.symm
  · exact a1.trans b20.symm
  · show 0 ≤ (b'.1 20 v).toInt ∧ (b'.1 20 v).toInt ≤ 7
    rw [b20]
    omega
  · have h : (b'.1 20 v).toInt ≤ 5 := h
    rw [b20] at h
    omega
  · exact h6.trans h7.symm
  · have h : (b'.1 20 v).toInt = 6 := h
    rw [b20] at h
    omega
theorem tok_ne {σ τ : ST} (hX : LX σ τ) (h : LT_ τ ∨ (τ.1 0 13).toInt = 123) : ¬ (σ.1 2 4).toInt = 0 := by
  intro e
  have h0 := hX.2.2.1.t0.mp e
  have h13 := hX.tx.2.2.2
  rcases h with h | h
  · unfold LT_ W_ at h
    omega
  · exact h13 (by omega) h0
theorem ab_value {rF rI : Int32 → Int32 → Int32 → ST → Option (Int32 × ST)} {rV : Int32 → Int32 → Int32 → Int32 → ST → Option (Int32 × ST)} {ri rp : Int32 → Int32 → Int32 → Int32 → ST → Option ((Int32 × ST) × Nat)} {rv : Int32 → Int32 → Int32 → Int32 → Int32 → ST → Option ((Int32 × ST) × Nat)} {p : Nat} {S T : ST} (hI : ITP p (T.1 8 p).toInt S T rI ri) (hPt : PTP p (T.1 8 p).toInt S T rF rp) (hNU : ∀ s : ST, (∀ (p0 p1 p2 p3 : Int32) (σ : ST), NUT s σ → PF st2 (NUT s) (ri p0 p1 p2 p3 σ)) ∧ (∀ (p0 p1 p2 p3 : Int32) (σ : ST), NUT s σ → PF st2 (NUT s) (rp p0 p1 p2 p3 σ)) ∧ (∀ (p0 p1 p2 p3 p4 : Int32) (σ : ST), NUT s σ → PF st2 (NUT s) (rv p0 p1 p2 p3 p4 σ))) (hB : PHB 4 p S T) (hp : p < 6) : VTP p (T.1 8 p).toInt S T (f_X8_parseValue rF rI rV) (f_X11_value ri rp rv) := by
  have l0 := li_0
  have l1 := li_1
  have l6 := li_6
  have l7 := li_7
  have lm := li_m1
  have l31 : (31 : Int32).toInt = 31 := by decide
  have l123 : (123 : Int32).toInt = 123 := by decide
  have l200 : (200 : Int32).toInt = 200 := by decide
  have hn : (S.1 4 1).toInt ≤ 262 := hB.cnt.2.2
  intro L lev dp tA tB pa pb pl P32 d l m σ τ x v hL hlev hdp hP32 hG hC hPar
  obtain ⟨⟨kA, kB⟩, hXW, ⟨c1, c0⟩, cv, cF, c502⟩ := id hC
  have hX := hXW.1
  have hK := hX.2.2.1
  have hlt := hPar.lt
  obtain ⟨⟨k2, k3, _, _⟩, _⟩ := kB.t
  generalize hKK : VPOST p S T L tA tB x v pa pb pl l m σ τ = K
  unfold f_X8_parseValue
  refine QT.sw ?_
  refine q_value hG kB P32 dp pb pl (fun z => QT _ (fun qa => VOUT L K qa z)) (fun br u hCho => ?_)
  have hu := hCho.rng hG
  refine QT.sw ?_
  have main : ¬ (σ.1 2 4).toInt = 1 → (LT_ τ ∨ (τ.1 0 13).toInt = 123) → QT (f_X8_parseValue_31 rF rI rV tA pa pl lev σ) (fun qa => QT (f_X11_value_42 ri rp rv P32 dp pb pl br u τ) (fun qb => VOUT L K qa qb.1)) := fun h1 hLS => by
    unfold f_X8_parseValue_31
    refine QT.bnd (a_fitT hG hn kA hK h1) (fun q hq => ?_)
    obtain ⟨vA, s0⟩ := q
    obtain ⟨es, hq⟩ := hq
    have es : s0 = σ := es
    subst es
    have hq : FTA S T τ tA tB vA := hq
    dsimp only
    rcases fit_pair hG hq hCho with ⟨hv, hF⟩ | ⟨hv, hF, hO, d', hG'⟩
    · refine QT.ieq (fun _ => ?_) (fun h => absurd (hv.trans lm.symm) h)
      refine (qa_ref 2 s0).mono (fun qa hqa => ?_)
      refine q_val42 P32 dp pb pl br u τ hu (fun z => VOUT L K qa z) (fun _ q hq => .inl ⟨hqa, .inl hq⟩) (fun _ h9 _ _ => ?_)
      rw [k2] at h9
      exact absurd h9 hF
    · refine QT.ieq (fun h => by omega) (fun _ => ?_)
      rw [(hG'.sA hn kA).1]
      rw [sbnd]
      dsimp only
      have hFτ : FT_ τ (τ.1 2 u.toNatClampNeg).toInt := by rw [k2]; exact hF
      have stop : (31 ≤ L ∨ 200 ≤ pl.toInt) → QT (f_X8_parseValue_78 rF rI rV lev vA (T.1 2 u.toNatClampNeg) s0) (fun qa => QT (f_X11_value_42 ri rp rv P32 dp pb pl br u τ) (fun qb => VOUT L K qa qb.1)) := fun h9 => by
        unfold f_X8_parseValue_78
        refine (a_78 _ _ _ s0).mono (fun qa hqa => ?_)
        refine q_val42 P32 dp pb pl br u τ hu (fun z => VOUT L K qa z) (fun _ q hq => .inl ⟨hqa, .inl hq⟩) (fun _ _ h31 h200 => ?_)
        exfalso
        rcases h9 with h9 | h9
        · omega
        · rcases hPar with ⟨_, _, _, e0⟩ | ⟨x0, v0, Q, ⟨_, hb, _⟩, _, _, _, _, _, h6⟩
          · omega
          · have nb : pb.toNatClampNeg = v0 := nC hb
            rw [nb] at h200
            omega
      refine QT.ile (fun h => stop (.inl (by omega))) (fun h31 => ?_)
      refine QT.ilt (fun h200 => ?_) (fun h => stop (.inr (by omega)))
      have hL30 : L ≤ 30 := by omega
      have h200 : pl.toInt < 200 := by omega
      refine QT.bnd (a_grow 62 (T.1 2 u.toNatClampNeg) pa pl s0 c1 hPar.gA) (fun q hq => ?_)
      obtain ⟨row, s⟩ := q
      rcases hq with ⟨e1, e2, e3⟩ | ⟨⟨hrow, hx502⟩, gA⟩
      · -- no room: the reference has too little text left
        have e1 : row = -1 := e1
        have e3 : s = s0 := e3
        subst e1
        subst e3
        refine (a_78 _ _ _ s).mono (fun qa hqa => ?_)
        have hnu := hNU τ
        refine (nn2 (wn_X11_value_42 (s := τ) hnu.1 hnu.2.1 hnu.2.2 NUT.rf) hX.tx).mono (fun z hz => ?_)
        by_cases ez : z.1.1 = 0
        · exact .inl ⟨hqa, .inl ez⟩
        · exact .inl ⟨hqa, .inr ⟨ez, hz.1, .inr (by have := hz.2; omega)⟩⟩
      · have hrow : row.toInt = x := hrow
        have gA : GRW 62 x (T.1 2 u.toNatClampNeg) pa pl (rA l) (rA m) s0 s := gA
        rw [c0] at hx502
        have sc := gA.suc
        have s2e : s.1 2 = s0.1 2 := gA.1.1 2 (by omega)
        have hX1 : LX s τ := hX.ext (gA.1.1 1 (by omega)) s2e (gA.1.2.1 3 (by omega)) (gA.1.2.1 2 (by omega)) rfl (fun _ _ => rfl) rfl
        have hW1 : TWX s τ := hXW.2.ext s2e (gA.1.2.1 2 (by omega)) rfl rfl rfl
        dsimp only
        refine a_93 lev vA (T.1 2 u.toNatClampNeg) row s τ (by omega) hX1 hW1 (by rw [s2e]; exact h1) hF _ (fun w cnt hWC => ?_)
        unfold f_X8_parseValue_142
        refine QT.bnd (a_setW 62 row cnt w s hrow (by rw [sc.1]; omega) (by rw [sc.2, c0]; exact hx502)) (fun s2 hs2 => ?_)
        have k0 := tok_ne hX hLS
        refine QT.sw ?_
        refine q_val42 P32 dp pb pl br u τ hu (fun z => QT _ (fun qa => VOUT L K qa z)) (fun h9 => absurd ⟨hLS, hFτ, by omega, .inl h200⟩ h9) (fun _ _ _ _ => ?_)
        have s22 : s2.1 2 = s0.1 2 := by
          rw [hs2]
          show (stI s (62 + 4) x cnt).1 2 = _
          rw [stI_ne (by omega)]
          exact s2e
        have sS : SUA 62 x s s2 := by rw [hs2]; exact SUA.set
        have kA2 : KVA s0 s2 := by
          have e1 : ∀ d, d ≠ 62 + 4 → s2.1 d = s.1 d := fun d hd => by rw [hs2]; exact stI_ne hd
          have e2 : ∀ d, d ≠ 62 + 6 → s2.2.1 d = s.2.1 d := fun d hd => by rw [hs2]; exact stL_ne hd
          have e3 : s2.2.2 = s.2.2 := by rw [hs2]; rfl
          exact gA.kva.trans ⟨fun d d2 d6 => e1 d (by omega), ⟨by rw [e1 2 (by omega)], fun i _ => by rw [e1 62 (by omega)]⟩, fun d d2 d6 => e2 d (by omega), e3⟩
        have s62 : (s2.1 62 1).toInt = (x : Int) + 1 ∧ (s2.1 62 0).toInt = 502 := by
          have e1 : s2.1 62 = s.1 62 := by
            rw [hs2]
            show (stI s (62 + 4) x cnt).1 62 = _
            exact stI_ne (by omega)
          rw [e1, sc.1, sc.2]
          exact ⟨rfl, c0⟩
        have zero : (T.1 2 u.toNatClampNeg).toInt = 6 ∨ (T.1 2 u.toNatClampNeg).toInt = 7 → w = 0 ∧ cnt = 0 := fun h67 => by
          obtain ⟨w1, w2⟩ := hWC 0 0 0 ⟨fun h => by omega, fun h => by omega, fun h => by omega, fun _ => rfl⟩ (.inr ⟨by omega, rfl, rfl⟩)
          unfold EWR at w1
          rw [if_neg (by omega)] at w1
          exact ⟨w1.1, Int32.toInt_inj.mp w2⟩
        have both : ∀ (t : ST), GRB v (τ.1 2 u.toNatClampNeg) pb pl br (rB l) (rB m) τ t → LX s2 t ∧ uT t = uT τ ∧ (t.1 0 46).toInt = (v : Int) + 1 ∧ KVB T t := fun t gB => by
          refine ⟨?_, (TX.ext hX.tx gB.1.2.2.2).2, gB.2.1, kB.trans gB.kvb⟩
          have h9 := (LX.grow hXW gA gB).1
          rw [hs2]
          exact h9.set4 (by omega)
        refine q_104 P32 dp pb pl br u τ hu cv hPar.gB (fun z => QT _ (fun qa => VOUT L K qa z)) (fun h6 wB t hwB gB => ?_) (fun h7 wB t hwB gB => ?_) (fun h6 h7 t c e n gB hc he => ?_)
        · -- a list
          obtain ⟨hX2, hut, ht46, kBt⟩ := both t gB
          rw [k2] at h6 gB
          refine QT.sw ?_
          refine QT.bnd (ab_gof s2 t hX2 (by rw [s22]; exact k0) (by rw [s22]; exact h1)) (fun a ha => ?_)
          obtain ⟨ca, hgo⟩ := ha
          have kAa : KVA S a := kA.trans (kA2.trans ca.kva)
          refine QT.ieq (fun _ => ?_) (fun h => by omega)
          rw [(hG'.sA hn kAa).2]
          rw [sbnd]
          dsimp only
          have hNA : NEWA x a := by
            obtain ⟨w0, n0⟩ := zero (.inl h6)
            rw [hs2, w0, n0] at ca
            exact (NEWA.of gA).ca ca
          have hNB : NEWB v 6 t := by
            have := NEWB.of gB
            rw [h6] at this
            exact this
          have h9 := hI L d' x v lev dp (S.1 16 vA.toNatClampNeg) u row wB P32 a t hL30 hlev hdp hP32 (hG'.2.2.2.1 h6) hrow hwB.1 kAa kBt ⟨by rw [ca.1 62 (by omega)]; exact s62.1, by rw [ca.1 62 (by omega)]; exact s62.2, by omega⟩ ht46 hNA hNB (hgo.mono (fun b hb => ⟨hb.1, hb.2.1, hb.2.2.1, by have := hb.2.2.2; omega⟩))
          refine QT.bnd h9 (fun q hq => QT.grd (fun _ => QT.ret (hq.mono (fun z hz => hz.imp (fun a' b' h => ?_)))))
          rw [← hKK]
          exact vp_list hL30 h200 hPar gA gB rfl h6 hO sS ca h
        · -- a record
          obtain ⟨hX2, hut, ht46, kBt⟩ := both t gB
          rw [k2] at h7 gB
          refine QT.sw ?_
          refine QT.bnd (ab_gof s2 t hX2 (by rw [s22]; exact k0) (by rw [s22]; exact h1)) (fun a ha => ?_)
          obtain ⟨ca, hgo⟩ := ha
          have kAa : KVA S a := kA.trans (kA2.trans ca.kva)
          refine QT.ieq (fun h => by omega) (fun _ => ?_)
          refine QT.ieq (fun _ => ?_) (fun h => by omega)
          rw [(hG'.sA hn kAa).2]
          rw [sbnd]
          dsimp only
          have hNA : NEWA x a := by
            obtain ⟨w0, n0⟩ := zero (.inr h7)
            rw [hs2, w0, n0] at ca
            exact (NEWA.of gA).ca ca
          have hNB : NEWB v 7 t := by
            have := NEWB.of gB
            rw [h7] at this
            exact this
          obtain ⟨⟨r1, r2⟩, r3⟩ := hG'.2.2.2.2.1 h7
          obtain ⟨k, hRec⟩ := hB.rec hp (i := (T.1 3 u.toNatClampNeg).toInt.toNat) (by omega)
          have h9 := hPt L (6 * p + (T.1 3 u.toNatClampNeg).toInt.toNat) k x v lev dp (S.1 16 vA.toNatClampNeg) u row wB P32 a t hL30 hlev hdp hP32 hp hRec (by omega) hu ⟨r1, by omega⟩ hrow hwB.1 kAa kBt ⟨by rw [ca.1 62 (by omega)]; exact s62.1, by rw [ca.1 62 (by omega)]; exact s62.2, by omega⟩ ht46 hNA hNB (hgo.mono (fun b hb => ⟨hb.1, hb.2.1, hb.2.2.1, by have := hb.2.2.2; omega⟩))
          refine QT.bnd h9 (fun q hq => QT.grd (fun _ => QT.ret (hq.mono (fun z hz => hz.imp (fun a' b' h => ?_)))))
          rw [← hKK]
          exact vp_rec hL30 h200 hPar gA gB rfl h7 hO sS ca ⟨by omega, by omega, hRec.2.1.2.1⟩ h
        · -- no others in it
          have t0 := gB.1.2.2.2
          have tL : t.2.1 0 = τ.2.1 0 := gB.1.2.1 0 (by omega) (by omega)
          have tE : t.2.2.1 = τ.2.2.1 := by rw [gB.1.2.2.1]
          rw [k2] at h6 h7 hc he gB
          have hr := hG'.2.2.1
          have h8 := OWN.n8 hG hO
          obtain ⟨hE, hcn⟩ := hWC c e n (hc.to t0 tL tE) (by rw [← tL, ← t0 8 (by omega)]; exact he)
          refine QT.sw ?_
          have h9 := ab_leaf (p := p) hL30 h200 hPar hC hx502 gA gB rfl ⟨hr.1, by omega⟩ hO k0 h1 w c e cnt n hE hcn
          rw [← hs2] at h9
          refine QT.bnd h9 (fun a ha => ?_)
          refine QT.ieq (fun h => by omega) (fun _ => ?_)
          refine QT.ieq (fun h => by omega) (fun _ => ?_)
          refine QT.ret (ha.mono (fun b hb => .inr ⟨l1, l1, ?_⟩))
          rw [← hKK]
          exact hb
  refine QT.bndR (a_beginsLiteral σ τ hK) (fun c hc => ?_)
  dsimp only
  refine QT.ieq (fun hc0 => ?_) (fun hc0 => ?_)
  · refine QT.ieq (fun h123 => main (by omega) (.inr ((hK.sg (by omega)).mpr (by omega)))) (fun h123 => ?_)
    refine (qa_ref 1 σ).mono (fun qa hqa => ?_)
    by_cases hLT : LT_ τ
    · have hk1 : (σ.1 2 4).toInt = 1 := by
        rcases hc with hc | hc
        · exact hc.2.elim id (fun h => absurd hLT h)
        · have := hc.1
          omega
      exact (q_ptn42 P32 dp pb pl br u τ hu cv hPar.gB (hK.ptn hk1 hLT) hX.tx L).mono (fun z hz => .inl ⟨hqa, hz⟩)
    · refine q_val42 P32 dp pb pl br u τ hu (fun z => VOUT L K qa z) (fun _ q hq => .inl ⟨hqa, .inl hq⟩) (fun h9 _ _ _ => ?_)
      rcases h9 with h9 | h9
      · exact absurd h9 hLT
      · exact absurd (((hK.sg (by omega)).mp h9).trans l123.symm) h123
  · have h9 : ¬ (σ.1 2 4).toInt = 1 ∧ LT_ τ := by
      rcases hc with hc | hc
      · have := hc.1
        omega
      · exact hc.2
    exact main h9.1 (.inl h9.2)
/-- all levels -/
theorem ab_RV {p : Nat} {S T : ST} (hB : PHB 4 p S T) (hp : p < 6) : ∀ N M : Nat, PTP p (T.1 8 p).toInt S T (R_X8_parseFields N).1 (R_X11_items M).2.1 ∧ ITP p (T.1 8 p).toInt S T (R_X8_parseFields N).2.1 (R_X11_items M).1 ∧ VTP p (T.1 8 p).toInt S T (R_X8_parseFields N).2.2 (R_X11_items M).2.2 := by
  intro N
  induction N with
  | zero =>
    intro M
    refine ⟨?_, ?_, ?_⟩
    · intro L R m x v lev dp xA u row w P32 a t _ _ _ _ _ _ _ _ _ _ _ _ _ _ _ _ _ _
      exact QT.none
    · intro L d x v lev dp tI u row w P32 a t _ _ _ _ _ _ _ _ _ _ _ _ _ _
      exact QT.none
    · intro L lev dp tA tB pa pb pl P32 d l m σ τ x v _ _ _ _ _ _ _
      exact QT.none
  | succ N ih =>
    intro M
    cases M with
    | zero =>
      refine ⟨?_, ?_, ?_⟩
      · intro L R m x v lev dp xA u row w P32 a t _ _ _ _ _ _ _ _ _ _ _ _ _ _ _ _ _ _
        exact fun _ _ => QT.none
      · intro L d x v lev dp tI u row w P32 a t _ _ _ _ _ _ _ _ _ _ _ _ _ _
        exact fun _ _ => QT.none
      · intro L lev dp tA tB pa pb pl P32 d l m σ τ x v _ _ _ _ _ _ _
        exact fun _ _ => QT.none
    | succ M =>
      obtain ⟨h1, h2, h3⟩ := ih M
      exact ⟨ab_parts h3 (nuv_R M), ab_items h3 (nuv_R M), ab_value h2 h1 (fun s => wnR_X11_items (s := s) M) hB hp⟩
/-! bytes written: the class's packer beside the reference's -/
theorem KTA.trans {s σ u : ST} (h : KTA s σ) (k : KTA σ u) : KTA s u := fun c a b => ⟨(k c a b).1.trans (h c a b).1, (k c a b).2.trans (h c a b).2⟩
def KPK (s σ : ST) : Prop := (∀ c, c ≠ 87 → c ≠ 88 → σ.1 c = s.1 c) ∧ (∀ i, i ≠ 2 → σ.1 87 i = s.1 87 i) ∧ σ.2 = s.2
theorem KPK.rf {s : ST} : KPK s s := ⟨fun _ _ _ => rfl, fun _ _ => rfl, rfl⟩
theorem KPK.trans {s σ u : ST} (h : KPK s σ) (k : KPK σ u) : KPK s u := ⟨fun c a b => (k.1 c a b).trans (h.1 c a b), fun i a => (k.2.1 i a).trans (h.2.1 i a), k.2.2.trans h.2.2⟩
theorem KPK.i {s σ : ST} {c i : Nat} {v : Int32} (hc : c = 87 ∧ i = 2 ∨ c = 88) (h : KPK s σ) : KPK s (stI σ c i v) := by
  refine ⟨fun d h1 h2 => ?_, fun j hj => ?_, h.2.2⟩
  · rw [stI_ne (by omega)]
    exact h.1 d h1 h2
  · by_cases e : c = 87
    · subst e
      rw [stI_at, upN (by omega)]
      exact h.2.1 j hj
    · rw [stI_ne (fun h => e h.symm)]
      exact h.2.1 j hj
def KWR (s σ : ST) : Prop := (∀ c, c ≠ 0 → c ≠ 31 → σ.1 c = s.1 c) ∧ (∀ i, i ≠ 48 → i ≠ 49 → σ.1 0 i = s.1 0 i) ∧ σ.2 = s.2
theorem KWR.rf {s : ST} : KWR s s := ⟨fun _ _ _ => rfl, fun _ _ _ => rfl, rfl⟩
theorem KWR.trans {s σ u : ST} (h : KWR s σ) (k : KWR σ u) : KWR s u := ⟨fun c a b => (k.1 c a b).trans (h.1 c a b), fun i a b => (k.2.1 i a b).trans (h.2.1 i a b), k.2.2.trans h.2.2⟩
theorem KWR.i {s σ : ST} {c i : Nat} {v : Int32} (hc : c = 31 ∨ c = 0 ∧ (i = 48 ∨ i = 49)) (h : KWR s σ) : KWR s (stI σ c i v) := by
  refine ⟨fun d h1 h2 => ?_, fun j hj hk => ?_, h.2.2⟩
  · rw [stI_ne (by omega)]
    exact h.1 d h1 h2
  · by_cases e : c = 0
    · subst e
      rw [stI_at, upN (by omega)]
      exact h.2.1 j hj hk
    · rw [stI_ne (fun h => e h.symm)]
      exact h.2.1 j hj hk
theorem wk_X7_isRow {s : ST} {b : Nat} {p0 : Int32} {σ : ST}   (h : KPK s σ) : PF st1 (KPK s) (f_X7_isRow b p0 σ) := by
  unfold f_X7_isRow
  exact (PF.ite (fun _ => (PF.ret1 h)) (fun _ => (PF.ite (fun _ => (PF.ret1 h)) (fun _ => (PF.ite (fun _ => (PF.ret1 h)) (fun _ => (PF.ret1 h)))))))
theorem wk_X7_firstOf {s : ST} {b : Nat} {p0 : Int32} {σ : ST}   (h : KPK s σ) : PF st1 (KPK s) (f_X7_firstOf b p0 σ) := by
  unfold f_X7_firstOf
  exact (PF.bnd (wk_X7_isRow  h) (fun q1 hq1 => (PF.ite (fun _ => (PF.ret1 hq1)) (fun _ => (PF.ite (fun _ => (PF.ret1 hq1)) (fun _ => PF.none))))))
theorem wk_X5_isRecord {s : ST} {p0 : Int32} {σ : ST}   (h : KPK s σ) : PF st1 (KPK s) (f_X5_isRecord p0 σ) := by
  unfold f_X5_isRecord
  exact (PF.ite (fun _ => (PF.ret1 h)) (fun _ => (PF.ite (fun _ => (PF.ret1 h)) (fun _ => (PF.ret1 h)))))
theorem wk_X5_fieldsOf {s : ST} {b : Nat} {p0 : Int32} {σ : ST}   (h : KPK s σ) : PF st1 (KPK s) (f_X5_fieldsOf b p0 σ) := by
  unfold f_X5_fieldsOf
  exact (PF.bnd (wk_X5_isRecord  h) (fun q1 hq1 => (PF.ite (fun _ => (PF.ret1 hq1)) (fun _ => (PF.ite (fun _ => (PF.ret1 hq1)) (fun _ => PF.none))))))
theorem wk_X5_isFieldOf {s : ST} {p0 : Int32} {p1 : Int32} {σ : ST}   (h : KPK s σ) : PF st1 (KPK s) (f_X5_isFieldOf p0 p1 σ) := by
  unfold f_X5_isFieldOf
  exact (PF.ite (fun _ => (PF.ret1 h)) (fun _ => (PF.ite (fun _ => (PF.ret1 h)) (fun _ => (PF.ite (fun _ => (PF.ret1 h)) (fun _ => (PF.ite (fun _ => (PF.ret1 h)) (fun _ => (PF.ret1 h)))))))))
theorem wk_X5_typeOf {s : ST} {b : Nat} {p0 : Int32} {p1 : Int32} {σ : ST}   (h : KPK s σ) : PF st1 (KPK s) (f_X5_typeOf b p0 p1 σ) := by
  unfold f_X5_typeOf
  exact (PF.bnd (wk_X5_isFieldOf  h) (fun q1 hq1 => (PF.ite (fun _ => (PF.ret1 hq1)) (fun _ => (PF.ite (fun _ => (PF.ret1 hq1)) (fun _ => PF.none))))))
theorem wk_X5_isType {s : ST} {b : Nat} {p0 : Int32} {σ : ST}   (h : KPK s σ) : PF st1 (KPK s) (f_X5_isType b p0 σ) := by
  unfold f_X5_isType
  exact (PF.ite (fun _ => (PF.ret1 h)) (fun _ => (PF.ite (fun _ => (PF.ret1 h)) (fun _ => (PF.ite (fun _ => (PF.ret1 h)) (fun _ => (PF.ret1 h)))))))
theorem wk_X5_sortOf {s : ST} {b : Nat} {p0 : Int32} {σ : ST}   (h : KPK s σ) : PF st1 (KPK s) (f_X5_sortOf b p0 σ) := by
  unfold f_X5_sortOf
  exact (PF.bnd (wk_X5_isType  h) (fun q1 hq1 => (PF.ite (fun _ => (PF.ret1 hq1)) (fun _ => (PF.ite (fun _ => (PF.ret1 hq1)) (fun _ => PF.none))))))
theorem wk_X5_innerOf {s : ST} {b : Nat} {p0 : Int32} {σ : ST}   (h : KPK s σ) : PF st1 (KPK s) (f_X5_innerOf b p0 σ) := by
  unfold f_X5_innerOf
  exact (PF.bnd (wk_X5_isType  h) (fun q1 hq1 => (PF.ite (fun _ => (PF.ret1 hq1)) (fun _ => (PF.ite (fun _ => (PF.ret1 hq1)) (fun _ => PF.none))))))
theorem wk_X5_firstChoice {s : ST} {b : Nat} {p0 : Int32} {σ : ST}   (h : KPK s σ) : PF st1 (KPK s) (f_X5_firstChoice b p0 σ) := by
  unfold f_X5_firstChoice
  exact (PF.bnd (wk_X5_sortOf  h) (fun q1 hq1 => (PF.ite (fun _ => (PF.bnd (wk_X5_innerOf  hq1) (fun q3 hq3 => (PF.ret1 hq3)))) (fun _ => (PF.ret1 hq1)))))
theorem wk_X5_elseWorth {s : ST} {b : Nat} {p0 : Int32} {p1 : Int32} {σ : ST}   (h : KPK s σ) : PF st1 (KPK s) (f_X5_elseWorth b p0 p1 σ) := by
  unfold f_X5_elseWorth
  exact (PF.bnd (wk_X5_isFieldOf  h) (fun q1 hq1 => (PF.ite (fun _ => (PF.ret1 hq1)) (fun _ => (PF.ite (fun _ => (PF.ret1 hq1)) (fun _ => PF.none))))))
theorem wk_X2_put_21 {s : ST}  {σ : ST}   (h : KPK s σ) : PF st0 (KPK s) (f_X2_put_21 σ) := by
  unfold f_X2_put_21
  exact (PF.ret0 (KPK.i (by omega) h))
theorem wk_X2_put {s : ST} {p0 : Int32} {σ : ST}   (h : KPK s σ) : PF st0 (KPK s) (f_X2_put p0 σ) := by
  unfold f_X2_put
  exact (PF.ite (fun _ => (wk_X2_put_21  h)) (fun _ => (PF.ite (fun _ => (wk_X2_put_21  (KPK.i (by omega) h))) (fun _ => PF.none))))
theorem wk_X2_putNumber_54 {s : ST} {x3 : Int64} {σ : ST}   (h : KPK s σ) : PF st0 (KPK s) (f_X2_putNumber_54 x3 σ) := by
  unfold f_X2_putNumber_54
  exact (PF.bnd (wk_X2_put  h) (fun q1 hq1 => (PF.ret0 hq1)))
theorem wk_X2_putNumber_12 {s : ST}    : ∀ (n : Nat) (x1 : Int64) (x2 : Int32) (σ : ST), KPK s σ → PF st0 (KPK s) (f_X2_putNumber_12  n x1 x2 σ) := by
  intro n
  induction n with
  | zero => intro x1 x2 σ h; rw [f_X2_putNumber_12]; exact PF.none
  | succ n ih =>
    intro x1 x2 σ h
    rw [f_X2_putNumber_12]
    exact (PF.ite (fun _ => (wk_X2_putNumber_54  h)) (fun _ => (PF.ite (fun _ => (wk_X2_putNumber_54  h)) (fun _ => (PF.bnd (wk_X2_put  h) (fun q1 hq1 => (PF.val (ih _ _ _ hq1))))))))
theorem wk_X2_putNumber {s : ST} {p0 : Int64} {σ : ST}   (h : KPK s σ) : PF st0 (KPK s) (f_X2_putNumber p0 σ) := by
  unfold f_X2_putNumber
  exact (PF.val (wk_X2_putNumber_12  _ _ _ _ h))
theorem wk_X2_packPlain_61 {s : ST}    : ∀ (n : Nat) (x1 : Int64) (x2 : Int32) (σ : ST), KPK s σ → PF st0 (KPK s) (f_X2_packPlain_61  n x1 x2 σ) := by
  intro n
  induction n with
  | zero => intro x1 x2 σ h; rw [f_X2_packPlain_61]; exact PF.none
  | succ n ih =>
    intro x1 x2 σ h
    rw [f_X2_packPlain_61]
    exact (PF.ite (fun _ => (PF.ret0 h)) (fun _ => (PF.bnd (wk_X2_put  h) (fun q1 hq1 => (ih _ _ _ hq1)))))
theorem wk_X10_letterOf_10 {s : ST}  {σ : ST}   (h : KPK s σ) : PF st1 (KPK s) (f_X10_letterOf_10 σ) := by
  unfold f_X10_letterOf_10
  exact (PF.ret1 h)
theorem wk_X10_letterOf {s : ST} {p0 : Int64} {p1 : Int32} {σ : ST}   (h : KPK s σ) : PF st1 (KPK s) (f_X10_letterOf p0 p1 σ) := by
  unfold f_X10_letterOf
  exact (PF.ite (fun _ => (wk_X10_letterOf_10  h)) (fun _ => (PF.ite (fun _ => (PF.ret1 h)) (fun _ => (wk_X10_letterOf_10  h)))))
theorem wk_X10_lettersIn_2 {s : ST}    : ∀ (n : Nat) (x1 : Int64) (x2 : Int32) (σ : ST), KPK s σ → PF st1 (KPK s) (f_X10_lettersIn_2  n x1 x2 σ) := by
  intro n
  induction n with
  | zero => intro x1 x2 σ h; rw [f_X10_lettersIn_2]; exact PF.none
  | succ n ih =>
    intro x1 x2 σ h
    rw [f_X10_lettersIn_2]
    exact (PF.ite (fun _ => (PF.ret1 h)) (fun _ => (PF.bnd (wk_X10_letterOf  h) (fun q1 hq1 => (PF.ite (fun _ => (PF.ret1 hq1)) (fun _ => (ih _ _ _ hq1)))))))
theorem wk_X10_lettersIn {s : ST} {p0 : Int64} {σ : ST}   (h : KPK s σ) : PF st1 (KPK s) (f_X10_lettersIn p0 σ) := by
  unfold f_X10_lettersIn
  exact (wk_X10_lettersIn_2  _ _ _ _ h)
theorem wk_X2_packLetters_14 {s : ST}    : ∀ (n : Nat) (x1 : Int64) (x2 : Int32) (x3 : Int32) (σ : ST), KPK s σ → PF st0 (KPK s) (f_X2_packLetters_14  n x1 x2 x3 σ) := by
  intro n
  induction n with
  | zero => intro x1 x2 x3 σ h; rw [f_X2_packLetters_14]; exact PF.none
  | succ n ih =>
    intro x1 x2 x3 σ h
    rw [f_X2_packLetters_14]
    exact (PF.ite (fun _ => (PF.ret0 h)) (fun _ => (PF.bnd (wk_X10_letterOf  h) (fun q1 hq1 => (PF.bnd (wk_X2_put  hq1) (fun q3 hq3 => (ih _ _ _ _ hq3)))))))
theorem wk_X2_packLetters {s : ST} {p0 : Int64} {σ : ST}   (h : KPK s σ) : PF st0 (KPK s) (f_X2_packLetters p0 σ) := by
  unfold f_X2_packLetters
  exact (PF.bnd (wk_X10_lettersIn  h) (fun q1 hq1 => (PF.bnd (wk_X2_putNumber  hq1) (fun q3 hq3 => (wk_X2_packLetters_14  _ _ _ _ _ hq3)))))
theorem wk_X2_packPlain {s : ST} {p0 : Int32} {p1 : Int64} {σ : ST}   (h : KPK s σ) : PF st0 (KPK s) (f_X2_packPlain p0 p1 σ) := by
  unfold f_X2_packPlain
  exact (PF.ite (fun _ => (PF.bnd (wk_X2_put  h) (fun q7 hq7 => (PF.ret0 hq7)))) (fun _ => (PF.ite (fun _ => (PF.bnd (wk_X2_putNumber  h) (fun q9 hq9 => (PF.ret0 hq9)))) (fun _ => (PF.ite (fun _ => (PF.bnd (wk_X2_putNumber  h) (fun q11 hq11 => (PF.ret0 hq11)))) (fun _ => (PF.ite (fun _ => (wk_X2_packPlain_61  _ _ _ _ h)) (fun _ => (PF.ite (fun _ => (PF.bnd (wk_X2_packLetters  h) (fun q13 hq13 => (PF.ret0 hq13)))) (fun _ => (PF.ite (fun _ => (PF.bnd (wk_X2_putNumber  h) (fun q15 hq15 => (PF.ret0 hq15)))) (fun _ => (PF.ret0 h)))))))))))))
theorem wk_X2_packElse_21 {s : ST} {x1 : Int32} {x2 : Int32} {x4 : Int32} {σ : ST}   (h : KPK s σ) : PF st0 (KPK s) (f_X2_packElse_21 x1 x2 x4 σ) := by
  unfold f_X2_packElse_21
  exact (PF.bnd (wk_X5_sortOf  h) (fun q1 hq1 => (PF.bnd (wk_X5_elseWorth  hq1) (fun q3 hq3 => (PF.bnd (wk_X2_packPlain  hq3) (fun q5 hq5 => (PF.ret0 hq5)))))))
theorem wk_X2_packElse {s : ST} {p0 : Int32} {p1 : Int32} {p2 : Int32} {σ : ST}   (h : KPK s σ) : PF st0 (KPK s) (f_X2_packElse p0 p1 p2 σ) := by
  unfold f_X2_packElse
  exact (PF.bnd (wk_X5_firstChoice  h) (fun q1 hq1 => (PF.ite (fun _ => (wk_X2_packElse_21  hq1)) (fun _ => (PF.bnd (wk_X2_putNumber  hq1) (fun q3 hq3 => (wk_X2_packElse_21  hq3)))))))
theorem wk_X2_packFields_85 {s : ST} {r_X2_packFields : Nat → Int32 → Int32 → Int32 → ST → Option (ST)} {r_X2_packValue : Nat → Int32 → Int32 → Int32 → ST → Option (ST)} {k10 : Int32 → Int32 → Int32 → Int32 → ST → Option (ST)} {t : Nat} {x3 : Int32} {x4 : Int32} {x5 : Int32} {x6 : Int32} {σ : ST} (h_r_X2_packFields : ∀ (x1 : Nat) (x2 : Int32) (x3 : Int32) (x4 : Int32) (σ : ST), KPK s σ → PF st0 (KPK s) (r_X2_packFields x1 x2 x3 x4 σ)) (h_r_X2_packValue : ∀ (x1 : Nat) (x2 : Int32) (x3 : Int32) (x4 : Int32) (σ : ST), KPK s σ → PF st0 (KPK s) (r_X2_packValue x1 x2 x3 x4 σ)) (h_k10 : ∀ (x1 : Int32) (x2 : Int32) (x3 : Int32) (x4 : Int32) (σ : ST), KPK s σ → PF st0 (KPK s) (k10 x1 x2 x3 x4 σ))  (h : KPK s σ) : PF st0 (KPK s) (f_X2_packFields_85 r_X2_packFields r_X2_packValue k10 t x3 x4 x5 x6 σ) := by
  unfold f_X2_packFields_85
  exact (h_k10 _ _ _ _ _ h)
theorem wk_X2_packFields_76 {s : ST} {r_X2_packFields : Nat → Int32 → Int32 → Int32 → ST → Option (ST)} {r_X2_packValue : Nat → Int32 → Int32 → Int32 → ST → Option (ST)} {k10 : Int32 → Int32 → Int32 → Int32 → ST → Option (ST)} {t : Nat} {x3 : Int32} {x4 : Int32} {x5 : Int32} {x6 : Int32} {x7 : Int32} {σ : ST} (h_r_X2_packFields : ∀ (x1 : Nat) (x2 : Int32) (x3 : Int32) (x4 : Int32) (σ : ST), KPK s σ → PF st0 (KPK s) (r_X2_packFields x1 x2 x3 x4 σ)) (h_r_X2_packValue : ∀ (x1 : Nat) (x2 : Int32) (x3 : Int32) (x4 : Int32) (σ : ST), KPK s σ → PF st0 (KPK s) (r_X2_packValue x1 x2 x3 x4 σ)) (h_k10 : ∀ (x1 : Int32) (x2 : Int32) (x3 : Int32) (x4 : Int32) (σ : ST), KPK s σ → PF st0 (KPK s) (k10 x1 x2 x3 x4 σ))  (h : KPK s σ) : PF st0 (KPK s) (f_X2_packFields_76 r_X2_packFields r_X2_packValue k10 t x3 x4 x5 x6 x7 σ) := by
  unfold f_X2_packFields_76
  exact (PF.bnd (wk_X2_packElse  h) (fun q1 hq1 => (wk_X2_packFields_85 h_r_X2_packFields h_r_X2_packValue h_k10 hq1)))
theorem wk_X7_placeOf {s : ST} {b : Nat} {p0 : Int32} {σ : ST}   (h : KPK s σ) : PF st1 (KPK s) (f_X7_placeOf b p0 σ) := by
  unfold f_X7_placeOf
  exact (PF.bnd (wk_X7_isRow  h) (fun q1 hq1 => (PF.ite (fun _ => (PF.ret1 hq1)) (fun _ => (PF.ite (fun _ => (PF.ret1 hq1)) (fun _ => PF.none))))))
theorem wk_X7_nextOf {s : ST} {b : Nat} {p0 : Int32} {σ : ST}   (h : KPK s σ) : PF st1 (KPK s) (f_X7_nextOf b p0 σ) := by
  unfold f_X7_nextOf
  exact (PF.bnd (wk_X7_isRow  h) (fun q1 hq1 => (PF.ite (fun _ => (PF.ret1 hq1)) (fun _ => (PF.ite (fun _ => (PF.ret1 hq1)) (fun _ => PF.none))))))
theorem wk_X2_packFields_10 {s : ST} {r_X2_packFields : Nat → Int32 → Int32 → Int32 → ST → Option (ST)} {r_X2_packValue : Nat → Int32 → Int32 → Int32 → ST → Option (ST)} {t : Nat} (h_r_X2_packFields : ∀ (x1 : Nat) (x2 : Int32) (x3 : Int32) (x4 : Int32) (σ : ST), KPK s σ → PF st0 (KPK s) (r_X2_packFields x1 x2 x3 x4 σ)) (h_r_X2_packValue : ∀ (x1 : Nat) (x2 : Int32) (x3 : Int32) (x4 : Int32) (σ : ST), KPK s σ → PF st0 (KPK s) (r_X2_packValue x1 x2 x3 x4 σ))  : ∀ (n : Nat) (x1 : Int32) (x2 : Int32) (x3 : Int32) (x4 : Int32) (σ : ST), KPK s σ → PF st0 (KPK s) (f_X2_packFields_10 r_X2_packFields r_X2_packValue t n x1 x2 x3 x4 σ) := by
  intro n
  induction n with
  | zero => intro x1 x2 x3 x4 σ h; rw [f_X2_packFields_10]; exact PF.none
  | succ n ih =>
    intro x1 x2 x3 x4 σ h
    rw [f_X2_packFields_10]
    exact (PF.bnd (wk_X5_fieldsOf  h) (fun q1 hq1 => (PF.ite (fun _ => (PF.ret0 hq1)) (fun _ => (PF.bnd (wk_X5_typeOf  hq1) (fun q3 hq3 => (PF.ite (fun _ => (wk_X2_packFields_76 h_r_X2_packFields h_r_X2_packValue ih hq3)) (fun _ => (PF.bnd (wk_X7_placeOf  hq3) (fun q5 hq5 => (PF.ite (fun _ => (PF.bnd (h_r_X2_packValue _ _ _ _ _ hq5) (fun q7 hq7 => (PF.bnd (wk_X7_nextOf  hq7) (fun q9 hq9 => (wk_X2_packFields_85 h_r_X2_packFields h_r_X2_packValue ih hq9)))))) (fun _ => (wk_X2_packFields_76 h_r_X2_packFields h_r_X2_packValue ih hq5)))))))))))))
theorem wk_X2_packFields {s : ST} {r_X2_packFields : Nat → Int32 → Int32 → Int32 → ST → Option (ST)} {r_X2_packValue : Nat → Int32 → Int32 → Int32 → ST → Option (ST)} {t : Nat} {p1 : Int32} {p2 : Int32} {p3 : Int32} {σ : ST} (h_r_X2_packFields : ∀ (x1 : Nat) (x2 : Int32) (x3 : Int32) (x4 : Int32) (σ : ST), KPK s σ → PF st0 (KPK s) (r_X2_packFields x1 x2 x3 x4 σ)) (h_r_X2_packValue : ∀ (x1 : Nat) (x2 : Int32) (x3 : Int32) (x4 : Int32) (σ : ST), KPK s σ → PF st0 (KPK s) (r_X2_packValue x1 x2 x3 x4 σ))  (h : KPK s σ) : PF st0 (KPK s) (f_X2_packFields r_X2_packFields r_X2_packValue t p1 p2 p3 σ) := by
  unfold f_X2_packFields
  exact (PF.bnd (wk_X7_firstOf  h) (fun q1 hq1 => (wk_X2_packFields_10 h_r_X2_packFields h_r_X2_packValue _ _ _ _ _ _ hq1)))
theorem wk_X7_sortAt {s : ST} {b : Nat} {p0 : Int32} {σ : ST}   (h : KPK s σ) : PF st1 (KPK s) (f_X7_sortAt b p0 σ) := by
  unfold f_X7_sortAt
  exact (PF.bnd (wk_X7_isRow  h) (fun q1 hq1 => (PF.ite (fun _ => (PF.ret1 hq1)) (fun _ => (PF.ite (fun _ => (PF.ret1 hq1)) (fun _ => PF.none))))))
theorem wk_X2_packBranch_56 {s : ST} {x3 : Int32} {x4 : Int32} {σ : ST}   (h : KPK s σ) : PF st1 (KPK s) (f_X2_packBranch_56 x3 x4 σ) := by
  unfold f_X2_packBranch_56
  exact (PF.bnd (wk_X2_putNumber  h) (fun q1 hq1 => (PF.ret1 hq1)))
theorem wk_X5_branchAfter {s : ST} {b : Nat} {p0 : Int32} {σ : ST}   (h : KPK s σ) : PF st1 (KPK s) (f_X5_branchAfter b p0 σ) := by
  unfold f_X5_branchAfter
  exact (PF.bnd (wk_X5_isType  h) (fun q1 hq1 => (PF.ite (fun _ => (PF.ret1 hq1)) (fun _ => (PF.ite (fun _ => (PF.ret1 hq1)) (fun _ => PF.none))))))
theorem wk_X2_packBranch_15 {s : ST}    : ∀ (n : Nat) (x1 : Int32) (x2 : Int32) (x3 : Int32) (x4 : Int32) (σ : ST), KPK s σ → PF st1 (KPK s) (f_X2_packBranch_15  n x1 x2 x3 x4 σ) := by
  intro n
  induction n with
  | zero => intro x1 x2 x3 x4 σ h; rw [f_X2_packBranch_15]; exact PF.none
  | succ n ih =>
    intro x1 x2 x3 x4 σ h
    rw [f_X2_packBranch_15]
    exact (PF.ite (fun _ => (wk_X2_packBranch_56  h)) (fun _ => (PF.ite (fun _ => (wk_X2_packBranch_56  h)) (fun _ => (PF.bnd (wk_X5_sortOf  h) (fun q1 hq1 => (PF.ite (fun _ => (wk_X2_packBranch_56  hq1)) (fun _ => (PF.bnd (wk_X5_branchAfter  hq1) (fun q3 hq3 => (ih _ _ _ _ _ hq3)))))))))))
theorem wk_X2_packBranch {s : ST} {p0 : Int32} {p1 : Int32} {σ : ST}   (h : KPK s σ) : PF st1 (KPK s) (f_X2_packBranch p0 p1 σ) := by
  unfold f_X2_packBranch
  exact (PF.bnd (wk_X5_innerOf  h) (fun q1 hq1 => (wk_X2_packBranch_15  _ _ _ _ _ _ hq1)))
theorem wk_X7_sizeOf {s : ST} {b : Nat} {p0 : Int32} {σ : ST}   (h : KPK s σ) : PF st1 (KPK s) (f_X7_sizeOf b p0 σ) := by
  unfold f_X7_sizeOf
  exact (PF.bnd (wk_X7_isRow  h) (fun q1 hq1 => (PF.ite (fun _ => (PF.ret1 hq1)) (fun _ => (PF.ite (fun _ => (PF.ret1 hq1)) (fun _ => PF.none))))))
theorem wk_X2_packValue_95 {s : ST} {r_X2_packFields : Nat → Int32 → Int32 → Int32 → ST → Option (ST)} {r_X2_packValue : Nat → Int32 → Int32 → Int32 → ST → Option (ST)} {t : Nat} (h_r_X2_packFields : ∀ (x1 : Nat) (x2 : Int32) (x3 : Int32) (x4 : Int32) (σ : ST), KPK s σ → PF st0 (KPK s) (r_X2_packFields x1 x2 x3 x4 σ)) (h_r_X2_packValue : ∀ (x1 : Nat) (x2 : Int32) (x3 : Int32) (x4 : Int32) (σ : ST), KPK s σ → PF st0 (KPK s) (r_X2_packValue x1 x2 x3 x4 σ))  : ∀ (n : Nat) (x1 : Int32) (x2 : Int32) (x3 : Int32) (x4 : Int32) (σ : ST), KPK s σ → PF st0 (KPK s) (f_X2_packValue_95 r_X2_packFields r_X2_packValue t n x1 x2 x3 x4 σ) := by
  intro n
  induction n with
  | zero => intro x1 x2 x3 x4 σ h; rw [f_X2_packValue_95]; exact PF.none
  | succ n ih =>
    intro x1 x2 x3 x4 σ h
    rw [f_X2_packValue_95]
    exact (PF.ite (fun _ => (PF.ret0 h)) (fun _ => (PF.ite (fun _ => (PF.ret0 h)) (fun _ => (PF.bnd (wk_X5_innerOf  h) (fun q1 hq1 => (PF.bnd (h_r_X2_packValue _ _ _ _ _ hq1) (fun q3 hq3 => (PF.bnd (wk_X7_nextOf  hq3) (fun q5 hq5 => (ih _ _ _ _ _ hq5)))))))))))
theorem wk_X7_worthOf {s : ST} {b : Nat} {p0 : Int32} {σ : ST}   (h : KPK s σ) : PF st1 (KPK s) (f_X7_worthOf b p0 σ) := by
  unfold f_X7_worthOf
  exact (PF.bnd (wk_X7_isRow  h) (fun q1 hq1 => (PF.ite (fun _ => (PF.ret1 hq1)) (fun _ => (PF.ite (fun _ => (PF.ret1 hq1)) (fun _ => PF.none))))))
theorem wk_X2_packValue_39 {s : ST} {r_X2_packFields : Nat → Int32 → Int32 → Int32 → ST → Option (ST)} {r_X2_packValue : Nat → Int32 → Int32 → Int32 → ST → Option (ST)} {t : Nat} {x2 : Int32} {x4 : Int32} {x5 : Int32} {y0 : Int32} {σ : ST} (h_r_X2_packFields : ∀ (x1 : Nat) (x2 : Int32) (x3 : Int32) (x4 : Int32) (σ : ST), KPK s σ → PF st0 (KPK s) (r_X2_packFields x1 x2 x3 x4 σ)) (h_r_X2_packValue : ∀ (x1 : Nat) (x2 : Int32) (x3 : Int32) (x4 : Int32) (σ : ST), KPK s σ → PF st0 (KPK s) (r_X2_packValue x1 x2 x3 x4 σ))  (h : KPK s σ) : PF st0 (KPK s) (f_X2_packValue_39 r_X2_packFields r_X2_packValue t x2 x4 x5 y0 σ) := by
  unfold f_X2_packValue_39
  exact (PF.ite (fun _ => (PF.bnd (wk_X5_innerOf  h) (fun q11 hq11 => (PF.bnd (h_r_X2_packFields _ _ _ _ _ hq11) (fun q13 hq13 => (PF.ret0 hq13)))))) (fun _ => (PF.ite (fun _ => (PF.bnd (wk_X7_sizeOf  h) (fun q5 hq5 => (PF.bnd (wk_X2_putNumber  hq5) (fun q7 hq7 => (PF.bnd (wk_X7_firstOf  hq7) (fun q9 hq9 => (wk_X2_packValue_95 h_r_X2_packFields h_r_X2_packValue _ _ _ _ _ _ hq9)))))))) (fun _ => (PF.bnd (wk_X7_worthOf  h) (fun q1 hq1 => (PF.bnd (wk_X2_packPlain  hq1) (fun q3 hq3 => (PF.ret0 hq3)))))))))
theorem wk_X2_packValue {s : ST} {r_X2_packFields : Nat → Int32 → Int32 → Int32 → ST → Option (ST)} {r_X2_packValue : Nat → Int32 → Int32 → Int32 → ST → Option (ST)} {t : Nat} {p1 : Int32} {p2 : Int32} {p3 : Int32} {σ : ST} (h_r_X2_packFields : ∀ (x1 : Nat) (x2 : Int32) (x3 : Int32) (x4 : Int32) (σ : ST), KPK s σ → PF st0 (KPK s) (r_X2_packFields x1 x2 x3 x4 σ)) (h_r_X2_packValue : ∀ (x1 : Nat) (x2 : Int32) (x3 : Int32) (x4 : Int32) (σ : ST), KPK s σ → PF st0 (KPK s) (r_X2_packValue x1 x2 x3 x4 σ))  (h : KPK s σ) : PF st0 (KPK s) (f_X2_packValue r_X2_packFields r_X2_packValue t p1 p2 p3 σ) := by
  unfold f_X2_packValue
  exact (PF.ite (fun _ => (PF.bnd (wk_X7_sortAt  h) (fun q1 hq1 => (PF.bnd (wk_X5_sortOf  hq1) (fun q3 hq3 => (PF.ite (fun _ => (PF.bnd (wk_X2_packBranch  hq3) (fun q5 hq5 => (wk_X2_packValue_39 h_r_X2_packFields h_r_X2_packValue hq5)))) (fun _ => (wk_X2_packValue_39 h_r_X2_packFields h_r_X2_packValue hq3)))))))) (fun _ => (PF.ret0 h)))
theorem wkR_X2_packFields {s : ST} : ∀ n : Nat, (∀ (t : Nat) (p1 : Int32) (p2 : Int32) (p3 : Int32) (σ : ST), KPK s σ → PF st0 (KPK s) ((R_X2_packFields n).1 t p1 p2 p3 σ)) ∧ (∀ (t : Nat) (p1 : Int32) (p2 : Int32) (p3 : Int32) (σ : ST), KPK s σ → PF st0 (KPK s) ((R_X2_packFields n).2 t p1 p2 p3 σ)) := by
  intro n
  induction n with
  | zero => exact ⟨fun _ _ _ _ _ _ => PF.none, fun _ _ _ _ _ _ => PF.none⟩
  | succ n ih => exact ⟨fun _ _ _ _ _ h => wk_X2_packFields (ih.1) (ih.2)  h, fun _ _ _ _ _ h => wk_X2_packValue (ih.1) (ih.2)  h⟩
theorem wk_T_X2_packValue {s : ST} {t : Nat} {p1 : Int32} {p2 : Int32} {p3 : Int32} {σ : ST} (h : KPK s σ) : PF st0 (KPK s) (f_T_X2_packValue t p1 p2 p3 σ) := (wkR_X2_packFields FR).2 _ _ _ _ _  h
theorem wk_X11_writesByte {s : ST} {p0 : Int64} {σ : ST}   (h : KWR s σ) : PF st0 (KWR s) (f_X11_writesByte p0 σ) := by
  unfold f_X11_writesByte
  exact (PF.ite (fun _ => (PF.ret0 (KWR.i (by omega) h))) (fun _ => (PF.ite (fun _ => (PF.bnd (PF.ret0 (KWR.i (by omega) (KWR.i (by omega) h))) (fun z2 hz2 => (PF.ret0 hz2)))) (fun _ => PF.none))))
theorem wk_X11_writesNumber_9 {s : ST}    : ∀ (n : Nat) (x1 : Int64) (σ : ST), KWR s σ → PF st0 (KWR s) (f_X11_writesNumber_9  n x1 σ) := by
  intro n
  induction n with
  | zero => intro x1 σ h; rw [f_X11_writesNumber_9]; exact PF.none
  | succ n ih =>
    intro x1 σ h
    rw [f_X11_writesNumber_9]
    exact (PF.ite (fun _ => (PF.bnd (wk_X11_writesByte  h) (fun q1 hq1 => (PF.ret0 hq1)))) (fun _ => (PF.bnd (wk_X11_writesByte  h) (fun q3 hq3 => (PF.val (ih _ _ hq3))))))
theorem wk_X11_writesNumber {s : ST} {p0 : Int64} {σ : ST}   (h : KWR s σ) : PF st0 (KWR s) (f_X11_writesNumber p0 σ) := by
  unfold f_X11_writesNumber
  exact (PF.val (wk_X11_writesNumber_9  _ _ _ h))
theorem wk_X11_writes_89 {s : ST} {r_X11_writes : Int32 → ST → Option (ST)} (h_r_X11_writes : ∀ (x1 : Int32) (σ : ST), KWR s σ → PF st0 (KWR s) (r_X11_writes x1 σ))  : ∀ (n : Nat) (x1 : Int32) (x2 : Int32) (σ : ST), KWR s σ → PF st0 (KWR s) (f_X11_writes_89 r_X11_writes n x1 x2 σ) := by
  intro n
  induction n with
  | zero => intro x1 x2 σ h; rw [f_X11_writes_89]; exact PF.none
  | succ n ih =>
    intro x1 x2 σ h
    rw [f_X11_writes_89]
    exact (PF.ite (fun _ => (PF.ret0 h)) (fun _ => (PF.ite (fun _ => (PF.bnd (wk_X11_writesByte  h) (fun q2 hq2 => (ih _ _ _ hq2)))) (fun _ => PF.none))))
theorem wk_X11_writesText_87 {s : ST} {k42 : Int32 → Int64 → Int32 → ST → Option (ST)} {x1 : Int32} {x4 : Int32} {y0 : Int64} {y1 : Int64} {σ : ST} (h_k42 : ∀ (x1 : Int32) (x2 : Int64) (x3 : Int32) (σ : ST), KWR s σ → PF st0 (KWR s) (k42 x1 x2 x3 σ))  (h : KWR s σ) : PF st0 (KWR s) (f_X11_writesText_87 k42 x1 x4 y0 y1 σ) := by
  unfold f_X11_writesText_87
  exact (PF.ite (fun _ => (h_k42 _ _ _ _ h)) (fun _ => PF.none))
theorem wk_X11_writesText_42 {s : ST}    : ∀ (n : Nat) (x1 : Int32) (x2 : Int64) (x3 : Int32) (σ : ST), KWR s σ → PF st0 (KWR s) (f_X11_writesText_42  n x1 x2 x3 σ) := by
  intro n
  induction n with
  | zero => intro x1 x2 x3 σ h; rw [f_X11_writesText_42]; exact PF.none
  | succ n ih =>
    intro x1 x2 x3 σ h
    rw [f_X11_writesText_42]
    exact (PF.ite (fun _ => (PF.ite (fun _ => (PF.ret0 h)) (fun _ => (PF.ite (fun _ => (PF.bnd (wk_X11_writesByte  h) (fun q3 hq3 => (PF.ite (fun _ => (wk_X11_writesText_87 ih hq3)) (fun _ => (wk_X11_writesText_87 ih hq3)))))) (fun _ => PF.none))))) (fun _ => PF.none))
theorem wk_X11_writesText_16 {s : ST}    : ∀ (n : Nat) (x1 : Int32) (x2 : Int64) (x3 : Int32) (σ : ST), KWR s σ → PF st0 (KWR s) (f_X11_writesText_16  n x1 x2 x3 σ) := by
  intro n
  induction n with
  | zero => intro x1 x2 x3 σ h; rw [f_X11_writesText_16]; exact PF.none
  | succ n ih =>
    intro x1 x2 x3 σ h
    rw [f_X11_writesText_16]
    exact (PF.ite (fun _ => (PF.ite (fun _ => (wk_X11_writesText_42  _ _ _ _ _ h)) (fun _ => (ih _ _ _ _ h)))) (fun _ => PF.none))
theorem wk_X11_writesText {s : ST} {p0 : Int32} {σ : ST}   (h : KWR s σ) : PF st0 (KWR s) (f_X11_writesText p0 σ) := by
  unfold f_X11_writesText
  exact (PF.ite (fun _ => (PF.bnd (wk_X11_writesNumber  h) (fun q2 hq2 => (wk_X11_writesText_16  _ _ _ _ _ hq2)))) (fun _ => PF.none))
theorem wk_X11_writes_155 {s : ST} {r_X11_writes : Int32 → ST → Option (ST)} (h_r_X11_writes : ∀ (x1 : Int32) (σ : ST), KWR s σ → PF st0 (KWR s) (r_X11_writes x1 σ))  : ∀ (n : Nat) (x1 : Int32) (σ : ST), KWR s σ → PF st0 (KWR s) (f_X11_writes_155 r_X11_writes n x1 σ) := by
  intro n
  induction n with
  | zero => intro x1 σ h; rw [f_X11_writes_155]; exact PF.none
  | succ n ih =>
    intro x1 σ h
    rw [f_X11_writes_155]
    exact (PF.ite (fun _ => (PF.ret0 h)) (fun _ => (PF.ite (fun _ => (PF.bnd (h_r_X11_writes _ _ h) (fun q1 hq1 => (PF.ite (fun _ => (ih _ _ hq1)) (fun _ => PF.none))))) (fun _ => (PF.ret0 h)))))
theorem wk_X11_writes_148 {s : ST} {r_X11_writes : Int32 → ST → Option (ST)} {x1 : Int32} {σ : ST} (h_r_X11_writes : ∀ (x1 : Int32) (σ : ST), KWR s σ → PF st0 (KWR s) (r_X11_writes x1 σ))  (h : KWR s σ) : PF st0 (KWR s) (f_X11_writes_148 r_X11_writes x1 σ) := by
  unfold f_X11_writes_148
  exact (PF.ite (fun _ => (wk_X11_writes_155 h_r_X11_writes _ _ _ h)) (fun _ => PF.none))
theorem wk_X11_writes_20 {s : ST} {r_X11_writes : Int32 → ST → Option (ST)} {x1 : Int32} {σ : ST} (h_r_X11_writes : ∀ (x1 : Int32) (σ : ST), KWR s σ → PF st0 (KWR s) (r_X11_writes x1 σ))  (h : KWR s σ) : PF st0 (KWR s) (f_X11_writes_20 r_X11_writes x1 σ) := by
  unfold f_X11_writes_20
  exact (PF.ite (fun _ => (PF.ite (fun _ => (PF.bnd (wk_X11_writesByte  h) (fun q7 hq7 => (PF.ret0 hq7)))) (fun _ => (PF.ite (fun _ => (PF.bnd (wk_X11_writesNumber  h) (fun q9 hq9 => (PF.ret0 hq9)))) (fun _ => (PF.ite (fun _ => (PF.bnd (wk_X11_writesNumber  h) (fun q11 hq11 => (PF.ret0 hq11)))) (fun _ => (PF.ite (fun _ => (wk_X11_writes_89 h_r_X11_writes _ _ _ _ h)) (fun _ => (PF.ite (fun _ => (PF.bnd (wk_X11_writesText  h) (fun q13 hq13 => (PF.ret0 hq13)))) (fun _ => (PF.ite (fun _ => (PF.bnd (wk_X11_writesNumber  h) (fun q15 hq15 => (wk_X11_writes_148 h_r_X11_writes hq15)))) (fun _ => (wk_X11_writes_148 h_r_X11_writes h)))))))))))))) (fun _ => PF.none))
theorem wk_X11_writes {s : ST} {r_X11_writes : Int32 → ST → Option (ST)} {p0 : Int32} {σ : ST} (h_r_X11_writes : ∀ (x1 : Int32) (σ : ST), KWR s σ → PF st0 (KWR s) (r_X11_writes x1 σ))  (h : KWR s σ) : PF st0 (KWR s) (f_X11_writes r_X11_writes p0 σ) := by
  unfold f_X11_writes
  exact (PF.ite (fun _ => (PF.ite (fun _ => (wk_X11_writes_20 h_r_X11_writes h)) (fun _ => (PF.bnd (wk_X11_writesNumber  h) (fun q2 hq2 => (wk_X11_writes_20 h_r_X11_writes hq2)))))) (fun _ => PF.none))
theorem wkR_X11_writes {s : ST} : ∀ n : Nat, (∀ (p0 : Int32) (σ : ST), KWR s σ → PF st0 (KWR s) ((R_X11_writes n) p0 σ)) := by
  intro n
  induction n with
  | zero => exact fun _ _ _ => PF.none
  | succ n ih => exact fun _ _ h => wk_X11_writes ih  h
theorem wk_T_X11_writes {s : ST} {p0 : Int32} {σ : ST} (h : KWR s σ) : PF st0 (KWR s) (f_T_X11_writes p0 σ) := (wkR_X11_writes FRB) _ _  h
/-! bytes and numbers, both sides -/
/-- as many bytes, and the same; or both are beyond a message's room -/
def PKR (σ τ : ST) : Prop := (0 ≤ (τ.1 0 48).toInt ∧ (τ.1 0 48).toInt ≤ 400) ∧ ((τ.1 0 49 = 0 ∧ (σ.1 87 2).toInt = (τ.1 0 48).toInt ∧ ∀ i : Nat, (i : Int) < (τ.1 0 48).toInt → σ.1 88 i = τ.1 31 i) ∨ (¬ τ.1 0 49 = 0 ∧ (τ.1 0 48).toInt = 400 ∧ 400 < (σ.1 87 2).toInt))
/-- so many bytes at most came -/
def GRN (k : Int) (σ s : ST) : Prop := (σ.1 87 2).toInt ≤ (s.1 87 2).toInt ∧ (s.1 87 2).toInt ≤ (σ.1 87 2).toInt + k
theorem GRN.rf {σ : ST} {k : Int} (h : 0 ≤ k) : GRN k σ σ := ⟨by omega, by omega⟩
theorem GRN.trans {σ s u : ST} {a b c : Int} (h : GRN a σ s) (k : GRN b s u) (e : a + b ≤ c) : GRN c σ u := by
  obtain ⟨h1, h2⟩ := h
  obtain ⟨k1, k2⟩ := k
  exact ⟨by omega, by omega⟩
theorem GRN.mono {σ s : ST} {a b : Int} (h : GRN a σ s) (e : a ≤ b) : GRN b σ s := by
  obtain ⟨h1, h2⟩ := h
  exact ⟨h1, by omega⟩
/-- there is room to count -/
def RMC (k : Int) (σ : ST) : Prop := 0 ≤ (σ.1 87 2).toInt ∧ (σ.1 87 2).toInt + k ≤ 2000000000
theorem RMC.to {σ s : ST} {k j m : Int} (h : RMC k σ) (g : GRN j σ s) (e : j + m ≤ k) : RMC m s := by
  obtain ⟨h1, h2⟩ := h
  obtain ⟨g1, g2⟩ := g
  exact ⟨by omega, by omega⟩
theorem qa_put (p0 : Int32) (σ : ST) (h : RMC 1 σ) : QT (f_X2_put p0 σ) (fun s => GRN 1 σ s) := by
  have l1 := li_1
  obtain ⟨h1, h2⟩ := h
  have e1 := il_addE (x := σ.1 87 2) (y := 1) (by omega) (by omega)
  unfold f_X2_put f_X2_put_21
  refine QT.ite (fun _ => QT.ret ?_) (fun _ => QT.grd (fun _ => QT.ret ?_))
  · unfold GRN
    rw [stI_at, upA rfl]
    omega
  · unfold GRN
    have e0 : ∀ v : Int32, ∀ j, (stI σ 88 j v).1 87 = σ.1 87 := fun v j => stI_ne (by omega)
    rw [stI_at, upA rfl, e0]
    omega
theorem nar_nar (x : Int8) : vp_nar .byte x.toInt32 = x.toInt32 := by
  show (x.toInt32.toInt8).toInt32 = x.toInt32
  rw [Int8.toInt8_toInt32]
theorem pk_put (p0 : Int32) (p1 : Int64) (σ τ : ST) (h : PKR σ τ) (hR : RMC 1 σ) (hb : p0.toInt8 = p1.toInt32.toInt8) : QT (f_X2_put p0 σ) (fun s => QT (f_X11_writesByte p1 τ) (fun t => PKR s t)) := by
  have l1 := li_1
  have l400 := li_400
  obtain ⟨h1, h2⟩ := hR
  have e1 := il_addE (x := σ.1 87 2) (y := 1) (by omega) (by omega)
  obtain ⟨⟨h3, h4⟩, h5⟩ := h
  have e2 := il_addE (x := τ.1 0 48) (y := 1) (by omega) (by omega)
  have e0 : ∀ v : Int32, ∀ j, (stI σ 88 j v).1 87 = σ.1 87 := fun v j => stI_ne (by omega)
  unfold f_X2_put f_X2_put_21 f_X11_writesByte
  rcases h5 with ⟨h5, h6, h7⟩ | ⟨h5, h6, h7⟩
  · refine QT.ile (fun hle => QT.ret ?_) (fun hlt => QT.grd (fun _ => QT.ret ?_))
    · refine QT.ieq (fun _ => QT.ret ?_) (fun h => by omega)
      refine ⟨?_, .inr ⟨?_, ?_, ?_⟩⟩
      · rw [stI_at, upN (by omega)]
        omega
      · rw [stI_at, upA rfl]
        exact one_ne
      · rw [stI_at, upN (by omega)]
        omega
      · rw [stI_at, upA rfl]
        omega
    · refine QT.ieq (fun h => by omega) (fun _ => QT.grd (fun _ => ?_))
      refine QT.lt (fun z ez => QT.ret ?_)
      have n1 : (σ.1 87 2).toNatClampNeg = (τ.1 0 48).toNatClampNeg := by rw [show σ.1 87 2 = τ.1 0 48 from Int32.toInt_inj.mp h6]
      have n2 := nN_ h3
      have z0 : ∀ j, (stI τ 31 (τ.1 0 48).toNatClampNeg (vp_nar .byte ((p1.toInt32).toInt8.toInt32))).1 0 j = τ.1 0 j := fun j => by rw [stI_ne (by omega)]
      have z48 : z.1 0 48 = τ.1 0 48 + 1 := by
        rw [ez, stI_at, upA rfl, z0]
      have z49 : z.1 0 49 = τ.1 0 49 := by
        rw [ez, stI_at, upN (by omega), stI_ne (by omega)]
      have z31 : z.1 31 = upd (τ.1 31) (τ.1 0 48).toNatClampNeg (vp_nar .byte ((p1.toInt32).toInt8.toInt32)) := by
        rw [ez, stI_ne (by omega), stI_at]
      refine ⟨by rw [z48]; omega, .inl ⟨by rw [z49]; exact h5, ?_, fun i hi => ?_⟩⟩
      · rw [stI_at, upA rfl, e0, z48]
        omega
      · rw [z48] at hi
        rw [stI_ne (by omega), stI_at, n1, z31]
        by_cases ei : i = (τ.1 0 48).toNatClampNeg
        · rw [upA ei, upA ei, hb]
        · rw [upN ei, upN ei]
          exact h7 i (by omega)
  · refine QT.ile (fun hle => QT.ret ?_) (fun hlt => by omega)
    refine QT.ieq (fun _ => QT.ret ?_) (fun h => by omega)
    refine ⟨?_, .inr ⟨?_, ?_, ?_⟩⟩
    · rw [stI_at, upN (by omega)]
      omega
    · rw [stI_at, upA rfl]
      exact one_ne
    · rw [stI_at, upN (by omega)]
      exact h6
    · rw [stI_at, upA rfl]
      omega
theorem qa_putNumber_54 (x : Int64) (σ : ST) (h : RMC 1 σ) : QT (f_X2_putNumber_54 x σ) (fun s => GRN 1 σ s) := by
  unfold f_X2_putNumber_54
  exact QT.bnd (qa_put _ σ h) (fun t ht => QT.ret ht)
theorem qa_putNumber_12 : ∀ (n j : Nat) (x : Int64) (x5 : Int32) (σ : ST), x5.toInt + j = 9 → 0 ≤ x5.toInt → RMC (j + 1) σ → QT (f_X2_putNumber_12 n x x5 σ) (fun s => GRN (j + 1) σ s) := by
  have l1 := li_1
  have l9 : (9 : Int32).toInt = 9 := by decide
  intro n
  induction n with
  | zero =>
    intro j x x5 σ _ _ _
    rw [f_X2_putNumber_12]
    exact QT.none
  | succ n ih =>
    intro j x x5 σ h5 h50 hR
    rw [f_X2_putNumber_12]
    have one : QT (f_X2_putNumber_54 x σ) (fun s => GRN (j + 1) σ s) := (qa_putNumber_54 x σ (hR.to (GRN.rf (k := 0) (by omega)) (by omega))).mono (fun s hs => hs.mono (by omega))
    refine QT.ile (fun _ => one) (fun hlt => ?_)
    refine QT.ite (fun _ => one) (fun _ => ?_)
    refine QT.bnd (qa_put _ σ (hR.to (GRN.rf (k := 0) (by omega)) (by omega))) (fun t ht => ?_)
    refine QT.lt (fun z _ => ?_)
    have e5 := il_addE (x := x5) (y := 1) (by omega) (by omega)
    exact (ih (j - 1) z (x5 + 1) t (by omega) (by omega) (hR.to ht (by omega))).mono (fun s hs => ht.trans hs (by omega))
theorem qa_putNumber (x : Int64) (σ : ST) (h : RMC 10 σ) : QT (f_X2_putNumber x σ) (fun s => GRN 10 σ s) := by
  unfold f_X2_putNumber
  exact QT.lt (fun z _ => (qa_putNumber_12 FU 9 z 0 σ (by rw [li_0]; omega) (by rw [li_0]; omega) h).mono (fun s hs => hs.mono (by omega)))
theorem pk_putNumber_12 : ∀ (n n' j : Nat) (x : Int64) (x5 : Int32) (σ τ : ST), x5.toInt + j = 9 → 0 ≤ x5.toInt → x.toUInt64.toNat < 128 ^ (j + 1) → PKR σ τ → RMC (j + 1) σ → QT (f_X2_putNumber_12 n x x5 σ) (fun s => QT (f_X11_writesNumber_9 n' x τ) (fun t => PKR s t)) := by
  have l1 := li_1
  have l9 : (9 : Int32).toInt = 9 := by decide
  intro n
  induction n with
  | zero =>
    intro n' j x x5 σ τ _ _ _ _ _
    rw [f_X2_putNumber_12]
    exact QT.none
  | succ n ih =>
    intro n' j x x5 σ τ h5 h50 hx hK hR
    cases n' with
    | zero =>
      rw [f_X11_writesNumber_9]
      exact fun _ _ => QT.none
    | succ n' =>
      rw [f_X2_putNumber_12, f_X11_writesNumber_9]
      have hR1 : RMC 1 σ := hR.to (GRN.rf (k := 0) (by omega)) (by omega)
      have one : lg_cmp (x &&& (-128)) 0 = 0 → QT (f_X2_putNumber_54 x σ) (fun s => QT (if (lg_cmp (x &&& (-128)) 0) = 0 then ((f_X11_writesByte x τ).bind fun q1 => some q1) else ((f_X11_writesByte ((x &&& 127) ||| 128) τ).bind fun q3 => (some ((x.toUInt64 >>> ((7 : Int32).toInt64.toUInt64 &&& Int64.toUInt64 63)).toInt64)).bind fun x5 => f_X11_writesNumber_9 n' x5 q3)) (fun t => PKR s t)) := fun e => by
        unfold f_X2_putNumber_54
        rw [if_pos e]
        exact QT.bnd2 (pk_put x.toInt32 x σ τ hK hR1 rfl) (fun s t hst => QT.ret (QT.ret hst))
      refine QT.ile (fun hle => one (and128 ?_)) (fun hlt => ?_)
      · have : j = 0 := by omega
        subst this
        omega
      refine QT.ite (fun e => one e) (fun e => ?_)
      rw [if_neg e]
      refine QT.bnd2 (Q := fun s t => PKR s t ∧ GRN 1 σ s) ?_ (fun s t hst => ?_)
      · have hb : (((x &&& 127).toInt32) ||| 128).toInt8 = ((x &&& 127) ||| 128).toInt32.toInt8 := by
          rw [Int64.toInt32_or]
          rfl
        intro s es t et
        exact ⟨pk_put _ _ σ τ hK hR1 hb s es t et, qa_put _ σ hR1 s es⟩
      · refine QT.lt (fun z hz => ?_)
        refine QT.sw ?_
        refine QT.lt (fun z' hz' => ?_)
        refine QT.sw ?_
        have ez : z' = z := hz'.trans hz.symm
        subst ez
        have e5 := il_addE (x := x5) (y := 1) (by omega) (by omega)
        refine ih n' (j - 1) z' (x5 + 1) s t (by omega) (by omega) ?_ hst.1 (hR.to hst.2 (by omega))
        rw [hz, shr7]
        obtain ⟨m, rfl⟩ : ∃ m, j = m + 1 := ⟨j - 1, by omega⟩
        rw [Nat.pow_succ] at hx
        exact Nat.div_lt_of_lt_mul (by rw [Nat.mul_comm]; exact hx)
theorem pk_putNumber (x : Int64) (σ τ : ST) (hK : PKR σ τ) (hR : RMC 10 σ) : QT (f_X2_putNumber x σ) (fun s => QT (f_X11_writesNumber x τ) (fun t => PKR s t)) := by
  unfold f_X2_putNumber f_X11_writesNumber
  refine QT.lt (fun z hz => ?_)
  refine QT.sw ?_
  refine QT.lt (fun z' hz' => ?_)
  refine QT.sw ?_
  have ez : z' = z := hz'.trans hz.symm
  subst ez
  exact pk_putNumber_12 FU FU 9 z' 0 σ τ (by rw [li_0]; omega) (by rw [li_0]; omega) (Nat.lt_of_lt_of_le (UInt64.toNat_lt _) (by decide)) hK hR
/-! eight bytes of a double -/
theorem qa_plain61 : ∀ (n j : Nat) (x : Int64) (x4 : Int32) (σ : ST), x4.toInt + 8 = 8 * j → j ≤ 8 → RMC j σ → QT (f_X2_packPlain_61 n x x4 σ) (fun s => GRN j σ s) := by
  have l0 := li_0
  have l8 : (-8 : Int32).toInt = -8 := by decide
  intro n
  induction n with
  | zero =>
    intro j x x4 σ _ _ _
    rw [f_X2_packPlain_61]
    exact QT.none
  | succ n ih =>
    intro j x x4 σ h4 hj hR
    rw [f_X2_packPlain_61]
    refine QT.ilt (fun _ => QT.ret (GRN.rf (by omega))) (fun hle => ?_)
    refine QT.bnd (qa_put _ σ (hR.to (GRN.rf (k := 0) (by omega)) (by omega))) (fun t ht => ?_)
    have e4 := il_addE (x := x4) (y := -8) (by omega) (by omega)
    exact (ih (j - 1) x (x4 + (-8)) t (by omega) (by omega) (hR.to ht (by omega))).mono (fun s hs => ht.trans hs (by omega))
theorem pk_plain61 {rw_ : Int32 → ST → Option ST} (x1 : Int32) {v : Nat} (h1 : x1.toInt = v) : ∀ (n n' j : Nat) (x : Int64) (x4 : Int32) (σ τ : ST), x4.toInt + 8 = 8 * j → j ≤ 8 → τ.2.1 21 v = x → PKR σ τ → RMC j σ → QT (f_X2_packPlain_61 n x x4 σ) (fun s => QT (f_X11_writes_89 rw_ n' x1 x4 τ) (fun t => PKR s t)) := by
  have l0 := li_0
  have l8 : (-8 : Int32).toInt = -8 := by decide
  have n1 : x1.toNatClampNeg = v := nC h1
  intro n
  induction n with
  | zero =>
    intro n' j x x4 σ τ _ _ _ _ _
    rw [f_X2_packPlain_61]
    exact QT.none
  | succ n ih =>
    intro n' j x x4 σ τ h4 hj hx hK hR
    cases n' with
    | zero =>
      rw [f_X11_writes_89]
      exact fun _ _ => QT.none
    | succ n' =>
      rw [f_X2_packPlain_61, f_X11_writes_89]
      have hR1 : RMC 1 σ ∨ j = 0 := by
        rcases Nat.eq_zero_or_pos j with h | h
        · exact .inr h
        · exact .inl (hR.to (GRN.rf (k := 0) (by omega)) (by omega))
      refine QT.ilt (fun h => QT.ret ?_) (fun hle => ?_)
      · refine QT.ilt (fun _ => QT.ret hK) (fun h9 => by omega)
      refine QT.sw ?_
      refine QT.ilt (fun h => by omega) (fun _ => QT.grd (fun _ => ?_))
      refine QT.sw ?_
      rw [n1, hx]
      have hR1 : RMC 1 σ := hR1.resolve_right (by omega)
      refine QT.bnd2 (Q := fun s t => PKR s t ∧ GRN 1 σ s ∧ KWR τ t) ?_ (fun s t hst => ?_)
      · have hb : ((x >>> (x4.toInt64 &&& 63)).toInt32).toInt8 = ((x >>> (x4.toInt64 &&& 63)) &&& 255).toInt32.toInt8 := by
          generalize x >>> (x4.toInt64 &&& 63) = y
          rw [Int64.toInt8_toInt32, Int64.toInt8_toInt32, Int64.toInt8_and]
          have e : (255 : Int64).toInt8 = -1 := by decide
          rw [e]
          refine Int8.toBitVec_inj.mp ?_
          show y.toInt8.toBitVec = y.toInt8.toBitVec &&& (-1 : Int8).toBitVec
          have e2 : (-1 : Int8).toBitVec = BitVec.allOnes 8 := by decide
          rw [e2, BitVec.and_allOnes]
        intro s es t et
        exact ⟨pk_put _ _ σ τ hK hR1 hb s es t et, qa_put _ σ hR1 s es, wk_X11_writesByte (s := τ) KWR.rf t et⟩
      · have e4 := il_addE (x := x4) (y := -8) (by omega) (by omega)
        exact ih n' (j - 1) x (x4 + (-8)) s t (by omega) (by omega) (by rw [hst.2.2.2.2]; exact hx) hst.1 (hR.to hst.2.1 (by omega))
/-! letters, and what stands at a leaf: both sides -/
theorem n27_get : ∀ (m : Nat) (g : Nat → Nat), GL g m → ∀ k : Nat, k < m → n27 g m / 27 ^ (m - 1 - k) % 27 = g k := by
  intro m g
  induction m with
  | zero => intro _ k hk; omega
  | succ m ih =>
    intro hg k hk
    have hm := hg m (by omega)
    show (27 * n27 g m + g m) / 27 ^ (m + 1 - 1 - k) % 27 = g k
    rcases Nat.lt_or_ge k m with h | h
    · have e : m + 1 - 1 - k = (m - 1 - k) + 1 := by omega
      rw [e, Nat.pow_succ, Nat.mul_comm (27 ^ (m - 1 - k)) 27, ← Nat.div_div_eq_div_mul]
      have e2 : (27 * n27 g m + g m) / 27 = n27 g m := by omega
      rw [e2]
      exact ih (fun i hi => hg i (by omega)) k h
    · have e : k = m := by omega
      subst e
      have e2 : k + 1 - 1 - k = 0 := by omega
      rw [e2, Nat.pow_zero, Nat.div_one]
      omega
theorem qa_let14 (w : Int64) (x3 : Int32) {m : Nat} (h3 : x3.toInt = m) : ∀ (n k : Nat) (x4 : Int32) (σ : ST), m ≤ 12 → x4.toInt = k → k ≤ m → RMC (m - k) σ → QT (f_X2_packLetters_14 n w x3 x4 σ) (fun s => GRN (m - k) σ s) := by
  have l0 := li_0
  have l1 := li_1
  intro n
  induction n with
  | zero =>
    intro k x4 σ _ _ _ _
    rw [f_X2_packLetters_14]
    exact QT.none
  | succ n ih =>
    intro k x4 σ hm h4 hk hR
    rw [f_X2_packLetters_14]
    refine QT.ile (fun _ => QT.ret (GRN.rf (by omega))) (fun hlt => ?_)
    refine QT.bnd (Q := fun q => q.2 = σ) ?_ (fun q hq => ?_)
    · unfold f_X10_letterOf f_X10_letterOf_10
      refine QT.ite (fun _ => QT.ret rfl) (fun _ => QT.ite (fun _ => QT.ret rfl) (fun _ => QT.ret rfl))
    · rw [hq]
      refine QT.bnd (qa_put _ σ (hR.to (GRN.rf (k := 0) (by omega)) (by omega))) (fun t ht => ?_)
      have e4 := il_addE (x := x4) (y := 1) (by omega) (by omega)
      exact (ih (k + 1) (x4 + 1) t hm (by omega) (by omega) (hR.to ht (by omega))).mono (fun s hs => ht.trans hs (by omega))
theorem pk_let14 {w t9 : Int64} {n9 x1 : Int32} {m v : Nat} {g : Nat → Nat} (hm : m ≤ 12) (hg : GL g m) (hw : w.toInt = (n5 m g : Int)) (ht9 : t9.toInt = (n27 g m : Int)) (h9 : n9.toInt = m) (h1 : x1.toInt = v) : ∀ (n n' k : Nat) (x2 : Int64) (x4 : Int32) (σ τ : ST), x4.toInt = k → k ≤ m → (k < m → x2.toInt = 27 ^ (m - 1 - k)) → τ.1 23 v = n9 → τ.2.1 22 v = t9 → PKR σ τ → RMC (m - k) σ → QT (f_X2_packLetters_14 n w n9 x4 σ) (fun s => QT (f_X11_writesText_42 n' x1 x2 x4 τ) (fun t => PKR s t)) := by
  have l0 := li_0
  have l1 := li_1
  have n1 : x1.toNatClampNeg = v := nC h1
  have l27 : (27 : Int64).toInt = 27 := by decide
  have hN : n27 g m < 150094635296999121 + 1 := by
    have := n27_lt m g hg
    have := p27 m hm
    omega
  intro n
  induction n with
  | zero =>
    intro n' k x2 x4 σ τ _ _ _ _ _ _ _
    rw [f_X2_packLetters_14]
    exact QT.none
  | succ n ih =>
    intro n' k x2 x4 σ τ h4 hk hx e23 e22 hK hR
    cases n' with
    | zero =>
      rw [f_X11_writesText_42]
      exact fun _ _ => QT.none
    | succ n' =>
      rw [f_X2_packLetters_14, f_X11_writesText_42]
      rw [n1, e23, e22]
      refine QT.ile (fun hle => QT.ret ?_) (fun hlt => ?_)
      · exact QT.grd (fun _ => QT.ile (fun _ => QT.ret hK) (fun h => by omega))
      have hkm : k < m := by omega
      have hx2 := hx hkm
      have hR1 : RMC 1 σ := hR.to (GRN.rf (k := 0) (by omega)) (by omega)
      refine QT.bndR (a_letterOf12 w x4 σ hw h4 (by omega)) (fun l hl => ?_)
      rw [n5_get m g hg k, if_pos hkm] at hl
      dsimp only
      refine QT.sw ?_
      refine QT.grd (fun _ => ?_)
      refine QT.ile (fun h => by omega) (fun _ => QT.grd (fun _ => ?_))
      refine QT.sw ?_
      have hgk := hg k hkm
      have ep : ((27 : Int) ^ (m - 1 - k)) = ((27 ^ (m - 1 - k) : Nat) : Int) := by
        rw [Int.natCast_pow]
        rfl
      have hp1 : 1 ≤ 27 ^ (m - 1 - k) := Nat.pow_pos (by decide)
      have hne : ∀ y : Int64, 0 < y.toInt → ¬ y = -1 := fun y hy e => by
        rw [e] at hy
        revert hy
        decide
      have hD : (t9 / x2).toInt = ((n27 g m / 27 ^ (m - 1 - k) : Nat) : Int) := by
        rw [Int64.toInt_div_of_ne_right _ _ (hne x2 (by rw [hx2, ep]; omega)), ht9, hx2, ep]
        rfl
      have hdig := n27_get m g hg k hkm
      have hDl : n27 g m / 27 ^ (m - 1 - k) ≤ n27 g m := Nat.div_le_self _ _
      generalize n27 g m / 27 ^ (m - 1 - k) = D at hD hdig hDl
      have hD27 : ((t9 / x2) / 27).toInt = ((D / 27 : Nat) : Int) := by
        rw [Int64.toInt_div_of_ne_right _ _ (by decide), hD, l27]
        rfl
      have hDm : ((t9 / x2) / 27 * 27).toInt = ((D / 27 * 27 : Nat) : Int) := by
        rw [Int64.toInt_mul, hD27, l27]
        have e : ((D / 27 : Nat) : Int) * 27 = ((D / 27 * 27 : Nat) : Int) := by omega
        rw [e]
        exact Int.bmod_eq_of_le (by omega) (by omega)
      have hy : ((t9 / x2) - (t9 / x2) / 27 * 27).toInt = (g k : Int) := by
        rw [Int64.toInt_sub, hD, hDm]
        have e : (D : Int) - ((D / 27 * 27 : Nat) : Int) = (g k : Int) := by omega
        rw [e]
        exact Int.bmod_eq_of_le (by omega) (by omega)
      generalize (t9 / x2) - (t9 / x2) / 27 * 27 = y at hy
      have l96 : (96 : Int64).toInt = 96 := by decide
      have l96b : (96 : Int32).toInt = 96 := by decide
      have hb : ((96 : Int32) + l).toInt8 = ((96 : Int64) + y).toInt32.toInt8 := by
        have e : ((96 : Int64) + y).toInt32 = 96 + l := by
          refine Int32.toInt_inj.mp ?_
          have ea : ((96 : Int64) + y).toInt = 96 + (g k : Int) := by
            rw [Int64.toInt_add, hy, l96]
            exact Int.bmod_eq_of_le (by omega) (by omega)
          rw [Int64.toInt_toInt32, ea, il_addE (by omega) (by omega), hl, l96b]
          exact Int.bmod_eq_of_le (by omega) (by omega)
        rw [e]
      refine QT.bnd2 (Q := fun s t => PKR s t ∧ GRN 1 σ s ∧ KWR τ t) ?_ (fun s t hst => ?_)
      · intro s es t et
        exact ⟨pk_put _ _ σ τ hK hR1 hb s es t et, qa_put _ σ hR1 s es, wk_X11_writesByte (s := τ) KWR.rf t et⟩
      · obtain ⟨hs1, hs2, hs3⟩ := hst
        have e4 := il_addE (x := x4) (y := 1) (by omega) (by omega)
        have t23 : t.1 23 v = n9 := by rw [hs3.1 23 (by omega) (by omega)]; exact e23
        have t22 : t.2.1 22 v = t9 := by rw [hs3.2.2]; exact e22
        unfold f_X11_writesText_87
        refine QT.sw ?_
        refine QT.ite (fun hle => ?_) (fun hgt => ?_)
        · have hle := Int64.le_iff_toInt_le.mp ((lg_cmp_le _ _).mp hle)
          have l1' : (1 : Int64).toInt = 1 := by decide
          refine QT.grd (fun _ => ?_)
          refine QT.sw ?_
          refine ih n' (k + 1) _ (x4 + 1) s t (by omega) (by omega) (fun hk2 => ?_) t23 t22 hs1 (hR.to hs2 (by omega))
          exfalso
          rw [hx2, l1', ep] at hle
          have e9 : m - 1 - k = (m - 1 - (k + 1)) + 1 := by omega
          rw [e9, Nat.pow_succ] at hle
          have := Nat.pow_pos (a := 27) (n := m - 1 - (k + 1)) (by decide)
          omega
        · refine QT.grd (fun _ => ?_)
          refine QT.sw ?_
          refine ih n' (k + 1) _ (x4 + 1) s t (by omega) (by omega) (fun hk2 => ?_) t23 t22 hs1 (hR.to hs2 (by omega))
          have e9 : m - 1 - k = (m - 1 - (k + 1)) + 1 := by omega
          rw [Int64.toInt_div_of_ne_right _ _ (by decide), l27, hx2, e9, Int.pow_succ]
          exact Int.mul_tdiv_cancel _ (by decide)
theorem q_text16 {x1 : Int32} {v m : Nat} {P : ST → Prop} (h1 : x1.toInt = v) (τ : ST) (h23 : (τ.1 23 v).toInt = m) (hm : m ≤ 12) (k : ∀ x2 : Int64, (0 < m → x2.toInt = 27 ^ (m - 1)) → QT (f_X11_writesText_42 FU x1 x2 0 τ) P) : ∀ (n j : Nat) (x2 : Int64) (x4 : Int32), x4.toInt = (j : Int) + 1 → (m = 0 ∧ j = 0 ∨ j + 1 ≤ m) → x2.toInt = 27 ^ j → QT (f_X11_writesText_16 n x1 x2 x4 τ) P := by
  have l1 := li_1
  have n1 : x1.toNatClampNeg = v := nC h1
  intro n
  induction n with
  | zero =>
    intro j x2 x4 _ _ _
    rw [f_X11_writesText_16]
    exact QT.none
  | succ n ih =>
    intro j x2 x4 h4 hj hx
    rw [f_X11_writesText_16]
    rw [n1]
    refine QT.grd (fun _ => ?_)
    refine QT.ile (fun hle => k x2 (fun h0 => ?_)) (fun hlt => ?_)
    · rw [hx]
      congr 1
      omega
    · have a4 := il_addE (x := x4) (y := 1) (by omega) (by omega)
      refine ih (j + 1) (x2 * 27) (x4 + 1) (by omega) (by omega) ?_
      have l27 : (27 : Int64).toInt = 27 := by decide
      have hb : (27 : Int) ^ (j + 1) ≤ 150094635296999121 := by
        have h9 := p27 (j + 1) (by omega)
        have e9 : (27 : Int) ^ (j + 1) = ((27 ^ (j + 1) : Nat) : Int) := by rw [Int.natCast_pow]; rfl
        rw [e9]
        generalize 27 ^ (j + 1) = z at h9 ⊢
        omega
      have hpos : (0 : Int) < 27 ^ (j + 1) := Int.pow_pos (by decide)
      rw [Int64.toInt_mul, l27, hx, ← Int.pow_succ]
      exact Int.bmod_eq_of_le (by omega) (by omega)
theorem qa_letters (w t9 : Int64) (n9 : Int32) (σ : ST) (h : WLT w t9 n9) (hR : RMC 22 σ) : QT (f_X2_packLetters w σ) (fun s => GRN 22 σ s) := by
  have l0 := li_0
  unfold f_X2_packLetters
  rw [a_lettersIn12 w t9 n9 σ h]
  rw [sbnd]
  dsimp only
  obtain ⟨m, g, hm, _, _, _, h9⟩ := h
  refine QT.bnd (qa_putNumber _ σ (hR.to (GRN.rf (k := 0) (by omega)) (by omega))) (fun t ht => ?_)
  exact (qa_let14 w n9 h9 FU 0 0 t hm l0 (by omega) (hR.to ht (by omega))).mono (fun s hs => ht.trans hs (by omega))
theorem pk_letters (w t9 : Int64) (n9 x1 : Int32) (σ τ : ST) {v : Nat} (h : WLT w t9 n9) (h1 : x1.toInt = v) (e23 : τ.1 23 v = n9) (e22 : τ.2.1 22 v = t9) (hK : PKR σ τ) (hR : RMC 22 σ) : QT (f_X2_packLetters w σ) (fun s => QT (f_X11_writesText x1 τ) (fun t => PKR s t)) := by
  have l0 := li_0
  have l1 := li_1
  have n1 : x1.toNatClampNeg = v := nC h1
  unfold f_X2_packLetters f_X11_writesText
  rw [a_lettersIn12 w t9 n9 σ h]
  rw [sbnd]
  dsimp only
  obtain ⟨m, g, hm, hg, hw, ht, h9⟩ := h
  rw [n1, e23]
  refine QT.sw ?_
  refine QT.grd (fun _ => ?_)
  refine QT.sw ?_
  have hR1 : RMC 10 σ := hR.to (GRN.rf (k := 0) (by omega)) (by omega)
  refine QT.bnd2 (Q := fun s t => PKR s t ∧ GRN 10 σ s ∧ KWR τ t) ?_ (fun s t hst => ?_)
  · intro s es t et
    exact ⟨pk_putNumber _ σ τ hK hR1 s es t et, qa_putNumber _ σ hR1 s es, wk_X11_writesNumber (s := τ) KWR.rf t et⟩
  · obtain ⟨hs1, hs2, hs3⟩ := hst
    have t23 : t.1 23 v = n9 := by rw [hs3.1 23 (by omega) (by omega)]; exact e23
    have t22 : t.2.1 22 v = t9 := by rw [hs3.2.2]; exact e22
    refine QT.sw ?_
    refine q_text16 h1 t (by rw [t23]; exact h9) hm (fun x2 hx2 => ?_) FU 0 1 1 (by omega) (by omega) (by decide)
    refine QT.sw ?_
    exact pk_let14 hm hg hw ht h9 h1 FU FU 0 x2 0 s t l0 (by omega) (fun h => by rw [Nat.sub_zero]; exact hx2 h) t23 t22 hs1 (hR.to hs2 (by omega))
/-- a leaf's worth, the class alone -/
theorem qa_plain (s : Int32) (w c e : Int64) (n : Int32) (σ : ST) (hE : EWR s.toInt w c e n) (hR : RMC 22 σ) : QT (f_X2_packPlain s w σ) (fun t => GRN 22 σ t) := by
  have l5 := li_5
  have r (k : Int) (h : k ≤ 22) : RMC k σ := hR.to (GRN.rf (k := 0) (by omega)) (by omega)
  have num (x : Int64) : QT ((f_X2_putNumber x σ).bind fun q => some q) (fun t => GRN 22 σ t) := QT.bnd (qa_putNumber x σ (r 10 (by omega))) (fun t ht => QT.ret (ht.mono (by omega)))
  unfold f_X2_packPlain
  refine QT.ite (fun _ => QT.bnd (qa_put _ σ (r 1 (by omega))) (fun t ht => QT.ret (ht.mono (by omega)))) (fun _ => ?_)
  refine QT.ite (fun _ => num _) (fun _ => ?_)
  refine QT.ite (fun _ => num _) (fun _ => ?_)
  refine QT.ite (fun _ => (qa_plain61 FU 8 w 56 σ (by decide) (by omega) (r 8 (by omega))).mono (fun t ht => ht.mono (by omega))) (fun _ => ?_)
  refine QT.ieq (fun h5 => ?_) (fun _ => ?_)
  · unfold EWR at hE
    rw [if_pos (by omega)] at hE
    exact QT.bnd (qa_letters w e n σ hE.2 hR) (fun t ht => QT.ret ht)
  refine QT.ite (fun _ => num _) (fun _ => QT.ret (GRN.rf (by omega)))
theorem q_148 {rw_ : Int32 → ST → Option ST} (x1 : Int32) (τ : ST) {v : Nat} (h1 : x1.toInt = v) (h28 : (τ.1 28 v).toInt = -1) {P : ST → Prop} (h : P τ) : QT (f_X11_writes_148 rw_ x1 τ) P := by
  have l0 := li_0
  have n1 : x1.toNatClampNeg = v := nC h1
  unfold f_X11_writes_148
  rw [n1]
  refine QT.grd (fun _ => ?_)
  generalize FU = n
  cases n with
  | zero =>
    rw [f_X11_writes_155]
    exact QT.none
  | succ n =>
    rw [f_X11_writes_155]
    exact QT.ilt (fun _ => QT.ret h) (fun h => by omega)
/-- a leaf's worth, both sides -/
theorem pk_own {rw_ : Int32 → ST → Option ST} (s : Int32) (w : Int64) (x1 : Int32) (σ τ : ST) {v : Nat} (h1 : x1.toInt = v) (hs : τ.1 20 v = s) (hE : EWR s.toInt w (τ.2.1 21 v) (τ.2.1 22 v) (τ.1 23 v)) (h28 : (τ.1 28 v).toInt = -1) (hK : PKR σ τ) (hR : RMC 22 σ) : QT (f_X2_packPlain s w σ) (fun s' => QT (f_X11_writes_20 rw_ x1 τ) (fun t => PKR s' t)) := by
  have l1 := li_1
  have l2 := li_2
  have l3 := li_3
  have l4 := li_4
  have l5 := li_5
  have l6 := li_6
  have n1 : x1.toNatClampNeg = v := nC h1
  have r (k : Int) (h : k ≤ 22) : RMC k σ := hR.to (GRN.rf (k := 0) (by omega)) (by omega)
  have pl : ¬ s.toInt = 5 → w = τ.2.1 21 v ∧ (τ.1 23 v).toInt = 0 := fun h => by
    unfold EWR at hE
    rw [if_neg h] at hE
    exact ⟨hE.1, hE.2.2⟩
  unfold f_X2_packPlain f_X11_writes_20
  rw [n1, hs]
  refine QT.sw ?_
  refine QT.grd (fun _ => ?_)
  refine QT.sw ?_
  refine QT.ieq (fun e => ?_) (fun e1 => ?_)
  · refine QT.sw ?_
    refine QT.ieq (fun _ => ?_) (fun h => by omega)
    refine QT.sw ?_
    rw [(pl (by omega)).1]
    exact QT.bnd2 (pk_put _ _ σ τ hK (r 1 (by omega)) rfl) (fun s' t h => QT.ret (QT.ret h))
  refine QT.sw ?_
  refine QT.ieq (fun h => by omega) (fun _ => ?_)
  refine QT.sw ?_
  refine QT.ieq (fun e => ?_) (fun e2 => ?_)
  · refine QT.sw ?_
    refine QT.ieq (fun _ => ?_) (fun h => by omega)
    refine QT.sw ?_
    rw [(pl (by omega)).1]
    exact QT.bnd2 (pk_putNumber _ σ τ hK (r 10 (by omega))) (fun s' t h => QT.ret (QT.ret h))
  refine QT.sw ?_
  refine QT.ieq (fun h => by omega) (fun _ => ?_)
  refine QT.sw ?_
  refine QT.ieq (fun e => ?_) (fun e3 => ?_)
  · refine QT.sw ?_
    refine QT.ieq (fun _ => ?_) (fun h => by omega)
    refine QT.sw ?_
    rw [(pl (by omega)).1]
    exact QT.bnd2 (pk_putNumber _ σ τ hK (r 10 (by omega))) (fun s' t h => QT.ret (QT.ret h))
  refine QT.sw ?_
  refine QT.ieq (fun h => by omega) (fun _ => ?_)
  refine QT.sw ?_
  refine QT.ieq (fun e => ?_) (fun e4 => ?_)
  · refine QT.sw ?_
    refine QT.ieq (fun _ => ?_) (fun h => by omega)
    refine QT.sw ?_
    exact pk_plain61 x1 h1 FU FU 8 w 56 σ τ (by decide) (by omega) (pl (by omega)).1.symm hK (r 8 (by omega))
  refine QT.sw ?_
  refine QT.ieq (fun h => by omega) (fun _ => ?_)
  refine QT.sw ?_
  refine QT.ieq (fun e => ?_) (fun e5 => ?_)
  · refine QT.sw ?_
    refine QT.ieq (fun _ => ?_) (fun h => by omega)
    refine QT.sw ?_
    unfold EWR at hE
    rw [if_pos (by omega)] at hE
    exact QT.bnd2 (pk_letters w _ _ x1 σ τ hE.2 h1 rfl rfl hK hR) (fun s' t h => QT.ret (QT.ret h))
  refine QT.sw ?_
  refine QT.ieq (fun h => by omega) (fun _ => ?_)
  refine QT.sw ?_
  refine QT.ieq (fun e => ?_) (fun e6 => ?_)
  · refine QT.sw ?_
    refine QT.ieq (fun _ => ?_) (fun h => by omega)
    refine QT.sw ?_
    have e23 : τ.1 23 v = 0 := Int32.toInt_inj.mp (((pl (by omega)).2).trans li_0.symm)
    have ez : ((0 : Int32).toInt64) = 0 := by decide
    rw [e23, ez]
    refine QT.bnd2 (Q := fun s' t => PKR s' t ∧ KWR τ t) ?_ (fun s' t h => QT.ret (q_148 x1 t h1 (by rw [h.2.1 28 (by omega) (by omega)]; exact h28) h.1))
    intro s' es t et
    exact ⟨pk_putNumber _ σ τ hK (r 10 (by omega)) s' es t et, wk_X11_writesNumber (s := τ) KWR.rf t et⟩
  refine QT.sw ?_
  refine QT.ieq (fun h => by omega) (fun _ => ?_)
  refine QT.sw ?_
  exact QT.ret (q_148 x1 τ h1 h28 hK)
/-! what else tells, and an either's branch: both sides -/
theorem KTA.ty {S σ : ST} (h : KTA S σ) : (σ.1 4 = S.1 4 ∧ σ.1 7 = S.1 7) ∧ (σ.1 13 = S.1 13 ∧ σ.2.1 14 = S.2.1 14) ∧ σ.1 15 = S.1 15 ∧ σ.1 16 = S.1 16 ∧ σ.1 17 = S.1 17 := ⟨⟨(h 4 (by omega) (by omega)).1, (h 7 (by omega) (by omega)).1⟩, ⟨(h 13 (by omega) (by omega)).1, (h 14 (by omega) (by omega)).2⟩, (h 15 (by omega) (by omega)).1, (h 16 (by omega) (by omega)).1, (h 17 (by omega) (by omega)).1⟩
theorem KPK.kta {s σ : ST} (h : KPK s σ) : KTA s σ := fun c h1 h2 => ⟨h.1 c (by omega) (by omega), by rw [h.2.2]⟩
theorem KVA.kta {s σ : ST} (h : KVA s σ) : KTA s σ := fun c h1 h2 => ⟨h.1 c (by omega) (by omega), h.2.2.1 c (by omega) (by omega)⟩
theorem TG.sE {p : Nat} {rm : Int} {S T σ : ST} {d : Nat} {x y : Int32} (h : TG p rm S T d x y) (hn : (S.1 4 1).toInt ≤ 262) (k : KTA S σ) : f_X5_sortOf 4 x σ = some (T.1 2 y.toNatClampNeg, σ) ∧ f_X5_innerOf 4 x σ = some (S.1 16 x.toNatClampNeg, σ) ∧ f_X5_branchAfter 4 x σ = some (S.1 17 x.toNatClampNeg, σ) := by
  obtain ⟨⟨k4, _⟩, _, k15, k16, k17⟩ := k.ty
  have hb : 0 ≤ x.toInt ∧ x.toInt < (σ.1 4 1).toInt := by rw [k4]; exact h.1.1
  have hn' : (σ.1 4 1).toInt ≤ 262 := by rw [k4]; exact hn
  refine ⟨?_, ?_, ?_⟩
  · rw [a4_sortOf x σ hb hn', k15, h.2.1]
  · rw [a4_innerOf x σ hb hn', k16]
  · rw [a4_branchAfter x σ hb hn', k17]
theorem OWN.tg {p : Nat} {rm : Int} {S T : ST} {d : Nat} {x y v br u : Int32} (h : TG p rm S T d x y) (k : OWN S T x y br v u) : ∃ d', TG p rm S T d' v u := by
  rcases k with ⟨_, e1, e2, _⟩ | ⟨h8, i, _, h1, e1, e2⟩
  · rw [e1, e2]
    exact ⟨d, h⟩
  · obtain ⟨m, hm, hM, hT, _⟩ := h.2.2.2.2.2 h8
    rw [e1, e2]
    exact TG.ex (hT i (by omega)).1
/-- the branch that has a sort -/
theorem a_branch15 {p : Nat} {rm : Int} {S T σ : ST} {d : Nat} {x y : Int32} (h : TG p rm S T d x y) (hn : (S.1 4 1).toInt ≤ 262) (kv : KTA S σ) (h8 : (T.1 2 y.toNatClampNeg).toInt = 8) {k : Nat} {s K : Int32} (hk : (k : Int) < (T.1 4 y.toNatClampNeg).toInt) (hK : K.toInt = k) (hs : s = T.1 2 (T.1 5 (4 * y.toNatClampNeg + k)).toNatClampNeg) {P : Int32 × ST → Prop} (hP : QT (f_X2_packBranch_56 (chn (S.1 17) (S.1 16 x.toNatClampNeg) k) K σ) P) : ∀ (n i : Nat) (x3 x4 x5 : Int32), i ≤ k → x3 = chn (S.1 17) (S.1 16 x.toNatClampNeg) i → x4.toInt = i → x5.toInt = i → QT (f_X2_packBranch_15 n s x3 x4 x5 σ) P := by
  have l0 := li_0
  have l1 := li_1
  have l4 := li_4
  have lm := li_m1
  obtain ⟨m, hm, hM, hT, hz, hd⟩ := h.2.2.2.2.2 h8
  intro n
  induction n with
  | zero =>
    intro i x3 x4 x5 _ _ _ _
    rw [f_X2_packBranch_15]
    exact QT.none
  | succ n ih =>
    intro i x3 x4 x5 hi h3 h4 h5
    rw [f_X2_packBranch_15]
    obtain ⟨d', hG⟩ := TG.ex (hT i (by omega)).1
    rw [← h3] at hG
    have hx3 := hG.1.1.1
    refine QT.ile (fun h => by omega) (fun _ => ?_)
    refine QT.ieq (fun h => by omega) (fun _ => ?_)
    obtain ⟨g1, _, g3⟩ := hG.sE hn kv
    rw [g1]
    rw [sbnd]
    dsimp only
    refine QT.ite (fun e => ?_) (fun e => ?_)
    · have eik : i = k := by
        rcases Nat.lt_or_ge i k with h9 | h9
        · exfalso
          rw [hs] at e
          exact hd i k h9 (by omega) (by rw [e])
        · omega
      subst eik
      have e4 : x4 = K := Int32.toInt_inj.mp (by omega)
      rw [h3, e4]
      exact hP
    · have hik : i < k := by
        rcases Nat.lt_or_ge i k with h9 | h9
        · exact h9
        · have : i = k := by omega
          subst this
          exact absurd hs.symm e
      rw [g3]
      rw [sbnd]
      dsimp only
      have e4 := il_addE (x := x4) (y := 1) (by omega) (by omega)
      have e5 := il_addE (x := x5) (y := 1) (by omega) (by omega)
      exact ih (i + 1) _ (x4 + 1) (x5 + 1) (by omega) (by rw [h3]; rfl) (by omega) (by omega)
/-- the type that what else tells fits -/
theorem a_firstC {p : Nat} {rm : Int} {S T σ : ST} {d : Nat} {x y : Int32} (h : TY p rm S T (d + 1) x y) (hn : (S.1 4 1).toInt ≤ 262) (kv : KTA S σ) : ∃ c : Int32, f_X5_firstChoice 4 x σ = some (c, σ) ∧ (∃ s : Int32, f_X5_sortOf 4 c σ = some (s, σ) ∧ s.toInt = FCS (T.1 2) (T.1 5) y) ∧ ((T.1 2 y.toNatClampNeg).toInt = 8 ∧ ¬ c = x ∨ ¬ (T.1 2 y.toNatClampNeg).toInt = 8 ∧ c = x) := by
  have l8 : (8 : Int32).toInt = 8 := by decide
  have hG := TG.of h
  obtain ⟨g1, g2, _⟩ := hG.sE hn kv
  unfold f_X5_firstChoice FCS
  rw [g1]
  rw [sbnd]
  dsimp only
  by_cases e : T.1 2 y.toNatClampNeg = 8
  · have e8 : (T.1 2 y.toNatClampNeg).toInt = 8 := by rw [e]; exact l8
    obtain ⟨m, hm, hM, hT, hz, hd⟩ := hG.2.2.2.2.2 e8
    obtain ⟨hT0, hn8⟩ := hT 0 (by omega)
    obtain ⟨d', hG0⟩ := TG.ex hT0
    rw [Nat.add_zero] at hG0 hn8
    have hG0 : TG p rm S T d' (S.1 16 x.toNatClampNeg) (T.1 5 (4 * y.toNatClampNeg)) := hG0
    rw [if_pos e, g2, if_pos e8]
    rw [sbnd]
    refine ⟨_, rfl, ⟨_, (hG0.sE hn kv).1, rfl⟩, .inl ⟨e8, fun e9 => ?_⟩⟩
    have h1 := hG0.2.1
    have e9 : S.1 16 x.toNatClampNeg = x := e9
    rw [e9, hG.2.1] at h1
    rw [← h1] at hn8
    exact hn8 e8
  · have e8 : ¬ (T.1 2 y.toNatClampNeg).toInt = 8 := fun h => e (Int32.toInt_inj.mp (h.trans l8.symm))
    rw [if_neg e, if_neg e8]
    exact ⟨_, rfl, ⟨_, g1, rfl⟩, .inr ⟨e8, rfl⟩⟩
/-- a field's else, as bytes -/
def ELP (p : Nat) (rm : Int) (S T : ST) (N : Nat) : Prop := TY p rm S T 4 (S.1 13 N) (T.1 15 N) ∧ (¬ (T.1 16 N).toInt = 0 → EWR (FCS (T.1 2) (T.1 5) (T.1 15 N)) (S.2.1 14 N) (T.2.1 17 N) (T.2.1 18 N) (T.1 19 N))
theorem REC.elp {p : Nat} {rm : Int} {S T : ST} {R m : Nat} (h : REC p rm S T R m) {j : Nat} (hj : j < m) : ELP p rm S T (8 * R + j) := by
  obtain ⟨_, _, h3, h4⟩ := h.2.2.2 j hj
  refine ⟨h3, fun h9 => ?_⟩
  rcases h4 with h4 | h4
  · exact absurd h4 h9
  · exact h4.2.1
theorem qa_else {p : Nat} {rm : Int} {S T σ : ST} (xR xk : Int32) {R k : Nat} (hR : xR.toInt = R) (hk : xk.toInt = k) (hR36 : R < 36) (hk8 : k < 8) (hE : ELP p rm S T (8 * R + k)) (he : ¬ (T.1 16 (8 * R + k)).toInt = 0) (hn : (S.1 4 1).toInt ≤ 262) (kv : KTA S σ) (hRM : RMC 32 σ) : QT (f_X2_packElse xR xk (S.1 13 (8 * R + k)) σ) (fun s => GRN 32 σ s) := by
  obtain ⟨c, c1, ⟨s, c2, c3⟩, _⟩ := a_firstC hE.1 hn kv
  have hEW := hE.2 he
  rw [← c3] at hEW
  unfold f_X2_packElse f_X2_packElse_21
  rw [c1]
  rw [sbnd]
  dsimp only
  have own : ∀ σ' : ST, KPK σ σ' → RMC 22 σ' → QT ((f_X5_sortOf 4 c σ').bind fun q1 => (f_X5_elseWorth 4 xR xk q1.2).bind fun q3 => (f_X2_packPlain q1.1 q3.1 q3.2).bind fun q5 => some q5) (fun t => GRN 22 σ' t) := fun σ' hk' hR' => by
    have kv' : KTA S σ' := kv.trans hk'.kta
    obtain ⟨c', c1', ⟨s', c2', c3'⟩, _⟩ := a_firstC hE.1 hn kv'
    have ec : c' = c := by
      have h1 : f_X5_firstChoice 4 (S.1 13 (8 * R + k)) σ' = some (c', σ') := c1'
      unfold f_X5_firstChoice at h1 c1
      have g' := (TG.of hE.1).sE hn kv'
      have g := (TG.of hE.1).sE hn kv
      rw [g'.1, sbnd] at h1
      rw [g.1, sbnd] at c1
      dsimp only at h1 c1
      rw [g'.2.1] at h1
      rw [g.2.1] at c1
      by_cases e8 : T.1 2 (T.1 15 (8 * R + k)).toNatClampNeg = 8
      · rw [if_pos e8, sbnd] at h1 c1
        have h1 := Option.some.inj h1
        have c1 := Option.some.inj c1
        exact ((Prod.mk.inj h1).1.symm).trans (Prod.mk.inj c1).1
      · rw [if_neg e8] at h1 c1
        have h1 := Option.some.inj h1
        have c1 := Option.some.inj c1
        exact ((Prod.mk.inj h1).1.symm).trans (Prod.mk.inj c1).1
    rw [ec] at c2'
    rw [c2']
    rw [sbnd]
    dsimp only
    rw [a4_elseWorth xR xk σ' hR hk hR36 hk8, kv'.ty.2.1.2]
    rw [sbnd]
    dsimp only
    have e3 : s'.toInt = s.toInt := c3'.trans c3.symm
    exact QT.bnd (qa_plain s' _ _ _ _ σ' (by rw [e3]; exact hEW) hR') (fun t ht => QT.ret ht)
  refine QT.ite (fun _ => (own σ KPK.rf (hRM.to (GRN.rf (k := 0) (by omega)) (by omega))).mono (fun t ht => ht.mono (by omega))) (fun _ => ?_)
  refine QT.bnd (Q := fun t => GRN 10 σ t ∧ KPK σ t) (QT.and (qa_putNumber 0 σ (hRM.to (GRN.rf (k := 0) (by omega)) (by omega))) (wk_X2_putNumber (s := σ) KPK.rf)) (fun t ht => ?_)
  exact (own t ht.2 (hRM.to ht.1 (by omega))).mono (fun u hu => ht.1.trans hu (by omega))
/-- a field's else beside the node that was filled in -/
theorem pk_else {rw_ : Int32 → ST → Option ST} {p : Nat} {rm : Int} {S T σ τ : ST} (xR xk x1 : Int32) {R k v0 v : Nat} {y : EN} (hR : xR.toInt = R) (hk : xk.toInt = k) (hR36 : R < 36) (hk8 : k < 8) (hE : ELP p rm S T (8 * R + k)) (hn : (S.1 4 1).toInt ≤ 262) (kv : KTA S σ) (h1 : x1.toInt = v) (hy : y.2.2.1 = v) (hL : ELN T τ v0 (8 * R + k) y) (hK : PKR σ τ) (hRM : RMC 32 σ) : QT (f_X2_packElse xR xk (S.1 13 (8 * R + k)) σ) (fun s => QT (f_X11_writes rw_ x1 τ) (fun t => PKR s t)) := by
  have l0 := li_0
  have n1 : x1.toNatClampNeg = v := nC h1
  obtain ⟨_, ⟨he, hsort⟩, hbr, ⟨h21, h22, h23⟩, h28⟩ := hL
  rw [hy] at hsort hbr h21 h22 h23 h28
  obtain ⟨c, c1, ⟨s, c2, c3⟩, c4⟩ := a_firstC hE.1 hn kv
  have hEW := hE.2 he
  rw [← c3] at hEW
  have es : τ.1 20 v = s := Int32.toInt_inj.mp (hsort.trans c3.symm)
  have hEW2 : EWR s.toInt (S.2.1 14 (8 * R + k)) (τ.2.1 21 v) (τ.2.1 22 v) (τ.1 23 v) := by
    rw [h21, h22]
    rcases h23 with ⟨h5, h23⟩ | ⟨h5, h23⟩
    · rw [h23]
      exact hEW
    · unfold EWR at hEW ⊢
      rw [es] at h5
      rw [if_neg h5] at hEW ⊢
      exact ⟨hEW.1, hEW.2.1, h23⟩
  unfold f_X2_packElse f_X2_packElse_21 f_X11_writes
  rw [c1]
  rw [sbnd]
  dsimp only
  rw [n1]
  refine QT.sw ?_
  refine QT.grd (fun _ => ?_)
  refine QT.sw ?_
  have own : ∀ σ' τ' : ST, f_X5_sortOf 4 c σ' = some (s, σ') → KPK σ σ' → KWR τ τ' → PKR σ' τ' → RMC 22 σ' → QT ((f_X5_sortOf 4 c σ').bind fun q1 => (f_X5_elseWorth 4 xR xk q1.2).bind fun q3 => (f_X2_packPlain q1.1 q3.1 q3.2).bind fun q5 => some q5) (fun s' => QT (f_X11_writes_20 rw_ x1 τ') (fun t => PKR s' t)) := fun σ' τ' hc hk' hw' hK' hR' => by
    have kv' : KTA S σ' := kv.trans hk'.kta
    rw [hc]
    rw [sbnd]
    dsimp only
    rw [a4_elseWorth xR xk σ' hR hk hR36 hk8, kv'.ty.2.1.2]
    rw [sbnd]
    dsimp only
    have e20 : τ'.1 20 = τ.1 20 := hw'.1 20 (by omega) (by omega)
    have e23 : τ'.1 23 = τ.1 23 := hw'.1 23 (by omega) (by omega)
    have e28 : τ'.1 28 = τ.1 28 := hw'.1 28 (by omega) (by omega)
    have e2 : τ'.2 = τ.2 := hw'.2.2
    refine QT.bnd (pk_own (rw_ := rw_) s _ x1 σ' τ' h1 (by rw [e20]; exact es) (by rw [e2, e23]; exact hEW2) (by rw [e28]; exact h28) hK' hR') (fun q hq => QT.ret hq)
  rcases c4 with ⟨c5, c6⟩ | ⟨c5, c6⟩
  · have h0 : (τ.1 26 v).toInt = 0 := by
      rcases hbr with hbr | hbr
      · exact hbr.2
      · exact absurd c5 hbr.1
    refine QT.ite (fun e => absurd e c6) (fun _ => ?_)
    refine QT.sw ?_
    refine QT.ilt (fun h => by omega) (fun _ => ?_)
    refine QT.sw ?_
    have ez : (τ.1 26 v).toInt64 = 0 := by
      have : τ.1 26 v = 0 := Int32.toInt_inj.mp (h0.trans l0.symm)
      rw [this]
      decide
    rw [ez]
    refine QT.bnd2 (Q := fun s' t => PKR s' t ∧ GRN 10 σ s' ∧ KPK σ s' ∧ KWR τ t) ?_ (fun s' t hst => ?_)
    · intro s' es' t et
      have hR1 : RMC 10 σ := hRM.to (GRN.rf (k := 0) (by omega)) (by omega)
      exact ⟨pk_putNumber _ σ τ hK hR1 s' es' t et, qa_putNumber _ σ hR1 s' es', wk_X2_putNumber (s := σ) KPK.rf s' es', wk_X11_writesNumber (s := τ) KWR.rf t et⟩
    · obtain ⟨g1, g2, g3, g4⟩ := hst
      refine own s' t ?_ g3 g4 g1 (hRM.to g2 (by omega))
      -- the choice has its sort there, too
      have kv' : KTA S s' := kv.trans g3.kta
      obtain ⟨m, hm, hM, hT, _⟩ := (TG.of hE.1).2.2.2.2.2 c5
      obtain ⟨d', hG0⟩ := TG.ex (hT 0 (by omega)).1
      have g := (TG.of hE.1).sE hn kv
      unfold f_X5_firstChoice at c1
      rw [g.1, sbnd] at c1
      dsimp only at c1
      have l8 : (8 : Int32).toInt = 8 := by decide
      rw [if_pos (Int32.toInt_inj.mp (c5.trans l8.symm)), g.2.1, sbnd] at c1
      have ec : S.1 16 (S.1 13 (8 * R + k)).toNatClampNeg = c := (Prod.mk.inj (Option.some.inj c1)).1
      have hG1 : TG p rm S T d' c (T.1 5 (4 * (T.1 15 (8 * R + k)).toNatClampNeg + 0)) := by
        rw [← ec]
        exact hG0
      have q1 := (hG1.sE hn kv).1
      have q2 := (hG1.sE hn kv').1
      rw [c2] at q1
      have e9 := (Prod.mk.inj (Option.some.inj q1)).1
      rw [q2, e9]
  · have h0 : (τ.1 26 v).toInt = -1 := by
      rcases hbr with hbr | hbr
      · exact absurd hbr.1 c5
      · exact hbr.2
    refine QT.ite (fun _ => ?_) (fun e => absurd c6 e)
    refine QT.sw ?_
    refine QT.ilt (fun _ => ?_) (fun h => by omega)
    refine QT.sw ?_
    exact own σ τ c2 KPK.rf KWR.rf hK (hRM.to (GRN.rf (k := 0) (by omega)) (by omega))
