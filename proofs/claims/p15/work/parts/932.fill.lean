/-! lists of places -/
theorem spt_list : ∀ (l : List EN), (l.map (fun y => y.1)).Pairwise (fun i j => i < j) → ∀ (j : Nat), (∀ y, y ∈ l → ¬ y.1 = j) → ∃ l1 l2, l = l1 ++ l2 ∧ (∀ y, y ∈ l1 → y.1 < j) ∧ ∀ y, y ∈ l2 → j < y.1 := by
  intro l
  induction l with
  | nil => intro _ j _; exact ⟨[], [], rfl, fun y h => (by cases h), fun y h => (by cases h)⟩
  | cons z l ih =>
    intro h j hj
    rw [List.map_cons] at h
    obtain ⟨h1, h2⟩ := List.pairwise_cons.mp h
    rcases Nat.lt_or_ge z.1 j with hz | hz
    · obtain ⟨l1, l2, e, k1, k2⟩ := ih h2 j (fun y hy => hj y (List.mem_cons_of_mem _ hy))
      refine ⟨z :: l1, l2, by rw [e]; rfl, fun y hy => ?_, k2⟩
      rcases List.mem_cons.mp hy with e9 | hy
      · rw [e9]
        exact hz
      · exact k1 y hy
    · have hne := hj z List.mem_cons_self
      refine ⟨[], z :: l, rfl, fun y h => (by cases h), fun y hy => ?_⟩
      rcases List.mem_cons.mp hy with e9 | hy
      · rw [e9]
        omega
      · have := h1 y.1 (List.mem_map.mpr ⟨y, hy, rfl⟩)
        omega
theorem rg_list : ∀ (n k : Nat) (L : List Nat), L.Pairwise (fun i j => i < j) → (∀ i, i ∈ L → k ≤ i ∧ i < k + n) → (∀ j, k ≤ j → j < k + n → j ∈ L) → L = List.range' k n := by
  intro n
  induction n with
  | zero =>
    intro k L _ h _
    cases L with
    | nil => rfl
    | cons y L =>
      have := h y List.mem_cons_self
      omega
  | succ n ih =>
    intro k L hp h1 h2
    cases L with
    | nil =>
      have := h2 k (by omega) (by omega)
      cases this
    | cons y L =>
      obtain ⟨p1, p2⟩ := List.pairwise_cons.mp hp
      have hy := h1 y List.mem_cons_self
      have ey : y = k := by
        rcases List.mem_cons.mp (h2 k (by omega) (by omega)) with e | e
        · exact e.symm
        · have := p1 k e
          omega
      rw [List.range'_succ, ey, ih (k + 1) L p2 (fun i hi => ?_) (fun j j1 j2 => ?_)]
      · have := h1 i (List.mem_cons_of_mem _ hi)
        have := p1 i hi
        omega
      · rcases List.mem_cons.mp (h2 j (by omega) (by omega)) with e | e
        · omega
        · exact e
theorem ln_list : ∀ (L : List Nat) (lo hi : Nat), L.Pairwise (fun i j => i < j) → (∀ i, i ∈ L → lo ≤ i ∧ i < hi) → L.length ≤ hi - lo := by
  intro L
  induction L with
  | nil => intro lo hi _ _; exact Nat.zero_le _
  | cons y L ih =>
    intro lo hi hp h
    obtain ⟨p1, p2⟩ := List.pairwise_cons.mp hp
    have hy := h y List.mem_cons_self
    have := ih (y + 1) hi p2 (fun i hi2 => by
      have := h i (List.mem_cons_of_mem _ hi2)
      have := p1 i hi2
      omega)
    rw [List.length_cons]
    omega
/-! whether a place was told, in the reference -/
theorem q_hasChild10 (p1 : Int32) (σ : ST) {j : Nat} (hp : p1.toInt = j) : ∀ (l : List EN) (n : Nat) (x3 x4 : Int32), CN (σ.1 30) x4 (rB l) → (∀ y, y ∈ l → (σ.1 25 y.2.2.1).toInt = y.1) → (x3.toInt = 0 ∨ x3.toInt = 1) → QT (f_X11_hasChild_10 n p1 x3 x4 σ) (fun q => q.2 = σ ∧ (q.1.toInt = 0 ∧ x3.toInt = 0 ∧ (∀ y, y ∈ l → ¬ y.1 = j) ∨ q.1.toInt = 1 ∧ (x3.toInt = 1 ∨ ∃ y, y ∈ l ∧ y.1 = j))) := by
  have l0 := li_0
  have l1 := li_1
  intro l
  induction l with
  | nil =>
    intro n x3 x4 hc hpl hx
    cases n with
    | zero =>
      rw [f_X11_hasChild_10]
      exact QT.none
    | succ n =>
      rw [f_X11_hasChild_10]
      have hc : x4.toInt = -1 := hc
      refine QT.ilt (fun _ => QT.grd (fun _ => QT.ret ⟨rfl, ?_⟩)) (fun h => by omega)
      rcases hx with hx | hx
      · exact .inl ⟨hx, hx, fun y hy => (by cases hy)⟩
      · exact .inr ⟨hx, .inl hx⟩
  | cons z l ih =>
    intro n x3 x4 hc hpl hx
    cases n with
    | zero =>
      rw [f_X11_hasChild_10]
      exact QT.none
    | succ n =>
      rw [f_X11_hasChild_10]
      obtain ⟨hc1, hc2⟩ := hc
      have hc1 : x4.toInt = (z.2.2.1 : Int) := hc1
      have n4 : x4.toNatClampNeg = z.2.2.1 := nC hc1
      have hz := hpl z List.mem_cons_self
      have hpl2 : ∀ y, y ∈ l → (σ.1 25 y.2.2.1).toInt = y.1 := fun y hy => hpl y (List.mem_cons_of_mem _ hy)
      refine QT.ilt (fun h => by omega) (fun _ => ?_)
      unfold f_X11_hasChild_30 f_X11_hasChild_35
      rw [n4]
      have one : ∀ (P : x3.toInt = 1 ∨ ∃ y, y ∈ z :: l ∧ y.1 = j), QT (f_X11_hasChild_10 n p1 1 (σ.1 30 z.2.2.1) σ) (fun q => q.2 = σ ∧ (q.1.toInt = 0 ∧ x3.toInt = 0 ∧ (∀ y, y ∈ z :: l → ¬ y.1 = j) ∨ q.1.toInt = 1 ∧ (x3.toInt = 1 ∨ ∃ y, y ∈ z :: l ∧ y.1 = j))) := fun P => (ih n 1 _ hc2 hpl2 (.inr l1)).mono (fun q hq => ⟨hq.1, by
        rcases hq.2 with h9 | h9
        · have := h9.2.1
          omega
        · exact .inr ⟨h9.1, P⟩⟩)
      refine QT.ieq (fun h3 => ?_) (fun h3 => ?_)
      · refine QT.grd (fun _ => ?_)
        refine QT.ieq (fun he => ?_) (fun he => ?_)
        · exact QT.grd (fun _ => one (.inr ⟨z, List.mem_cons_self, by omega⟩))
        · refine QT.grd (fun _ => ?_)
          refine (ih n 0 _ hc2 hpl2 (.inl l0)).mono (fun q hq => ⟨hq.1, ?_⟩)
          rcases hq.2 with ⟨h9, _, h8⟩ | ⟨h9, h8⟩
          · refine .inl ⟨h9, by omega, fun y hy => ?_⟩
            rcases List.mem_cons.mp hy with e9 | hy
            · rw [e9]
              omega
            · exact h8 y hy
          · refine .inr ⟨h9, .inr ?_⟩
            rcases h8 with h8 | ⟨y, hy, e9⟩
            · omega
            · exact ⟨y, List.mem_cons_of_mem _ hy, e9⟩
      · refine QT.grd (fun _ => one (.inl ?_))
        rcases hx with hx | hx
        · omega
        · exact hx
theorem q_hasChild (p0 p1 : Int32) (σ : ST) {v j : Nat} {l : List EN} (h0 : p0.toInt = v) (hp : p1.toInt = j) (hc : CN (σ.1 30) (σ.1 28 v) (rB l)) (hpl : ∀ y, y ∈ l → (σ.1 25 y.2.2.1).toInt = y.1) : QT (f_X11_hasChild p0 p1 σ) (fun q => q.2 = σ ∧ (q.1.toInt = 0 ∧ (∀ y, y ∈ l → ¬ y.1 = j) ∨ q.1.toInt = 1 ∧ ∃ y, y ∈ l ∧ y.1 = j)) := by
  have l0 := li_0
  have n0 : p0.toNatClampNeg = v := nC h0
  unfold f_X11_hasChild
  refine QT.grd (fun _ => ?_)
  rw [n0]
  refine (q_hasChild10 p1 σ hp l FU 0 _ hc hpl (.inl l0)).mono (fun q hq => ⟨hq.1, ?_⟩)
  rcases hq.2 with ⟨h1, _, h2⟩ | ⟨h1, h2⟩
  · exact .inl ⟨h1, h2⟩
  · refine .inr ⟨h1, ?_⟩
    rcases h2 with h2 | h2
    · omega
    · exact h2
/-! what else tells becomes a node of the reference -/
theorem q_first {p : Nat} {rm : Int} {S T τ : ST} {d : Nat} {x y : Int32} (h : TY p rm S T (d + 1) x y) (kv : KVB T τ) : ∃ u : Int32, f_X11_firstOf y τ = some (u, τ) ∧ (0 ≤ u.toInt ∧ u.toInt < 800) ∧ (T.1 2 u.toNatClampNeg).toInt = FCS (T.1 2) (T.1 5) y ∧ ((T.1 2 y.toNatClampNeg).toInt = 8 ∧ ¬ u = y ∨ ¬ (T.1 2 y.toNatClampNeg).toInt = 8 ∧ u = y) := by
  have l8 : (8 : Int32).toInt = 8 := by decide
  obtain ⟨⟨k2, _, _, k5⟩, _⟩ := kv.t
  obtain ⟨⟨h1, h2⟩, h3, h4, h5, h6, _, h8⟩ := h
  have ny := nN_ h2.1
  unfold f_X11_firstOf FCS
  rw [if_pos (by omega), k2, k5]
  by_cases e : T.1 2 y.toNatClampNeg = 8
  · have e8 : (T.1 2 y.toNatClampNeg).toInt = 8 := by rw [e]; exact l8
    obtain ⟨m1, m2, _⟩ := h8 e8
    obtain ⟨hT, hn8⟩ := m2 0 (by omega)
    have e4 := mlE (k := 4) (y := y) 4 li_4 (by omega) (by omega)
    have n4 : (4 * y).toNatClampNeg = 4 * y.toNatClampNeg := nC (by omega)
    have r := (TG.ex hT).choose_spec.1.2
    rw [Nat.add_zero] at hT hn8 r
    rw [if_pos e, if_pos (by omega), n4, if_pos e8]
    exact ⟨_, rfl, r, rfl, .inl ⟨e8, fun e9 => by rw [e9] at hn8; exact hn8 e8⟩⟩
  · have e8 : ¬ (T.1 2 y.toNatClampNeg).toInt = 8 := fun h => e (Int32.toInt_inj.mp (h.trans l8.symm))
    rw [if_neg e, if_neg e8]
    exact ⟨_, rfl, by omega, rfl, .inr ⟨e8, rfl⟩⟩
/-- a node that was filled in -/
def FIL (T : ST) (v0 N j v : Nat) (l m : List Nat) (τ t : ST) : Prop := ELN T t v0 N (j, (0, 0), (v, v + 1)) ∧ XTB v v0 l m τ t ∧ (t.1 0 46).toInt = (v : Int) + 1 ∧ KVB τ t ∧ (∀ i, i ≠ 46 → t.1 0 i = τ.1 0 i) ∧ t.1 1 = τ.1 1 ∧ t.2.1 0 = τ.2.1 0 ∧ t.2.2.1 = τ.2.2.1
theorem q_fills {p : Nat} {rm : Int} {S T τ : ST} {d : Nat} {x : Int32} (p0 p1 p2 : Int32) {N v0 j v : Nat} {l m : List Nat} (kv : KVB T τ) (h0 : p0.toInt = N) (h1 : p1.toInt = v0) (h2 : p2.toInt = j) (hv : (τ.1 0 46).toInt = v) (hv0 : v0 < v) (hT : TY p rm S T (d + 1) x (T.1 15 N)) (hE : ¬ (T.1 16 N).toInt = 0) (hr : ∀ r, r ∈ l ++ m → r < v) (hpa : (l ++ m).Nodup ∧ CN (τ.1 30) (τ.1 28 v0) (l ++ m) ∧ (τ.1 29 v0).toInt = lz (-1) (l ++ m)) (hl : ∀ r, r ∈ l → (τ.1 25 r).toInt < j) (hm : ∀ r, r ∈ m → (j : Int) ≤ (τ.1 25 r).toInt) : QT (f_X11_fills p0 p1 p2 τ) (fun t => FIL T v0 N j v l m τ t) := by
  have l0 := li_0
  have l1 := li_1
  have l5 := li_5
  have lm := li_m1
  obtain ⟨⟨k2, _, _, k5⟩, ⟨_, k15, k16, k19⟩, _, k17, k18⟩ := kv.t
  obtain ⟨u, hu1, hu2, hu3, hu4⟩ := q_first hT kv
  have n0 : p0.toNatClampNeg = N := nC h0
  have n1 : p1.toNatClampNeg = v0 := nC h1
  unfold f_X11_fills
  refine QT.grd (fun hN => ?_)
  rw [n0, k15, hu1]
  rw [sbnd]
  dsimp only
  refine QT.grd (fun _ => ?_)
  rw [k2]
  have go : ∀ br : Int32, ((T.1 2 (T.1 15 N).toNatClampNeg).toInt = 8 ∧ br.toInt = 0 ∨ ¬ (T.1 2 (T.1 15 N).toNatClampNeg).toInt = 8 ∧ br.toInt = -1) → QT (f_X11_fills_45 p0 u br p2 p1 (T.1 2 u.toNatClampNeg) τ) (fun t => FIL T v0 N j v l m τ t) := fun br hbr => by
    unfold f_X11_fills_45
    refine QT.bnd (b_lays (T.1 2 u.toNatClampNeg) p1 p2 br τ (x := v) (l := l) (m := m) hv (.inr ⟨by omega, by omega, by rw [n1]; exact hpa, hr, fun r h => by rw [h2]; exact hl r h, fun r h => by rw [h2]; exact hm r h⟩)) (fun q hq => ?_)
    obtain ⟨w, t⟩ := q
    obtain ⟨⟨hw, _⟩, g⟩ := hq
    have hw : w.toInt = v := hw
    have g : GRB v (T.1 2 u.toNatClampNeg) p1 p2 br l m τ t := g
    have nw : w.toNatClampNeg = v := nC hw
    dsimp only
    refine QT.grd (fun _ => QT.grd (fun _ => ?_))
    rw [nw, n0]
    have gc : ∀ c, c < 20 → c ≠ 0 → t.1 c = τ.1 c := fun c h9 h8 => g.1.1 c h8 (by omega) (by omega)
    have t17 : t.2.1 17 N = T.2.1 17 N := by rw [g.1.2.1 17 (by omega) (by omega), k17]
    have t18 : (stL t 21 v (t.2.1 17 N)).2.1 18 N = T.2.1 18 N := by rw [stL_ne (by omega), g.1.2.1 18 (by omega) (by omega), k18]
    rw [t17] at t18 ⊢
    rw [t18]
    refine QT.lt (fun z ez => ?_)
    have z2 : z.1 2 = T.1 2 := by rw [ez]; exact (gc 2 (by omega) (by omega)).trans k2
    have z19 : z.1 19 = T.1 19 := by rw [ez]; exact (gc 19 (by omega) (by omega)).trans k19
    refine QT.grd (fun _ => ?_)
    rw [z2, z19]
    unfold f_X11_fills_103
    rw [nw, nbT]
    have fin : ∀ n : Int32, ((T.1 2 u.toNatClampNeg).toInt = 5 ∧ n = T.1 19 N ∨ ¬ (T.1 2 u.toNatClampNeg).toInt = 5 ∧ n.toInt = 0) → FIL T v0 N j v l m τ (stI (stI z 23 v n) 27 v 1) := fun n hn => by
      have e1 : ∀ c, c ≠ 23 → c ≠ 27 → (stI (stI z 23 v n) 27 v 1).1 c = t.1 c := fun c h23 h27 => by
        rw [stI_ne h27, stI_ne h23, ez]
        rfl
      have e23 : (stI (stI z 23 v n) 27 v 1).1 23 = upd (t.1 23) v n := by
        rw [stI_ne (by omega), stI_at, ez]
        rfl
      have e27 : (stI (stI z 23 v n) 27 v 1).1 27 = upd (t.1 27) v 1 := by
        rw [stI_at, stI_ne (by omega), ez]
        rfl
      have e21 : (stI (stI z 23 v n) 27 v 1).2.1 21 = vp_updL (t.2.1 21) v (T.2.1 17 N) := by
        show z.2.1 21 = _
        rw [ez, stL_ne (by omega), stLA]
      have e22 : (stI (stI z 23 v n) 27 v 1).2.1 22 = vp_updL (t.2.1 22) v (T.2.1 18 N) := by
        show z.2.1 22 = _
        rw [ez, stLA, stL_ne (by omega)]
      have eL : ∀ c, c ≠ 21 → c ≠ 22 → (stI (stI z 23 v n) 27 v 1).2.1 c = t.2.1 c := fun c h1 h2 => by
        show z.2.1 c = _
        rw [ez, stL_ne h2, stL_ne h1]
      have eE : (stI (stI z 23 v n) 27 v 1).2.2 = t.2.2 := by
        show z.2.2 = _
        rw [ez]
        rfl
      generalize stI (stI z 23 v n) 27 v 1 = y at e1 e23 e27 e21 e22 eL eE
      obtain ⟨⟨f1, f2, f3, f4⟩, f5, ⟨⟨f6, f7⟩, ⟨f8, f9⟩, ⟨f10, f11⟩, f12, f13⟩, f14, f15, f16, f17⟩ := g
      refine ⟨⟨⟨?_, ?_, ?_⟩, ⟨hE, ?_⟩, ?_, ⟨?_, ?_, ?_⟩, ?_⟩, ⟨⟨fun i hi => ⟨?_, fun k k1 k2 => ?_, ?_, ?_⟩, fun i hi hn => ?_, fun i hi => ?_⟩, fun i hi hn => ⟨?_, ?_⟩, fun i hi hn => ?_, fun q hq => ?_⟩, ?_, ⟨fun c c0 c20 hc => ?_, fun i _ _ _ _ _ _ _ h46 => ?_, fun c _ c21 c22 => ?_⟩, fun i hi => ?_, ?_, ?_, ?_⟩
      · show (y.1 24 v).toInt = v0
        rw [e1 24 (by omega) (by omega), f8]
        exact h1
      · show (y.1 25 v).toInt = j
        rw [e1 25 (by omega) (by omega), f9]
        exact h2
      · show (y.1 27 v).toInt = 1
        rw [e27, upA rfl]
        exact l1
      · show (y.1 20 v).toInt = _
        rw [e1 20 (by omega) (by omega), f6]
        exact hu3
      · show _ ∧ (y.1 26 v).toInt = 0 ∨ _ ∧ (y.1 26 v).toInt = -1
        rw [e1 26 (by omega) (by omega), f10]
        exact hbr
      · show y.2.1 21 v = _
        rw [e21, upLA rfl]
      · show y.2.1 22 v = _
        rw [e22, upLA rfl]
      · show (y.1 20 v).toInt = 5 ∧ y.1 23 v = _ ∨ ¬ (y.1 20 v).toInt = 5 ∧ (y.1 23 v).toInt = 0
        rw [e1 20 (by omega) (by omega), f6, e23, upA rfl]
        exact hn
      · show (y.1 28 v).toInt = -1
        rw [e1 28 (by omega) (by omega)]
        exact f15.1
      · rw [e1 20 (by omega) (by omega)]
        exact (f14 i (by omega)).1
      · have h9 := (f14 i (by omega)).2.2.2.1 k k1 k2
        by_cases e9 : k = 27
        · rw [e9] at h9 ⊢
          rw [e27, upN (by omega)]
          exact h9
        · rw [e1 k (by omega) e9]
          exact h9
      · rw [e21, upLN (by omega)]
        exact (f14 i (by omega)).2.2.2.2.1
      · rw [e22, upLN (by omega)]
        exact (f14 i (by omega)).2.2.2.2.2
      · rw [e23, upN (by omega)]
        exact (f14 i (by omega)).2.1 (by omega)
      · rw [e23, upN (by omega)]
        exact (f14 i (by omega)).2.2.1 (by omega)
      · rw [e1 28 (by omega) (by omega)]
        exact (f16 i (by omega) (by omega)).1
      · rw [e1 29 (by omega) (by omega)]
        exact (f16 i (by omega) (by omega)).2
      · rw [e1 30 (by omega) (by omega)]
        exact f17.1 i (by omega) hn
      · rw [e1 30 (by omega) (by omega), e1 28 (by omega) (by omega), e1 29 (by omega) (by omega)]
        exact f17.2 q (by omega)
      · rw [e1 0 (by omega) (by omega)]
        exact f5
      · rw [e1 c (by omega) (by omega)]
        exact f1 c c0 c20 hc
      · rw [e1 0 (by omega) (by omega)]
        exact f4 i h46
      · rw [eL c c21 c22]
        exact f2 c c21 c22
      · rw [e1 0 (by omega) (by omega)]
        exact f4 i hi
      · rw [e1 1 (by omega) (by omega)]
        exact f1 1 (by omega) (by omega) (by omega)
      · rw [eL 0 (by omega) (by omega)]
        exact f2 0 (by omega) (by omega)
      · rw [eE, f3]
    refine QT.ieq (fun e5 => ?_) (fun e5 => ?_)
    · exact QT.grd (fun _ => QT.grd (fun _ => QT.ret (fin _ (.inl ⟨by omega, rfl⟩))))
    · exact QT.grd (fun _ => QT.grd (fun _ => QT.ret (fin _ (.inr ⟨by omega, l0⟩))))
  refine QT.ite (fun e => ?_) (fun e => ?_)
  · refine go (-1) (.inr ⟨?_, lm⟩)
    rcases hu4 with h9 | h9
    · exact absurd e h9.2
    · exact h9.1
  · refine go 0 (.inl ⟨?_, l0⟩)
    rcases hu4 with h9 | h9
    · exact h9.1
    · exact absurd h9.2 e
