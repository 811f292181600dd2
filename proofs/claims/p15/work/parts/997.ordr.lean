/-! the reference's rows put in order, to be held against another tree's -/
def KTO (s σ : ST) : Prop := (∀ c, c ≠ 0 → c ≠ 50 → c ≠ 51 → σ.1 c = s.1 c) ∧ (∀ i, i ≠ 88 → σ.1 0 i = s.1 0 i) ∧ (∀ c, c ≠ 52 → σ.2.1 c = s.2.1 c) ∧ σ.2.2 = s.2.2
theorem KTO.rf {s : ST} : KTO s s := ⟨fun _ _ _ _ => rfl, fun _ _ => rfl, fun _ _ => rfl, rfl⟩
theorem KTO.trans {a b c : ST} (h : KTO a b) (k : KTO b c) : KTO a c := ⟨fun d h1 h2 h3 => (k.1 d h1 h2 h3).trans (h.1 d h1 h2 h3), fun i h1 => (k.2.1 i h1).trans (h.2.1 i h1), fun d h1 => (k.2.2.1 d h1).trans (h.2.2.1 d h1), k.2.2.2.trans h.2.2.2⟩
theorem KTO.i {s σ : ST} {c i : Nat} {v : Int32} (hc : c = 0 ∧ i = 88 ∨ c = 50 ∨ c = 51) (h : KTO s σ) : KTO s (stI σ c i v) := by
  refine ⟨fun d a e g => (stI_ne (by omega)).trans (h.1 d a e g), fun j hj => ?_, h.2.2⟩
  by_cases e : c = 0
  · subst e
    rw [stI_at, upN (by omega)]
    exact h.2.1 j hj
  · rw [stI_ne (fun h => e h.symm)]
    exact h.2.1 j hj
theorem KTO.l {s σ : ST} {i : Nat} {v : Int64} (h : KTO s σ) : KTO s (stL σ 52 i v) := ⟨h.1, h.2.1, fun d e => (stL_ne e).trans (h.2.2.1 d e), h.2.2.2⟩
/-- one row in its place -/
def ODR (τ : ST) (LL : Nat → Nat × Nat × Int) (w : ST) (i : Nat) : Prop := (w.1 51 (4 * i) = τ.1 20 (LL i).2.1 ∧ (w.1 51 (4 * i + 1)).toInt = (LL i).2.2 ∧ w.1 51 (4 * i + 2) = τ.1 25 (LL i).2.1 ∧ w.1 51 (4 * i + 3) = τ.1 23 (LL i).2.1) ∧ w.2.1 52 (2 * i) = τ.2.1 21 (LL i).2.1 ∧ w.2.1 52 (2 * i + 1) = τ.2.1 22 (LL i).2.1
/-- the places ahead stay -/
def OSB (N : Nat) (z w : ST) : Prop := (∀ k, k < 4 * N → w.1 51 k = z.1 51 k) ∧ ∀ k, k < 2 * N → w.2.1 52 k = z.2.1 52 k
theorem ODR.sb {τ z w : ST} {LL : Nat → Nat × Nat × Int} {N i : Nat} (h : ODR τ LL z i) (k : OSB N z w) (hi : i < N) : ODR τ LL w i := by
  unfold ODR
  rw [k.1 (4 * i) (by omega), k.1 (4 * i + 1) (by omega), k.1 (4 * i + 2) (by omega), k.1 (4 * i + 3) (by omega), k.2 (2 * i) (by omega), k.2 (2 * i + 1) (by omega)]
  exact h
def OEL (τ : ST) (LL : Nat → Nat × Nat × Int) (N e : Nat) (z w : ST) : Prop := KTO z w ∧ (w.1 0 88).toInt = e ∧ OSB N z w ∧ (∀ i, N ≤ i → i < e → ODR τ LL w i) ∧ ∀ r, (∀ i, N ≤ i → i < e → ¬ r = (LL i).2.1) → w.1 50 r = z.1 50 r
/-- the row itself in its place -/
theorem q_orders70 {τ : ST} {LL : Nat → Nat × Nat × Int} {r : Int32 → ST → Option ST} {N v : Nat} {pn : Int} (x1 x2 y0 y1 : Int32) (z u : ST) {P : ST → Prop} (hx : x1.toInt = v) (h2 : x2.toInt = 4 * (N : Int)) (hN : N < 400) (hy1 : y1.toInt = 4 * (N : Int) + 1) (hL : (LL N).2 = (v, pn)) (hz : KTO τ z) (kz : KTO z u) (sb : OSB N z u) (u0 : u.1 51 (4 * N) = τ.1 20 v) (hy0 : y0.toInt = pn) (u88 : (u.1 0 88).toInt = (N : Int) + 1) (k : ∀ y, KTO z y → (y.1 0 88).toInt = (N : Int) + 1 → OSB N z y → ODR τ LL y N → y.1 50 = u.1 50 → QT (f_X11_orders_136 r FU (τ.1 28 v) y) P) : QT (f_X11_orders_70 r x1 x2 y0 y1 u) P := by
  have l1 := li_1
  have l2 := li_2
  have l3 := li_3
  have n1 : x1.toNatClampNeg = v := nC hx
  have ny : y1.toNatClampNeg = 4 * N + 1 := nC (by omega)
  have e2 := il_addE (x := x2) (y := 2) (by omega) (by omega)
  have e3 := il_addE (x := x2) (y := 3) (by omega) (by omega)
  have n2 : (x2 + 2).toNatClampNeg = 4 * N + 2 := nC (by omega)
  have n3 : (x2 + 3).toNatClampNeg = 4 * N + 3 := nC (by omega)
  have eh : (x2 / 2).toInt = 2 * (N : Int) := by
    rw [Int32.toInt_div_of_ne_right _ _ (by decide), h2, l2, show 4 * (N : Int) = ((4 * N : Nat) : Int) by omega]
    show ((4 * N / 2 : Nat) : Int) = 2 * (N : Int)
    omega
  have ed := il_addE (x := x2 / 2) (y := 1) (by omega) (by omega)
  have nh : (x2 / 2).toNatClampNeg = 2 * N := nC (by omega)
  have nd : (x2 / 2 + 1).toNatClampNeg = 2 * N + 1 := nC (by omega)
  have hu := hz.trans kz
  have c23 : u.1 23 = τ.1 23 := hu.1 23 (by omega) (by omega) (by omega)
  have c25 : u.1 25 = τ.1 25 := hu.1 25 (by omega) (by omega) (by omega)
  have c28 : u.1 28 = τ.1 28 := hu.1 28 (by omega) (by omega) (by omega)
  have c21 : u.2.1 21 = τ.2.1 21 := hu.2.2.1 21 (by omega)
  have c22 : u.2.1 22 = τ.2.1 22 := hu.2.2.1 22 (by omega)
  unfold f_X11_orders_70
  refine QT.grd (fun _ => QT.grd (fun _ => QT.grd (fun _ => ?_)))
  rw [n1, ny, n2]
  refine QT.lt (fun z4 h4 => ?_)
  have g25 : (stI u 51 (4 * N + 1) y0).1 25 v = τ.1 25 v := by rw [stI_ne (by omega), c25]
  rw [g25] at h4
  have k4 : KTO z z4 := by
    rw [h4]
    exact (kz.i (by omega)).i (by omega)
  have z4c : ∀ c, c ≠ 51 → z4.1 c = u.1 c := fun c h => by rw [h4, stI_ne h, stI_ne h]
  have z451 : z4.1 51 = upd (upd (u.1 51) (4 * N + 1) y0) (4 * N + 2) (τ.1 25 v) := by rw [h4, stI_at, stI_at]
  have z4L : z4.2.1 = u.2.1 := by rw [h4]; rfl
  clear h4
  refine QT.grd (fun _ => QT.grd (fun _ => ?_))
  rw [n3, nh]
  refine QT.lt (fun z7 h7 => ?_)
  have g23 : z4.1 23 v = τ.1 23 v := by rw [z4c 23 (by omega), c23]
  have g21 : (stI z4 51 (4 * N + 3) (z4.1 23 v)).2.1 21 v = τ.2.1 21 v := by
    show z4.2.1 21 v = _
    rw [z4L, c21]
  rw [g21, g23] at h7
  have k7 : KTO z z7 := by
    rw [h7]
    exact (k4.i (by omega)).l
  have z7c : ∀ c, c ≠ 51 → z7.1 c = z4.1 c := fun c h => by
    rw [h7]
    exact stI_ne h
  have z751 : z7.1 51 = upd (z4.1 51) (4 * N + 3) (τ.1 23 v) := by
    rw [h7]
    show (stI z4 51 (4 * N + 3) (τ.1 23 v)).1 51 = _
    exact stI_at
  have z7L : z7.2.1 52 = vp_updL (z4.2.1 52) (2 * N) (τ.2.1 21 v) := by rw [h7, stL_cell]; rfl
  have z7M : ∀ c, c ≠ 52 → z7.2.1 c = z4.2.1 c := fun c h => by rw [h7, stL_ne h]; rfl
  clear h7
  refine QT.grd (fun _ => ?_)
  rw [nd]
  have g22 : z7.2.1 22 v = τ.2.1 22 v := by rw [z7M 22 (by omega), z4L, c22]
  rw [g22]
  refine QT.lt (fun x9 h9 => ?_)
  have e9 : x9 = τ.1 28 v := by
    rw [h9]
    show z7.1 28 v = _
    rw [z7c 28 (by omega), z4c 28 (by omega), c28]
  rw [e9]
  have yI : (stL z7 52 (2 * N + 1) (τ.2.1 22 v)).1 = z7.1 := rfl
  have yL : (stL z7 52 (2 * N + 1) (τ.2.1 22 v)).2.1 52 = vp_updL (z7.2.1 52) (2 * N + 1) (τ.2.1 22 v) := stL_cell
  have cy : KTO z (stL z7 52 (2 * N + 1) (τ.2.1 22 v)) := k7.l
  generalize stL z7 52 (2 * N + 1) (τ.2.1 22 v) = y at yI yL cy
  refine k y cy ?_ ⟨fun j hj => ?_, fun j hj => ?_⟩ ?_ ?_
  · rw [yI, z7c 0 (by omega), z4c 0 (by omega)]
    exact u88
  · rw [yI, z751, upN (by omega), z451, upN (by omega), upN (by omega)]
    exact sb.1 j hj
  · rw [yL, updLN (by omega), z7L, updLN (by omega), z4L]
    exact sb.2 j hj
  · unfold ODR
    rw [hL, yI]
    dsimp only
    refine ⟨⟨?_, ?_, ?_, ?_⟩, ?_, ?_⟩
    · rw [z751, upN (by omega), z451, upN (by omega), upN (by omega)]
      exact u0
    · rw [z751, upN (by omega), z451, upN (by omega), upA rfl]
      exact hy0
    · rw [z751, upN (by omega), z451, upA rfl]
    · rw [z751, upA rfl]
    · rw [yL, updLN (by omega), z7L, updLA rfl]
    · rw [yL, updLA rfl]
  · rw [yI, z7c 50 (by omega), z4c 50 (by omega)]
theorem q_orders {b : Nat} {σ τ : ST} {LL : Nat → Nat × Nat × Int} : ∀ (n N e : Nat) (pn : Int) (x v : Nat), PRZ b σ τ LL n N e pn x v → e ≤ 400 → (∀ i j, N ≤ i → i < j → j < e → ¬ (LL i).2.1 = (LL j).2.1) → ∀ (M : Nat) (p0 : Int32) (z : ST), p0.toInt = v → KTO τ z → (z.1 0 88).toInt = N → ((τ.1 24 v).toInt = -1 ∧ pn = -1 ∨ ∃ r : Nat, (τ.1 24 v).toInt = r ∧ ¬ r = v ∧ (z.1 50 r).toInt = pn) → QT ((R_X11_orders M) p0 z) (fun w => OEL τ LL N e z w) := by
  have l0 := li_0
  have l1 := li_1
  have l4 := li_4
  have lm := li_m1
  intro n
  induction n with
  | zero => intro N e pn x v h; exact h.elim
  | succ n ih =>
    intro N e pn x v h he hd M p0 z h0 hz h88 hpn
    have hNe := h.lt
    obtain ⟨hL, _, l, ⟨_, hc, _⟩, hK, hF⟩ := h
    cases M with
    | zero => exact QT.none
    | succ M =>
      show QT (f_X11_orders (R_X11_orders M) p0 z) _
      have hkid : ∀ (m : List (Nat × Nat)) (f j : Nat) (x3 : Int32) (y : ST), N < j → CN (τ.1 30) x3 (m.map (fun y => y.2)) → (∀ c, c ∈ m → KD2 b σ τ x v c) → FLT (fun i j y => PRZ b σ τ LL n i j N y.1 y.2) m j e → KTO τ y → (y.1 0 88).toInt = j → (y.1 50 v).toInt = N → QT (f_X11_orders_136 (R_X11_orders M) f x3 y) (fun w => OEL τ LL j e y w) := by
        intro m
        induction m with
        | nil =>
          intro f j x3 y _ hc _ hf hy h88 _
          have hc : x3.toInt = -1 := hc
          have hf : j = e := hf
          cases f with
          | zero =>
            rw [f_X11_orders_136]
            exact QT.none
          | succ f =>
            rw [f_X11_orders_136]
            refine QT.ilt (fun _ => QT.ret ⟨KTO.rf, by rw [← hf]; exact h88, ⟨fun _ _ => rfl, fun _ _ => rfl⟩, fun i h6 h7 => by omega, fun _ _ => rfl⟩) (fun h => by omega)
        | cons c m ihm =>
          intro f j x3 y hNj hc hKm hf hy h88 h50
          obtain ⟨j2, f1, f2, f3⟩ := hf
          have f2 : PRZ b σ τ LL n j j2 N c.1 c.2 := f2
          have hle := FLT.le _ _ _ f3
          have hc1 : x3.toInt = (c.2 : Int) := hc.1
          have hkc := hKm c List.mem_cons_self
          have ej : (LL j).2.1 = c.2 := by
            cases n with
            | zero => exact f2.elim
            | succ n => rw [f2.1]
          have evN : (LL N).2.1 = v := by rw [hL]
          cases f with
          | zero =>
            rw [f_X11_orders_136]
            exact QT.none
          | succ f =>
            rw [f_X11_orders_136]
            refine QT.ilt (fun h => by omega) (fun _ => ?_)
            have hvc : ¬ v = c.2 := fun h9 => hd N j (Nat.le_refl _) hNj (by omega) (by rw [evN, ej]; exact h9)
            refine QT.bnd (ih j j2 N c.1 c.2 f2 (by omega) (fun i k h6 h7 h8 => hd i k (by omega) h7 (by omega)) M x3 y hc1 hy h88 (.inr ⟨v, hkc.1.2, hvc, h50⟩)) (fun w hw => ?_)
            obtain ⟨w1, w2, w3, w4, w5⟩ := hw
            refine QT.grd (fun _ => ?_)
            have n3 : x3.toNatClampNeg = c.2 := nC hc1
            have w30 : w.1 30 = τ.1 30 := (hy.trans w1).1 30 (by omega) (by omega) (by omega)
            rw [n3, w30]
            have w50 : (w.1 50 v).toInt = N := by
              rw [w5 v (fun i h6 h7 => fun h9 => hd N i (Nat.le_refl _) (by omega) (by omega) (by rw [evN]; exact h9))]
              exact h50
            refine (ihm f j2 _ w (by omega) hc.2 (fun d hd2 => hKm d (List.mem_cons_of_mem _ hd2)) f3 (hy.trans w1) w2 w50).mono (fun u hu => ?_)
            obtain ⟨u1, u2, u3, u4, u5⟩ := hu
            refine ⟨w1.trans u1, u2, ⟨fun k hk => (u3.1 k (by omega)).trans (w3.1 k hk), fun k hk => (u3.2 k (by omega)).trans (w3.2 k hk)⟩, fun i h6 h7 => ?_, fun r hr => (u5 r (fun i h6 h7 => hr i (by omega) h7)).trans (w5 r (fun i h6 h7 => hr i h6 (by omega)))⟩
            by_cases hi : i < j2
            · exact (w4 i h6 hi).sb u3 hi
            · exact u4 i (by omega) h7
      have evN : (LL N).2.1 = v := by rw [hL]
      unfold f_X11_orders
      refine QT.grd (fun hg => ?_)
      have n0 : p0.toNatClampNeg = v := nC h0
      rw [n0]
      have g88 : (stI z 50 v (z.1 0 88)).1 0 88 = z.1 0 88 := by rw [stI_ne (by omega)]
      rw [g88]
      have ea := il_addE (x := z.1 0 88) (y := 1) (by omega) (by omega)
      have em := mlE (k := 4) (y := z.1 0 88) 4 l4 (by omega) (by omega)
      have ed := il_addE (x := 4 * z.1 0 88) (y := 1) (by omega) (by omega)
      have n4 : (4 * z.1 0 88).toNatClampNeg = 4 * N := nC (by omega)
      refine QT.lt (fun z2 h2 => QT.grd (fun _ => QT.grd (fun _ => ?_)))
      have k2 : KTO z z2 := by
        rw [h2]
        exact (KTO.rf.i (.inr (.inl rfl))).i (.inl ⟨rfl, rfl⟩)
      have z2c : ∀ c, c ≠ 0 → c ≠ 50 → z2.1 c = z.1 c := fun c a d => by rw [h2, stI_ne a, stI_ne d]
      have z20 : z2.1 0 = upd (z.1 0) 88 (z.1 0 88 + 1) := by rw [h2, stI_at, stI_ne (by omega)]
      have z250 : z2.1 50 = upd (z.1 50) v (z.1 0 88) := by rw [h2, stI_ne (by omega), stI_at]
      have z2L : z2.2 = z.2 := by rw [h2]; rfl
      clear h2
      have g20 : z2.1 20 v = τ.1 20 v := by rw [z2c 20 (by omega) (by omega), hz.1 20 (by omega) (by omega) (by omega)]
      rw [n4, g20]
      refine QT.lt (fun z5 h5 => ?_)
      have k5 : KTO z z5 := by
        rw [h5]
        exact k2.i (by omega)
      have z5c : ∀ c, c ≠ 51 → z5.1 c = z2.1 c := fun c a => by rw [h5, stI_ne a]
      have z551 : z5.1 51 = upd (z2.1 51) (4 * N) (τ.1 20 v) := by rw [h5, stI_at]
      have z5L : z5.2 = z2.2 := by rw [h5]; rfl
      clear h5
      have g24 : z5.1 24 v = τ.1 24 v := by rw [z5c 24 (by omega), z2c 24 (by omega) (by omega), hz.1 24 (by omega) (by omega) (by omega)]
      rw [g24]
      have sb : OSB N z z5 := ⟨fun k hk => by rw [z551, upN (by omega), z2c 51 (by omega) (by omega)], fun k hk => by rw [z5L, z2L]⟩
      have s50 : z5.1 50 = upd (z.1 50) v (z.1 0 88) := by rw [z5c 50 (by omega), z250]
      have go : ∀ y0 : Int32, y0.toInt = pn → QT (f_X11_orders_70 (R_X11_orders M) p0 (4 * z.1 0 88) y0 (4 * z.1 0 88 + 1) z5) (fun w => OEL τ LL N e z w) := fun y0 hy0 => by
        refine q_orders70 (pn := pn) (LL := LL) (N := N) p0 (4 * z.1 0 88) y0 (4 * z.1 0 88 + 1) z z5 h0 (by omega) (by omega) (by omega) (by rw [hL]) hz k5 sb (by rw [z551, upA rfl]) hy0 ?_ (fun y y1 y2 y3 y4 y5 => ?_)
        · rw [z5c 0 (by omega), z20, upA rfl]
          omega
        · have y50 : (y.1 50 v).toInt = N := by
            rw [y5, s50, upA rfl]
            exact h88
          refine (hkid l FU (N + 1) (τ.1 28 v) y (by omega) hc hK hF (hz.trans y1) (by omega) y50).mono (fun w hw => ?_)
          obtain ⟨w1, w2, w3, w4, w5⟩ := hw
          refine ⟨y1.trans w1, w2, ⟨fun k hk => (w3.1 k (by omega)).trans (y3.1 k hk), fun k hk => (w3.2 k (by omega)).trans (y3.2 k hk)⟩, fun i h6 h7 => ?_, fun r hr => ?_⟩
          · by_cases hi : i = N
            · rw [hi]
              exact y4.sb w3 (by omega)
            · exact w4 i (by omega) h7
          · rw [w5 r (fun i h6 h7 => hr i (by omega) h7), y5, s50, upN (fun h9 => hr N (Nat.le_refl _) hNe (by rw [evN]; exact h9))]
      rcases hpn with ⟨q1, q2⟩ | ⟨r, q1, q3, q2⟩
      · refine QT.ile (fun h => by omega) (fun _ => ?_)
        exact go (-1) (by rw [q2]; exact lm)
      · refine QT.ile (fun _ => QT.grd (fun _ => ?_)) (fun h => by omega)
        have nr : (τ.1 24 v).toNatClampNeg = r := nC q1
        rw [nr, s50, upN q3]
        exact go _ q2
