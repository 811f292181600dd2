/-! the reference's nodes told -/
/-- one node told as its row says -/
def TDR (τ : ST) (LL : Nat → Nat × Nat × Int) (w : ST) (i : Nat) : Prop := (w.1 42 i = τ.1 20 (LL i).2.1 ∧ (w.1 43 i).toInt = (LL i).2.2) ∧ (w.1 44 i = if 0 ≤ (LL i).2.2 then τ.1 25 (LL i).2.1 else 0) ∧ (w.1 45 i = τ.1 23 (LL i).2.1 ∧ w.1 46 i = vp_nar .boolean (τ.1 27 (LL i).2.1)) ∧ w.2.1 47 i = τ.2.1 21 (LL i).2.1 ∧ w.2.1 48 i = τ.2.1 22 (LL i).2.1
/-- one node that stays -/
def TSM (z w : ST) (i : Nat) : Prop := (∀ c, 42 ≤ c → c ≤ 46 → w.1 c i = z.1 c i) ∧ w.2.1 47 i = z.2.1 47 i ∧ w.2.1 48 i = z.2.1 48 i
theorem TSM.rf {z : ST} {i : Nat} : TSM z z i := ⟨fun _ _ _ => rfl, rfl, rfl⟩
theorem TSM.trans {a b c : ST} {i : Nat} (h : TSM a b i) (k : TSM b c i) : TSM a c i := ⟨fun d h1 h2 => (k.1 d h1 h2).trans (h.1 d h1 h2), k.2.1.trans h.2.1, k.2.2.trans h.2.2⟩
theorem TDR.sm {τ z w : ST} {LL : Nat → Nat × Nat × Int} {i : Nat} (h : TDR τ LL z i) (k : TSM z w i) : TDR τ LL w i := by
  obtain ⟨k1, k2, k3⟩ := k
  unfold TDR
  rw [k1 42 (by omega) (by omega), k1 43 (by omega) (by omega), k1 44 (by omega) (by omega), k1 45 (by omega) (by omega), k1 46 (by omega) (by omega), k2, k3]
  exact h
theorem KTL.trans {a b c : ST} (h : KTL a b) (k : KTL b c) : KTL a c := ⟨fun d h1 h2 => (k.1 d h1 h2).trans (h.1 d h1 h2), fun i h1 => (k.2.1 i h1).trans (h.2.1 i h1), fun d h1 h2 => (k.2.2.1 d h1 h2).trans (h.2.2.1 d h1 h2), k.2.2.2.trans h.2.2.2⟩
/-- telling a subtree -/
def TEL (τ : ST) (LL : Nat → Nat × Nat × Int) (N e : Nat) (z w : ST) : Prop := KTL z w ∧ (w.1 0 73).toInt = e ∧ (∀ i, i < N → TSM z w i) ∧ ∀ i, N ≤ i → i < e → TDR τ LL w i
theorem updLA {f : Nat → Int64} {i j : Nat} {v : Int64} (h : j = i) : vp_updL f i v j = v := by rw [h]; exact updL_at
theorem updLN {f : Nat → Int64} {i j : Nat} {v : Int64} (h : j ≠ i) : vp_updL f i v j = f j := updL_no h
theorem stL_cell {σ : ST} {q i : Nat} {v : Int64} : (stL σ q i v).2.1 q = vp_updL (σ.2.1 q) i v := by
  show (bif Nat.beq q q then vp_updL (σ.2.1 q) i v else σ.2.1 q) = _
  rw [Nat.beq_refl]
  rfl
/-- the row itself is told -/
theorem q_tells53 {τ : ST} {LL : Nat → Nat × Nat × Int} {r : Int32 → Int32 → ST → Option ST} {N v : Nat} {pn : Int} (x1 x3 y0 : Int32) (z u : ST) {P : ST → Prop} (hx : x1.toInt = v) (h3 : x3.toInt = N) (hL : (LL N).2 = (v, pn)) (hz : KTL τ z) (kz : KTL z u) (sm : ∀ i, i < N → TSM z u i) (u42 : u.1 42 N = τ.1 20 v) (u43 : (u.1 43 N).toInt = pn) (hy : y0 = if 0 ≤ pn then τ.1 25 v else 0) (u73 : (u.1 0 73).toInt = (N : Int) + 1) (k : ∀ y, KTL z y → (y.1 0 73).toInt = (N : Int) + 1 → (∀ i, i < N → TSM z y i) → TDR τ LL y N → QT (f_X11_tells_110 r FU x3 (τ.1 28 v) y) P) : QT (f_X11_tells_53 r x1 x3 y0 x3 u) P := by
  have n1 : x1.toNatClampNeg = v := nC hx
  have n3 : x3.toNatClampNeg = N := nC h3
  have hu := hz.trans kz
  have e23 : u.1 23 = τ.1 23 := hu.1 23 (by omega) (by omega)
  have e27 : u.1 27 = τ.1 27 := hu.1 27 (by omega) (by omega)
  have e28 : u.1 28 = τ.1 28 := hu.1 28 (by omega) (by omega)
  have e21 : u.2.1 21 = τ.2.1 21 := hu.2.2.1 21 (by omega) (by omega)
  have e22 : u.2.1 22 = τ.2.1 22 := hu.2.2.1 22 (by omega) (by omega)
  unfold f_X11_tells_53
  refine QT.grd (fun _ => QT.grd (fun _ => QT.grd (fun _ => ?_)))
  rw [n1, n3]
  refine QT.lt (fun z4 h4 => ?_)
  have g23 : (stI u 44 N y0).1 23 v = τ.1 23 v := by rw [stI_ne (by omega), e23]
  rw [g23] at h4
  have c4 : KTL z z4 := by
    rw [h4]
    exact (kz.i (by omega)).i (by omega)
  have z4c : ∀ c, c ≠ 44 → c ≠ 45 → z4.1 c = u.1 c := fun c h1 h2 => by rw [h4, stI_ne h2, stI_ne h1]
  have z44 : z4.1 44 = upd (u.1 44) N y0 := by rw [h4, stI_ne (by omega), stI_at]
  have z45 : z4.1 45 = upd (u.1 45) N (τ.1 23 v) := by rw [h4, stI_at, stI_ne (by omega)]
  have z4L : z4.2.1 = u.2.1 := by rw [h4]; rfl
  clear h4
  refine QT.lt (fun z5 h5 => ?_)
  have g27 : z4.1 27 v = τ.1 27 v := by rw [z4c 27 (by omega) (by omega), e27]
  have g21 : (stI z4 46 N (vp_nar .boolean (z4.1 27 v))).2.1 21 v = τ.2.1 21 v := by
    show z4.2.1 21 v = _
    rw [z4L, e21]
  rw [g21, g27] at h5
  have c5 : KTL z z5 := by
    rw [h5]
    exact (c4.i (by omega)).l (by omega)
  have z5c : ∀ c, c ≠ 46 → z5.1 c = z4.1 c := fun c h1 => by
    rw [h5]
    exact stI_ne h1
  have z546 : z5.1 46 = upd (z4.1 46) N (vp_nar .boolean (τ.1 27 v)) := by
    rw [h5]
    show (stI z4 46 N (vp_nar .boolean (τ.1 27 v))).1 46 = _
    exact stI_at
  have z547 : z5.2.1 47 = vp_updL (z4.2.1 47) N (τ.2.1 21 v) := by rw [h5, stL_cell]; rfl
  have z5L : ∀ c, c ≠ 47 → z5.2.1 c = z4.2.1 c := fun c h1 => by rw [h5, stL_ne h1]; rfl
  clear h5
  have g22 : z5.2.1 22 v = τ.2.1 22 v := by rw [z5L 22 (by omega), z4L, e22]
  rw [g22]
  refine QT.lt (fun x6 h6 => ?_)
  have e6 : x6 = τ.1 28 v := by
    rw [h6]
    show z5.1 28 v = _
    rw [z5c 28 (by omega), z4c 28 (by omega) (by omega), e28]
  rw [e6]
  have yI : (stL z5 48 N (τ.2.1 22 v)).1 = z5.1 := rfl
  have y48 : (stL z5 48 N (τ.2.1 22 v)).2.1 48 = vp_updL (z5.2.1 48) N (τ.2.1 22 v) := stL_cell
  have y47 : (stL z5 48 N (τ.2.1 22 v)).2.1 47 = z5.2.1 47 := stL_ne (by omega)
  have cy : KTL z (stL z5 48 N (τ.2.1 22 v)) := c5.l (by omega)
  generalize stL z5 48 N (τ.2.1 22 v) = y at yI y48 y47 cy
  refine k y cy ?_ (fun i hi => ?_) ?_
  · rw [yI, z5c 0 (by omega), z4c 0 (by omega) (by omega)]
    exact u73
  · obtain ⟨s1, s2, s3⟩ := sm i hi
    refine ⟨fun c h1 h2 => ?_, ?_, ?_⟩
    · rw [yI]
      have hc : c = 42 ∨ c = 43 ∨ c = 44 ∨ c = 45 ∨ c = 46 := by omega
      rcases hc with hc | hc | hc | hc | hc
      · rw [hc, z5c 42 (by omega), z4c 42 (by omega) (by omega)]
        exact s1 42 (by omega) (by omega)
      · rw [hc, z5c 43 (by omega), z4c 43 (by omega) (by omega)]
        exact s1 43 (by omega) (by omega)
      · rw [hc, z5c 44 (by omega), z44, upN (by omega)]
        exact s1 44 (by omega) (by omega)
      · rw [hc, z5c 45 (by omega), z45, upN (by omega)]
        exact s1 45 (by omega) (by omega)
      · rw [hc, z546, upN (by omega), z4c 46 (by omega) (by omega)]
        exact s1 46 (by omega) (by omega)
    · rw [y47, z547, updLN (by omega), z4L]
      exact s2
    · rw [y48, updLN (by omega), z5L 48 (by omega), z4L]
      exact s3
  · unfold TDR
    rw [hL, yI]
    dsimp only
    refine ⟨⟨?_, ?_⟩, ?_, ⟨?_, ?_⟩, ?_, ?_⟩
    · rw [z5c 42 (by omega), z4c 42 (by omega) (by omega)]
      exact u42
    · rw [z5c 43 (by omega), z4c 43 (by omega) (by omega)]
      exact u43
    · rw [z5c 44 (by omega), z44, upA rfl]
      exact hy
    · rw [z5c 45 (by omega), z45, upA rfl]
    · rw [z546, upA rfl]
    · rw [y47, z547, updLA rfl]
    · rw [y48, updLA rfl]
theorem q_tells {b : Nat} {σ τ : ST} {LL : Nat → Nat × Nat × Int} : ∀ (n N e : Nat) (pn : Int) (x v : Nat), PRZ b σ τ LL n N e pn x v → e ≤ 400 → (pn = -1 ∨ 0 ≤ pn) → ∀ (M : Nat) (p0 p1 : Int32) (z : ST), p0.toInt = v → p1.toInt = pn → KTL τ z → (z.1 0 73).toInt = N → QT ((R_X11_tells M) p0 p1 z) (fun w => TEL τ LL N e z w) := by
  have l0 := li_0
  have l1 := li_1
  have lm := li_m1
  intro n
  induction n with
  | zero => intro N e pn x v h; exact h.elim
  | succ n ih =>
    intro N e pn x v h he hpn M p0 p1 z h0 h1 hz h73
    have hNe := h.lt
    obtain ⟨hL, _, l, ⟨_, hc, _⟩, _, hF⟩ := h
    cases M with
    | zero => exact QT.none
    | succ M =>
      show QT (f_X11_tells (R_X11_tells M) p0 p1 z) _
      have hkid : ∀ (m : List (Nat × Nat)) (f j : Nat) (x3 x4 : Int32) (y : ST), x3.toInt = N → N < j → CN (τ.1 30) x4 (m.map (fun y => y.2)) → FLT (fun i j y => PRZ b σ τ LL n i j N y.1 y.2) m j e → KTL τ y → (y.1 0 73).toInt = j → QT (f_X11_tells_110 (R_X11_tells M) f x3 x4 y) (fun w => TEL τ LL j e y w) := by
        intro m
        induction m with
        | nil =>
          intro f j x3 x4 y _ _ hc hf hy h73
          have hc : x4.toInt = -1 := hc
          have hf : j = e := hf
          cases f with
          | zero =>
            rw [f_X11_tells_110]
            exact QT.none
          | succ f =>
            rw [f_X11_tells_110]
            refine QT.ilt (fun _ => QT.ret ⟨KTL.rf, by rw [← hf]; exact h73, fun _ _ => TSM.rf, fun i h6 h7 => by omega⟩) (fun h => by omega)
        | cons c m ihm =>
          intro f j x3 x4 y h3 hNj hc hf hy h73
          obtain ⟨j2, f1, f2, f3⟩ := hf
          have f2 : PRZ b σ τ LL n j j2 N c.1 c.2 := f2
          have hle := FLT.le _ _ _ f3
          have hc1 : x4.toInt = (c.2 : Int) := hc.1
          cases f with
          | zero =>
            rw [f_X11_tells_110]
            exact QT.none
          | succ f =>
            rw [f_X11_tells_110]
            refine QT.ilt (fun h => by omega) (fun _ => ?_)
            refine QT.bnd (ih j j2 N c.1 c.2 f2 (by omega) (.inr (by omega)) M x4 x3 y hc1 h3 hy h73) (fun w hw => ?_)
            obtain ⟨w1, w2, w3, w4⟩ := hw
            refine QT.grd (fun _ => ?_)
            have n4 : x4.toNatClampNeg = c.2 := nC hc1
            have w30 : w.1 30 = τ.1 30 := (hy.trans w1).1 30 (by omega) (by omega)
            rw [n4, w30]
            refine (ihm f j2 x3 _ w h3 (by omega) hc.2 f3 (hy.trans w1) w2).mono (fun u hu => ?_)
            obtain ⟨u1, u2, u3, u4⟩ := hu
            refine ⟨w1.trans u1, u2, fun i hi => (w3 i hi).trans (u3 i (by omega)), fun i h6 h7 => ?_⟩
            by_cases hi : i < j2
            · exact (w4 i h6 hi).sm (u3 i hi)
            · exact u4 i (by omega) h7
      unfold f_X11_tells
      refine QT.grd (fun _ => QT.grd (fun _ => ?_))
      have n0 : p0.toNatClampNeg = v := nC h0
      have n73 : (z.1 0 73).toNatClampNeg = N := nC h73
      have ea := il_addE (x := z.1 0 73) (y := 1) (by omega) (by omega)
      rw [n0, n73]
      refine QT.lt (fun z3 h3 => ?_)
      have g20 : (stI z 0 73 (z.1 0 73 + 1)).1 20 v = τ.1 20 v := by rw [stI_ne (by omega), hz.1 20 (by omega) (by omega)]
      rw [g20] at h3
      have k3 : KTL z z3 := by
        rw [h3]
        exact (KTL.rf.i (.inl ⟨rfl, rfl⟩)).i (by omega)
      have z3c : ∀ c, c ≠ 0 → c ≠ 42 → z3.1 c = z.1 c := fun c a d => by rw [h3, stI_ne d, stI_ne a]
      have z30 : z3.1 0 = upd (z.1 0) 73 (z.1 0 73 + 1) := by rw [h3, stI_ne (by omega), stI_at]
      have z42 : z3.1 42 = upd (z.1 42) N (τ.1 20 v) := by rw [h3, stI_at, stI_ne (by omega)]
      have z3L : z3.2 = z.2 := by rw [h3]; rfl
      clear h3
      have ku : KTL z (stI z3 43 N p1) := k3.i (by omega)
      have uc : ∀ c, c ≠ 43 → (stI z3 43 N p1).1 c = z3.1 c := fun c a => stI_ne a
      have u43 : (stI z3 43 N p1).1 43 = upd (z3.1 43) N p1 := stI_at
      have uL : (stI z3 43 N p1).2 = z3.2 := rfl
      generalize stI z3 43 N p1 = u at ku uc u43 uL
      have sm : ∀ i, i < N → TSM z u i := fun i hi => by
        refine ⟨fun c a d => ?_, by rw [uL, z3L], by rw [uL, z3L]⟩
        by_cases e1 : c = 43
        · rw [e1, u43, upN (by omega), z3c 43 (by omega) (by omega)]
        · rw [uc c e1]
          by_cases e2 : c = 42
          · rw [e2, z42, upN (by omega)]
          · rw [z3c c (by omega) e2]
      have go : ∀ y0 : Int32, y0 = (if 0 ≤ pn then τ.1 25 v else 0) → QT (f_X11_tells_53 (R_X11_tells M) p0 (z.1 0 73) y0 (z.1 0 73) u) (fun w => TEL τ LL N e z w) := fun y0 hy0 => by
        refine q_tells53 (pn := pn) (LL := LL) (N := N) p0 (z.1 0 73) y0 z u h0 h73 (by rw [hL]) hz ku sm ?_ ?_ hy0 ?_ (fun y y1 y2 y3 y4 => ?_)
        · rw [uc 42 (by omega), z42, upA rfl]
        · rw [u43, upA rfl]
          exact h1
        · rw [uc 0 (by omega), z30, upA rfl]
          omega
        · refine (hkid l FU (N + 1) (z.1 0 73) (τ.1 28 v) y h73 (by omega) hc hF (hz.trans y1) (by omega)).mono (fun w hw => ?_)
          obtain ⟨w1, w2, w3, w4⟩ := hw
          refine ⟨y1.trans w1, w2, fun i hi => (y3 i hi).trans (w3 i (by omega)), fun i h6 h7 => ?_⟩
          by_cases hi : i = N
          · rw [hi]
            exact y4.sm (w3 N (by omega))
          · exact w4 i (by omega) h7
      refine QT.ile (fun h => ?_) (fun h => ?_)
      · have u25 : u.1 25 v = τ.1 25 v := by rw [uc 25 (by omega), z3c 25 (by omega) (by omega), hz.1 25 (by omega) (by omega)]
        rw [u25]
        exact go _ (if_pos (by omega)).symm
      · exact go 0 (if_neg (by omega)).symm
