/-! the else of a field: both read the same -/
abbrev GJ : List Nat := [4, 5, 6, 8, 10, 12, 13]
theorem OK.bndB {α β δ : Type} {a : Option α} {b : Option β} {g : β → Option δ} {Q : α → β → Prop} {P : α → δ → Prop} (h : OK a (fun x => OK b (Q x))) (k : ∀ x y, Q x y → OK (g y) (P x)) : OK a (fun u => OK (b.bind g) (P u)) := h.mono (fun x hx => OK.bnd hx (k x))
theorem OK.eqR {α : Type} {o : Option (α × ST)} {v : α} {σ : ST} (h : o = some (v, σ)) : OK o (RO σ fun w => w = v) := ⟨_, h, rfl, rfl⟩
theorem uT_1 {τ : ST} (h : ¬ (τ.1 0 6).toInt = 0) : uT τ = ((τ.1 0 3).toInt - (τ.1 0 5).toInt).toNat + 1 := by
  unfold uT
  rw [if_neg h]
theorem TK.t0 {σ τ : ST} (h : TK σ τ) : (σ.1 2 4).toInt = 0 ↔ (τ.1 0 6).toInt = 0 := by
  obtain ⟨_, h | h | h | h | h | h⟩ := h
  · exact ⟨fun _ => h.2.1, fun _ => h.1⟩
  · obtain ⟨h1, _, h2⟩ := h
    have h3 : (τ.1 0 6).toInt = 5 ∨ (τ.1 0 6).toInt = 2 := h2.elim .inl (fun h => .inr h.1)
    clear h2
    omega
  · obtain ⟨h1, _, _, _, h2⟩ := h
    have h3 : (σ.1 2 4).toInt = 2 ∨ (σ.1 2 4).toInt = 3 := h2.elim (fun h => .inl h.1) (fun h => .inr h.1)
    clear h2
    omega
  · obtain ⟨h1, h2, _⟩ := h
    omega
  · obtain ⟨h1, h2, _⟩ := h
    omega
  · obtain ⟨h1, h2, _⟩ := h
    omega
theorem TK.hg {σ τ : ST} (h : TK σ τ) (h0 : ¬ (σ.1 2 4).toInt = 0) (h1 : ¬ (σ.1 2 4).toInt = 1) : σ.1 2 3 = τ.1 0 5 := (h.bw h1).2.2.2 h0
theorem TB_.nxt {T : Nat → Int32} {n : Int} {s : Nat} {t : ST} (h : TB_ T n s t) : (s : Int) ≤ (t.1 0 5).toInt ∧ (¬ (t.1 0 6).toInt = 0 → (s : Int) + 1 ≤ (t.1 0 5).toInt) := by
  obtain ⟨_, h | h | h | h | h⟩ := h
  · obtain ⟨_, h1, _, h2⟩ := h
    omega
  · obtain ⟨hL, _, m, hR, h5, _⟩ := h
    have hm : 1 ≤ m := by
      rcases Nat.eq_zero_or_pos m with e | e
      · subst e
        exact absurd hL hR.2
      · exact e
    clear hR
    omega
  · obtain ⟨hd, ⟨_, m, hm⟩ | ⟨h45, m, hm⟩⟩ := h
    · obtain ⟨_, _, _, h | h⟩ := hm
      · have := h.2.2.2.1
        clear h
        omega
      · have := h.2.2.1
        clear h
        omega
    · have hD : isD (bt T n s) := hd.elim id (fun h => absurd h.1 h45)
      obtain ⟨hR, _, _, h⟩ := hm
      have hm : 1 ≤ m := by
        rcases Nat.eq_zero_or_pos m with e | e
        · subst e
          exact absurd hD hR.2
        · exact e
      rcases h with h | h
      · have := h.2.2.2.1
        clear h hR
        omega
      · have := h.2.2.1
        clear h hR
        omega
  · obtain ⟨_, _, m, _, h5, _⟩ := h
    omega
  · have := h.2.1
    clear h
    omega
theorem LX.nxt {σ τ : ST} (h : LX σ τ) : (τ.1 0 4).toInt ≤ (τ.1 0 5).toInt ∧ (¬ (τ.1 0 6).toInt = 0 → (τ.1 0 4).toInt + 1 ≤ (τ.1 0 5).toInt) := by
  obtain ⟨s, e, hT⟩ := h.tb
  have := hT.nxt
  rw [e]
  exact this
def BE (N : Nat) (τ z : ST) : Prop := (∀ c, c ∉ [16, 19] → z.1 c = τ.1 c) ∧ ((∀ i, bI (τ.1 19 i) 0 12) → ∀ i, bI (z.1 19 i) 0 12) ∧ (∀ c, c ∉ [17, 18] → z.2.1 c = τ.2.1 c) ∧ (∀ i, i ≠ N → (z.1 16 i = τ.1 16 i ∧ z.1 19 i = τ.1 19 i) ∧ z.2.1 17 i = τ.2.1 17 i ∧ z.2.1 18 i = τ.2.1 18 i)
/-- the text that is told -/
def BT3 (N : Nat) (τ z : ST) : Prop := ((τ.1 0 6).toInt = 3 ∧ z.2.1 18 N = τ.2.1 0 7 ∧ z.1 19 N = τ.1 0 8) ∨ (¬ (τ.1 0 6).toInt = 3 ∧ z.2.1 18 N = 0 ∧ (z.1 19 N).toInt = 0)
def BV (N : Nat) (s : Int) (τ z : ST) : Prop := (z.1 16 N).toInt = 1 ∧ BTS s τ (z.2.1 17 N) ∧ BT3 N τ z
theorem b_else84 (p0 : Int32) (y0 : Int64) (τ : ST) (N : Nat) (h : p0.toInt = N) (hN : N < 576) (htx : TX τ) (hy0 : (τ.1 0 6).toInt = 3 ∧ y0 = τ.2.1 0 7 ∨ ¬ (τ.1 0 6).toInt = 3 ∧ y0 = 0) (P : (Int32 × ST) × Nat → Prop) (k : ∀ (y : Int32) (z : ST), (y.toInt = 1 ∧ (τ.1 0 13).toInt = 91 ∨ y.toInt = 0 ∧ ¬ (τ.1 0 13).toInt = 91) → BE N τ z → z.1 16 = τ.1 16 → z.2.1 17 = τ.2.1 17 → BT3 N τ z → OK (f_X11_elseOf_121 y z) P) : OK (f_X11_elseOf_84 p0 y0 p0 τ) P := by
  unfold f_X11_elseOf_84
  have n0 : p0.toNatClampNeg = N := nC h
  have l91 : (91 : Int32).toInt = 91 := by decide
  have l3 := li_3
  have l0 := li_0
  have l1 := li_1
  rw [n0]
  refine OK.grd ⟨by omega, by omega⟩ ?_
  have e1 : ∀ c, (stL τ 18 N y0).1 c = τ.1 c := fun _ => rfl
  have e2 : ∀ c, c ≠ 18 → (stL τ 18 N y0).2.1 c = τ.2.1 c := fun c hc => stL_ne hc
  have e18 : (stL τ 18 N y0).2.1 18 = vp_updL (τ.2.1 18) N y0 := rfl
  generalize stL τ 18 N y0 = s at e1 e2 e18 ⊢
  have fin : ∀ v : Int32, bI v 0 12 → ((τ.1 0 6).toInt = 3 ∧ v = τ.1 0 8 ∨ ¬ (τ.1 0 6).toInt = 3 ∧ v.toInt = 0) → OK (f_X11_elseOf_106 v p0 s) P := fun v hv hv2 => by
    unfold f_X11_elseOf_106
    rw [n0]
    refine OK.grd ⟨by omega, by omega⟩ ?_
    have z19 : (stI s 19 N v).1 19 = upd (s.1 19) N v := rfl
    have zL : (stI s 19 N v).2.1 = s.2.1 := rfl
    have b : BE N τ (stI s 19 N v) := by
      refine ⟨fun c hc => ?_, fun h9 => ?_, fun c hc => ?_, fun i hi => ⟨⟨?_, ?_⟩, ?_, ?_⟩⟩
      · simp only [List.mem_cons, List.not_mem_nil, or_false, not_or] at hc
        rw [stI_ne hc.2]
        exact e1 c
      · have e9 : (stI s 19 N v).1 19 = upd (s.1 19) N v := rfl
        rw [e9, e1]
        exact upd_all (P := fun x => bI x 0 12) h9 hv
      · simp only [List.mem_cons, List.not_mem_nil, or_false, not_or] at hc
        exact e2 c hc.2
      · rw [stI_ne (by decide), e1]
      · rw [z19, upd_no hi, e1]
      · rw [zL, e2 17 (by decide)]
      · rw [zL, e18, updL_no hi]
    have b16 : (stI s 19 N v).1 16 = τ.1 16 := by rw [stI_ne (by decide), e1]
    have b17 : (stI s 19 N v).2.1 17 = τ.2.1 17 := by rw [zL, e2 17 (by decide)]
    have b3 : BT3 N τ (stI s 19 N v) := by
      unfold BT3
      rw [zL, e18, updL_at, z19, upd_at]
      rcases hv2 with ⟨h1, h2⟩ | ⟨h1, h2⟩
      · exact .inl ⟨h1, hy0.elim (fun h => h.2) (fun h => absurd h1 h.1), h2⟩
      · exact .inr ⟨h1, hy0.elim (fun h => absurd h.1 h1) (fun h => h.2), h2⟩
    have e13 : (stI s 19 N v).1 0 13 = τ.1 0 13 := by rw [stI_ne (by decide), e1]
    refine OK.ieq (fun h9 => k 1 _ (.inl ⟨l1, by rw [e13] at h9; omega⟩) b b16 b17 b3) (fun h9 => k 0 _ (.inr ⟨l0, by rw [e13] at h9; omega⟩) b b16 b17 b3)
  have h8 := htx.2.2.1
  refine OK.ieq (fun h9 => ?_) (fun h9 => fin 0 ⟨by omega, by omega⟩ (.inr ⟨by rw [e1] at h9; omega, l0⟩))
  rw [e1] at h9
  rw [e1]
  exact fin _ (h8 (by omega)) (.inl ⟨by omega, rfl⟩)
theorem b_elseOf (p0 : Int32) (τ : ST) (N : Nat) (u : Int32) (h : p0.toInt = N) (hN : N < 576) (htx : TX τ) (hu : 0 ≤ u.toInt ∧ u.toInt < 800) (hF : OK (f_X11_firstOf (τ.1 15 N) τ) (RO τ fun v => v = u)) (P : (Int32 × ST) × Nat → Prop)
    (bad : ¬ (LT_ τ ∧ FT_ τ (τ.1 2 u.toNatClampNeg).toInt) → ∀ q : (Int32 × ST) × Nat, CH [] [12] τ q.1.2 → q.1.1.toInt = 0 → q.2 ≤ 18 → P q)
    (good : LT_ τ → FT_ τ (τ.1 2 u.toNatClampNeg).toInt → ∀ (y : Int32) (z : ST) (x : Nat), (y.toInt = 1 ∧ (τ.1 0 13).toInt = 91 ∨ y.toInt = 0 ∧ ¬ (τ.1 0 13).toInt = 91) → BE N τ z → BV N (τ.1 2 u.toNatClampNeg).toInt τ z → x ≤ 19 → OK (f_X11_elseOf_121 y z) (fun w => P (w.1, x + w.2))) : OK (f_X11_elseOf p0 τ) P := by
  unfold f_X11_elseOf
  have n0 : p0.toNatClampNeg = N := nC h
  have l0 := li_0
  refine OK.bndK (b_isLiteral τ) (fun v x hv hx => ?_)
  refine OK.kac ?_
  dsimp only
  refine OK.ieq (fun hv0 => ?_) (fun hv1 => ?_)
  · refine OK.bndC (b_wrongHere 1 τ) (fun v2 s2 c2 hv2 => ?_)
    refine OK.grd (b01 (.inl hv2)) ?_
    refine OK.ret (bad (fun h9 => ?_) _ c2 hv2 (by show x + 0 ≤ 18; omega))
    rcases hv with hv | hv
    · exact hv.2 h9.1
    · have := hv.1
      omega
  have hL : LT_ τ := by
    rcases hv with hv | hv
    · have := hv.1
      omega
    · exact hv.2
  rw [n0]
  refine OK.grd ⟨by omega, by omega⟩ ?_
  refine OK.bndR hF (fun v4 h4 => ?_)
  rw [h4]
  dsimp only
  refine OK.bndK (b_fits u τ hu) (fun v6 x6 hv6 hx6 => ?_)
  have hx6 : x6 ≤ 8 := by
    unfold ftc at hx6
    split at hx6
    · exact hx6
    · split at hx6 <;> omega
  refine OK.kac ?_
  dsimp only
  refine OK.ieq (fun hv0 => ?_) (fun hv1 => ?_)
  · refine OK.bndC (b_wrongHere 2 τ) (fun v2 s2 c2 hv2 => ?_)
    refine OK.grd (b01 (.inl hv2)) ?_
    refine OK.ret (bad (fun h9 => ?_) _ c2 hv2 (by show x + (x6 + 0) ≤ 18; omega))
    rcases hv6 with hv | hv
    · exact hv.2 h9.2
    · have := hv.1
      omega
  have hFT : FT_ τ (τ.1 2 u.toNatClampNeg).toInt := by
    rcases hv6 with hv | hv
    · have := hv.1
      omega
    · exact hv.2
  refine OK.bndK (bx_bitsOf u _ hu) (fun v8 x8 hv8 hx8 => ?_)
  refine OK.kac ?_
  dsimp only
  have e1 : ∀ c, c ≠ 16 → (stL (stI τ 16 N (vp_nar .boolean 1)) 17 N v8).1 c = τ.1 c := fun c hc => by
    show (stI τ 16 N (vp_nar .boolean 1)).1 c = _
    rw [stI_ne hc]
  have e2 : ∀ c, c ≠ 17 → (stL (stI τ 16 N (vp_nar .boolean 1)) 17 N v8).2.1 c = τ.2.1 c := fun c hc => by
    rw [stL_ne hc]
    rfl
  have e16 : (stL (stI τ 16 N (vp_nar .boolean 1)) 17 N v8).1 16 = upd (τ.1 16) N (vp_nar .boolean 1) := rfl
  have e17 : (stL (stI τ 16 N (vp_nar .boolean 1)) 17 N v8).2.1 17 = vp_updL (τ.2.1 17) N v8 := rfl
  have nb1 : (vp_nar .boolean 1).toInt = 1 := by decide
  generalize stL (stI τ 16 N (vp_nar .boolean 1)) 17 N v8 = s at e1 e2 e16 e17 ⊢
  have sx : TX s := by
    unfold TX
    rw [e1 0 (by decide)]
    exact htx
  have s0 : s.1 0 = τ.1 0 := e1 0 (by decide)
  have sL0 : s.2.1 0 = τ.2.1 0 := e2 0 (by decide)
  have fin : ∀ y0, ((τ.1 0 6).toInt = 3 ∧ y0 = τ.2.1 0 7 ∨ ¬ (τ.1 0 6).toInt = 3 ∧ y0 = 0) → OK (f_X11_elseOf_84 p0 y0 p0 s) (fun w => P (w.1, x + (x6 + (x8 + w.2)))) := fun y0 hy0 => by
    refine b_else84 p0 y0 s N h hN sx (by rw [s0, sL0]; exact hy0) _ (fun y z hy hz hz16 hz17 hz3 => ?_)
    rw [s0] at hy
    unfold BT3 at hz3
    rw [s0, sL0] at hz3
    refine (good hL hFT y z (x + x6 + x8) hy ⟨fun c hc => ?_, fun h9 => hz.2.1 ?_, fun c hc => ?_, fun i hi => ?_⟩ ⟨by rw [hz16, e16, upd_at]; exact nb1, ?_, hz3⟩ (by omega)).mono (fun w hw => ?_)
    · rw [hz.1 c hc, e1 c (fun e => hc (by rw [e]; decide))]
    · rw [e1 19 (by decide)]
      exact h9
    · rw [hz.2.2.1 c hc, e2 c (fun e => hc (by rw [e]; decide))]
    · obtain ⟨⟨o1, o2⟩, o3, o4⟩ := hz.2.2.2 i hi
      rw [o1, o2, o3, o4, e16, upd_no hi, e1 19 (by decide), e17, updL_no hi, e2 18 (by decide)]
      exact ⟨⟨rfl, rfl⟩, rfl, rfl⟩
    · rw [hz17, e17, updL_at]
      exact hv8
    · have e : x + (x6 + (x8 + w.2)) = x + x6 + x8 + w.2 := by omega
      show P (w.1, x + (x6 + (x8 + w.2)))
      rw [e]
      exact hw
  refine OK.ieq (fun h9 => ?_) (fun h9 => ?_)
  · rw [s0] at h9
    rw [sL0]
    exact fin _ (.inl ⟨by have := li_3; omega, rfl⟩)
  · rw [s0] at h9
    exact fin _ (.inr ⟨by have := li_3; omega, rfl⟩)
theorem RWS.ext {P lo hi : Nat} {a b a' b' : ST} (h : RWS P lo hi a b) (a1 : a'.1 31 = a.1 31) (a2 : a'.1 32 = a.1 32) (a3 : a'.2.1 34 = a.2.1 34) (b2 : b'.1 2 = b.1 2) (b4 : b'.1 4 = b.1 4) (b5 : b'.1 5 = b.1 5) (b6 : b'.2.1 6 = b.2.1 6) : RWS P lo hi a' b' := by
  intro j h1 h2
  rw [a1, a2, a3, b2, b4, b5, b6]
  exact h j h1 h2
theorem ab_first (P t0 t1 : Nat) (x y : Int32) (a b : ST) (hR : RWS P t0 t1 a b) (hV : VD t0 t1 (b.1 2) (b.1 3) (b.1 4) (b.1 5) 4 y) (hx : x.toInt = (t0 : Int) + P - 400) (hy : y.toInt = t0) (hcA : (a.1 20 1).toInt = (t1 : Int) + P - 400) (ht : 400 ≤ t0 ∧ t1 ≤ 650) (hP : 1 ≤ P ∧ P ≤ 6) : ∃ u : Int32, ((t0 : Int) ≤ u.toInt ∧ u.toInt < t1) ∧ ((b.1 2 u.toNatClampNeg).toInt = FCS (b.1 2) (b.1 5) y ∧ ((b.1 2 t0).toInt = 8 → (t0 : Int) ≤ (b.1 5 (4 * t0)).toInt ∧ (b.1 5 (4 * t0)).toInt < t1)) ∧ OK (f_X11_firstOf y b) (RO b fun v => v = u) ∧ OK (f_X5_firstChoice 20 x a) (RO a fun v => v.toInt = u.toInt + P - 400) := by
  have hy1 := hV.rng
  have ny : y.toNatClampNeg = t0 := nC hy
  have lt : t0 < t1 := by omega
  have c0 : x.toInt = ((t0 + P - 400 : Nat) : Int) := by omega
  obtain ⟨r1, r2, r3, r4⟩ := hR t0 (Nat.le_refl _) lt
  have fc := a_firstChoice x a (t0 + P - 400) c0 (by omega) (by omega)
  have l8 := li_8
  have e4 : (4 * y).toInt = 4 * y.toInt := mlE 4 (by decide) (by omega) (by omega)
  have n4 : (4 * y).toNatClampNeg = 4 * t0 := nC (by omega)
  by_cases h8 : (b.1 2 t0).toInt = 8
  · obtain ⟨_, _, _, hb⟩ := hV
    rw [ny] at hb
    obtain ⟨hm, hb, _⟩ := hb h8
    obtain ⟨v0, _⟩ := hb 0 (by omega)
    have v0 := v0.rng
    have v0 : (t0 : Int) ≤ (b.1 5 (4 * t0)).toInt ∧ (b.1 5 (4 * t0)).toInt < t1 := v0
    refine ⟨b.1 5 (4 * t0), v0, ⟨by unfold FCS; rw [ny, if_pos h8], fun _ => v0⟩, ?_, ?_⟩
    · unfold f_X11_firstOf
      rw [ny, n4]
      refine OK.grd ⟨by omega, by omega⟩ ?_
      refine OK.ieq (fun _ => ?_) (fun h => by omega)
      refine OK.grd ⟨by omega, by omega⟩ ?_
      exact OK.roret rfl
    · refine fc.roq (fun v hv => ?_)
      have e := r4.1 h8
      rw [r1] at hv
      rcases hv with hv | hv
      · rw [hv.2]
        exact e
      · exact absurd h8 hv.1
  · refine ⟨y, by omega, ⟨by unfold FCS; rw [ny, if_neg h8], fun h => absurd h h8⟩, ?_, ?_⟩
    · unfold f_X11_firstOf
      rw [ny, n4]
      refine OK.grd ⟨by omega, by omega⟩ ?_
      refine OK.ieq (fun h => by omega) (fun _ => ?_)
      exact OK.roret rfl
    · refine fc.roq (fun v hv => ?_)
      rw [r1] at hv
      rcases hv with hv | hv
      · exact absurd hv.1 h8
      · rw [hv.2]
        omega
