/-! the reference: bytes read -/
theorem fails36_l : ∀ (n : Nat) (x3 : Int32) (σ : ST) (q : Int32 × ST), f_X11_fails_36 n x3 σ = some q → q.2.2 = σ.2 := by
  intro n
  induction n with
  | zero => intro x3 σ q h; cases h
  | succ n ih =>
    intro x3 σ q h
    rw [f_X11_fails_36] at h
    split at h
    · cases h; rfl
    · obtain ⟨_, h⟩ := ig h
      have := ih _ _ _ h
      exact this
theorem fails_l (p0 p1 : Int32) (σ : ST) (q : Int32 × ST) (h : f_X11_fails p0 p1 σ = some q) : q.2.2 = σ.2 := by
  unfold f_X11_fails f_X11_fails_23 f_X11_fails_31 at h
  split at h
  · have h2 := fails36_l _ _ _ _ h
    exact h2
  · split at h
    · have h2 := fails36_l _ _ _ _ h
      exact h2
    · have h2 := fails36_l _ _ _ _ h
      exact h2
theorem b_dtl (p0 : UInt64) (σ : ST) : OK (f_Jxe99ae_doubleToLongBits_ccdee p0 σ) (RO σ fun _ => True) := by
  unfold f_Jxe99ae_doubleToLongBits_ccdee f_Jxe99ae_isNaN_b9ae7
  refine OK.bndR (s := σ) (Q := fun _ => True) ?_ (fun v _ => ?_)
  · exact OK.ite (fun _ => OK.roret trivial) (fun _ => OK.roret trivial)
  · exact OK.ite (fun _ => OK.roret trivial) (fun _ => OK.roret trivial)
def RD (σ : ST) : Prop := (0 ≤ (σ.1 0 63).toInt ∧ 0 ≤ (σ.1 0 64).toInt ∧ (σ.1 0 64).toInt ≤ (σ.1 0 65).toInt ∧ (σ.1 0 63).toInt + (σ.1 0 65).toInt ≤ 1600) ∧ bI (σ.1 0 57) 0 256 ∧ bI (σ.1 0 68) 0 256
theorem RD.of {σ t : ST} (h : RD σ) (e57 : t.1 0 57 = σ.1 0 57) (e63 : t.1 0 63 = σ.1 0 63) (e64 : t.1 0 64 = σ.1 0 64) (e65 : t.1 0 65 = σ.1 0 65) (h68 : bI (t.1 0 68) 0 256) : RD t := by
  unfold RD
  rw [e57, e63, e64, e65]
  exact ⟨h.1, h.2.1, h68⟩
theorem RD.fails {p0 p1 : Int32} {σ s : ST} {C I : List Nat} (hs : RD s) (c : CH C I σ s) (h41 : 41 ∈ C) (h66 : 66 ∈ I) (h67 : 67 ∈ I) (h68 : 68 ∈ I) : OK (f_X11_fails p0 p1 s) (RC C I σ fun v t => v.toInt = 0 ∧ RD t ∧ t.2.1 0 = s.2.1 0) := by
  have h := b_fails p0 p1 s hs.2.1
  refine OK.mono (P := fun q : Int32 × ST => RC [41] [66, 67, 68] s (fun v t => v.toInt = 0 ∧ bI (t.1 0 68) 0 256) q ∧ q.2.2 = s.2) ?_ (fun q hq => ?_)
  · obtain ⟨q, e, hq⟩ := h
    refine ⟨q, e, hq, ?_⟩
    exact fails_l _ _ _ _ e
  · obtain ⟨⟨hc, h1, h2⟩, h3⟩ := hq
    refine ⟨c.trans (hc.mono (fun x hx => ?_) (fun x hx => ?_)), h1, hs.of (hc.2.1 57 (by decide)) (hc.2.1 63 (by decide)) (hc.2.1 64 (by decide)) (hc.2.1 65 (by decide)) h2, by rw [h3]⟩
    · rcases List.mem_singleton.mp hx with rfl; exact h41
    · rcases List.mem_cons.mp hx with rfl | hx
      · exact h66
      · rcases List.mem_cons.mp hx with rfl | hx
        · exact h67
        · rcases List.mem_singleton.mp hx with rfl; exact h68
theorem b_nextByte (σ : ST) (h : RD σ) : OK (f_X11_nextByte σ) (RC [41] [64, 66, 67, 68] σ fun _ t => RD t ∧ t.2.1 0 = σ.2.1 0) := by
  unfold f_X11_nextByte
  have h' := h
  obtain ⟨⟨h1, h2, h3, h4⟩, h5, h6⟩ := h
  have lt_1 := li_1
  refine OK.ieq (fun e => ?_) (fun e => ?_)
  · refine OK.bndC (RD.fails h' CH.rf (C := [41]) (I := [64, 66, 67, 68]) (by decide) (by decide) (by decide) (by decide)) (fun v t c hq => ?_)
    exact OK.cret c hq.2
  · have a1 := il_addE (x := σ.1 0 64) (y := 1) (by omega) (by omega)
    have a2 := il_addE (x := σ.1 0 63) (y := σ.1 0 64 + 1) (by omega) (by omega)
    have a3 := il_subE (x := σ.1 0 63 + (σ.1 0 64 + 1)) (y := 1) (by omega) (by omega)
    refine OK.grd (show 0 ≤ (σ.1 0 63 + (σ.1 0 64 + 1) - 1).toInt ∧ (σ.1 0 63 + (σ.1 0 64 + 1) - 1).toInt < 1600 from ⟨by omega, by omega⟩) ?_
    refine OK.cret (CH.rf.o (by decide)) ⟨⟨?_, h5, h6⟩, rfl⟩
    show 0 ≤ (σ.1 0 63).toInt ∧ 0 ≤ (σ.1 0 64 + 1).toInt ∧ (σ.1 0 64 + 1).toInt ≤ (σ.1 0 65).toInt ∧ (σ.1 0 63).toInt + (σ.1 0 65).toInt ≤ 1600
    omega
theorem b_readsNumber_5 : ∀ (n : Nat) (x1 : Int32) (x2 : Int64) (x4 : Int32) (σ : ST), RD σ → (0 ≤ x4.toInt ∧ x4.toInt ≤ 10 ∧ (10 : Int) - x4.toInt < n) → OK (f_X11_readsNumber_5 n x1 x2 x4 σ) (RC [41] [64, 66, 67, 68] σ fun v t => (v.toInt = 0 ∨ v.toInt = 1) ∧ RD t) := by
  intro n
  induction n with
  | zero => intro x1 x2 x4 σ h1 h3; omega
  | succ n ih =>
    intro x1 x2 x4 σ hR h3
    rw [f_X11_readsNumber_5]
    have lt_0 := li_0
    have lt_1 := li_1
    have lt_10 := li_10
    refine OK.ile (fun h => OK.cret CH.rf ⟨by omega, hR⟩) (fun h => ?_)
    have e3 := il_addE (x := x4) (y := 1) (by omega) (by omega)
    refine OK.bndC (b_nextByte σ hR) (fun v t c hq => ?_)
    dsimp only
    have h46 : OK (f_X11_readsNumber_46 (f_X11_readsNumber_5 n) x1 x2 x4 v t) (RC [41] [64, 66, 67, 68] σ fun v t => (v.toInt = 0 ∨ v.toInt = 1) ∧ RD t) := by
      unfold f_X11_readsNumber_46
      refine OK.ile (fun _ => ?_) (fun _ => ?_)
      · exact OK.trC (ih _ _ _ _ hq.1 (by omega)) c (fun _ h => h) (fun _ h => h) (fun _ _ _ h => h)
      · refine OK.lt (fun z hz => ?_)
        subst hz
        exact OK.cret (c.l (by decide) (by decide) (by decide) (by decide) (by decide)) ⟨by omega, hq.1⟩
    refine OK.ile (fun _ => ?_) (fun _ => OK.cret c ⟨by omega, hq.1⟩)
    refine OK.ieq (fun _ => ?_) (fun _ => h46)
    refine OK.ile (fun _ => h46) (fun _ => ?_)
    refine OK.bndC (RD.fails hq.1 c (by decide) (by decide) (by decide) (by decide)) (fun w u cu hu => ?_)
    dsimp only
    refine OK.grd (b01 (by omega)) ?_
    exact OK.cret cu ⟨by omega, hu.2.1⟩
theorem b_readsNumber (p0 : Int32) (σ : ST) (h : RD σ) : OK (f_X11_readsNumber p0 σ) (RC [41] [64, 66, 67, 68] σ fun v t => (v.toInt = 0 ∨ v.toInt = 1) ∧ RD t) := by
  have lt_0 := li_0
  have lu := FUi
  exact b_readsNumber_5 FU _ _ _ _ h (by omega)
theorem b_readsInt (p0 : Int32) (p1 p2 : Int64) (σ : ST) (h : RD σ) : OK (f_X11_readsInt p0 p1 p2 σ) (RC [41] [64, 66, 67, 68] σ fun v t => RD t ∧ (v.toInt = 0 ∨ v.toInt = 1 ∧ p1.toInt ≤ (t.2.1 0 70).toInt ∧ (t.2.1 0 70).toInt ≤ p2.toInt)) := by
  unfold f_X11_readsInt f_X11_readsInt_31
  have lt_0 := li_0
  have lt_1 := li_1
  refine OK.bndC (b_readsNumber p0 σ h) (fun v t c hq => ?_)
  dsimp only
  refine OK.ieq (fun _ => OK.cret c ⟨hq.2, by omega⟩) (fun _ => ?_)
  refine OK.bndR (b_within _ _ _ _) (fun w hw => ?_)
  dsimp only
  refine OK.ieq (fun _ => ?_) (fun _ => OK.cret c ⟨hq.2, by omega⟩)
  refine OK.bndC (RD.fails hq.2 c (by decide) (by decide) (by decide) (by decide)) (fun w u cu hu => ?_)
  dsimp only
  exact OK.ieq (fun _ => OK.cret cu ⟨hu.2.1, by omega⟩) (fun _ => by omega)
theorem b_readsFlag (p0 : Int32) (σ : ST) (h : RD σ) : OK (f_X11_readsFlag p0 σ) (RC [41] [64, 66, 67, 68] σ fun v t => RD t ∧ (v.toInt = 0 ∨ v.toInt = 1)) := by
  unfold f_X11_readsFlag f_X11_readsFlag_30
  have lt_0 := li_0
  have lt_1 := li_1
  refine OK.bndC (b_nextByte σ h) (fun v t c hq => ?_)
  dsimp only
  have c1 := c.l (c := 0) (i := 70) (v := v.toInt64) (by decide) (by decide) (by decide) (by decide) (by decide)
  refine OK.ilt (fun _ => OK.cret c1 ⟨hq.1, by omega⟩) (fun _ => ?_)
  refine OK.ilt (fun _ => OK.cret c1 ⟨hq.1, by omega⟩) (fun _ => ?_)
  refine OK.bndC (RD.fails (s := stL t 0 70 v.toInt64) hq.1 c1 (by decide) (by decide) (by decide) (by decide)) (fun w u cu hu => ?_)
  dsimp only
  exact OK.ieq (fun _ => OK.cret cu ⟨hu.2.1, by omega⟩) (fun _ => OK.cret cu ⟨hu.2.1, by omega⟩)
theorem b_readsReal_7 : ∀ (n : Nat) (x1 : Int32) (σ : ST), RD σ → (0 ≤ x1.toInt ∧ x1.toInt ≤ 8 ∧ (8 : Int) - x1.toInt < n) → OK (f_X11_readsReal_7 n x1 σ) (RC [41] [64, 66, 67, 68] σ fun v t => RD t ∧ (v.toInt = 0 ∨ v.toInt = 1)) := by
  intro n
  induction n with
  | zero => intro x1 σ h1 h3; omega
  | succ n ih =>
    intro x1 σ hR h3
    rw [f_X11_readsReal_7]
    have lt_0 := li_0
    have lt_1 := li_1
    have lt_8 := li_8
    refine OK.ile (fun h => OK.cret CH.rf ⟨hR, by omega⟩) (fun h => ?_)
    have e3 := il_addE (x := x1) (y := 1) (by omega) (by omega)
    refine OK.bndC (b_nextByte σ hR) (fun v t c hq => ?_)
    dsimp only
    refine OK.ile (fun _ => ?_) (fun _ => OK.cret c ⟨hq.1, by omega⟩)
    exact OK.trC (ih _ _ (by exact hq.1) (by omega)) (c.l (by decide) (by decide) (by decide) (by decide) (by decide)) (fun _ h => h) (fun _ h => h) (fun _ _ _ h => h)
theorem b_readsReal (σ : ST) (h : RD σ) : OK (f_X11_readsReal σ) (RC [41] [64, 66, 67, 68] σ fun v t => RD t ∧ (v.toInt = 0 ∨ v.toInt = 1)) := by
  have lt_0 := li_0
  have lu := FUi
  unfold f_X11_readsReal
  exact OK.trC (b_readsReal_7 FU 0 (stL σ 0 70 0) h (by omega)) (CH.rf.l (by decide) (by decide) (by decide) (by decide) (by decide)) (fun _ h => h) (fun _ h => h) (fun _ _ _ h => h)
theorem b_isLetter (p0 : Int32) (σ : ST) : OK (f_X11_isLetter p0 σ) (RO σ fun v => v.toInt = 0 ∧ ¬ (97 ≤ p0.toInt ∧ p0.toInt ≤ 122) ∨ v.toInt = 1 ∧ 97 ≤ p0.toInt ∧ p0.toInt ≤ 122) := by
  unfold f_X11_isLetter
  have e := i64 p0
  have l1 : (97 : Int64).toInt = 97 := by decide
  have l2 : (122 : Int64).toInt = 122 := by decide
  refine OK.bndR (b_within _ _ _ _) (fun v hv => ?_)
  dsimp only
  refine OK.grd (b01 (by omega)) ?_
  exact OK.roret (by omega)
theorem i32s {x : Int64} (h0 : 0 ≤ x.toInt) (h : x.toInt ≤ 100000) : x.toInt32.toInt = x.toInt := by
  obtain ⟨k, hk⟩ := i_bm x.toInt
  have hr := i_rng x.toInt32
  rw [Int64.toInt_toInt32] at hr ⊢
  omega
theorem b_readsText_32 : ∀ (n : Nat) (x1 x2 x3 : Int32) (σ : ST), RD σ → (0 ≤ x3.toInt ∧ x3.toInt ≤ 12 ∧ x2.toInt ≤ 12 ∧ (12 : Int) - x3.toInt < n) → OK (f_X11_readsText_32 n x1 x2 x3 σ) (RC [41] [64, 66, 67, 68] σ fun v t => RD t ∧ (v.toInt = 0 ∨ v.toInt = 1)) := by
  intro n
  induction n with
  | zero => intro x1 x2 x3 σ h1 h3; omega
  | succ n ih =>
    intro x1 x2 x3 σ hR h3
    rw [f_X11_readsText_32]
    have lt_0 := li_0
    have lt_1 := li_1
    refine OK.ile (fun h => OK.cret CH.rf ⟨hR, by omega⟩) (fun h => ?_)
    have e3 := il_addE (x := x3) (y := 1) (by omega) (by omega)
    refine OK.bndC (b_nextByte σ hR) (fun v t c hq => ?_)
    dsimp only
    refine OK.ile (fun _ => ?_) (fun _ => OK.cret c ⟨hq.1, by omega⟩)
    refine OK.bndR (b_isLetter _ _) (fun w hw => ?_)
    dsimp only
    refine OK.ieq (fun _ => ?_) (fun _ => ?_)
    · refine OK.bndC (RD.fails hq.1 c (by decide) (by decide) (by decide) (by decide)) (fun w u cu hu => ?_)
      dsimp only
      refine OK.grd (b01 (by omega)) ?_
      exact OK.cret cu ⟨hu.2.1, by omega⟩
    · exact OK.trC (ih _ _ _ _ (by exact hq.1) (by omega)) (c.l (by decide) (by decide) (by decide) (by decide) (by decide)) (fun _ h => h) (fun _ h => h) (fun _ _ _ h => h)
theorem b_readsText (p0 : Int32) (σ : ST) (h : RD σ) : OK (f_X11_readsText p0 σ) (RC [41] [64, 66, 67, 68, 72] σ fun v t => RD t ∧ (v.toInt = 0 ∨ v.toInt = 1 ∧ bI (t.1 0 72) 0 12)) := by
  unfold f_X11_readsText
  have lt_0 := li_0
  have lu := FUi
  have l0 := l64_0
  have l12 := l64_12
  refine OK.bndC (b_readsInt p0 0 12 σ h) (fun v t c hq => ?_)
  dsimp only
  have c1 : CH [41] [64, 66, 67, 68, 72] σ t := c.mono (fun _ h => h) (by decide)
  refine OK.ieq (fun _ => OK.cret c1 ⟨hq.1, .inl (by omega)⟩) (fun _ => ?_)
  have hb : 0 ≤ (t.2.1 0 70).toInt ∧ (t.2.1 0 70).toInt ≤ 12 := by omega
  have e1 := i32s hb.1 (by omega)
  refine OK.trC (b_readsText_32 FU p0 (t.2.1 0 70).toInt32 0 (stI (stL t 0 71 0) 0 72 (t.2.1 0 70).toInt32) ?_ (by omega)) ((c1.l (by decide) (by decide) (by decide) (by decide) (by decide)).o (by decide)) (fun _ h => h) (by decide) (fun w u cu hu => ⟨hu.1, ?_⟩)
  · exact hq.1.of rfl rfl rfl rfl hq.1.2.2
  · rcases hu.2 with hu | hu
    · exact .inl hu
    · refine .inr ⟨hu, ?_⟩
      rw [cu.2.1 72 (by decide)]
      show bI (t.2.1 0 70).toInt32 0 12
      exact ⟨by omega, by omega⟩
/-- a node's own bytes: what it is worth; of a text how many letters -/
theorem b_readsLeaf (p0 p1 p2 : Int32) (σ : ST) (h : RD σ) (h0 : 0 ≤ p0.toInt ∧ p0.toInt < 800) (h2 : p2.toInt < 0 ∨ (0 ≤ p1.toInt ∧ p1.toInt < 800) ∧ p2.toInt < 4096) : OK (f_X11_readsLeaf p0 p1 p2 σ) (RC [41, 23] [64, 66, 67, 68, 72] σ fun v t => RD t ∧ (v.toInt = 0 ∨ v.toInt = 1) ∧ (t.1 23 = σ.1 23 ∨ 0 ≤ p2.toInt ∧ ∃ y, bI y 0 12 ∧ t.1 23 = upd (σ.1 23) p2.toNatClampNeg y)) := by
  have lt_0 := li_0
  have lt_1 := li_1
  have lt_5 := li_5
  have lt_2 := li_2
  have lt_3 := li_3
  have lt_4 := li_4
  have k229 : ∀ (x5 y0 : Int32) (s : ST), (x5.toInt = 0 ∨ x5.toInt = 1) → CH [41, 23] [64, 66, 67, 68, 72] σ s → RD s → s.1 23 = σ.1 23 → 0 ≤ p2.toInt → bI y0 0 12 → OK (f_X11_readsLeaf_229 x5 y0 p2 s) (RC [41, 23] [64, 66, 67, 68, 72] σ fun v t => RD t ∧ (v.toInt = 0 ∨ v.toInt = 1) ∧ (t.1 23 = σ.1 23 ∨ 0 ≤ p2.toInt ∧ ∃ y, bI y 0 12 ∧ t.1 23 = upd (σ.1 23) p2.toNatClampNeg y)) := fun x5 y0 s h5 c hR e23 hp hy => by
    unfold f_X11_readsLeaf_229
    refine OK.grd ⟨by omega, by omega⟩ ?_
    refine OK.grd (b01 h5) ?_
    exact OK.cret (c.i (by decide) (by decide)) ⟨hR, h5, .inr ⟨hp, y0, hy, (show upd (s.1 23) _ _ = _ by rw [e23])⟩⟩
  have k209 : ∀ (x5 x6 : Int32) (y0 : Int64) (s : ST), (x5.toInt = 0 ∨ x5.toInt = 1) → CH [41, 23] [64, 66, 67, 68, 72] σ s → RD s → s.1 23 = σ.1 23 → 0 ≤ p2.toInt → (x6.toInt = 5 → bI (s.1 0 72) 0 12) → OK (f_X11_readsLeaf_209 p2 x5 x6 y0 p2 s) (RC [41, 23] [64, 66, 67, 68, 72] σ fun v t => RD t ∧ (v.toInt = 0 ∨ v.toInt = 1) ∧ (t.1 23 = σ.1 23 ∨ 0 ≤ p2.toInt ∧ ∃ y, bI y 0 12 ∧ t.1 23 = upd (σ.1 23) p2.toNatClampNeg y)) := fun x5 x6 y0 s h5 c hR e23 hp hy => by
    unfold f_X11_readsLeaf_209
    refine OK.grd ⟨by omega, by omega⟩ ?_
    refine OK.ieq (fun h6 => ?_) (fun _ => ?_)
    · exact k229 _ _ _ h5 (c.l (by decide) (by decide) (by decide) (by decide) (by decide)) hR e23 hp (hy (by omega))
    · exact k229 _ _ _ h5 (c.l (by decide) (by decide) (by decide) (by decide) (by decide)) hR e23 hp (bz (by decide) (by decide))
  have k189 : ∀ (x5 x6 : Int32) (y0 : Int64) (s : ST), (x5.toInt = 0 ∨ x5.toInt = 1) → CH [41, 23] [64, 66, 67, 68, 72] σ s → RD s → s.1 23 = σ.1 23 → 0 ≤ p2.toInt → (x6.toInt = 5 → bI (s.1 0 72) 0 12) → OK (f_X11_readsLeaf_189 p2 x5 x6 y0 p2 s) (RC [41, 23] [64, 66, 67, 68, 72] σ fun v t => RD t ∧ (v.toInt = 0 ∨ v.toInt = 1) ∧ (t.1 23 = σ.1 23 ∨ 0 ≤ p2.toInt ∧ ∃ y, bI y 0 12 ∧ t.1 23 = upd (σ.1 23) p2.toNatClampNeg y)) := fun x5 x6 y0 s h5 c hR e23 hp hy => by
    unfold f_X11_readsLeaf_189
    refine OK.grd ⟨by omega, by omega⟩ ?_
    refine OK.ieq (fun h6 => ?_) (fun _ => ?_)
    · exact k209 _ _ _ _ h5 (c.l (by decide) (by decide) (by decide) (by decide) (by decide)) hR e23 hp hy
    · exact k209 _ _ _ _ h5 (c.l (by decide) (by decide) (by decide) (by decide) (by decide)) hR e23 hp hy
  have k155 : ∀ (x5 x6 x7 : Int32) (y0 : UInt64) (s : ST), (x5.toInt = 0 ∨ x5.toInt = 1) → CH [41, 23] [64, 66, 67, 68, 72] σ s → RD s → s.1 23 = σ.1 23 → 0 ≤ p2.toInt → (x6.toInt = 5 → bI (s.1 0 72) 0 12) → OK (f_X11_readsLeaf_155 p2 x5 x6 x7 y0 s) (RC [41, 23] [64, 66, 67, 68, 72] σ fun v t => RD t ∧ (v.toInt = 0 ∨ v.toInt = 1) ∧ (t.1 23 = σ.1 23 ∨ 0 ≤ p2.toInt ∧ ∃ y, bI y 0 12 ∧ t.1 23 = upd (σ.1 23) p2.toNatClampNeg y)) := fun x5 x6 x7 y0 s h5 c hR e23 hp hy => by
    unfold f_X11_readsLeaf_155
    refine OK.ieq (fun h6 => k189 _ _ _ _ h5 c hR e23 hp hy) (fun _ => ?_)
    refine OK.ieq (fun h6 => k189 _ _ _ _ h5 c hR e23 hp hy) (fun _ => ?_)
    refine OK.bndR (b_dtl y0 s) (fun w hw => ?_)
    exact k189 _ _ _ _ h5 c hR e23 hp hy
  have k132 : ∀ (x5 x6 y0 : Int32) (s : ST), (x5.toInt = 0 ∨ x5.toInt = 1) → CH [41, 23] [64, 66, 67, 68, 72] σ s → RD s → s.1 23 = σ.1 23 → 0 ≤ p2.toInt → (x6.toInt = 5 → bI (s.1 0 72) 0 12) → OK (f_X11_readsLeaf_132 p2 x5 x6 y0 s) (RC [41, 23] [64, 66, 67, 68, 72] σ fun v t => RD t ∧ (v.toInt = 0 ∨ v.toInt = 1) ∧ (t.1 23 = σ.1 23 ∨ 0 ≤ p2.toInt ∧ ∃ y, bI y 0 12 ∧ t.1 23 = upd (σ.1 23) p2.toNatClampNeg y)) := fun x5 x6 y0 s h5 c hR e23 hp hy => by
    unfold f_X11_readsLeaf_132
    exact OK.ieq (fun h6 => k155 _ _ _ _ _ h5 c hR e23 hp hy) (fun _ => k155 _ _ _ _ _ h5 c hR e23 hp hy)
  have k108 : ∀ (x5 x6 : Int32) (s : ST), (x5.toInt = 0 ∨ x5.toInt = 1) → CH [41, 23] [64, 66, 67, 68, 72] σ s → RD s → s.1 23 = σ.1 23 → (x6.toInt = 5 → x5.toInt = 1 → bI (s.1 0 72) 0 12) → OK (f_X11_readsLeaf_108 p1 p2 x5 x6 s) (RC [41, 23] [64, 66, 67, 68, 72] σ fun v t => RD t ∧ (v.toInt = 0 ∨ v.toInt = 1) ∧ (t.1 23 = σ.1 23 ∨ 0 ≤ p2.toInt ∧ ∃ y, bI y 0 12 ∧ t.1 23 = upd (σ.1 23) p2.toNatClampNeg y)) := fun x5 x6 s h5 c hR e23 hy => by
    unfold f_X11_readsLeaf_108
    refine OK.ieq (fun h6 => OK.grd (b01 h5) (OK.cret c ⟨hR, h5, .inl e23⟩)) (fun h6 => ?_)
    refine OK.ilt (fun h6 => OK.grd (b01 h5) (OK.cret c ⟨hR, h5, .inl e23⟩)) (fun h7 => ?_)
    refine OK.grd ⟨by omega, by omega⟩ ?_
    have hp : 0 ≤ p2.toInt := by omega
    exact OK.ieq (fun _ => k132 _ _ _ _ h5 c hR e23 hp (fun h => hy h (by omega))) (fun _ => k132 _ _ _ _ h5 c hR e23 hp (fun h => hy h (by omega)))
  unfold f_X11_readsLeaf
  have c0 : CH [41, 23] [64, 66, 67, 68, 72] σ (stL σ 0 70 0) := CH.rf.l (by decide) (by decide) (by decide) (by decide) (by decide)
  have m1 : ∀ c, c ∈ [41] → c ∈ [41, 23] := by decide
  have m2 : ∀ c, c ∈ [64, 66, 67, 68] → c ∈ [64, 66, 67, 68, 72] := by decide
  refine OK.grd h0 ?_
  refine OK.ieq (fun _ => ?_) (fun _ => ?_)
  · refine OK.bndC (b_readsFlag _ (stL σ 0 70 0) h) (fun v t c hq => ?_)
    dsimp only
    exact k108 _ _ _ hq.2 (c0.trans (c.mono m1 m2)) hq.1 (c.1 23 (by decide) (by decide)) (fun h9 => by omega)
  refine OK.ieq (fun _ => ?_) (fun _ => ?_)
  · refine OK.bndC (b_readsInt _ _ _ (stL σ 0 70 0) h) (fun v t c hq => ?_)
    dsimp only
    exact k108 _ _ _ (by omega) (c0.trans (c.mono m1 m2)) hq.1 (c.1 23 (by decide) (by decide)) (fun h9 => by omega)
  refine OK.ieq (fun _ => ?_) (fun _ => ?_)
  · refine OK.bndC (b_readsNumber _ (stL σ 0 70 0) h) (fun v t c hq => ?_)
    dsimp only
    exact k108 _ _ _ hq.1 (c0.trans (c.mono m1 m2)) hq.2 (c.1 23 (by decide) (by decide)) (fun h9 => by omega)
  refine OK.ieq (fun _ => ?_) (fun _ => ?_)
  · refine OK.bndC (b_readsReal (stL σ 0 70 0) h) (fun v t c hq => ?_)
    dsimp only
    exact k108 _ _ _ hq.2 (c0.trans (c.mono m1 m2)) hq.1 (c.1 23 (by decide) (by decide)) (fun h9 => by omega)
  refine OK.ieq (fun _ => ?_) (fun h5 => ?_)
  · refine OK.bndC (b_readsText _ (stL σ 0 70 0) h) (fun v t c hq => ?_)
    dsimp only
    refine k108 _ _ _ (by omega) (c0.trans (c.mono m1 (fun _ h => h))) hq.1 (c.1 23 (by decide) (by decide)) (fun _ h9 => ?_)
    have h9 : v.toInt = 1 := h9
    rcases hq.2 with h8 | h8
    · omega
    · exact h8.2
  · exact k108 _ _ _ (by omega) c0 h rfl (fun h9 => by omega)
