/-! both walks: one step in, one out, one miss -/
def KWK (σ s : ST) : Prop := (∀ c, c ∉ [41, 44, 45, 46, 47] → s.1 c = σ.1 c) ∧ (∀ i, i ∉ [6, 11] → s.1 41 i = σ.1 41 i) ∧ s.2.2 = σ.2.2 ∧ (∀ c, c ≠ 41 → s.2.1 c = σ.2.1 c) ∧ ∀ i, i ≠ 12 → s.2.1 41 i = σ.2.1 41 i
theorem KWK.rf {σ : ST} : KWK σ σ := ⟨fun _ _ => rfl, fun _ _ => rfl, rfl, fun _ _ => rfl, fun _ _ => rfl⟩
theorem KWK.trans {a b c : ST} (h : KWK a b) (k : KWK b c) : KWK a c := ⟨fun d hd => (k.1 d hd).trans (h.1 d hd), fun i hi => (k.2.1 i hi).trans (h.2.1 i hi), k.2.2.1.trans h.2.2.1, fun d hd => (k.2.2.2.1 d hd).trans (h.2.2.2.1 d hd), fun i hi => (k.2.2.2.2 i hi).trans (h.2.2.2.2 i hi)⟩
theorem KWK.i {σ s : ST} {c i : Nat} {v : Int32} (h : KWK σ s) (hc : c = 44 ∨ c = 45 ∨ c = 46 ∨ c = 47 ∨ c = 41 ∧ (i = 6 ∨ i = 11)) : KWK σ (stI s c i v) := by
  refine h.trans ⟨fun d hd => stI_ne (fun e => hd ?_), fun j hj => ?_, rfl, fun _ _ => rfl, fun _ _ => rfl⟩
  · simp only [List.mem_cons, List.not_mem_nil, or_false]
    omega
  · by_cases e : c = 41
    · subst e
      show upd (s.1 41) i v j = _
      refine upd_no (fun e2 => hj ?_)
      simp only [List.mem_cons, List.not_mem_nil, or_false]
      omega
    · rw [stI_ne (fun e2 => e e2.symm)]
theorem KWK.f {σ s : ST} {f : Nat → Int32} (h : KWK σ s) : KWK σ (stF s 46 f) := by
  refine h.trans ⟨fun d hd => ?_, fun j _ => rfl, rfl, fun _ _ => rfl, fun _ _ => rfl⟩
  rw [stF_ne5 (fun e => hd (by rw [e]; decide))]
theorem KWK.l {σ s : ST} {v : Int64} (h : KWK σ s) : KWK σ (stL s 41 12 v) := by
  refine h.trans ⟨fun _ _ => rfl, fun _ _ => rfl, rfl, fun c hc => stL_ne hc, fun i hi => ?_⟩
  show vp_updL (s.2.1 41) 12 v i = _
  rw [updL_no hi]
theorem KWK.kta {σ s : ST} (h : KWK σ s) : KTA σ s := fun c h1 h2 => ⟨h.1 c (fun e => by
  simp only [List.mem_cons, List.not_mem_nil, or_false] at e
  omega), h.2.2.2.1 c (by omega)⟩
/-- the misses told so far are the same -/
def LMX (σ τ : ST) : Prop := (σ.1 41 6).toInt = (τ.1 0 61).toInt ∧ (0 ≤ (τ.1 0 61).toInt ∧ (τ.1 0 61).toInt ≤ 20) ∧ ∀ i : Nat, (i : Int) < (τ.1 0 61).toInt → σ.1 44 i = τ.1 37 i ∧ σ.1 45 i = τ.1 38 i ∧ (0 ≤ (τ.1 38 i).toInt ∧ (τ.1 38 i).toInt ≤ 32) ∧ ∀ k : Nat, (k : Int) < (τ.1 38 i).toInt → σ.1 46 (32 * i + k) = τ.1 39 (256 * i + k)
/-- and the way to where both are -/
def LLX (σ τ : ST) : Prop := (σ.1 41 11).toInt = (τ.1 0 57).toInt ∧ 0 ≤ (τ.1 0 57).toInt ∧ (∀ k : Nat, (k : Int) < (τ.1 0 57).toInt → σ.1 47 k = τ.1 36 k) ∧ ∀ k : Nat, k < 36 → (lbt (σ.2.1 41 12) k = true ↔ ¬ τ.1 40 k = 0)
def XW (σ τ : ST) : Prop := LMX σ τ ∧ ((τ.1 0 61).toInt < 20 → LLX σ τ)
/-- both a step further in -/
def EW (σ τ s t : ST) : Prop := KWK σ s ∧ CH LC LI τ t ∧ XW s t ∧ t.1 0 61 = τ.1 0 61 ∧ t.1 40 = τ.1 40 ∧ ((τ.1 0 61).toInt < 20 → (t.1 0 57).toInt = (τ.1 0 57).toInt + 1)
/-- both where they were -/
def PWX (σ τ s t : ST) : Prop := KWK σ s ∧ CH LC LI τ t ∧ XW s t ∧ ((t.1 0 61).toInt < 20 → (τ.1 0 61).toInt < 20 ∧ t.1 0 57 = τ.1 0 57 ∧ ∀ k, t.1 40 k = 0 → τ.1 40 k = 0)
theorem PWX.rf {σ τ : ST} (h : XW σ τ) : PWX σ τ σ τ := ⟨KWK.rf, CH.rf, h, fun h => ⟨h, rfl, fun _ h => h⟩⟩
theorem PWX.trans {σ τ a b s t : ST} (h : PWX σ τ a b) (k : PWX a b s t) : PWX σ τ s t := ⟨h.1.trans k.1, h.2.1.trans k.2.1, k.2.2.1, fun h9 => by
  obtain ⟨x1, x2, x3⟩ := k.2.2.2 h9
  obtain ⟨y1, y2, y3⟩ := h.2.2.2 x1
  exact ⟨y1, x2.trans y2, fun j hj => y3 j (x3 j hj)⟩⟩
theorem xw_step (c : Int32) {σ τ : ST} (h : XW σ τ) (hb : (τ.1 0 61).toInt < 20 → (τ.1 0 57).toInt < 32) : PT (f_X0_step c σ) (fun s => PT (f_X11_enters c τ) (fun t => EW σ τ s t)) := by
  unfold f_X0_step f_X0_step_26 f_X11_enters
  have l0 := li_0
  have l1 := li_1
  have l32 := li_32
  refine PT.sw ?_
  refine PT.grd (fun hg => ?_)
  refine PT.lt (fun z hz => ?_)
  refine PT.ret ?_
  have e57 := il_addE (x := τ.1 0 57) (y := 1) (by omega) (by omega)
  have z57 : z.1 0 57 = τ.1 0 57 + 1 := by rw [hz]; rfl
  have z61 : z.1 0 61 = τ.1 0 61 := by rw [hz]; rfl
  have z40 : z.1 40 = τ.1 40 := by rw [hz]; rfl
  have z36 : z.1 36 = upd (τ.1 36) (τ.1 0 57).toNatClampNeg c := by rw [hz]; rfl
  have zc : CH LC LI τ z := by
    rw [hz]
    exact (CH.rf.i (by decide) (by decide)).o (by decide)
  have zm : z.1 37 = τ.1 37 ∧ z.1 38 = τ.1 38 ∧ z.1 39 = τ.1 39 := by rw [hz]; exact ⟨rfl, rfl, rfl⟩
  clear hz
  have lmx : ∀ s : ST, (∀ d, d ∈ [44, 45, 46] → s.1 d = σ.1 d) → s.1 41 6 = σ.1 41 6 → LMX s z := fun s hs h6 => by
    unfold LMX
    rw [h6, z61, zm.1, zm.2.1, zm.2.2, hs 44 (by decide), hs 45 (by decide), hs 46 (by decide)]
    exact h.1
  have dead : ∀ s : ST, KWK σ s → (∀ d, d ∈ [44, 45, 46] → s.1 d = σ.1 d) → s.1 41 6 = σ.1 41 6 → ¬ (τ.1 0 61).toInt < 20 → EW σ τ s z := fun s hk hs h6 hn => ⟨hk, zc, ⟨lmx s hs h6, fun h9 => by rw [z61] at h9; exact absurd h9 hn⟩, z61, z40, fun h9 => absurd h9 hn⟩
  refine PT.ilt (fun h1 => PT.ret (dead _ (KWK.rf.i (by omega)) (fun d hd => stI_ne (fun e => by rw [e] at hd; revert hd; decide)) rfl (fun h9 => ?_))) (fun h1 => ?_)
  · have := (h.2 h9)
    have := this.1
    omega
  refine PT.ile (fun h2 => PT.ret (dead _ (KWK.rf.i (by omega)) (fun d hd => stI_ne (fun e => by rw [e] at hd; revert hd; decide)) rfl (fun h9 => ?_))) (fun h2 => ?_)
  · have := (h.2 h9).1
    have := hb h9
    omega
  refine PT.grd (fun h3 => ?_)
  refine PT.ret ?_
  by_cases hn : (τ.1 0 61).toInt < 20
  rotate_left
  · refine dead _ ((KWK.rf.i (by omega)).i (by omega)) (fun d hd => ?_) rfl hn
    have : d = 44 ∨ d = 45 ∨ d = 46 := by simpa using hd
    rw [stI_ne (by omega), stI_ne (by omega)]
  obtain ⟨a1, a0, a2, a3⟩ := h.2 hn
  have e11 := il_addE (x := σ.1 41 11) (y := 1) (by omega) (by omega)
  have e11' : (stI σ 47 (σ.1 41 11).toNatClampNeg c).1 41 11 = σ.1 41 11 := rfl
  refine ⟨(KWK.rf.i (by omega)).i (by omega), zc, ⟨lmx _ (fun d hd => ?_) rfl, fun _ => ⟨?_, by rw [z57]; omega, fun k hk => ?_, fun k hk => ?_⟩⟩, z61, z40, fun _ => by rw [z57]; exact e57⟩
  · have : d = 44 ∨ d = 45 ∨ d = 46 := by simpa using hd
    rw [stI_ne (by omega), stI_ne (by omega)]
  · rw [z57, e57]
    show ((stI σ 47 (σ.1 41 11).toNatClampNeg c).1 41 11 + 1).toInt = _
    rw [e11', e11]
    omega
  · rw [z36]
    show upd (σ.1 47) (σ.1 41 11).toNatClampNeg c k = _
    have en : (σ.1 41 11).toNatClampNeg = (τ.1 0 57).toNatClampNeg := by
      have n1 := nN_ h3.1
      have n2 := nN_ a0
      omega
    rw [en]
    by_cases e : k = (τ.1 0 57).toNatClampNeg
    · rw [e, upd_at, upd_at]
    · rw [upd_no e, upd_no e]
      have n2 := nN_ a0
      rw [z57] at hk
      exact a2 k (by omega)
  · rw [z40]
    exact a3 k hk
theorem xw_leave {σ τ a b s t : ST} (h0 : XW σ τ) (h : EW σ τ a b) (k : PWX a b s t) : PWX σ τ (stI s 41 11 (s.1 41 11 - 1)) (stI t 0 57 (t.1 0 57 - 1)) := by
  obtain ⟨e1, e2, e3, e4, e5, e6⟩ := h
  obtain ⟨k1, k2, k3, k4⟩ := k
  have l1 := li_1
  have hm : LMX (stI s 41 11 (s.1 41 11 - 1)) (stI t 0 57 (t.1 0 57 - 1)) := k3.1
  refine ⟨(e1.trans k1).i (by omega), (e2.trans k2).o (by decide), ⟨hm, fun h9 => ?_⟩, fun h9 => ?_⟩
  · have h9 : (t.1 0 61).toInt < 20 := h9
    obtain ⟨x1, x2, x3⟩ := k4 h9
    rw [e4] at x1
    obtain ⟨a1, a0, a2, a3⟩ := k3.2 h9
    have y6 := e6 x1
    have y0 := (h0.2 x1).2.1
    rw [x2] at a1 a2
    have r1 := i_rng (b.1 0 57)
    have r2 := i_rng (s.1 41 11)
    have s1 := il_subE (x := s.1 41 11) (y := 1) (by omega) (by omega)
    have s2 := il_subE (x := t.1 0 57) (y := 1) (by rw [x2]; omega) (by rw [x2]; omega)
    rw [x2] at s2
    refine ⟨?_, ?_, fun k hk => ?_, a3⟩
    · show (s.1 41 11 - 1).toInt = (t.1 0 57 - 1).toInt
      rw [x2]
      omega
    · show 0 ≤ (t.1 0 57 - 1).toInt
      rw [x2]
      omega
    · have hk : (k : Int) < (t.1 0 57 - 1).toInt := hk
      rw [x2] at hk
      exact a2 k (by omega)
  · have h9 : (t.1 0 61).toInt < 20 := h9
    obtain ⟨x1, x2, x3⟩ := k4 h9
    rw [e4] at x1
    have y6 := e6 x1
    have y0 := (h0.2 x1).2.1
    refine ⟨x1, ?_, fun j hj => ?_⟩
    · show t.1 0 57 - 1 = _
      rw [x2]
      have r1 := i_rng (b.1 0 57)
      have s2 := il_subE (x := b.1 0 57) (y := 1) (by omega) (by omega)
      exact Int32.toInt_inj.mp (by omega)
    · have := x3 j hj
      rw [e5] at this
      exact this
theorem bq_misses_35 (m N : Nat) (hm : m < 20) (hN : N ≤ 32) : ∀ (n k : Nat) (x2 : Int32) (σ : ST), x2.toInt = k → k ≤ N → (σ.1 0 61).toInt = m → (σ.1 0 57).toInt = N → PT (f_X11_misses_35 n x2 σ) (fun t => (t.1 0 61).toInt = (m : Int) + 1 ∧ CH [39] [61] σ t ∧ (∀ i, k ≤ i → i < N → t.1 39 (256 * m + i) = σ.1 36 i) ∧ ∀ i, i < 256 * m + k → t.1 39 i = σ.1 39 i) := by
  intro n
  have l1 := li_1
  induction n with
  | zero => intro k x2 σ _ _ _ _; exact PT.none
  | succ n ih =>
    intro k x2 σ h2 hk h61 h57
    rw [f_X11_misses_35]
    have e1 := il_addE (x := σ.1 0 61) (y := 1) (by omega) (by omega)
    have e2 := il_addE (x := x2) (y := 1) (by omega) (by omega)
    have e3 := mlE (k := 256) (y := σ.1 0 61) 256 li_256 (by omega) (by omega)
    have e4 := il_addE (x := 256 * σ.1 0 61) (y := x2) (by omega) (by omega)
    have n4 : (256 * σ.1 0 61 + x2).toNatClampNeg = 256 * m + k := nC (by omega)
    have nk : x2.toNatClampNeg = k := nC h2
    refine PT.ile (fun h => PT.ret ⟨?_, CH.rf.o (by decide), fun i h1 h2 => by omega, fun i hi => rfl⟩) (fun h => ?_)
    · show (σ.1 0 61 + 1).toInt = _
      omega
    refine PT.grd (fun _ => ?_)
    refine PT.grd (fun _ => ?_)
    rw [n4, nk]
    refine (ih (k + 1) (x2 + 1) (stI σ 39 (256 * m + k) (σ.1 36 k)) (by omega) (by omega) h61 h57).mono (fun t ht => ?_)
    obtain ⟨t1, t2, t3, t4⟩ := ht
    refine ⟨t1, (CH.rf.i (by decide) (by decide)).trans t2, fun i h1 h2 => ?_, fun i hi => ?_⟩
    · by_cases e : i = k
      · subst e
        rw [t4 _ (by omega)]
        show upd (σ.1 39) (256 * m + i) (σ.1 36 i) (256 * m + i) = _
        rw [upd_at]
      · exact t3 i (by omega) h2
    · rw [t4 i (by omega)]
      show upd (σ.1 39) (256 * m + k) (σ.1 36 k) i = _
      rw [upd_no (by omega)]
theorem xw_miss (c : Int32) {σ τ : ST} (h : XW σ τ) (hb : (τ.1 0 61).toInt < 20 → (τ.1 0 57).toInt ≤ 32) : PT (f_X0_addMiss c σ) (fun s => PT (f_X11_misses c τ) (fun t => PWX σ τ s t)) := by
  unfold f_X0_addMiss f_X11_misses
  have l0 := li_0
  have l1 := li_1
  have l20 := li_20
  have l32 := li_32
  obtain ⟨⟨m1, ⟨m2, m3⟩, m4⟩, hL⟩ := h
  by_cases hn : (τ.1 0 61).toInt < 20
  rotate_left
  · refine PT.ilt (fun h => by omega) (fun _ => ?_)
    refine PT.ile (fun _ => ?_) (fun h => by omega)
    refine PT.ret ?_
    refine PT.ieq (fun _ => PT.ret (PWX.rf ⟨⟨m1, ⟨m2, m3⟩, m4⟩, hL⟩)) (fun h => by omega)
  obtain ⟨a1, a0, a2, a3⟩ := hL hn
  have hb := hb hn
  refine PT.ilt (fun h => by omega) (fun _ => ?_)
  refine PT.ile (fun h => by omega) (fun _ => ?_)
  refine PT.ilt (fun h => by omega) (fun _ => ?_)
  refine PT.ile (fun _ => ?_) (fun h => by omega)
  obtain ⟨m, em⟩ : ∃ m : Nat, (τ.1 0 61).toInt = m := ⟨_, (Int.toNat_of_nonneg m2).symm⟩
  obtain ⟨N, eN⟩ : ∃ N : Nat, (τ.1 0 57).toInt = N := ⟨_, (Int.toNat_of_nonneg a0).symm⟩
  have n6 : (σ.1 41 6).toNatClampNeg = m := nC (by omega)
  have n11 : (σ.1 41 11).toNatClampNeg = N := nC (by omega)
  have n61 : (τ.1 0 61).toNatClampNeg = m := nC em
  refine PT.grd (fun _ => ?_)
  rw [n6]
  have f6 : ((stI σ 44 m c).1 41 6) = σ.1 41 6 := rfl
  have f11 : ((stI σ 44 m c).1 41 11) = σ.1 41 11 := rfl
  rw [f6, f11, n6]
  refine PT.grd (fun _ => ?_)
  refine PT.lt (fun z hz => ?_)
  have z6 : z.1 41 6 = σ.1 41 6 := by rw [hz]; rfl
  have z11 : z.1 41 11 = σ.1 41 11 := by rw [hz]; rfl
  have z44 : z.1 44 = upd (σ.1 44) m c := by rw [hz]; rfl
  have z45 : z.1 45 = upd (σ.1 45) m (σ.1 41 11) := by rw [hz]; rfl
  have z46 : z.1 46 = σ.1 46 := by rw [hz]; rfl
  have z47 : z.1 47 = σ.1 47 := by rw [hz]; rfl
  have zL : z.2.1 = σ.2.1 := by rw [hz]; rfl
  have zk : KWK σ z := by
    rw [hz]
    exact (KWK.rf.i (by omega)).i (by omega)
  clear hz
  rw [z6, z11, z46, z47, n11]
  have e32 : (σ.1 41 6 * 32).toInt = 32 * (σ.1 41 6).toInt := by
    rw [Int32.mul_comm]
    exact mlE (k := 32) (y := σ.1 41 6) 32 l32 (by omega) (by omega)
  have n32 : (σ.1 41 6 * 32).toNatClampNeg = 32 * m := nC (by omega)
  have n00 : (0 : Int32).toNatClampNeg = 0 := rfl
  rw [n32, n00]
  refine PT.grd (fun _ => ?_)
  refine PT.lt (fun y hy => ?_)
  have y6 : y.1 41 6 = σ.1 41 6 := by rw [hy]; exact z6
  have y11 : y.1 41 11 = σ.1 41 11 := by rw [hy]; exact z11
  have y44 : y.1 44 = upd (σ.1 44) m c := by rw [hy]; exact z44
  have y45 : y.1 45 = upd (σ.1 45) m (σ.1 41 11) := by rw [hy]; exact z45
  have y46 : y.1 46 = va_cpy (σ.1 47) (σ.1 46) 0 (32 * m) N := by rw [hy]; rfl
  have y47 : y.1 47 = σ.1 47 := by rw [hy]; exact z47
  have yL : y.2.1 = σ.2.1 := by rw [hy]; exact zL
  have yk : KWK σ y := by
    rw [hy]
    exact zk.f
  clear hy z6 z11 z44 z45 z46 z47 zL zk
  refine PT.ret ?_
  refine PT.ieq (fun h => by omega) (fun _ => ?_)
  refine PT.grd (fun _ => ?_)
  rw [n61]
  have g61 : ((stI τ 37 m c).1 0 61) = τ.1 0 61 := rfl
  have g57 : ((stI τ 37 m c).1 0 57) = τ.1 0 57 := rfl
  rw [g61, g57, n61]
  refine PT.grd (fun _ => ?_)
  refine PT.lt (fun w hw => ?_)
  have w61 : w.1 0 61 = τ.1 0 61 := by rw [hw]; rfl
  have w57 : w.1 0 57 = τ.1 0 57 := by rw [hw]; rfl
  have w37 : w.1 37 = upd (τ.1 37) m c := by rw [hw]; rfl
  have w38 : w.1 38 = upd (τ.1 38) m (τ.1 0 57) := by rw [hw]; rfl
  have w39 : w.1 39 = τ.1 39 := by rw [hw]; rfl
  have w36 : w.1 36 = τ.1 36 := by rw [hw]; rfl
  have w40 : w.1 40 = τ.1 40 := by rw [hw]; rfl
  have wc : CH LC LI τ w := by rw [hw]; exact (CH.rf.i (by decide) (by decide)).i (by decide) (by decide)
  clear hw
  refine (bq_misses_35 m N (by omega) (by omega) FU 0 0 w l0 (by omega) (by rw [w61]; exact em) (by rw [w57]; exact eN)).mono (fun t ht => ?_)
  obtain ⟨t1, t2, t3, t4⟩ := ht
  have t57 : t.1 0 57 = τ.1 0 57 := by rw [t2.2.1 57 (by decide), w57]
  have t37 := t2.1 37 (by decide) (by decide)
  have t38 := t2.1 38 (by decide) (by decide)
  have t36 := t2.1 36 (by decide) (by decide)
  have t40 := t2.1 40 (by decide) (by decide)
  rw [w37] at t37
  rw [w38] at t38
  rw [w36] at t36 t3
  rw [w40] at t40
  rw [w39] at t4
  have e6 := il_addE (x := σ.1 41 6) (y := 1) (by omega) (by omega)
  refine ⟨yk.i (by omega), wc.trans (t2.mono (by decide) (by decide)), ⟨⟨?_, by omega, fun i hi => ?_⟩, fun h9 => ⟨?_, by rw [t57]; exact a0, fun k hk => ?_, fun k hk => ?_⟩⟩, fun h9 => ⟨hn, t57, fun k hk => by rw [← t40]; exact hk⟩⟩
  · show (y.1 41 6 + 1).toInt = _
    rw [y6]
    omega
  · show y.1 44 i = t.1 37 i ∧ y.1 45 i = t.1 38 i ∧ _ ∧ ∀ k : Nat, _ → y.1 46 (32 * i + k) = t.1 39 (256 * i + k)
    rw [y44, y45, y46, t37, t38]
    by_cases e : i = m
    · subst e
      rw [upd_at, upd_at, upd_at, upd_at]
      refine ⟨rfl, Int32.toInt_inj.mp a1, ⟨a0, hb⟩, fun k hk => ?_⟩
      rw [t3 k (by omega) (by omega), ← a2 k hk]
      unfold va_cpy
      have ek : 0 + (32 * i + k - 32 * i) = k := by omega
      rw [if_pos ⟨by omega, by omega⟩, ek]
    · rw [upd_no e, upd_no e, upd_no e, upd_no e]
      obtain ⟨b1, b2, b3, b4⟩ := m4 i (by omega)
      refine ⟨b1, b2, b3, fun k hk => ?_⟩
      rw [t4 _ (by omega), ← b4 k hk]
      unfold va_cpy
      rw [if_neg (by omega)]
  · show (y.1 41 11).toInt = _
    rw [y11, t57]
    exact a1
  · show y.1 47 k = _
    rw [y47, t36]
    rw [t57] at hk
    exact a2 k hk
  · show lbt (y.2.1 41 12) k = true ↔ _
    rw [yL, t40]
    exact a3 k hk
