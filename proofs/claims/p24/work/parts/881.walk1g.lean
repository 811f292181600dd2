/-! both walks: one step in, one out, one miss -/
def KWK (σ s : ST) : Prop := (∀ c, c ∉ [41, 44, 45, 46, 47] → s.1 c = σ.1 c) ∧ (∀ i, i ∉ [6, 11] → s.1 41 i = σ.1 41 i) ∧ s.2.2 = σ.2.2 ∧ (∀ c, c ≠ 41 → s.2.1 c = σ.2.1 c) ∧ ∀ i, i ≠ 12 → s.2.1 41 i = σ.2.1 41 i
theorem KWK.rf {σ : ST} : KWK σ σ := ⟨fun _ _ => rfl, fun _ _ => rfl, rfl, fun _ _ => rfl, fun _ _ => rfl⟩
theorem KWK.trans {a b c : ST} (h : KWK a b) (k : KWK b c) : KWK a c := ⟨fun d hd => (k.1 d hd).trans (h.1 d hd), fun i hi => (k.2.1 i hi).trans (h.2.1 i hi), k.2.2.1.trans h.2.2.1, fun d hd => (k.2.2.2.1 d hd).trans (h.2.2.2.1 d hd), fun i hi => (k.2.2.2.2 i hi).trans (h.2.2.2.2 i hi)⟩
theorem KWK.i {σ s : ST} {c i : Nat} {v : Int32} (h : KWK σ s) (hc : c = 44 ∨ c = 45 ∨ c = 46 ∨ c = 47 ∨ c = 41 ∧ (i = 6 ∨ i = 11)) : KWK σ (stI s c i v) := by
  refine h.trans ⟨fun d hd => stI_ne (fun e => hd ?_), fun j hj => ?_, rfl, fun _ _ => rfl, fun _ _ => rfl⟩
  · simp only [List.mem_cons, List.not_mem_nil, or_false]
    omega
  · by_cases e : c = 41
    · subst e
      show upd (s.1 41) i v j = _
      refine upd_no (fun e2 => hj ?_)
      simp only [List.mem_cons, List.not_mem_nil, or_false]
      omega
    · rw [stI_ne (fun e2 => e e2.symm)]
theorem KWK.f {σ s : ST} {f : Nat → Int32} (h : KWK σ s) : KWK σ (stF s 46 f) := by
  refine h.trans ⟨fun d hd => ?_, fun j _ => rfl, rfl, fun _ _ => rfl, fun _ _ => rfl⟩
  rw [stF_ne5 (fun e => hd (by rw [e]; decide))]
theorem KWK.l {σ s : ST} {v : Int64} (h : KWK σ s) : KWK σ (stL s 41 12 v) := by
  refine h.trans ⟨fun _ _ => rfl, fun _ _ => rfl, rfl, fun c hc => stL_ne hc, fun i hi => ?_⟩
  show vp_updL (s.2.1 41) 12 v i = _
  rw [updL_no hi]
theorem KWK.kta {σ s : ST} (h : KWK σ s) : KTA σ s := fun c h1 h2 => ⟨h.1 c (fun e => by
  simp only [List.mem_cons, List.not_mem_nil, or_false] at e
  omega), h.2.2.2.1 c (by omega)⟩
/-- the misses told so far are the same -/
def LMX (σ τ : ST) : Prop := (σ.1 41 6).toInt = (τ.1 0 61).toInt ∧ (0 ≤ (τ.1 0 61).toInt ∧ (τ.1 0 61).toInt ≤ 20) ∧ ∀ i : Nat, (i : Int) < (τ.1 0 61).toInt → σ.1 44 i = τ.1 37 i ∧ σ.1 45 i = τ.1 38 i ∧ (0 ≤ (τ.1 38 i).toInt ∧ (τ.1 38 i).toInt ≤ 32) ∧ ∀ k : Nat, (k : Int) < (τ.1 38 i).toInt → σ.1 46 (32 * i + k) = τ.1 39 (256 * i + k)
/-- and the way to where both are -/
def LLX (σ τ : ST) : Prop := (σ.1 41 11).toInt = (τ.1 0 57).toInt ∧ 0 ≤ (τ.1 0 57).toInt ∧ (∀ k : Nat, (k : Int) < (τ.1 0 57).toInt → σ.1 47 k = τ.1 36 k) ∧ ∀ k : Nat, k < 36 → (lbt (σ.2.1 41 12) k = true ↔ ¬ τ.1 40 k = 0)
def XW (σ τ : ST) : Prop := LMX σ τ ∧ ((τ.1 0 61).toInt < 20 → LLX σ τ)
/-- both a step further in -/
def EW (σ τ s t : ST) : Prop := KWK σ s ∧ CH LC LI τ t ∧ XW s t ∧ t.1 0 61 = τ.1 0 61 ∧ t.1 40 = τ.1 40 ∧ ((τ.1 0 61).toInt < 20 → (t.1 0 57).toInt = (τ.1 0 57).toInt + 1)
/-- both where they were -/
def PWX (σ τ s t : ST) : Prop := KWK σ s ∧ CH LC LI τ t ∧ XW s t ∧ ((t.1 0 61).toInt < 20 → (τ.1 0 61).toInt < 20 ∧ t.1 0 57 = τ.1 0 57 ∧ ∀ k, t.1 40 k = 0 → τ.1 40 k = 0)
theorem PWX.rf {σ τ : ST} (h : XW σ τ) : PWX σ τ σ τ := ⟨KWK.rf, CH.rf, h, fun h => ⟨h, rfl, fun _ h => h⟩⟩
theorem PWX.trans {σ τ a b s t : ST} (h : PWX σ τ a b) (k : PWX a b s t) : PWX σ τ s t := ⟨h.1.trans k.1, h.2.1.trans k.2.1, k.2.2.1, fun h9 => by
  obtain ⟨x1, x2, x3⟩ := k.2.2.2 h9
  obtain ⟨y1, y2, y3⟩ := h.2.2.2 x1
  exact ⟨y1, x2.trans y2, fun j hj => y3 j (x3 j hj)⟩⟩
theorem xw_step (c : Int32) {σ τ : ST} (h : XW σ τ) (hb : (τ.1 0 61).toInt < 20 → (τ.1 0 57).toInt < 32) : PT (f_X0_step c σ) (fun s => PT (f_X11_enters c τ) (fun t => EW σ τ s t)) := by
  unfold f_X0_step f_X0_step_26 f_X11_enters
  have l0 := li_0
  have l1 := li_1
  have l32 := li_32
  refine PT.sw ?_
  refine PT.grd (fun hg => ?_)
  refine PT.lt (fun z hz => ?_)
  refine PT.ret ?_
  have e57 := il_addE (x := τ.1 0 57) (y := 1) (by omega) (by omega)
  have z57 : z.1 0 57 = τ.1 0 57 + 1 := by rw [hz]; rfl
  have z61 : z.1 0 61 = τ.1 0 61 := by rw [hz]; rfl
  have z40 : z.1 40 = τ.1 40 := by rw [hz]; rfl
  have z36 : z.1 36 = upd (τ.1 36) (τ.1 0 57).toNatClampNeg c := by rw [hz]; rfl
  have zc : CH LC LI τ z := by
    rw [hz]
    exact (CH.rf.i (by decide) (by decide)).o (by decide)
  have zm : z.1 37 = τ.1 37 ∧ z.1 38 = τ.1 38 ∧ z.1 39 = τ.1 39 := by rw [hz]; exact ⟨rfl, rfl, rfl⟩
  clear hz
  have lmx : ∀ s : ST, (∀ d, d ∈ [44, 45, 46] → s.1 d = σ.1 d) → s.1 41 6 = σ.1 41 6 → LMX s z := fun s hs h6 => by
    unfold LMX
    rw [h6, z61, zm.1, zm.2.1, zm.2.2, hs 44 (by decide), hs 45 (by decide), hs 46 (by decide)]
    exact h.1
  have dead : ∀ s : ST, KWK σ s → (∀ d, d ∈ [44, 45, 46] → s.1 d = σ.1 d) → s.1 41 6 = σ.1 41 6 → ¬ (τ.1 0 61).toInt < 20 → EW σ τ s z := fun s hk hs h6 hn => ⟨hk, zc, ⟨lmx s hs h6, fun h9 => by rw [z61] at h9; exact absurd h9 hn⟩, z61, z40, fun h9 => absurd h9 hn⟩
  refine PT.ilt (fun h1 => PT.ret (dead _ (KWK.rf.i (by omega)) (fun d hd => stI_ne (fun e => by rw [e] at hd; revert hd; decide)) rfl (fun h9 => ?_))) (fun h1 => ?_)
  · have := (h.2 h9)
    have := this.1
    omega
  refine PT.ile (fun h2 => PT.ret (dead _ (KWK.rf.i (by omega)) (fun d hd => stI_ne (fun e => by rw [e] at hd; revert hd; decide)) rfl (fun h9 => ?_))) (fun h2 => ?_)
  · have := (h.2 h9).1
    have := hb h9
    omega
  refine PT.grd (fun h3 => ?_)
  refine PT.ret ?_
  by_cases hn : (τ.1 0 61).toInt < 20
  rotate_left
  · refine dead _ ((KWK.rf.i (by omega)).i (by omega)) (fun d hd => ?_) rfl hn
    have : d = 44 ∨ d = 45 ∨ d = 46 := by simpa using hd
    rw [stI_ne (by omega), stI_ne (by omega)]
  obtain ⟨a1, a0, a2, a3⟩ := h.2 hn
  have e11 := il_addE (x := σ.1 41 11) (y := 1) (by omega) (by omega)
  have e11' : (stI σ 47 (σ.1 41 11).toNatClampNeg c).1 41 11 = σ.1 41 11 := rfl
  refine ⟨(KWK.rf.i (by omega)).i (by omega), zc, ⟨lmx _ (fun d hd => ?_) rfl, fun _ => ⟨?_, by rw [z57]; omega, fun k hk => ?_, fun k hk => ?_⟩⟩, z61, z40, fun _ => by rw [z57]; exact e57⟩
  · have : d = 44 ∨ d = 45 ∨ d = 46 := by simpa using hd
    rw [stI_ne (by omega), stI_ne (by omega)]
  · rw [z57, e57]
    show ((stI σ 47 (σ.1 41 11).toNatClampNeg c).1 41 11 + 1).toInt = _
    rw [e11', e11]
    omega
  · rw [z36]
    show upd (σ.1 47) (σ.1 41 11).toNatClampNeg c k = _
    have en : (σ.1 41 11).toNatClampNeg = (τ.1 0 57).toNatClampNeg := by
      have n1 := nN_ h3.1
      have n2 := nN_ a0
      omega
    rw [en]
    by_cases e : k = (τ.1 0 57).toNatClampNeg
    · rw [e, upd_at, upd_at]
    · rw [upd_no e, upd_no e]
      have n2 := nN_ a0
      rw [z57] at hk
      exact a2 k (by omega)
  · rw [z40]
    exact a3 k hk
theorem xw_leave {σ τ a b s t : ST} (h0 : XW σ τ) (h : EW σ τ a b) (k : PWX a b s t) : PWX σ τ (stI s 41 11 (s.1 41 11 - 1)) (stI t 0 57 (t.1 0 57 - 1)) := by
  obtain ⟨e1, e2, e3, e4, e5, e6⟩ := h
  obtain ⟨k1, k2, k3, k4⟩ := k
  have l1 := li_1
  have hm : LMX (stI s 41 11 (s.1 41 11 - 1)) (stI t 0 57 (t.1 0 57 - 1)) := k3.1
  refine ⟨(e1.trans k1).i (by omega), (e2.trans k2).o (by decide), ⟨hm, fun h9 => ?_⟩, fun h9 => ?_⟩
  · have h9 : (t.1 0 61).toInt < 20 := h9
    obtain ⟨x1, x2, x3⟩ := k4 h9
    rw [e4] at x1
    obtain ⟨a1, a0, a2, a3⟩ := k3.2 h9
    have y6 := e6 x1
    have y0 := (h0.2 x1).2.1
    rw [x2] at a1 a2
    have r1 := i_rng (b.1 0 57)
    have r2 := i_rng (s.1 41 11)
    have s1 := il_subE (x := s.1 41 11) (y := 1) (by omega) (by omega)
    have s2 := il_subE (x := t.1 0 57) (y := 1) (by rw [x2]; omega) (by rw [x2]; omega)
    rw [x2] at s2
    refine ⟨?_, ?_, fun k hk => ?_, a3⟩
    · show (s.1 41 11 - 1).toInt = (t.1 0 57 - 1).toInt
      rw [x2]
      omega
    · show 0 ≤ (t.1 0 57 - 1).toInt
      rw [x2]
      omega
    · have hk : (k : Int) < (t.1 0 57 - 1).toInt := hk
      rw [x2] at hk
      exact a2 k (by omega)
  · have h9 : (t.1 0 61).toInt < 20 := h9
    obtain ⟨x1, x2, x3⟩ := k4 h9
    rw [e4] at x1
    have y6 := e6 x1
    have y0 := (h0.2 x1).2.1
    refine ⟨x1, ?_, fun j hj => ?_⟩
    · show t.1 0 57 - 1 = _
      rw [x2]
      have r1 := i_rng (b.1 0 57)
      have s2 := il_subE (x := b.1 0 57) (y := 1) (by omega) (by omega)
      exact Int32.toInt_inj.mp (by omega)
    · have := x3 j hj
      rw [e5] at this
      exact this
theorem bq_misses_35 (m N : Nat) (hm : m < 20) (hN : N ≤ 32) : ∀ (n k : Nat) (x2 : Int32) (σ : ST), x2.toInt = k → k ≤ N → (σ.1 0 61).toInt = m → (σ.1 0 57).toInt = N → PT (f_X11_misses_35 n x2 σ) (fun t => (t.1 0 61).toInt = (m : Int) + 1 ∧ CH [39] [61] σ t ∧ (∀ i, k ≤ i → i < N → t.1 39 (256 * m + i) = σ.1 36 i) ∧ ∀ i, i < 256 * m + k → t.1 39 i = σ.1 39 i) := by
  intro n
  have l1 := li_1
  induction n with
  | zero => intro k x2 σ _ _ _ _; exact PT.none
  | succ n ih =>
    intro k x2 σ h2 hk h61 h57
    rw [f_X11_misses_35]
    have e1 := il_addE (x := σ.1 0 61) (y := 1) (by omega) (by omega)
    have e2 := il_addE (x := x2) (y := 1) (by omega) (by omega)
    have e3 := mlE (k := 256) (y := σ.1 0 61) 256 li_256 (by omega) (by omega)
    have e4 := il_addE (x := 256 * σ.1 0 61) (y := x2) (by omega) (by omega)
    have n4 : (256 * σ.1 0 61 + x2).toNatClampNeg = 256 * m + k := nC (by omega)
    have nk : x2.toNatClampNeg = k := nC h2
    refine PT.ile (fun h => PT.ret ⟨?_, CH.rf.o (by decide), fun i h1 h2 => by omega, fun i hi => rfl⟩) (fun h => ?_)
    · show (σ.1 0 61 + 1).toInt = _
      omega
    refine PT.grd (fun _ => ?_)
    refine PT.grd (fun _ => ?_)
    rw [n4, nk]
    refine (ih (k + 1) (x2 + 1) (stI σ 39 (256 * m + k) (σ.1 36 k)) (by omega) (by omega) h61 h57).mono (fun t ht => ?_)
    obtain ⟨t1, t2, t3, t4⟩ := ht
    refine ⟨t1, (CH.rf.i (by decide) (by decide)).trans t2, fun i h1 h2 => ?_, fun i hi => ?_⟩
    · by_cases e : i = k
      · subst e
        rw [t4 _ (by omega)]
        show upd (σ.1 39) (256 * m + i) (σ.1 36 i) (256 * m + i) = _
        rw [upd_at]
      · exact t3 i (by omega) h2
    · rw [t4 i (by omega)]
      show upd (σ.1 39) (256 * m + k) (σ.1 36 k) i = _
      rw [upd_no (by omega)]
theorem xw_miss (c : Int32) {σ τ : ST} (h : XW σ τ) (hb : (τ.1 0 61).toInt < 20 → (τ.1 0 57).toInt ≤ 32) : PT (f_X0_addMiss c σ) (fun s => PT (f_X11_misses c τ) (fun t => PWX σ τ s t)) := by
  unfold f_X0_addMiss f_X11_misses
  have l0 := li_0
  have l1 := li_1
  have l20 := li_20
  have l32 := li_32
  obtain ⟨⟨m1, ⟨m2, m3⟩, m4⟩, hL⟩ := h
  by_cases hn : (τ.1 0 61).toInt < 20
  rotate_left
  · refine PT.ilt (fun h => by omega) (fun _ => ?_)
    refine PT.ile (fun _ => ?_) (fun h => by omega)
    refine PT.ret ?_
    refine PT.ieq (fun _ => PT.ret (PWX.rf ⟨⟨m1, ⟨m2, m3⟩, m4⟩, hL⟩)) (fun h => by omega)
  obtain ⟨a1, a0, a2, a3⟩ := hL hn
  have hb := hb hn
  refine PT.ilt (fun h => by omega) (fun _ => ?_)
  refine PT.ile (fun h => by omega) (fun _ => ?_)
  refine PT.ilt (fun h => by omega) (fun _ => ?_)
  refine PT.ile (fun _ => ?_) (fun h => by omega)
  obtain ⟨m, em⟩ : ∃ m : Nat, (τ.1 0 61).toInt = m := ⟨_, (Int.toNat_of_nonneg m2).symm⟩
  obtain ⟨N, eN⟩ : ∃ N : Nat, (τ.1 0 57).toInt = N := ⟨_, (Int.toNat_of_nonneg a0).symm⟩
  have n6 : (σ.1 41 6).toNatClampNeg = m := nC (by omega)
  have n11 : (σ.1 41 11).toNatClampNeg = N := nC (by omega)
  have n61 : (τ.1 0 61).toNatClampNeg = m := nC em
  refine PT.grd (fun _ => ?_)
  rw [n6]
  have f6 : ((stI σ 44 m c).1 41 6) = σ.1 41 6 := rfl
  have f11 : ((stI σ 44 m c).1 41 11) = σ.1 41 11 := rfl
  rw [f6, f11, n6]
  refine PT.grd (fun _ => ?_)
  refine PT.lt (fun z hz => ?_)
  have z6 : z.1 41 6 = σ.1 41 6 := by rw [hz]; rfl
  have z11 : z.1 41 11 = σ.1 41 11 := by rw [hz]; rfl
  have z44 : z.1 44 = upd (σ.1 44) m c := by rw [hz]; rfl
  have z45 : z.1 45 = upd (σ.1 45) m (σ.1 41 11) := by rw [hz]; rfl
  have z46 : z.1 46 = σ.1 46 := by rw [hz]; rfl
  have z47 : z.1 47 = σ.1 47 := by rw [hz]; rfl
  have zL : z.2.1 = σ.2.1 := by rw [hz]; rfl
  have zk : KWK σ z := by
    rw [hz]
    exact (KWK.rf.i (by omega)).i (by omega)
  clear hz
  rw [z6, z11, z46, z47, n11]
  have e32 : (σ.1 41 6 * 32).toInt = 32 * (σ.1 41 6).toInt := by
    rw [Int32.mul_comm]
    exact mlE (k := 32) (y := σ.1 41 6) 32 l32 (by omega) (by omega)
  have n32 : (σ.1 41 6 * 32).toNatClampNeg = 32 * m := nC (by omega)
  have n00 : (0 : Int32).toNatClampNeg = 0 := rfl
  rw [n32, n00]
  refine PT.grd (fun _ => ?_)
  refine PT.lt (fun y hy => ?_)
  have y6 : y.1 41 6 = σ.1 41 6 := by rw [hy]; exact z6
  have y11 : y.1 41 11 = σ.1 41 11 := by rw [hy]; exact z11
  have y44 : y.1 44 = upd (σ.1 44) m c := by rw [hy]; exact z44
  have y45 : y.1 45 = upd (σ.1 45) m (σ.1 41 11) := by rw [hy]; exact z45
  have y46 : y.1 46 = va_cpy (σ.1 47) (σ.1 46) 0 (32 * m) N := by rw [hy]; rfl
  have y47 : y.1 47 = σ.1 47 := by rw [hy]; exact z47
  have yL : y.2.1 = σ.2.1 := by rw [hy]; exact zL
  have yk : KWK σ y := by
    rw [hy]
    exact zk.f
  clear hy z6 z11 z44 z45 z46 z47 zL zk
  refine PT.ret ?_
  refine PT.ieq (fun h => by omega) (fun _ => ?_)
  refine PT.grd (fun _ => ?_)
  rw [n61]
  have g61 : ((stI τ 37 m c).1 0 61) = τ.1 0 61 := rfl
  have g57 : ((stI τ 37 m c).1 0 57) = τ.1 0 57 := rfl
  rw [g61, g57, n61]
  refine PT.grd (fun _ => ?_)
  refine PT.lt (fun w hw => ?_)
  have w61 : w.1 0 61 = τ.1 0 61 := by rw [hw]; rfl
  have w57 : w.1 0 57 = τ.1 0 57 := by rw [hw]; rfl
  have w37 : w.1 37 = upd (τ.1 37) m c := by rw [hw]; rfl
  have w38 : w.1 38 = upd (τ.1 38) m (τ.1 0 57) := by rw [hw]; rfl
  have w39 : w.1 39 = τ.1 39 := by rw [hw]; rfl
  have w36 : w.1 36 = τ.1 36 := by rw [hw]; rfl
  have w40 : w.1 40 = τ.1 40 := by rw [hw]; rfl
  have wc : CH LC LI τ w := by rw [hw]; exact (CH.rf.i (by decide) (by decide)).i (by decide) (by decide)
  clear hw
  refine (bq_misses_35 m N (by omega) (by omega) FU 0 0 w l0 (by omega) (by rw [w61]; exact em) (by rw [w57]; exact eN)).mono (fun t ht => ?_)
  obtain ⟨t1, t2, t3, t4⟩ := ht
  have t57 : t.1 0 57 = τ.1 0 57 := by rw [t2.2.1 57 (by decide), w57]
  have t37 := t2.1 37 (by decide) (by decide)
  have t38 := t2.1 38 (by decide) (by decide)
  have t36 := t2.1 36 (by decide) (by decide)
  have t40 := t2.1 40 (by decide) (by decide)
  rw [w37] at t37
  rw [w38] at t38
  rw [w36] at t36 t3
  rw [w40] at t40
  rw [w39] at t4
  have e6 := il_addE (x := σ.1 41 6) (y := 1) (by omega) (by omega)
  refine ⟨yk.i (by omega), wc.trans (t2.mono (by decide) (by decide)), ⟨⟨?_, by omega, fun i hi => ?_⟩, fun h9 => ⟨?_, by rw [t57]; exact a0, fun k hk => ?_, fun k hk => ?_⟩⟩, fun h9 => ⟨hn, t57, fun k hk => by rw [← t40]; exact hk⟩⟩
  · show (y.1 41 6 + 1).toInt = _
    rw [y6]
    omega
  · show y.1 44 i = t.1 37 i ∧ y.1 45 i = t.1 38 i ∧ _ ∧ ∀ k : Nat, _ → y.1 46 (32 * i + k) = t.1 39 (256 * i + k)
    rw [y44, y45, y46, t37, t38]
    by_cases e : i = m
    · subst e
      rw [upd_at, upd_at, upd_at, upd_at]
      refine ⟨rfl, Int32.toInt_inj.mp a1, ⟨a0, hb⟩, fun k hk => ?_⟩
      rw [t3 k (by omega) (by omega), ← a2 k hk]
      unfold va_cpy
      have ek : 0 + (32 * i + k - 32 * i) = k := by omega
      rw [if_pos ⟨by omega, by omega⟩, ek]
    · rw [upd_no e, upd_no e, upd_no e, upd_no e]
      obtain ⟨b1, b2, b3, b4⟩ := m4 i (by omega)
      refine ⟨b1, b2, b3, fun k hk => ?_⟩
      rw [t4 _ (by omega), ← b4 k hk]
      unfold va_cpy
      rw [if_neg (by omega)]
  · show (y.1 41 11).toInt = _
    rw [y11, t57]
    exact a1
  · show y.1 47 k = _
    rw [y47, t36]
    rw [t57] at hk
    exact a2 k hk
  · show lbt (y.2.1 41 12) k = true ↔ _
    rw [yL, t40]
    exact a3 k hk
/-! the reference's choice, exactly; what both walks need -/
theorem bz_chosen_5 {rc rm : Int32 → Int32 → ST → Option (Int32 × ST)} (w r : Int32) (σ : ST) (m : Nat) (hm : m ≤ 4) (hw : 0 ≤ w.toInt ∧ w.toInt < 800) (hr : 0 ≤ r.toInt ∧ r.toInt < 800) (hM : (σ.1 4 r.toNatClampNeg).toInt = m) (hv : ∀ k : Nat, k < m → (0 ≤ (σ.1 5 (4 * r.toNatClampNeg + k)).toInt ∧ (σ.1 5 (4 * r.toNatClampNeg + k)).toInt < 800) ∧ OK (rm w (σ.1 5 (4 * r.toNatClampNeg + k)) σ) (RO σ fun v => v.toInt = 0 ∧ ¬ MS σ w (σ.1 5 (4 * r.toNatClampNeg + k)) ∨ v.toInt = 1 ∧ MS σ w (σ.1 5 (4 * r.toNatClampNeg + k)))) : ∀ (n k : Nat) (x3 x4 : Int32), x4.toInt = k → k ≤ m → m < n + k → CHI k (fun k => MS σ w (σ.1 5 (4 * r.toNatClampNeg + k))) (fun k => (σ.1 2 (σ.1 5 (4 * r.toNatClampNeg + k)).toNatClampNeg).toInt = (σ.1 2 w.toNatClampNeg).toInt) (fun k => (k : Int)) x3.toInt → OK (f_X11_chosen_5 rc rm n w r x3 x4 σ) (RO σ fun z => CHR m (fun k => MS σ w (σ.1 5 (4 * r.toNatClampNeg + k))) (fun k => (σ.1 2 (σ.1 5 (4 * r.toNatClampNeg + k)).toNatClampNeg).toInt = (σ.1 2 w.toNatClampNeg).toInt) (fun k => (k : Int)) z.toInt) := by
  intro n
  have l0 := li_0
  have l1 := li_1
  have l4 := li_4
  induction n with
  | zero => intro k x3 x4 h1 h2 h3; omega
  | succ n ih =>
    intro k x3 x4 h4 hk hn hI
    rw [f_X11_chosen_5]
    unfold f_X11_chosen_68 f_X11_chosen_69
    have n1 := nN_ hr.1
    have e1 := mlE (k := 4) (y := r) 4 li_4 (by omega) (by omega)
    have e2 := il_addE (x := 4 * r) (y := x4) (by omega) (by omega)
    have e3 := il_addE (x := x4) (y := 1) (by omega) (by omega)
    have e4 : (4 * r + x4).toNatClampNeg = 4 * r.toNatClampNeg + k := nC (by omega)
    refine OK.grd hr ?_
    refine OK.ile (fun h => ?_) (fun h => ?_)
    · have e : k = m := by omega
      subst e
      exact OK.roret hI.fin
    obtain ⟨v1, v2⟩ := hv k (by omega)
    refine OK.grd ⟨by omega, by omega⟩ ?_
    rw [e4]
    refine OK.bndR v2 (fun u hu => ?_)
    dsimp only
    refine OK.ieq (fun hu0 => ?_) (fun hu0 => ?_)
    · refine ih (k + 1) x3 (x4 + 1) (by omega) (by omega) (by omega) (hI.miss ?_)
      rcases hu with hu | hu
      · exact hu.2
      · omega
    have hmt : MS σ w (σ.1 5 (4 * r.toNatClampNeg + k)) := by
      rcases hu with hu | hu
      · omega
      · exact hu.2
    refine OK.grd v1 ?_
    refine OK.grd hw ?_
    refine OK.ieq (fun he => OK.roret (hI.hit (by omega) hmt he h4)) (fun he => ?_)
    have x3v : x3.toInt = -1 ∨ 0 ≤ x3.toInt := by
      rcases hI.2 with h | ⟨i, _, h, _⟩
      · exact .inl h.1
      · have h : x3.toInt = (i : Int) := h
        omega
    refine OK.ile (fun h0 => ?_) (fun h0 => ?_)
    · exact ih (k + 1) x3 (x4 + 1) (by omega) (by omega) (by omega) (hI.take hmt he (fun i _ => by omega) (fun h => by omega) (fun _ => rfl))
    · exact ih (k + 1) x4 (x4 + 1) (by omega) (by omega) (by omega) (hI.take hmt he (fun i _ => by omega) (fun _ => h4) (fun h => by omega))
theorem bz_chosen (w r : Int32) (σ : ST) {a b : Int} {d e : Nat} (ha : a ≤ 6) (hb : b ≤ 6) (hP : PB σ) (hw : VS σ a d w) (hr : VS σ b e r) (hd : d ≤ 8) (he : e ≤ 8) (hs : (σ.1 2 r.toNatClampNeg).toInt = 8) : OK (f_T_X11_chosen w r σ) (RO σ fun z => CHR (σ.1 4 r.toNatClampNeg).toInt.toNat (fun k => MS σ w (σ.1 5 (4 * r.toNatClampNeg + k))) (fun k => (σ.1 2 (σ.1 5 (4 * r.toNatClampNeg + k)).toNatClampNeg).toInt = (σ.1 2 w.toNatClampNeg).toInt) (fun k => (k : Int)) z.toInt) := by
  obtain ⟨g1, g2, g3, g4⟩ := hr.eit hs
  obtain ⟨m, hm⟩ : ∃ m : Nat, (σ.1 4 r.toNatClampNeg).toInt = m := ⟨_, (Int.toNat_of_nonneg (by omega)).symm⟩
  have em : (σ.1 4 r.toNatClampNeg).toInt.toNat = m := by omega
  have lu := FUi
  rw [em]
  show OK (f_X11_chosen_5 (R_X11_chosen 339).1 (R_X11_chosen 339).2 FU w r (-1) 0 σ) _
  refine bz_chosen_5 w r σ m (by omega) hw.rng hr.rng hm (fun k hk => ⟨(g3 k (by omega)).1.rng, ?_⟩) FU 0 (-1) 0 li_0 (by omega) (by omega) (by rw [li_m1]; exact CHI.zero)
  exact (b_RM 339).2 w _ σ a b d (e - 1) ha hb hP hw (g3 k (by omega)).1 (by omega)
theorem TYR.vt {n : Int} {SA IA NA SB AB MB BB : Nat → Int32} {p : Nat} {rm : Int} : ∀ (d : Nat) (x y : Int32), TYR n SA IA NA SB AB MB BB p rm d x y → VT 400 SB AB MB BB rm d y := by
  intro d
  induction d with
  | zero => intro x y h; exact h.elim
  | succ d ih =>
    intro x y h
    obtain ⟨⟨h1, h2⟩, h3, h4, h5, h6, h7, h8⟩ := h
    refine ⟨h2, h4, fun e => ih _ _ (h5 e), fun e => (h6 e).1, fun e => ?_⟩
    obtain ⟨u1, u2, u3, u4⟩ := h8 e
    exact ⟨u1, fun k hk => ⟨ih _ _ (u2 k hk).1, (u2 k hk).2⟩, u4⟩
theorem TY.vs {p d : Nat} {rm : Int} {σ τ : ST} {x u : Int32} (h : TY p rm σ τ d x u) : VS τ rm d u := (TYR.vt d x u h).wk (by decide)
theorem TY.to {p d : Nat} {rm : Int} {σ τ s t : ST} {C I : List Nat} {x u : Int32} (h : TY p rm σ τ d x u) (k : KTA σ s) (c : CH C I τ t) (hC : ∀ c, c ∈ [2, 3, 4, 5] → c ∉ C) : TY p rm s t d x u := by
  unfold TY
  rw [(k 4 (by omega) (by omega)).1, (k 15 (by omega) (by omega)).1, (k 16 (by omega) (by omega)).1, (k 17 (by omega) (by omega)).1, c.1 2 (by decide) (hC 2 (by decide)), c.1 3 (by decide) (hC 3 (by decide)), c.1 4 (by decide) (hC 4 (by decide)), c.1 5 (by decide) (hC 5 (by decide))]
  exact h
/-- a pair that may yet be gone into -/
abbrev CAN (τ : ST) (k : Nat) : Prop := τ.1 40 k = 0 ∧ (((k / 6 : Nat) : Int) < rmW τ ∧ ((k % 6 : Nat) : Int) < rmR τ) ∧ (((Int32.ofNat (k / 6)).toInt = 0 ∧ (Int32.ofNat (k % 6)).toInt = 0) ∨ τ.2.1 9 (6 * (τ.1 0 53).toNatClampNeg + (Int32.ofNat (k / 6)).toNatClampNeg) = τ.2.1 9 (6 * (τ.1 0 54).toNatClampNeg + (Int32.ofNat (k % 6)).toNatClampNeg))
def uP (τ : ST) : Nat := cntZ (CAN τ) 36
theorem CAN.back {τ t : ST} {k : Nat} (c : CH LC LI τ t) (h : CAN t k) (h40 : τ.1 40 k = 0) : CAN τ k := by
  obtain ⟨h1, ⟨h2, h3⟩, h4⟩ := h
  obtain ⟨e1, e2⟩ := rm_ch c (by decide) (by decide) (by decide)
  rw [e1] at h2
  rw [e2] at h3
  exact ⟨h40, ⟨h2, h3⟩, NYS.tr (σ := t) (t := τ) (w := Int32.ofNat (k / 6)) (r := Int32.ofNat (k % 6)) h4 c.symm (by decide) (by decide)⟩
theorem uP_le {τ t : ST} (c : CH LC LI τ t) (h : ∀ k, t.1 40 k = 0 → τ.1 40 k = 0) : uP t ≤ uP τ := cntZ_mono (p := CAN t) (q := CAN τ) (fun k hk => hk.back c (h k hk.1)) 36
theorem uP_lt {τ t : ST} (c : CH LC LI τ t) (h : ∀ k, t.1 40 k = 0 → τ.1 40 k = 0) {k : Nat} (hk : k < 36) (h1 : ¬ t.1 40 k = 0) (h2 : CAN τ k) : uP t + 1 ≤ uP τ := cntZ_lt (p := CAN t) (q := CAN τ) (fun k hk => hk.back c (h k hk.1)) (c := k) (fun h9 => h1 h9.1) h2 36 hk
/-- how far both have gone, if it matters -/
def LVB (lev : Int32) (τ : ST) (n : Nat) : Prop := (τ.1 0 61).toInt < 20 → lev.toInt = (τ.1 0 57).toInt ∧ (τ.1 0 57).toInt + n + 4 * (uP τ : Int) ≤ 29
theorem LVB.to {lev : Int32} {n : Nat} {σ τ s t : ST} (h : LVB lev τ n) (k : PWX σ τ s t) : LVB lev t n := fun h9 => by
  obtain ⟨x1, x2, x3⟩ := k.2.2.2 h9
  obtain ⟨y1, y2⟩ := h x1
  have := uP_le k.2.1 x3
  rw [x2]
  exact ⟨y1, by omega⟩
theorem LVB.inn {lev l' : Int32} {n m : Nat} {σ τ s t : ST} (h : LVB lev τ n) (k : EW σ τ s t) (hn : m + 1 ≤ n) (hl : l' = lev + 1) (h0 : (τ.1 0 61).toInt < 20 → 0 ≤ (τ.1 0 57).toInt) : LVB l' t m := fun h9 => by
  obtain ⟨e1, e2, e3, e4, e5, e6⟩ := k
  rw [e4] at h9
  obtain ⟨y1, y2⟩ := h h9
  have y6 := e6 h9
  have y0 := h0 h9
  have := uP_le e2 (fun k hk => by rw [← e5]; exact hk)
  have l1 := li_1
  have s1 := il_addE (x := lev) (y := 1) (by omega) (by omega)
  rw [hl]
  exact ⟨by omega, by omega⟩
/-- where both are -/
def STT (p q : Nat) (σ τ : ST) : Prop := PQ p q σ τ ∧ (∀ k, k < 36 → (τ.1 35 k = 0 ↔ lbt (σ.2.1 41 4) k = false)) ∧ XW σ τ
theorem CH.kr {C I : List Nat} {τ t : ST} (c : CH C I τ t) (hC : ∀ c, c ∈ [2, 3, 4, 5, 8, 10, 11, 13, 15, 16, 19] → c ∉ C) : KR τ t := KR.eq (fun d hd => c.1 d (fun e => by rw [e] at hd; revert hd; decide) (hC d hd)) (fun d hd => by
  simp only [List.mem_cons, List.not_mem_nil, or_false] at hd
  rcases hd with rfl | rfl | rfl | rfl | rfl
  · exact c.2.2.1
  · exact c.2.2.2.1
  · exact c.2.2.2.2.1
  · exact c.2.2.2.2.2.1
  · exact c.2.2.2.2.2.2)
theorem STT.to {p q : Nat} {σ τ s t : ST} (h : STT p q σ τ) (k : KWK σ s) (c : CH LC LI τ t) (x : XW s t) : STT p q s t := by
  obtain ⟨⟨a1, ⟨a2, a3⟩, ⟨a4, a5⟩, a6⟩, h2, _⟩ := h
  have kr := c.kr (by decide)
  refine ⟨⟨a1, ⟨by rw [c.2.1 53 (by decide)]; exact a2, by rw [c.2.1 54 (by decide)]; exact a3⟩, ⟨a4.keep a1.1 k.kta kr, a5.keep a1.2 k.kta kr⟩, a6.ch c (by decide) (by decide)⟩, fun j hj => ?_, x⟩
  rw [c.1 35 (by decide) (by decide), k.2.2.2.2 4 (by decide)]
  exact h2 j hj
theorem STT.sp {p q : Nat} {σ τ s t : ST} (h : STT p q σ τ) (k : PWX σ τ s t) : STT p q s t := h.to k.1 k.2.1 k.2.2.1
theorem STT.se {p q : Nat} {σ τ s t : ST} (h : STT p q σ τ) (k : EW σ τ s t) : STT p q s t := h.to k.1 k.2.1 k.2.2.1
theorem STT.n0 {p q : Nat} {σ τ : ST} (h : STT p q σ τ) : (τ.1 0 61).toInt < 20 → 0 ≤ (τ.1 0 57).toInt := fun h9 => (h.2.2.2 h9).2.1
/-! both walks, side by side -/
def cW (p q : Nat) (rw_ : Int32 → Int32 → Int32 → ST → Option ST) (rl : Int32 → Int32 → ST → Option ST) : Prop := ∀ (x y lev u v : Int32) (σ τ : ST) (d e : Nat), STT p q σ τ → TY p (τ.1 8 p).toInt σ τ d x u → TY q (τ.1 8 q).toInt σ τ e y v → d ≤ 4 → e ≤ 4 → LVB lev τ d → PT (rw_ x y lev σ) (fun s => PT (rl u v τ) (PWX σ τ s))
def cWB (p q : Nat) (rb : Int32 → Int32 → Int32 → ST → Option ST) (rl : Int32 → Int32 → ST → Option ST) : Prop := ∀ (x y lev u v : Int32) (σ τ : ST) (d e : Nat), STT p q σ τ → TY p (τ.1 8 p).toInt σ τ d x u → TY q (τ.1 8 q).toInt σ τ e y v → (τ.1 2 u.toNatClampNeg).toInt = 8 → d ≤ 4 → e ≤ 4 → LVB lev τ d → PT (rb x y lev σ) (fun s => PT (rl u v τ) (PWX σ τ s))
def cWN (p q : Nat) (rn : Int32 → Int32 → Int32 → Int32 → ST → Option ST) (rl : Int32 → Int32 → ST → Option ST) : Prop := ∀ (x y lev u v : Int32) (σ τ : ST) (d e : Nat), STT p q σ τ → TY p (τ.1 8 p).toInt σ τ d x u → TY q (τ.1 8 q).toInt σ τ e y v → ¬ (τ.1 2 u.toNatClampNeg).toInt = 8 → ¬ (τ.1 2 v.toNatClampNeg).toInt = 8 → d ≤ 4 → e ≤ 4 → (τ.1 0 61).toInt < 20 → LVB lev τ d → PT (rn x lev (τ.1 2 u.toNatClampNeg) y σ) (fun s => PT (rl u v τ) (PWX σ τ s))
def cWF (p q : Nat) (rf : Int32 → Int32 → Int32 → ST → Option ST) (rr : Int32 → Int32 → ST → Option ST) : Prop := ∀ (x y lev w r : Int32) (σ τ : ST) (wn rn : Nat), STT p q σ τ → (τ.1 0 61).toInt < 20 → x.toInt = 6 * (p : Int) + wn → y.toInt = 6 * (q : Int) + rn → w.toInt = wn → r.toInt = rn → (wn : Int) < (τ.1 8 p).toInt → (rn : Int) < (τ.1 8 q).toInt → NYS τ w r → LVB lev τ 1 → PT (rf x y lev σ) (fun s => PT (rr w r τ) (PWX σ τ s))
theorem STT.fits {p q : Nat} {σ τ : ST} (h : STT p q σ τ) (x y u v : Int32) (d e : Nat) (hx : TY p (τ.1 8 p).toInt σ τ d x u) (hy : TY q (τ.1 8 q).toInt σ τ e y v) (hd : d ≤ 4) (he : e ≤ 4) : OK (f_X0_fits x y σ) (RO σ fun z => OK (f_T_X11_match u v τ) (RO τ fun k => z.toInt = 0 ∧ k.toInt = 0 ∨ z.toInt = 1 ∧ k.toInt = 1)) := by
  obtain ⟨⟨⟨hp, hq⟩, ⟨a2, a3⟩, ⟨a4, a5⟩, a6⟩, h2, _⟩ := h
  have cP := a4.cnt
  have cQ := a5.cnt
  refine (ax_fits (PR := τ.1 35) cP.2.2 hp hq cP.2.1.2 cQ.2.1.2 h2 x y u v d e hx hy hd he).roq (fun z hz => ?_)
  refine (bT_match u v τ cP.2.1.2 cQ.2.1.2 a6.2.2 hx.vs hy.vs (by omega) (by omega)).roq (fun k hk => ?_)
  rcases hz with hz | hz <;> rcases hk with hk | hk
  · exact .inl ⟨hz.1, hk.1⟩
  · exact absurd hk.2 hz.2
  · exact absurd hz.2 hk.2
  · exact .inr ⟨hz.1, hk.1⟩
theorem STT.chosen {p q : Nat} {σ τ : ST} (h : STT p q σ τ) (x y u v : Int32) (d e : Nat) (hx : TY p (τ.1 8 p).toInt σ τ d x u) (hy : TY q (τ.1 8 q).toInt σ τ e y v) (h8 : (τ.1 2 v.toNatClampNeg).toInt = 8) (hd : d ≤ 4) (he : e ≤ 4) : OK (f_X0_chosen x y σ) (RO σ fun z => OK (f_T_X11_chosen u v τ) (RO τ fun k => z.toInt = -1 ∧ k.toInt = -1 ∨ ∃ i : Nat, (i : Int) < (τ.1 4 v.toNatClampNeg).toInt ∧ z = chn (σ.1 17) (σ.1 16 y.toNatClampNeg) i ∧ k.toInt = i)) := by
  obtain ⟨⟨⟨hp, hq⟩, ⟨a2, a3⟩, ⟨a4, a5⟩, a6⟩, h2, _⟩ := h
  have cP := a4.cnt
  have cQ := a5.cnt
  refine (ax_chosen (PR := τ.1 35) cP.2.2 hp hq cP.2.1.2 cQ.2.1.2 h2 x y u v d e hx hy h8 hd he).roq (fun z hz => ?_)
  refine (bz_chosen u v τ cP.2.1.2 cQ.2.1.2 a6.2.2 hx.vs hy.vs (by omega) (by omega) h8).roq (fun k hk => ?_)
  rcases hz.uniq hk with h | ⟨i, i1, i2, i3, _⟩
  · exact .inl h
  · exact .inr ⟨i, by omega, Int32.toInt_inj.mp i2, i3⟩
theorem wz_190 {p q : Nat} {a1 : Int32 → Int32 → Int32 → ST → Option ST} {a2 a3 : Int32 → Int32 → Int32 → ST → Option ST} {b1 b2 : Int32 → Int32 → ST → Option ST} (x y u v : Int32) (σ τ : ST) (d e : Nat) (h : STT p q σ τ) (hx : TY p (τ.1 8 p).toInt σ τ d x u) (hy : TY q (τ.1 8 q).toInt σ τ e y v) (hd : d ≤ 4) (he : e ≤ 4) (hb : (τ.1 0 61).toInt < 20 → (τ.1 0 57).toInt ≤ 32) : PT (f_X0_walk_190 a1 a2 a3 x y σ) (fun s => PT (f_X11_looksAt_253 b1 b2 u v τ) (PWX σ τ s)) := by
  unfold f_X0_walk_190 f_X11_looksAt_253
  have l0 := li_0
  refine PT.bndR (h.fits x y u v d e hx hy hd he) (fun z hz => ?_)
  dsimp only
  refine PT.sw ?_
  refine PT.bndR hz (fun k hk => ?_)
  dsimp only
  refine PT.ieq (fun hk0 => ?_) (fun hk0 => ?_)
  · refine PT.sw ?_
    refine PT.ieq (fun hz0 => ?_) (fun hz0 => by omega)
    exact PT.bnd2 (xw_miss 2 h.2.2 hb) (fun s t hst => PT.ret (PT.ret hst))
  · refine PT.ret ?_
    refine PT.ieq (fun hz0 => by omega) (fun hz0 => ?_)
    exact PT.ret (PWX.rf h.2.2)
theorem wz_77 {p q : Nat} {rw_ rb rf : Int32 → Int32 → Int32 → ST → Option ST} {rl rr : Int32 → Int32 → ST → Option ST} (hw : cW p q rw_ rl) (hf : cWF p q rf rr) : cWN p q (f_X0_walk_77 rw_ rb rf) (f_X11_looksAt rl rr) := by
  intro x y lev u v σ τ d e h hx hy hu8 hv8 hd he hn hl
  unfold f_X0_walk_77 f_X11_looksAt
  have h' := h
  obtain ⟨⟨⟨hp, hq⟩, ⟨a2, a3⟩, ⟨a4, a5⟩, a6⟩, _, _⟩ := h'
  have cP := a4.cnt
  have cQ := a5.cnt
  have l6 := li_6
  have l7 := li_7
  have l8 := li_8
  have l0 := li_0
  obtain ⟨x1, x2, x3, x4⟩ := hx.sort cP.2.2
  obtain ⟨y1, y2, y3, y4⟩ := hy.sort cP.2.2
  have rx := hx.rng.2
  have ry := hy.rng.2
  have hl' := hl hn
  have h146 : ¬ ((τ.1 2 u.toNatClampNeg).toInt = 7 ∧ (τ.1 2 v.toNatClampNeg).toInt = 7 ∧ False) → PT (f_X0_walk_146 rw_ rb rf x lev (τ.1 2 u.toNatClampNeg) y (τ.1 2 v.toNatClampNeg) (σ.1 16 x.toNatClampNeg) (σ.1 16 y.toNatClampNeg) σ) (fun s => PT (f_X11_looksAt_196 rl rr u v τ) (PWX σ τ s)) := fun _ => by
    unfold f_X0_walk_146 f_X11_looksAt_196
    refine PT.sw ?_
    refine PT.grd (fun _ => ?_)
    have h190 := wz_190 (a1 := rw_) (a2 := rb) (a3 := rf) (b1 := rl) (b2 := rr) x y u v σ τ d e h hx hy hd he (fun _ => by omega)
    refine PT.ieq (fun hu6 => ?_) (fun hu6 => ?_)
    · refine PT.grd (fun _ => ?_)
      refine PT.ieq (fun hv6 => ?_) (fun hv6 => ?_)
      · refine PT.sw ?_
        refine PT.ieq (fun _ => ?_) (fun h => absurd hu6 h)
        refine PT.ieq (fun _ => ?_) (fun h => absurd hv6 h)
        refine PT.bnd2 (xw_step 100 h.2.2 (fun _ => by omega)) (fun s1 t1 hE => ?_)
        have tx : TY p (τ.1 8 p).toInt σ τ (d - 1) (σ.1 16 x.toNatClampNeg) (τ.1 3 u.toNatClampNeg) := by
          cases d with
          | zero => exact hx.elim
          | succ d => exact hx.2.2.2.1 (by omega)
        have ty : TY q (τ.1 8 q).toInt σ τ (e - 1) (σ.1 16 y.toNatClampNeg) (τ.1 3 v.toNatClampNeg) := by
          cases e with
          | zero => exact hy.elim
          | succ e => exact hy.2.2.2.1 (by omega)
        have t3 := hE.2.1.1 3 (by decide) (by decide)
        have t8 := hE.2.1.1 8 (by decide) (by decide)
        rw [t3]
        have tx1 := tx.to hE.1.kta hE.2.1 (by decide)
        have ty1 := ty.to hE.1.kta hE.2.1 (by decide)
        rw [← t8] at tx1 ty1
        refine PT.bnd2 (hw _ _ (lev + 1) _ _ s1 t1 (d - 1) (e - 1) (h.se hE) tx1 ty1 (by omega) (by omega) (hl.inn hE (by omega) rfl h.n0)) (fun s2 t2 hP => ?_)
        exact PT.ret (PT.ret (xw_leave h.2.2 hE hP))
      · refine PT.sw ?_
        refine PT.ieq (fun _ => ?_) (fun h => absurd hu6 h)
        refine PT.ieq (fun h => absurd h hv6) (fun _ => ?_)
        exact h190
    · refine PT.sw ?_
      refine PT.ieq (fun h => absurd h hu6) (fun _ => ?_)
      exact h190
  rw [y1, sbnd]
  dsimp only
  rw [x2, sbnd]
  dsimp only
  rw [y2, sbnd]
  dsimp only
  refine PT.sw ?_
  refine PT.grd (fun _ => ?_)
  refine PT.ieq (fun h => by omega) (fun _ => ?_)
  refine PT.grd (fun _ => ?_)
  refine PT.ieq (fun h => by omega) (fun _ => ?_)
  refine PT.ieq (fun hu7 => ?_) (fun hu7 => ?_)
  rotate_left
  · refine PT.sw ?_
    refine PT.ieq (fun h => absurd h hu7) (fun _ => ?_)
    exact h146 (fun h => h.2.2)
  refine PT.ieq (fun hv7 => ?_) (fun hv7 => ?_)
  rotate_left
  · refine PT.sw ?_
    refine PT.ieq (fun _ => ?_) (fun h => absurd hu7 h)
    refine PT.ieq (fun h => absurd h hv7) (fun _ => ?_)
    exact h146 (fun h => h.2.2)
  have ru : (0 ≤ (τ.1 3 u.toNatClampNeg).toInt ∧ (τ.1 3 u.toNatClampNeg).toInt < (τ.1 8 p).toInt) ∧ (σ.1 16 x.toNatClampNeg).toInt = 6 * (p : Int) + (τ.1 3 u.toNatClampNeg).toInt := by
    cases d with
    | zero => exact hx.elim
    | succ d => exact hx.2.2.2.2.1 (by omega)
  have rv : (0 ≤ (τ.1 3 v.toNatClampNeg).toInt ∧ (τ.1 3 v.toNatClampNeg).toInt < (τ.1 8 q).toInt) ∧ (σ.1 16 y.toNatClampNeg).toInt = 6 * (q : Int) + (τ.1 3 v.toNatClampNeg).toInt := by
    cases e with
    | zero => exact hy.elim
    | succ e => exact hy.2.2.2.2.1 (by omega)
  have n1 := nN_ ru.1.1
  have n2 := nN_ rv.1.1
  obtain ⟨b1, b2, b3, b4⟩ := a6.w
  refine PT.bndR (bx_namesMay _ _ τ (by omega) (by omega) b1 b2) (fun k hk => ?_)
  dsimp only
  refine PT.sw ?_
  refine PT.ieq (fun _ => ?_) (fun h => absurd hu7 h)
  refine PT.ieq (fun _ => ?_) (fun h => absurd hv7 h)
  refine PT.bndR (ab_mayPair h.1 (σ.1 16 x.toNatClampNeg) (σ.1 16 y.toNatClampNeg) (τ.1 3 u.toNatClampNeg) (τ.1 3 v.toNatClampNeg) (τ.1 3 u.toNatClampNeg).toNatClampNeg (τ.1 3 v.toNatClampNeg).toNatClampNeg (by omega) (by omega) (by omega) (by omega) (by omega) (by omega)) (fun z hz => ?_)
  dsimp only
  refine PT.ieq (fun hz0 => ?_) (fun hz0 => ?_)
  · refine PT.sw ?_
    refine PT.ieq (fun hk0 => ?_) (fun hk0 => ?_)
    · exact PT.sw (h146 (fun h => h.2.2))
    · exfalso
      rcases hz with hz | hz
      · rcases hk with hk | hk
        · omega
        · exact hz.2 hk.2
      · omega
  · refine PT.sw ?_
    have hN : NYS τ (τ.1 3 u.toNatClampNeg) (τ.1 3 v.toNatClampNeg) := by
      rcases hz with hz | hz
      · omega
      · exact hz.2
    refine PT.ieq (fun hk0 => ?_) (fun hk0 => ?_)
    · exfalso
      rcases hk with hk | hk
      · exact hk.2 hN
      · omega
    · refine PT.sw ?_
      exact PT.bnd2 (hf _ _ lev _ _ σ τ (τ.1 3 u.toNatClampNeg).toNatClampNeg (τ.1 3 v.toNatClampNeg).toNatClampNeg h hn (by omega) (by omega) (by omega) (by omega) (by omega) (by omega) hN (fun h9 => by have := hl h9; omega)) (fun s t hst => PT.ret (PT.ret hst))
theorem wz_20 {p q : Nat} {σ τ t : ST} (h : STT p q σ τ) (hn : ¬ (τ.1 0 61).toInt < 20) (k : K20 τ t) : PWX σ τ σ t := by
  obtain ⟨c, k2⟩ := k
  obtain ⟨⟨m1, ⟨m2, m3⟩, m4⟩, hL⟩ := h.2.2
  obtain ⟨e1, e2, e3, e4⟩ := k2 (by omega)
  refine ⟨KWK.rf, c, ⟨⟨by omega, by omega, fun i hi => ?_⟩, fun h9 => by omega⟩, fun h9 => by omega⟩
  rw [e2, e3, e4]
  exact m4 i (by omega)
theorem wz_top {p q : Nat} {rw_ rb rf : Int32 → Int32 → Int32 → ST → Option ST} {rl rr : Int32 → Int32 → ST → Option ST} (h20 : (∀ (p0 : Int32) (p1 : Int32) (s σ : ST), K20 s σ → PF st0 (K20 s) (rl p0 p1 σ)) ∧ (∀ (p0 : Int32) (p1 : Int32) (s σ : ST), K20 s σ → PF st0 (K20 s) (rr p0 p1 σ))) (hB : cWB p q rb (fun u v τ => f_X11_looksAt_13 rl rr FU u v 0 τ)) (hN1 : cWN p q (f_X0_walk_77 rw_ rb rf) rl) (hN2 : cWN p q (f_X0_walk_77 rw_ rb rf) (f_X11_looksAt rl rr)) : cW p q (f_X0_walk rw_ rb rf) (f_X11_looksAt rl rr) := by
  intro x y lev u v σ τ d e h hx hy hd he hl
  have h' := h
  obtain ⟨⟨⟨hp, hq⟩, ⟨a2, a3⟩, ⟨a4, a5⟩, a6⟩, _, _⟩ := h'
  have cP := a4.cnt
  have cQ := a5.cnt
  have l0 := li_0
  have lm := li_m1
  have l8 := li_8
  have l20 := li_20
  have l40 := li_40
  have m1 := h.2.2.1.1
  by_cases hn : (τ.1 0 61).toInt < 20
  rotate_left
  · unfold f_X0_walk
    have hall : PT (f_X11_looksAt rl rr u v τ) (PWX σ τ σ) := (w20_X11_looksAt (s := τ) (fun a b s hs => h20.1 a b τ s hs) (fun a b s hs => h20.2 a b τ s hs) ⟨CH.rf, fun h => ⟨h, rfl, rfl, rfl⟩⟩ : PF st0 (K20 τ) (f_X11_looksAt rl rr u v τ)) |> fun hh => PT.mono (P := K20 τ) hh (fun t ht => wz_20 h hn ht)
    refine PT.ilt (fun _ => PT.ret hall) (fun _ => ?_)
    refine PT.ilt (fun h9 => by omega) (fun _ => PT.ret hall)
  obtain ⟨x1, x2, x3, x4⟩ := hx.sort cP.2.2
  obtain ⟨y1, y2, y3, y4⟩ := hy.sort cP.2.2
  have rx := hx.rng.2
  have ry := hy.rng.2
  have hl' := hl hn
  have hn0 := h.n0 hn
  by_cases hu8 : (τ.1 2 u.toNatClampNeg).toInt = 8
  · have hBB := hB x y lev u v σ τ d e h hx hy hu8 hd he hl
    unfold f_X0_walk f_X11_looksAt
    refine PT.ilt (fun h9 => by omega) (fun _ => ?_)
    refine PT.ilt (fun _ => ?_) (fun h9 => by omega)
    rw [x1, sbnd]
    dsimp only
    refine PT.ieq (fun _ => ?_) (fun h9 => by omega)
    refine PT.sw ?_
    refine PT.grd (fun _ => ?_)
    refine PT.ieq (fun _ => ?_) (fun h9 => by omega)
    refine PT.sw ?_
    exact PT.bnd hBB (fun s hs => PT.ret hs)
  by_cases hv8 : (τ.1 2 v.toNatClampNeg).toInt = 8
  rotate_left
  · have hNN := hN2 x y lev u v σ τ d e h hx hy hu8 hv8 hd he hn hl
    unfold f_X0_walk
    refine PT.ilt (fun h9 => by omega) (fun _ => ?_)
    refine PT.ilt (fun _ => ?_) (fun h9 => by omega)
    rw [x1, sbnd]
    dsimp only
    refine PT.ieq (fun h9 => by omega) (fun _ => ?_)
    rw [y1, sbnd]
    dsimp only
    refine PT.ieq (fun h9 => by omega) (fun _ => ?_)
    exact hNN
  obtain ⟨m, g1, g2, g3, g4, g5, g6⟩ := chn_v hy hv8
  unfold f_X0_walk f_X11_looksAt
  refine PT.ilt (fun h9 => by omega) (fun _ => ?_)
  refine PT.ilt (fun _ => ?_) (fun h9 => by omega)
  rw [x1, sbnd]
  dsimp only
  refine PT.ieq (fun h9 => by omega) (fun _ => ?_)
  rw [y1, sbnd]
  dsimp only
  refine PT.ieq (fun _ => ?_) (fun h9 => by omega)
  refine PT.bndR (h.chosen x y u v d e hx hy hv8 hd he) (fun z hz => ?_)
  dsimp only
  refine PT.sw ?_
  refine PT.grd (fun _ => ?_)
  refine PT.ieq (fun h9 => by omega) (fun _ => ?_)
  refine PT.grd (fun _ => ?_)
  refine PT.ieq (fun _ => ?_) (fun h9 => by omega)
  refine PT.bndR hz (fun k hk => ?_)
  dsimp only
  rcases hk with ⟨k1, k2⟩ | ⟨i, i1, i2, i3⟩
  · refine PT.ile (fun h9 => by omega) (fun _ => ?_)
    refine PT.sw ?_
    refine PT.ieq (fun _ => ?_) (fun h9 => by omega)
    exact PT.bnd2 (xw_miss 3 h.2.2 (fun _ => by omega)) (fun s t hst => PT.ret (PT.ret hst))
  · obtain ⟨t1, t2⟩ := g5 i (by omega)
    have rz := t1.rng
    refine PT.ile (fun _ => ?_) (fun h9 => by omega)
    refine PT.grd (fun _ => ?_)
    refine PT.sw ?_
    rw [i2]
    refine PT.ieq (fun h9 => by omega) (fun _ => ?_)
    have e1 := mlE (k := 4) (y := v) 4 li_4 (by omega) (by omega)
    have e2 := il_addE (x := 4 * v) (y := k) (by omega) (by omega)
    have nv := nN_ ry.1
    have e4 : (4 * v + k).toNatClampNeg = 4 * v.toNatClampNeg + i := nC (by omega)
    rw [e4]
    have hNN := hN1 x (chn (σ.1 17) (σ.1 16 y.toNatClampNeg) i) lev u _ σ τ d (e - 1) h hx t1 hu8 t2 hd (by omega) hn hl
    refine PT.sw ?_
    refine PT.bnd (PT.sw hNN) (fun t ht => ?_)
    exact PT.ret ht
theorem wz_13 {p q : Nat} {rw_ rb rf : Int32 → Int32 → Int32 → ST → Option ST} {rl rr : Int32 → Int32 → ST → Option ST} (hw : cW p q rw_ rl) (u v : Int32) (d e m : Nat) (hd : d ≤ 3) (he : e ≤ 4) (hm : m ≤ 4) (hu : 0 ≤ u.toInt ∧ u.toInt < 400) : ∀ (n n' k : Nat) (y lev x5 : Int32) (x0 : Int32) (σ τ : ST), STT p q σ τ → x5.toInt = k → k ≤ m → (τ.1 4 u.toNatClampNeg).toInt = m → (∀ k : Nat, k < m → TY p (τ.1 8 p).toInt σ τ d (chn (σ.1 17) x0 k) (τ.1 5 (4 * u.toNatClampNeg + k))) → (chn (σ.1 17) x0 m).toInt = -1 → TY q (τ.1 8 q).toInt σ τ e y v → LVB lev τ (d + 1) → PT (f_X0_walkBranches_13 rw_ rb rf n y lev (chn (σ.1 17) x0 k) x5 σ) (fun s => PT (f_X11_looksAt_13 rl rr n' u v x5 τ) (PWX σ τ s)) := by
  intro n
  have l0 := li_0
  have l1 := li_1
  have lm := li_m1
  have l4 := li_4
  induction n with
  | zero => intro n' k y lev x5 x0 σ τ _ _ _ _ _ _ _ _; exact PT.none
  | succ n ih =>
    intro n' k y lev x5 x0 σ τ h h5 hk hM hv hz hy hl
    cases n' with
    | zero =>
      refine PT.sw ?_
      exact PT.none
    | succ n' =>
    rw [f_X0_walkBranches_13, f_X11_looksAt_13]
    unfold f_X0_walkBranches_63 f_X11_looksAt_69
    have h' := h
    obtain ⟨⟨⟨hp, hq⟩, ⟨a2, a3⟩, ⟨a4, a5⟩, a6⟩, _, _⟩ := h'
    have cP := a4.cnt
    have nu := nN_ hu.1
    have e1 := mlE (k := 4) (y := u) 4 li_4 (by omega) (by omega)
    have e2 := il_addE (x := 4 * u) (y := x5) (by omega) (by omega)
    have e3 := il_addE (x := x5) (y := 1) (by omega) (by omega)
    have e4 : (4 * u + x5).toNatClampNeg = 4 * u.toNatClampNeg + k := nC (by omega)
    have hn57 : (τ.1 0 61).toInt < 20 → (τ.1 0 57).toInt < 32 := fun h9 => by have := hl h9; omega
    refine PT.sw ?_
    refine PT.grd (fun _ => ?_)
    by_cases ek : k = m
    · subst ek
      refine PT.ile (fun _ => PT.ret ?_) (fun h9 => by omega)
      refine PT.ile (fun _ => PT.ret (PWX.rf h.2.2)) (fun h9 => ?_)
      refine PT.ieq (fun _ => PT.ret (PWX.rf h.2.2)) (fun h9 => by omega)
    refine PT.ile (fun h9 => by omega) (fun _ => ?_)
    have tk := hv k (by omega)
    have rk := tk.rng
    refine PT.sw ?_
    refine PT.ile (fun h9 => by omega) (fun _ => ?_)
    refine PT.ieq (fun h9 => by omega) (fun _ => ?_)
    refine PT.bnd2 (xw_step (200 + x5) h.2.2 hn57) (fun s1 t1 hE => ?_)
    have hS1 := h.se hE
    have t5 := hE.2.1.1 5 (by decide) (by decide)
    have t8 := hE.2.1.1 8 (by decide) (by decide)
    have t4 := hE.2.1.1 4 (by decide) (by decide)
    have s17 := (hE.1.kta 17 (by omega) (by omega)).1
    rw [e4, t5]
    have tk1 := tk.to hE.1.kta hE.2.1 (by decide)
    have ty1 := hy.to hE.1.kta hE.2.1 (by decide)
    rw [← t8] at tk1 ty1
    have go : ∀ s2 t2 : ST, PWX s1 t1 s2 t2 → PT ((f_X5_branchAfter 4 (chn (σ.1 17) x0 k) (stI s2 41 11 (s2.1 41 11 - 1))).bind fun q1 => f_X0_walkBranches_13 rw_ rb rf n y lev q1.1 (x5 + 1) q1.2) (fun s => PT (f_X11_looksAt_13 rl rr n' u v (x5 + 1) (stI t2 0 57 (t2.1 0 57 - 1))) (PWX σ τ s)) := fun s2 t2 hP => by
      have hQ := xw_leave h.2.2 hE hP
      have kA := hQ.1.kta
      have tkQ := tk.to kA hQ.2.1 (by decide)
      have tyQ := hy.to kA hQ.2.1 (by decide)
      have q8 := hQ.2.1.1 8 (by decide) (by decide)
      have q4 := hQ.2.1.1 4 (by decide) (by decide)
      have q5 := hQ.2.1.1 5 (by decide) (by decide)
      have q17 := (kA 17 (by omega) (by omega)).1
      have qn := (kA 4 (by omega) (by omega)).1
      have hSQ := h.sp hQ
      have hlQ := hl.to hQ
      generalize stI s2 41 11 (s2.1 41 11 - 1) = s3 at hQ kA tkQ tyQ q17 qn hSQ ⊢
      generalize stI t2 0 57 (t2.1 0 57 - 1) = t3 at hQ tkQ tyQ q8 q4 q5 hSQ hlQ ⊢
      have rQ := tkQ.rng
      rw [a4_branchAfter _ s3 rQ.1 (by rw [qn]; exact cP.2.2), sbnd]
      dsimp only
      have ech : s3.1 17 (chn (σ.1 17) x0 k).toNatClampNeg = chn (s3.1 17) x0 (k + 1) := by
        rw [q17]
        rfl
      rw [ech]
      refine PT.mono2 (ih n' (k + 1) y lev (x5 + 1) x0 s3 t3 hSQ (by omega) (by omega) (by rw [q4]; exact hM) (fun j hj => ?_) (by rw [q17]; exact hz) ?_ hlQ) (fun s t hst => hQ.trans hst)
      · rw [q5, q8, q17]
        exact (hv j hj).to kA hQ.2.1 (by decide)
      · rw [q8]
        exact tyQ
    refine PT.sw ?_
    refine PT.grd (fun _ => ?_)
    refine PT.sw ?_
    refine PT.bndR (hS1.fits _ y _ v d e tk1 ty1 (by omega) he) (fun z hz2 => ?_)
    dsimp only
    refine PT.sw ?_
    refine PT.bndR hz2 (fun k' hk' => ?_)
    dsimp only
    refine PT.ieq (fun hk0 => ?_) (fun hk0 => ?_)
    · refine PT.sw ?_
      refine PT.ieq (fun hz0 => ?_) (fun hz0 => by omega)
      exact PT.bnd2 (xw_miss 4 hS1.2.2 (fun h9 => by
        rw [hE.2.2.2.1] at h9
        have := hE.2.2.2.2.2 h9
        have := hn57 h9
        omega)) (fun s2 t2 hP => go s2 t2 hP)
    · refine PT.sw ?_
      refine PT.ieq (fun hz0 => by omega) (fun hz0 => ?_)
      exact PT.bnd2 (hw _ y (lev + 1) _ v s1 t1 d e hS1 tk1 ty1 (by omega) he (hl.inn hE (by omega) rfl h.n0)) (fun s2 t2 hP => go s2 t2 hP)
theorem wz_branches {p q : Nat} {rw_ rb rf : Int32 → Int32 → Int32 → ST → Option ST} {rl rr : Int32 → Int32 → ST → Option ST} (hw : cW p q rw_ rl) : cWB p q (f_X0_walkBranches rw_ rb rf) (fun u v τ => f_X11_looksAt_13 rl rr FU u v 0 τ) := by
  intro x y lev u v σ τ d e h hx hy hu8 hd he hl
  unfold f_X0_walkBranches
  obtain ⟨m, m1, m2, m3, m4, m5, m6⟩ := chn_v hx hu8
  have cP := h.1.2.2.1.1.cnt
  rw [(hx.sort cP.2.2).2.1, sbnd]
  dsimp only
  exact wz_13 hw u v (d - 1) e m (by omega) he m2 hx.rng.2 FU FU 0 y lev 0 (σ.1 16 x.toNatClampNeg) σ τ h li_0 (by omega) m4 (fun k hk => (m5 k hk).1) m6 hy (fun h9 => by have := hl h9; omega)
/-! both walks through the fields of a pair of records; both as deep as they like -/
theorem wz_33 {p q : Nat} {rw_ rb rf : Int32 → Int32 → Int32 → ST → Option ST} {rl rr : Int32 → Int32 → ST → Option ST} (hw : cW p q rw_ rl) (x y w r x3 : Int32) (wn rn : Nat) (hx : x.toInt = 6 * (p : Int) + wn) (hy : y.toInt = 6 * (q : Int) + rn) (hwn : w.toInt = wn) (hx3 : x3.toInt = 6 * (q : Int) + rn) : ∀ (n n' j : Nat) (lev x4 : Int32) (σ τ : ST), STT p q σ τ → x4.toInt = j → (wn : Int) < (τ.1 8 p).toInt → (rn : Int) < (τ.1 8 q).toInt → LVB lev τ 5 → PT (f_X0_walkFields_33 rw_ rb rf n x y lev x4 σ) (fun s => PT (f_X11_looksAtRecords_40 rl rr n' w x3 x4 τ) (PWX σ τ s)) := by
  intro n
  have l0 := li_0
  have l1 := li_1
  have lm := li_m1
  have l8 := li_8
  induction n with
  | zero => intro n' j lev x4 σ τ _ _ _ _ _; exact PT.none
  | succ n ih =>
    intro n' j lev x4 σ τ h h4 h8p h8q hl
    cases n' with
    | zero =>
      refine PT.sw ?_
      exact PT.none
    | succ n' =>
    rw [f_X0_walkFields_33, f_X11_looksAtRecords_40]
    unfold f_X0_walkFields_119 f_X11_looksAtRecords_116
    have h' := h
    obtain ⟨⟨⟨hp, hq⟩, ⟨a2, a3⟩, ⟨a4, a5⟩, a6⟩, _, _⟩ := h'
    have cP := a4.cnt
    have cQ := a5.cnt
    obtain ⟨b1, b2, b3, b4, b5⟩ := a5.acc h8q
    have g5 := b3.1
    have g6 := b3.2
    have n3 : x3.toNatClampNeg = 6 * q + rn := nC (by omega)
    have hn57 : (τ.1 0 61).toInt < 20 → (τ.1 0 57).toInt < 32 := fun h9 => by have := hl h9; omega
    rw [a4_fieldsOf y σ (r := 6 * q + rn) (by omega) (by omega), sbnd]
    dsimp only
    rw [b2]
    refine PT.sw ?_
    refine PT.grd (fun _ => ?_)
    rw [n3]
    by_cases hj : (τ.1 11 (6 * q + rn)).toInt ≤ j
    · refine PT.ile (fun _ => PT.ret ?_) (fun h9 => by omega)
      exact PT.ile (fun _ => PT.ret (PWX.rf h.2.2)) (fun h9 => by omega)
    refine PT.ile (fun h9 => by omega) (fun _ => ?_)
    refine PT.sw ?_
    refine PT.ile (fun h9 => by omega) (fun _ => ?_)
    have m1 := mlE (k := 8) (y := x3) 8 l8 (by omega) (by omega)
    have m2 := il_addE (x := 8 * x3) (y := x4) (by omega) (by omega)
    have m3 := il_addE (x := x4) (y := 1) (by omega) (by omega)
    have nf : (8 * x3 + x4).toNatClampNeg = 8 * (6 * q + rn) + j := nC (by omega)
    obtain ⟨⟨z0, s0⟩, _, _, v, ev, _⟩ := ab_source h.1 x y x4 w (8 * x3 + x4) wn rn j h8p h8q (by omega) hx hy h4 hwn (by omega)
    rw [ev, sbnd]
    dsimp only
    refine PT.bnd2 (xw_step x4 h.2.2 hn57) (fun s1 t1 hE => ?_)
    have hS1 := h.se hE
    have t8 := hE.2.1.1 8 (by decide) (by decide)
    have t11 := hE.2.1.1 11 (by decide) (by decide)
    have h57 : (t1.1 0 61).toInt < 20 → (t1.1 0 57).toInt ≤ 32 := fun h9 => by
      rw [hE.2.2.2.1] at h9
      have := hE.2.2.2.2.2 h9
      have := hn57 h9
      omega
    have go : ∀ s2 t2 : ST, PWX s1 t1 s2 t2 → PT (f_X0_walkFields_33 rw_ rb rf n x y lev (x4 + 1) (stI s2 41 11 (s2.1 41 11 - 1))) (fun s => PT (f_X11_looksAtRecords_40 rl rr n' w x3 (x4 + 1) (stI t2 0 57 (t2.1 0 57 - 1))) (PWX σ τ s)) := fun s2 t2 hP => by
      have hQ := xw_leave h.2.2 hE hP
      have q8 := hQ.2.1.1 8 (by decide) (by decide)
      refine PT.mono2 (ih n' (j + 1) lev (x4 + 1) _ _ (h.sp hQ) (by omega) (by rw [q8]; exact h8p) (by rw [q8]; exact h8q) (hl.to hQ)) (fun s t hst => hQ.trans hst)
    obtain ⟨⟨_, _⟩, ⟨_, _⟩, ⟨a4', a5'⟩, a6'⟩ := hS1.1
    have h8p' : (wn : Int) < (t1.1 8 p).toInt := by rw [t8]; exact h8p
    have h8q' : (rn : Int) < (t1.1 8 q).toInt := by rw [t8]; exact h8q
    obtain ⟨d1, d2, d3, d4, d5⟩ := a5'.acc h8q'
    obtain ⟨c1, c2, c3, c4, c5⟩ := a4'.acc h8p'
    have hj' : (j : Int) < (t1.1 11 (6 * q + rn)).toInt := by rw [t11]; omega
    refine PT.bndR (ab_source (h.1.keep hE.1.kta) x y x4 w (8 * x3 + x4) wn rn j h8p h8q (by omega) hx hy h4 hwn (by omega)) (fun z hz => ?_)
    dsimp only
    obtain ⟨v', ev', hz⟩ := hz
    rw [ev] at ev'
    have evv : v = v' := (Prod.mk.inj (Option.some.inj ev')).1
    rw [← evv] at hz
    rcases hz with ⟨z1, z2⟩ | ⟨i, i1, i2, i3⟩
    · refine PT.ieq (fun _ => ?_) (fun h9 => by omega)
      have d16 := (d5 j hj').2.2.2
      have d16 : (t1.1 16 (8 * (6 * q + rn) + j)).toInt = 0 ∨ (t1.1 16 (8 * (6 * q + rn) + j)).toInt = 1 := d16.elim .inl (fun h => .inr h.1)
      refine PT.bndR (d4.has (by omega) y x4 (by omega) h4 (by omega) (by omega) d16) (fun k hk => ?_)
      dsimp only
      refine PT.sw ?_
      refine PT.ilt (fun _ => ?_) (fun h9 => by omega)
      refine PT.grd (fun _ => ?_)
      rw [nf]
      refine PT.ite (fun h0 => ?_) (fun h0 => ?_)
      · refine PT.sw ?_
        refine PT.ieq (fun _ => ?_) (fun h9 => ?_)
        · exact PT.bnd2 (xw_miss 1 hS1.2.2 h57) (fun s2 t2 hP => go s2 t2 hP)
        · exfalso
          rcases hk with hk | hk
          · omega
          · exact hk.2 h0
      · refine PT.sw ?_
        refine PT.ieq (fun h9 => ?_) (fun _ => ?_)
        · exfalso
          rcases hk with hk | hk
          · exact h0 hk.2
          · omega
        · exact go s1 t1 (PWX.rf hS1.2.2)
    · refine PT.ieq (fun h9 => by omega) (fun _ => ?_)
      rw [a4_typeOf x z s1 (r := 6 * p + wn) (j := i) (by omega) i2 (by omega) (by
        have g7 := c3.2
        rw [t11] at g7
        omega), sbnd]
      dsimp only
      rw [a4_typeOf y x4 s1 (r := 6 * q + rn) (j := j) (by omega) h4 (by omega) (by omega), sbnd]
      dsimp only
      refine PT.sw ?_
      refine PT.ilt (fun h9 => by omega) (fun _ => ?_)
      refine PT.grd (fun _ => ?_)
      refine PT.grd (fun _ => ?_)
      have nv : v.toNatClampNeg = 8 * (6 * p + wn) + i := nC (by omega)
      rw [nf, nv]
      have tW : TY p (t1.1 8 p).toInt s1 t1 4 (s1.1 13 (8 * (6 * p + wn) + i)) (t1.1 15 (8 * (6 * p + wn) + i)) := (c5 i (by rw [t11]; exact i1)).2.2.1
      have tR : TY q (t1.1 8 q).toInt s1 t1 4 (s1.1 13 (8 * (6 * q + rn) + j)) (t1.1 15 (8 * (6 * q + rn) + j)) := (d5 j hj').2.2.1
      refine PT.sw ?_
      exact PT.bnd2 (hw _ _ (lev + 1) _ _ s1 t1 4 4 hS1 tW tR (by omega) (by omega) (hl.inn hE (by omega) rfl h.n0)) (fun s2 t2 hP => go s2 t2 hP)
theorem wz_mark {p q : Nat} {σ τ : ST} {k : Nat} (h : STT p q σ τ) (hk : k < 36) (v : Int32) (hv : ¬ v = 0) : PWX σ τ (stL σ 41 12 (σ.2.1 41 12 ||| lb1 k)) (stI τ 40 k v) := by
  have e1 : (stL σ 41 12 (σ.2.1 41 12 ||| lb1 k)).2.1 41 12 = (σ.2.1 41 12 ||| lb1 k) := stL_at
  have e2 : (stI τ 40 k v).1 40 = upd (τ.1 40) k v := rfl
  refine ⟨KWK.rf.l, CH.rf.i (by decide) (by decide), ⟨h.2.2.1, fun h9 => ?_⟩, fun h9 => ⟨h9, rfl, fun j hj => ?_⟩⟩
  · obtain ⟨x1, x2, x3, x4⟩ := h.2.2.2 h9
    refine ⟨x1, x2, x3, fun j hj => ?_⟩
    rw [e1, e2, lbt_or (by omega)]
    by_cases e : j = k
    · subst e
      rw [upd_at]
      exact ⟨fun _ => hv, fun _ => by simp⟩
    · rw [upd_no e]
      have := x4 j hj
      simpa [e] using this
  · rw [e2] at hj
    by_cases e : j = k
    · subst e
      rw [upd_at] at hj
      exact absurd hj hv
    · rw [upd_no e] at hj
      exact hj
theorem wz_fields {p q : Nat} {rw_ rb rf : Int32 → Int32 → Int32 → ST → Option ST} {rl rr : Int32 → Int32 → ST → Option ST} (hw : cW p q rw_ rl) : cWF p q (f_X0_walkFields rw_ rb rf) (f_X11_looksAtRecords rl rr) := by
  intro x y lev w r σ τ wn rn h hn hx hy hwn hrn h8p h8q hN hl
  unfold f_X0_walkFields f_X11_looksAtRecords
  have h' := h
  obtain ⟨⟨⟨hp, hq⟩, ⟨a2, a3⟩, ⟨a4, a5⟩, a6⟩, _, _⟩ := h'
  have cP := a4.cnt
  have cQ := a5.cnt
  have hrm := h.1.rm
  have l0 := li_0
  have l6 := li_6
  have m1 := mlE (k := 6) (y := w) 6 l6 (by omega) (by omega)
  have m2 := il_addE (x := 6 * w) (y := r) (by omega) (by omega)
  have n1 : (6 * w + r).toNatClampNeg = 6 * wn + rn := nC (by omega)
  have m3 := mlE (k := 6) (y := τ.1 0 54) 6 l6 (by omega) (by omega)
  have m4 := il_addE (x := 6 * τ.1 0 54) (y := r) (by omega) (by omega)
  have hbit := a_bitOf x y σ (a := 6 * p + wn) (b := 6 * q + rn) (by omega) (by omega) (by omega) (by omega)
  have ek : 6 * ((6 * p + wn) % 6) + (6 * q + rn) % 6 = 6 * wn + rn := by omega
  rw [ek] at hbit
  rw [hbit, sbnd]
  dsimp only
  rw [hbit, sbnd]
  dsimp only
  refine PT.sw ?_
  refine PT.grd (fun _ => ?_)
  rw [n1]
  have hseen := (h.2.2.2 hn).2.2.2 (6 * wn + rn) (by omega)
  refine PT.ite (fun h0 => ?_) (fun h0 => ?_)
  · refine PT.lt (fun z hz => ?_)
    refine PT.sw ?_
    refine PT.ite (fun _ => ?_) (fun h9 => ?_)
    · have v1 : ¬ (vp_nar .boolean (1 : Int32)) = 0 := by decide
      have hP := wz_mark h (k := 6 * wn + rn) (by omega) _ v1
      have hlQ : LVB lev (stI τ 40 (6 * wn + rn) (vp_nar .boolean 1)) 5 := fun h9 => by
        obtain ⟨y1, y2⟩ := hl h9
        refine ⟨y1, ?_⟩
        have e2 : (stI τ 40 (6 * wn + rn) (vp_nar .boolean (1 : Int32))).1 40 (6 * wn + rn) = vp_nar .boolean (1 : Int32) := by
          show upd (τ.1 40) (6 * wn + rn) (vp_nar .boolean (1 : Int32)) (6 * wn + rn) = _
          rw [upd_at]
        have d1 : (6 * wn + rn) / 6 = wn := by omega
        have d2 : (6 * wn + rn) % 6 = rn := by omega
        have := uP_lt hP.2.1 (hP.2.2.2 h9).2.2 (k := 6 * wn + rn) (by omega) (by rw [e2]; exact v1) ⟨h0, ⟨by omega, by omega⟩, by
          rw [d1, d2, ← intOf hwn (by omega), ← intOf hrn (by omega)]
          exact hN⟩
        have e57 : (stI τ 40 (6 * wn + rn) (vp_nar .boolean (1 : Int32))).1 0 57 = τ.1 0 57 := rfl
        rw [e57]
        omega
      have ez : z.toInt = 6 * (q : Int) + rn := by
        rw [hz]
        show (6 * τ.1 0 54 + r).toInt = _
        omega
      exact PT.mono2 (wz_33 hw x y w r z wn rn hx hy hwn ez FU FU 0 lev 0 _ _ (h.sp hP) l0 h8p h8q hlQ) (fun s t hst => hP.trans hst)
    · exfalso
      apply h9
      rw [a_has (by omega)]
      cases e : lbt (σ.2.1 41 12) (6 * wn + rn) with
      | false => rfl
      | true => exact absurd h0 (hseen.mp e)
  · refine PT.ret ?_
    refine PT.ite (fun h9 => ?_) (fun _ => PT.ret (PWX.rf h.2.2))
    exfalso
    rw [a_has (by omega)] at h9
    have := hseen.mpr h0
    rw [h9] at this
    cases this
theorem wz_R {p q : Nat} : ∀ N M : Nat, cW p q (R_X0_walk N).1 (R_X11_looksAt M).1 ∧ cWB p q (R_X0_walk N).2.1 (fun u v τ => f_X11_looksAt_13 (R_X11_looksAt M).1 (R_X11_looksAt M).2 FU u v 0 τ) ∧ cWF p q (R_X0_walk N).2.2 (R_X11_looksAt M).2 := by
  intro N
  induction N with
  | zero => exact fun M => ⟨fun x y lev u v σ τ d e _ _ _ _ _ _ => PT.none, fun x y lev u v σ τ d e _ _ _ _ _ _ _ => PT.none, fun x y lev w r σ τ wn rn _ _ _ _ _ _ _ _ _ _ => PT.none⟩
  | succ N ih =>
    intro M
    refine ⟨?_, wz_branches (ih M).1, ?_⟩
    · cases M with
      | zero => exact fun x y lev u v σ τ d e _ _ _ _ _ _ => PT.sw PT.none
      | succ M =>
        refine wz_top ⟨fun a b s => (w20R_X11_looksAt (s := s) M).1 a b, fun a b s => (w20R_X11_looksAt (s := s) M).2 a b⟩ (ih M).2.1 ?_ (wz_77 (ih M).1 (ih M).2.2)
        cases M with
        | zero => exact fun x y lev u v σ τ d e _ _ _ _ _ _ _ _ _ => PT.sw PT.none
        | succ M => exact wz_77 (ih M).1 (ih M).2.2
    · cases M with
      | zero => exact fun x y lev w r σ τ wn rn _ _ _ _ _ _ _ _ _ _ => PT.sw PT.none
      | succ M => exact wz_fields (ih M).1
/-! all misses of two plans, side by side -/
theorem cntZ_none {B : Nat → Prop} [DecidablePred B] {a : Nat} : ∀ b : Nat, a ≤ b → (∀ i, a ≤ i → i < b → ¬ B i) → cntZ B b = cntZ B a := by
  intro b
  induction b with
  | zero =>
    intro h _
    have e : a = 0 := by omega
    rw [e]
  | succ b ih =>
    intro h hn
    by_cases e : a = b + 1
    · rw [e]
    · show cntZ B b + (if B b then 1 else 0) = _
      rw [if_neg (hn b (by omega) (by omega)), ih (by omega) (fun i h1 h2 => hn i h1 (by omega))]
      rfl
theorem cntZ_blk {B : Nat → Prop} [DecidablePred B] {a : Nat} : ∀ b : Nat, a ≤ b → (∀ i j, a ≤ i → i < j → j < b → B i → ¬ B j) → cntZ B b ≤ cntZ B a + 1 := by
  intro b
  induction b with
  | zero =>
    intro h _
    have e : a = 0 := by omega
    rw [e]
    omega
  | succ b ih =>
    intro h hn
    by_cases e : a = b + 1
    · rw [e]
      omega
    · show cntZ B b + (if B b then 1 else 0) ≤ _
      by_cases hB : B b
      · rw [if_pos hB, cntZ_none b (by omega) (fun i h1 h2 h3 => hn i b h1 h2 (by omega) h3 hB)]
        omega
      · rw [if_neg hB]
        have := ih (by omega) (fun i j h1 h2 h3 => hn i j h1 h2 (by omega))
        omega
theorem cntZ_or {A B C : Nat → Prop} [DecidablePred A] [DecidablePred B] [DecidablePred C] (h : ∀ k, A k → B k ∨ C k) : ∀ n : Nat, cntZ A n ≤ cntZ B n + cntZ C n := by
  intro n
  induction n with
  | zero => exact Nat.le_refl _
  | succ n ih =>
    show cntZ A n + (if A n then 1 else 0) ≤ cntZ B n + (if B n then 1 else 0) + (cntZ C n + (if C n then 1 else 0))
    by_cases hA : A n
    · rw [if_pos hA]
      rcases h n hA with hB | hC
      · rw [if_pos hB]; omega
      · rw [if_pos hC]; omega
    · rw [if_neg hA]; omega
/-- the names of a plan's records differ -/
def DNB (q : Nat) (τ : ST) : Prop := ∀ i j : Nat, i < j → (j : Int) < (τ.1 8 q).toInt → ¬ τ.2.1 9 (6 * q + i) = τ.2.1 9 (6 * q + j)
abbrev CNM (τ : ST) (k : Nat) : Prop := (((k / 6 : Nat) : Int) < rmW τ ∧ ((k % 6 : Nat) : Int) < rmR τ) ∧ τ.2.1 9 (6 * (τ.1 0 53).toNatClampNeg + (Int32.ofNat (k / 6)).toNatClampNeg) = τ.2.1 9 (6 * (τ.1 0 54).toNatClampNeg + (Int32.ofNat (k % 6)).toNatClampNeg)
theorem uP_7 {p q : Nat} {σ τ : ST} (h : PQ p q σ τ) (hD : DNB q τ) : uP τ ≤ 7 := by
  have hrm := h.rm
  have n54 : (τ.1 0 54).toNatClampNeg = q := nC h.2.1.2
  have a1 : uP τ ≤ cntZ (fun k => k = 0) 36 + cntZ (CNM τ) 36 := cntZ_or (A := CAN τ) (fun k hk => by
    obtain ⟨k1, k2, k3⟩ := hk
    rcases k3 with k3 | k3
    · by_cases h36 : k < 6000
      · have i1 := ofNatI (w := k / 6) (by omega)
        have i2 := ofNatI (w := k % 6) (by omega)
        exact .inl (by omega)
      · exfalso
        have cP := h.2.2.1.1.cnt
        omega
    · exact .inr ⟨k2, k3⟩) 36
  have a2 : cntZ (fun k => k = 0) 36 ≤ 1 := by decide
  have a3 : ∀ n : Nat, n ≤ 6 → cntZ (CNM τ) (6 * n) ≤ n := by
    intro n
    induction n with
    | zero => intro _; exact Nat.le_refl _
    | succ n ih =>
      intro hn
      have b1 := ih (by omega)
      have b2 := cntZ_blk (B := CNM τ) (a := 6 * n) (6 * (n + 1)) (by omega) (fun i j h1 h2 h3 hi hj => by
        have ei : i / 6 = n := by omega
        have ej : j / 6 = n := by omega
        obtain ⟨⟨_, i2⟩, i3⟩ := hi
        obtain ⟨⟨_, j2⟩, j3⟩ := hj
        rw [ei] at i3
        rw [ej] at j3
        have ii := ofNatI (w := i % 6) (by omega)
        have ij := ofNatI (w := j % 6) (by omega)
        have ni : (Int32.ofNat (i % 6)).toNatClampNeg = i % 6 := nC ii
        have nj : (Int32.ofNat (j % 6)).toNatClampNeg = j % 6 := nC ij
        rw [ni, n54] at i3
        rw [nj, n54] at j3
        exact hD (i % 6) (j % 6) (by omega) (by omega) (i3.symm.trans j3))
      omega
  have a4 := a3 6 (by omega)
  have e36 : 6 * 6 = 36 := rfl
  rw [e36] at a4
  omega
/-- the reference turned to two plans -/
def stt (y : ST) (p0 p1 : Int32) : ST := stI (stI y 0 53 p0) 0 54 p1
theorem stt_ch {y t : ST} {p0 p1 : Int32} (c : CH [35] [53, 54] y t) (h1 : t.1 0 53 = p0) (h2 : t.1 0 54 = p1) : CH [35] [] (stt y p0 p1) t := by
  refine ⟨fun d d0 dc => ?_, fun i _ => ?_, c.2.2⟩
  · rw [c.1 d d0 dc]
    show _ = (stI (stI y 0 53 p0) 0 54 p1).1 d
    rw [stI_ne d0, stI_ne d0]
  · show _ = upd (upd (y.1 0) 53 p0) 54 p1 i
    by_cases e : i = 54
    · rw [e, upd_at, h2]
    · rw [upd_no e]
      by_cases e2 : i = 53
      · rw [e2, upd_at, h1]
      · rw [upd_no e2]
        refine c.2.1 i (fun h9 => ?_)
        simp only [List.mem_cons, List.not_mem_nil, or_false] at h9
        omega
theorem bw_18 {P : ST → Prop} : ∀ (n k : Nat) (x3 : Int32) (τ : ST), x3.toInt = k → k ≤ 36 → (∀ i, i < k → τ.1 40 i = 0) → (∀ t, CH [40] [] τ t → (∀ i, i < 36 → t.1 40 i = 0) → PT (f_T_X11_looksAtRecords 0 0 t) P) → PT (f_X11_laysMisses_18 n x3 τ) P := by
  intro n
  have l1 := li_1
  have l36 := li_36
  induction n with
  | zero => intro k x3 τ _ _ _ _; exact PT.none
  | succ n ih =>
    intro k x3 τ h3 hk hz hT
    rw [f_X11_laysMisses_18]
    have e3 := il_addE (x := x3) (y := 1) (by omega) (by omega)
    have n3 : x3.toNatClampNeg = k := nC h3
    refine PT.ile (fun _ => ?_) (fun _ => ?_)
    · exact PT.bnd (hT τ CH.rf (fun i hi => hz i (by omega))) (fun t ht => PT.ret ht)
    · refine PT.grd (fun _ => ?_)
      rw [n3]
      have ch : CH [40] [] τ (stI τ 40 k (vp_nar .boolean 0)) := CH.rf.i (by decide) (by decide)
      refine ih (k + 1) (x3 + 1) _ (by omega) (by omega) (fun i hi => ?_) (fun t ct => hT t (ch.trans ct))
      show upd (τ.1 40) k (vp_nar .boolean 0) i = 0
      by_cases e : i = k
      · rw [e, upd_at]; rfl
      · rw [upd_no e]
        exact hz i (by omega)
/-- the class's root of a plan -/
theorem ab_root {p q : Nat} {rw_ rb rf : Int32 → Int32 → Int32 → ST → Option ST} {rr : Int32 → Int32 → ST → Option ST} {σ τ : ST} (hf : cWF p q rf rr) (h : STT p q σ τ) (hn : (τ.1 0 61).toInt < 20) (hl : LVB 0 τ 1) : PT (f_X0_walk rw_ rb rf (σ.1 6 p) (σ.1 6 q) 0 σ) (fun s => PT (rr 0 0 τ) (PWX σ τ s)) := by
  have h' := h
  obtain ⟨⟨⟨hp, hq⟩, ⟨a2, a3⟩, ⟨a4, a5⟩, a6⟩, _, _⟩ := h'
  have cP := a4.cnt
  have cQ := a5.cnt
  obtain ⟨_, ⟨⟨x1, x2⟩, x3, x4⟩, _, _⟩ := a4
  obtain ⟨_, ⟨⟨y1, y2⟩, y3, y4⟩, _, _⟩ := a5
  have x1 : 0 ≤ (σ.1 6 p).toInt := x1
  have x2 : (σ.1 6 p).toInt < (σ.1 4 1).toInt := x2
  have x3 : (σ.1 15 (σ.1 6 p).toNatClampNeg).toInt = 7 := x3
  have x4 : (σ.1 16 (σ.1 6 p).toNatClampNeg).toInt = 6 * (p : Int) := x4
  have y1 : 0 ≤ (σ.1 6 q).toInt := y1
  have y2 : (σ.1 6 q).toInt < (σ.1 4 1).toInt := y2
  have y3 : (σ.1 15 (σ.1 6 q).toNatClampNeg).toInt = 7 := y3
  have y4 : (σ.1 16 (σ.1 6 q).toNatClampNeg).toInt = 6 * (q : Int) := y4
  have l0 := li_0
  have l7 := li_7
  have l8 := li_8
  have l20 := li_20
  have l40 := li_40
  have m1 := h.2.2.1.1
  unfold f_X0_walk f_X0_walk_77
  refine PT.ilt (fun h9 => by omega) (fun _ => ?_)
  refine PT.ilt (fun _ => ?_) (fun h9 => by omega)
  rw [a4_sortOf _ σ ⟨x1, x2⟩ cP.2.2, sbnd]
  dsimp only
  refine PT.ieq (fun h9 => by omega) (fun _ => ?_)
  rw [a4_sortOf _ σ ⟨y1, y2⟩ cP.2.2, sbnd]
  dsimp only
  refine PT.ieq (fun h9 => by omega) (fun _ => ?_)
  rw [a4_sortOf _ σ ⟨y1, y2⟩ cP.2.2, sbnd]
  dsimp only
  rw [a4_innerOf _ σ ⟨x1, x2⟩ cP.2.2, sbnd]
  dsimp only
  rw [a4_innerOf _ σ ⟨y1, y2⟩ cP.2.2, sbnd]
  dsimp only
  refine PT.ieq (fun _ => ?_) (fun h9 => by omega)
  refine PT.ieq (fun _ => ?_) (fun h9 => by omega)
  have hN : NYS τ 0 0 := .inl ⟨l0, l0⟩
  refine PT.bndR (ab_mayPair h.1 _ _ 0 0 0 0 (by omega) (by omega) (by omega) (by omega) (by omega) (by omega)) (fun z hz => ?_)
  dsimp only
  refine PT.ieq (fun h9 => ?_) (fun _ => ?_)
  · exfalso
    rcases hz with hz | hz
    · exact hz.2 hN
    · omega
  · exact PT.bnd (hf _ _ 0 0 0 σ τ 0 0 h hn (by omega) (by omega) l0 l0 (by omega) (by omega) hN hl) (fun s hs => PT.ret hs)
/-- all misses: what the reference lays from any state in which the plans are those -/
theorem ab_lay {p q : Nat} {σ y : ST} {p0 p1 : Int32} (h0 : p0.toInt = p) (h1 : p1.toInt = q) (hp : (p : Int) < (y.1 0 32).toInt) (hq : (q : Int) < (y.1 0 32).toInt) (hB : IB y) (hT : PHB 4 p σ y ∧ PHB 4 q σ y) (hD : DNB q y) (hG : GFX (stt y p0 p1) (RBX (σ.2.1 41 4))) (z6 : σ.1 41 6 = 0) (z11 : σ.1 41 11 = 0) (z12 : σ.2.1 41 12 = 0) : PT (f_T_X0_walk (σ.1 6 p) (σ.1 6 q) 0 σ) (fun s => PT (f_X11_laysMisses p0 p1 y) (fun t => KWK σ s ∧ LMX s t ∧ (t.1 35 0 = 0 ↔ lbt (σ.2.1 41 4) 0 = false))) := by
  have b32 := hB.1.1
  have b321 := b32.1
  have b322 := b32.2
  have lu := FUi
  have l0 := li_0
  refine PT.sw ?_
  unfold f_X11_laysMisses
  refine PT.bnd (PT.ok (bx_laysPairs p0 p1 y hB.1 hB.2.1 (by omega) (by omega))) (fun t ht => ?_)
  obtain ⟨tc, ⟨tM, tC, tG⟩, t53, t54⟩ := ht
  have hG2 : GFX t (RBX (σ.2.1 41 4)) := hG.tr (stt_ch tc t53 t54) (by decide) (by decide) (by decide)
  have hE := tG.uniq hG2
  have hRE : ∀ k, k < 36 → (t.1 35 k = 0 ↔ lbt (σ.2.1 41 4) k = false) := fun k hk => (hE k hk).trans RBX_iff
  have kr := tc.kr (by decide)
  have tP := hT.1.keep (by omega) (show KTA σ σ from KTA.rf) kr
  have tQ := hT.2.keep (by omega) (show KTA σ σ from KTA.rf) kr
  have tD : DNB q t := by
    unfold DNB
    rw [tc.1 8 (by decide) (by decide), tc.2.2.1]
    exact hD
  refine bw_18 FU 0 0 (stI (stI t 0 61 0) 0 57 0) l0 (by omega) (fun i hi => by omega) (fun u uc uz => ?_)
  have c2 : CH [35, 40] [57, 61] t u := CH.trans ((CH.rf.o (by decide)).o (by decide)) (uc.mono (by decide) (by decide))
  have u61 : u.1 0 61 = 0 := by rw [uc.2.1 61 (by decide)]; rfl
  have u57 : u.1 0 57 = 0 := by rw [uc.2.1 57 (by decide)]; rfl
  have u35 : u.1 35 = t.1 35 := by
    rw [uc.1 35 (by decide) (by decide)]
    rfl
  have c3 : CH LC LI t u := CH.trans ((CH.rf.o (by decide)).o (by decide)) (uc.mono (by decide) (by decide))
  have kr2 := c3.kr (by decide)
  have uPQ : PQ p q σ u := ⟨⟨by omega, by omega⟩, ⟨by rw [c3.2.1 53 (by decide), t53]; exact h0, by rw [c3.2.1 54 (by decide), t54]; exact h1⟩, ⟨tP.keep (by omega) KTA.rf kr2, tQ.keep (by omega) KTA.rf kr2⟩, tM.ch c3 (by decide) (by decide)⟩
  have uD : DNB q u := by
    unfold DNB
    rw [c3.1 8 (by decide) (by decide), c3.2.2.1]
    exact tD
  have uX : XW σ u := by
    refine ⟨⟨by rw [z6, u61], by rw [u61]; omega, fun i hi => by rw [u61] at hi; omega⟩, fun _ => ⟨by rw [z11, u57], by rw [u57]; omega, fun k hk => by rw [u57] at hk; omega, fun k hk => ?_⟩⟩
    rw [z12, lbt_0, uz k hk]
    simp
  have uS : STT p q σ u := ⟨uPQ, fun k hk => by rw [u35]; exact hRE k hk, uX⟩
  have u7 := uP_7 uPQ uD
  refine PT.sw ?_
  show PT (f_X0_walk (R_X0_walk 159).1 (R_X0_walk 159).2.1 (R_X0_walk 159).2.2 (σ.1 6 p) (σ.1 6 q) 0 σ) _
  refine (ab_root (wz_R 159 FRB).2.2 uS (by rw [u61]; omega) (fun _ => ⟨by rw [u57], by rw [u57]; omega⟩)).mono (fun s hs => ?_)
  refine PT.mono (P := PWX σ u s) hs (fun v hv => ⟨hv.1, hv.2.2.1.1, ?_⟩)
  rw [hv.2.1.1 35 (by decide) (by decide), u35]
  exact hRE 0 (by omega)
/-! what the class keeps of its matchings, against what the reference would answer -/
theorem PT.all {α β : Type} {o : Option α} {Y : β → Prop} {P : α → β → Prop} (h : ∀ y, Y y → PT o (fun q => P q y)) : PT o (fun q => ∀ y, Y y → P q y) := fun q e y hy => h y hy q e
theorem PT.and {α : Type} {o : Option α} {P Q : α → Prop} (h : PT o P) (k : PT o Q) : PT o (fun q => P q ∧ Q q) := fun q e => ⟨h q e, k q e⟩
/-- a state of the reference with the same plans -/
def YOK (τ y : ST) : Prop := KR τ y ∧ y.1 0 32 = τ.1 0 32 ∧ IB y
theorem YOK.trans {a b c : ST} (h : YOK a b) (k : YOK b c) : YOK a c := ⟨h.1.trans k.1, k.2.1.trans h.2.1, k.2.2⟩
def DNs (τ : ST) : Prop := ∀ p : Nat, (p : Int) < (τ.1 0 32).toInt → DNB p τ
theorem DNs.yok {τ y : ST} (h : DNs τ) (k : YOK τ y) (hb : bI (τ.1 0 32) 0 6) (hr : ∀ p : Nat, (p : Int) < (τ.1 0 32).toInt → (τ.1 8 p).toInt ≤ 6) : DNs y := by
  intro p hp i j hij hj
  obtain ⟨⟨k1, k2, _⟩, k3, _⟩ := k
  rw [k3] at hp
  have h32 := hb.2
  have h6 := hr p hp
  rw [k1 p (by omega)] at hj
  rw [(k2 (6 * p + i) (by omega)).2.2, (k2 (6 * p + j) (by omega)).2.2]
  exact h p hp i j hij hj
/-- the relations that are known -/
def CAX (σ τ : ST) : Prop := ∀ p q : Nat, (p : Int) < (τ.1 0 32).toInt → (q : Int) < (τ.1 0 32).toInt → lbt (σ.2.1 41 2) (6 * p + q) = true → ∀ y, YOK τ y → GFX (stt y (Int32.ofNat p) (Int32.ofNat q)) (RBX (σ.2.1 42 (6 * p + q)))
/-- the verdicts -/
def VAX (σ τ : ST) : Prop := ∀ p q : Nat, (p : Int) < (τ.1 0 32).toInt → (q : Int) < (τ.1 0 32).toInt → ¬ σ.1 43 (6 * p + q) = -1 → ∀ y, YOK τ y → PT (f_X11_verdict (Int32.ofNat p) (Int32.ofNat q) y) (fun r => r.1 = σ.1 43 (6 * p + q))
/-- and the misses -/
def MAX_ (σ τ : ST) : Prop := ∀ p q : Nat, (p : Int) < (τ.1 0 32).toInt → (q : Int) < (τ.1 0 32).toInt → (σ.1 41 5).toInt = 6 * (p : Int) + q → ∀ y, YOK τ y → PT (f_X11_laysMisses (Int32.ofNat p) (Int32.ofNat q) y) (fun t => LMX σ t)
/-- which of the plans a message was written with -/
def MPX (σ τ : ST) : Prop := ∀ i : Nat, i < 4 → -1 ≤ (σ.1 40 i).toInt ∧ (σ.1 40 i).toInt < (τ.1 0 32).toInt
def MZ (τ σ : ST) : Prop := (CAX σ τ ∧ VAX σ τ ∧ MAX_ σ τ) ∧ (T5 σ τ ∧ DNs τ ∧ IB τ) ∧ MPX σ τ
theorem LMX.to {σ s t : ST} (h : LMX σ t) (h6 : s.1 41 6 = σ.1 41 6) (h4 : s.1 44 = σ.1 44) (h5 : s.1 45 = σ.1 45) (h46 : s.1 46 = σ.1 46) : LMX s t := by
  unfold LMX
  rw [h6, h4, h5, h46]
  exact h
theorem MZ.to {τ σ s : ST} (h : MZ τ σ) (k : ∀ c, 4 ≤ c → c < 20 → s.1 c = σ.1 c ∧ s.2.1 c = σ.2.1 c) (m : ∀ c, c ∈ [40, 41, 43, 44, 45, 46] → s.1 c = σ.1 c) (l : s.2.1 41 = σ.2.1 41 ∧ s.2.1 42 = σ.2.1 42) : MZ τ s := by
  obtain ⟨⟨h1, h2, h3⟩, ⟨h4, h5, h6⟩, h7⟩ := h
  refine ⟨⟨?_, ?_, ?_⟩, ⟨h4.keep rfl h6.1.1 k KR.rf, h5, h6⟩, ?_⟩
  · unfold CAX
    rw [l.1, l.2]
    exact h1
  · unfold VAX
    rw [m 43 (by decide)]
    exact h2
  · unfold MAX_ LMX
    rw [m 41 (by decide), m 44 (by decide), m 45 (by decide), m 46 (by decide)]
    exact h3
  · unfold MPX
    rw [m 40 (by decide)]
    exact h7
theorem MZ.yok {τ y σ : ST} (h : MZ τ σ) (k : YOK τ y) : MZ y σ := by
  obtain ⟨⟨h1, h2, h3⟩, ⟨h4, h5, h6⟩, h7⟩ := h
  have e := k.2.1
  have hr : ∀ p : Nat, (p : Int) < (τ.1 0 32).toInt → (τ.1 8 p).toInt ≤ 6 := fun p hp => (h4 p hp).1.2.2
  refine ⟨⟨fun p q hp hq hb z hz => h1 p q (by rw [← e]; exact hp) (by rw [← e]; exact hq) hb z (k.trans hz), fun p q hp hq hb z hz => h2 p q (by rw [← e]; exact hp) (by rw [← e]; exact hq) hb z (k.trans hz), fun p q hp hq hb z hz => h3 p q (by rw [← e]; exact hp) (by rw [← e]; exact hq) hb z (k.trans hz)⟩, ⟨h4.keep e h6.1.1 KTA.rf k.1, h5.yok k h6.1.1 hr, k.2.2⟩, fun i hi => by rw [e]; exact h7 i hi⟩
theorem MZ.y0 {τ σ : ST} (h : MZ τ σ) : YOK τ τ := ⟨KR.rf, rfl, h.2.1.2.2⟩
theorem a_pairOf (p0 p1 : Int32) (σ : ST) {p q : Nat} (h0 : p0.toInt = p) (h1 : p1.toInt = q) (hp : p < 6) (hq : q < 6) : ∃ v : Int32, f_X0_pairOf p0 p1 σ = some (v, σ) ∧ v.toInt = 6 * (p : Int) + q := by
  unfold f_X0_pairOf
  have l0 := li_0
  have l6 := li_6
  have m1 : (p0 * 6).toInt = 6 * p0.toInt := by
    rw [Int32.mul_comm]
    exact mlE (k := 6) (y := p0) 6 l6 (by omega) (by omega)
  have m2 := il_addE (x := p0 * 6) (y := p1) (by omega) (by omega)
  rw [if_neg (by rw [Int32.lt_iff_toInt_lt]; omega), if_neg (by rw [Int32.le_iff_toInt_le]; omega), if_neg (by rw [Int32.lt_iff_toInt_lt]; omega), if_neg (by rw [Int32.le_iff_toInt_le]; omega)]
  exact ⟨_, rfl, by omega⟩
theorem PQ.mk {p q : Nat} {σ τ y : ST} {p0 p1 : Int32} (h : T5 σ y) (hB : IB y) (h0 : p0.toInt = p) (h1 : p1.toInt = q) (hp : (p : Int) < (y.1 0 32).toInt) (hq : (q : Int) < (y.1 0 32).toInt) : PQ p q σ (stt y p0 p1) := by
  have b := hB.1.1.2
  have kr : KR y (stt y p0 p1) := KR.eq (fun c hc => by
    show (stI (stI y 0 53 p0) 0 54 p1).1 c = _
    rw [stI_ne (fun e => by rw [e] at hc; revert hc; decide), stI_ne (fun e => by rw [e] at hc; revert hc; decide)]) (fun c _ => rfl)
  exact ⟨⟨by omega, by omega⟩, ⟨h0, h1⟩, ⟨(h p hp).keep (by omega) KTA.rf kr, (h q hq).keep (by omega) KTA.rf kr⟩, ⟨hB.1.of rfl rfl rfl rfl rfl rfl rfl rfl rfl, ⟨⟨by show 0 ≤ p0.toInt; omega, by show p0.toInt < (y.1 0 32).toInt; omega⟩, by show 0 ≤ p1.toInt; omega, by show p1.toInt < (y.1 0 32).toInt; omega⟩, hB.2.1⟩⟩
/-- turned to two plans: nothing but the relations changes -/
def KTN (σ s : ST) : Prop := s.1 = σ.1 ∧ s.2.2 = σ.2.2 ∧ ∀ c, c ≠ 41 → c ≠ 42 → s.2.1 c = σ.2.1 c
theorem K41.ktn {σ s : ST} (h : K41 σ s) : KTN σ s := ⟨h.1, h.2.1, fun c h1 _ => h.2.2.1 c h1⟩
theorem KTN.trans {a b c : ST} (h : KTN a b) (k : KTN b c) : KTN a c := ⟨k.1.trans h.1, k.2.1.trans h.2.1, fun d h1 h2 => (k.2.2 d h1 h2).trans (h.2.2 d h1 h2)⟩
theorem KTN.l {σ : ST} {c i : Nat} {v : Int64} (hc : c = 41 ∨ c = 42) : KTN σ (stL σ c i v) := ⟨rfl, rfl, fun d h1 h2 => stL_ne (by omega)⟩
theorem KTN.kta {σ s : ST} (h : KTN σ s) : KTA σ s := fun c h1 h2 => ⟨by rw [h.1], h.2.2 c (by omega) (by omega)⟩
theorem at_turnTo {p q : Nat} {σ τ : ST} {p0 p1 : Int32} (h : MZ τ σ) (h0 : p0.toInt = p) (h1 : p1.toInt = q) (hp : (p : Int) < (τ.1 0 32).toInt) (hq : (q : Int) < (τ.1 0 32).toInt) : PT (f_X0_turnTo p0 p1 σ) (fun s => KTN σ s ∧ MZ τ s ∧ ∀ y, YOK τ y → GFX (stt y p0 p1) (RBX (s.2.1 41 4))) := by
  obtain ⟨⟨hC, hV, hM⟩, ⟨hT, hD, hI⟩, hP⟩ := h
  have b := hI.1.1.2
  have hp6 : p < 6 := by omega
  have hq6 : q < 6 := by omega
  have e0 : p0 = Int32.ofNat p := intOf h0 (by omega)
  have e1 : p1 = Int32.ofNat q := intOf h1 (by omega)
  obtain ⟨v, ev, hv⟩ := a_pairOf p0 p1 σ h0 h1 hp6 hq6
  have nv : v.toNatClampNeg = 6 * p + q := nC (by omega)
  have evn : v = Int32.ofNat (6 * p + q) := intOf (by omega) (by omega)
  unfold f_X0_turnTo f_X0_turnTo_47
  rw [ev, sbnd]
  dsimp only
  refine PT.ite (fun hb => ?_) (fun hb => ?_)
  · have hrel : PT (f_X0_relate p0 p1 σ) (fun t => K41 σ t ∧ ∀ y, YOK τ y → GFX (stt y p0 p1) (RBX (t.2.1 41 4))) := PT.and ((PT.ok (ab_relate (PQ.mk (τ := τ) hT hI h0 h1 hp hq) p0 p1 h0 h1)).mono (fun t ht => ht.1)) (PT.all (fun y hy => (PT.ok (ab_relate (PQ.mk (τ := τ) (hT.keep hy.2.1 hI.1.1 KTA.rf hy.1) hy.2.2 h0 h1 (by rw [hy.2.1]; exact hp) (by rw [hy.2.1]; exact hq)) p0 p1 h0 h1)).mono (fun t ht => ht.2)))
    refine PT.bnd hrel (fun t ht => ?_)
    obtain ⟨k, hG⟩ := ht
    refine PT.grd (fun _ => ?_)
    refine PT.lt (fun z hz => ?_)
    refine PT.grd (fun _ => ?_)
    refine PT.ret ?_
    rw [nv] at hz ⊢
    have z42 : z.2.1 42 = vp_updL (t.2.1 42) (6 * p + q) (t.2.1 41 4) := by
      rw [hz, stL_ne (by omega)]
      show (bif Nat.beq 42 42 then vp_updL (t.2.1 42) (6 * p + q) (t.2.1 41 4) else t.2.1 42) = _
      rw [Nat.beq_refl]
      rfl
    have z2 : z.2.1 41 2 = (t.2.1 41 2 ||| lb1 (6 * p + q)) := by
      rw [hz, stL_at, stL_ne (by omega), evn, shl1 _ (by omega)]
    have zk : KTN t z := by
      rw [hz]
      exact (KTN.l (.inr rfl)).trans (KTN.l (.inl rfl))
    clear hz
    have w4 : (stL z 41 4 (z.2.1 42 (6 * p + q))).2.1 41 4 = t.2.1 41 4 := by
      rw [stL_at, z42, updL_at]
    have w42 : (stL z 41 4 (z.2.1 42 (6 * p + q))).2.1 42 = z.2.1 42 := stL_ne (by omega)
    have w2 : (stL z 41 4 (z.2.1 42 (6 * p + q))).2.1 41 2 = z.2.1 41 2 := by
      show vp_updL (z.2.1 41) 4 (z.2.1 42 (6 * p + q)) 2 = _
      rw [updL_no (by omega)]
    have wk : KTN σ (stL z 41 4 (z.2.1 42 (6 * p + q))) := (k.ktn.trans zk).trans (KTN.l (.inl rfl))
    generalize stL z 41 4 (z.2.1 42 (6 * p + q)) = w at w4 w42 w2 wk ⊢
    refine ⟨wk, ⟨⟨?_, ?_, ?_⟩, ⟨hT.keep rfl hI.1.1 wk.kta KR.rf, hD, hI⟩, ?_⟩, ?_⟩
    · intro p' q' hp' hq' hbit y hy
      have b32 := hI.1.1.2
      rw [w42, z42]
      by_cases e : 6 * p' + q' = 6 * p + q
      · have ep : p' = p := by omega
        have eq : q' = q := by omega
        subst ep eq
        rw [updL_at, ← e0, ← e1]
        exact hG y hy
      · rw [updL_no e]
        rw [w2, z2, lbt_or (by omega)] at hbit
        have t42 : t.2.1 42 = σ.2.1 42 := k.2.2.1 42 (by omega)
        have t2 : t.2.1 41 2 = σ.2.1 41 2 := k.2.2.2 2 (by omega)
        rw [t42]
        rw [t2] at hbit
        refine hC p' q' hp' hq' ?_ y hy
        simpa [e] using hbit
    · unfold VAX
      rw [wk.1]
      exact hV
    · unfold MAX_ LMX
      rw [wk.1]
      exact hM
    · unfold MPX
      rw [wk.1]
      exact hP
    · intro y hy
      rw [w4]
      exact hG y hy
  · rw [evn] at hb
    rw [lg_cmp_eq, lbt_shr (by omega)] at hb
    have hbit : lbt (σ.2.1 41 2) (6 * p + q) = true := by
      cases e : lbt (σ.2.1 41 2) (6 * p + q) with
      | true => rfl
      | false => exact absurd e hb
    refine PT.grd (fun _ => ?_)
    refine PT.ret ?_
    rw [nv]
    have w4 : (stL σ 41 4 (σ.2.1 42 (6 * p + q))).2.1 41 4 = σ.2.1 42 (6 * p + q) := stL_at
    have w42 : (stL σ 41 4 (σ.2.1 42 (6 * p + q))).2.1 42 = σ.2.1 42 := stL_ne (by omega)
    have w2 : (stL σ 41 4 (σ.2.1 42 (6 * p + q))).2.1 41 2 = σ.2.1 41 2 := by
      show vp_updL (σ.2.1 41) 4 (σ.2.1 42 (6 * p + q)) 2 = _
      rw [updL_no (by omega)]
    have wk : KTN σ (stL σ 41 4 (σ.2.1 42 (6 * p + q))) := KTN.l (.inl rfl)
    generalize stL σ 41 4 (σ.2.1 42 (6 * p + q)) = w at w4 w42 w2 wk ⊢
    refine ⟨wk, ⟨⟨?_, ?_, ?_⟩, ⟨hT.keep rfl hI.1.1 wk.kta KR.rf, hD, hI⟩, ?_⟩, ?_⟩
    · unfold CAX
      rw [w2, w42]
      exact hC
    · unfold VAX
      rw [wk.1]
      exact hV
    · unfold MAX_ LMX
      rw [wk.1]
      exact hM
    · unfold MPX
      rw [wk.1]
      exact hP
    · intro y hy
      rw [w4, e0, e1]
      exact hC p q hp hq hbit y hy
/-- the misses told: what changes -/
def KWM (σ s : ST) : Prop := (∀ c, c ∉ [41, 44, 45, 46, 47] → s.1 c = σ.1 c) ∧ s.2.2 = σ.2.2 ∧ (∀ c, c ≠ 41 → s.2.1 c = σ.2.1 c) ∧ ∀ i, i ≠ 12 → s.2.1 41 i = σ.2.1 41 i
theorem KWM.kta {σ s : ST} (h : KWM σ s) : KTA σ s := fun c h1 h2 => ⟨h.1 c (fun e => by
  simp only [List.mem_cons, List.not_mem_nil, or_false] at e
  omega), h.2.2.1 c (by omega)⟩
theorem a4_rootType (p0 : Int32) (σ : ST) {p : Nat} (h0 : p0.toInt = p) (hp : p < 6) : f_X5_rootType 4 p0 σ = some (σ.1 6 p, σ) := by
  unfold f_X5_rootType
  have l0 := li_0
  have l6 := li_6
  have np : p0.toNatClampNeg = p := nC h0
  rw [if_neg (by rw [Int32.lt_iff_toInt_lt]; omega), if_neg (by rw [Int32.le_iff_toInt_le]; omega), if_pos ⟨by omega, by omega⟩, np]
theorem at_collect {p q : Nat} {σ τ : ST} {p0 p1 : Int32} (h : MZ τ σ) (h0 : p0.toInt = p) (h1 : p1.toInt = q) (hp : (p : Int) < (τ.1 0 32).toInt) (hq : (q : Int) < (τ.1 0 32).toInt) (hG : ∀ y, YOK τ y → GFX (stt y p0 p1) (RBX (σ.2.1 41 4))) : PT (f_X0_collectMisses p0 p1 σ) (fun s => KWM σ s ∧ MZ τ s ∧ ∀ y, YOK τ y → PT (f_X11_laysMisses p0 p1 y) (fun t => LMX s t)) := by
  have h' := h
  obtain ⟨⟨hC, hV, hM⟩, ⟨hT, hD, hI⟩, hP⟩ := h'
  have b := hI.1.1.2
  have hp6 : p < 6 := by omega
  have hq6 : q < 6 := by omega
  have e0 : p0 = Int32.ofNat p := intOf h0 (by omega)
  have e1 : p1 = Int32.ofNat q := intOf h1 (by omega)
  obtain ⟨v, ev, hv⟩ := a_pairOf p0 p1 σ h0 h1 hp6 hq6
  unfold f_X0_collectMisses
  rw [ev, sbnd]
  dsimp only
  refine PT.ieq (fun hb => PT.ret ⟨⟨fun _ _ => rfl, rfl, fun _ _ => rfl, fun _ _ => rfl⟩, h, fun y hy => ?_⟩) (fun hb => ?_)
  · rw [e0, e1]
    exact hM p q hp hq (by omega) y hy
  have z5 : (stL (stI (stI (stI σ 41 5 v) 41 6 0) 41 11 0) 41 12 0).1 41 5 = v := rfl
  have z6 : (stL (stI (stI (stI σ 41 5 v) 41 6 0) 41 11 0) 41 12 0).1 41 6 = 0 := rfl
  have z11 : (stL (stI (stI (stI σ 41 5 v) 41 6 0) 41 11 0) 41 12 0).1 41 11 = 0 := rfl
  have z12 : (stL (stI (stI (stI σ 41 5 v) 41 6 0) 41 11 0) 41 12 0).2.1 41 12 = 0 := stL_at
  have zi : ∀ i, i ≠ 12 → (stL (stI (stI (stI σ 41 5 v) 41 6 0) 41 11 0) 41 12 0).2.1 41 i = σ.2.1 41 i := fun i hi => by
    show vp_updL (σ.2.1 41) 12 0 i = _
    rw [updL_no hi]
  have zc : ∀ c, c ≠ 41 → (stL (stI (stI (stI σ 41 5 v) 41 6 0) 41 11 0) 41 12 0).1 c = σ.1 c := fun c hc => by
    show (stI (stI (stI σ 41 5 v) 41 6 0) 41 11 0).1 c = _
    rw [stI_ne hc, stI_ne hc, stI_ne hc]
  have zl : ∀ c, c ≠ 41 → (stL (stI (stI (stI σ 41 5 v) 41 6 0) 41 11 0) 41 12 0).2.1 c = σ.2.1 c := fun c hc => stL_ne hc
  have zr : (stL (stI (stI (stI σ 41 5 v) 41 6 0) 41 11 0) 41 12 0).2.2 = σ.2.2 := rfl
  generalize stL (stI (stI (stI σ 41 5 v) 41 6 0) 41 11 0) 41 12 0 = z at z5 z6 z11 z12 zi zc zl zr ⊢
  have zkta : KTA σ z := fun c h1 h2 => ⟨zc c (by omega), zl c (by omega)⟩
  rw [a4_rootType p0 z h0 hp6, sbnd]
  dsimp only
  rw [a4_rootType p1 z h1 hq6, sbnd]
  dsimp only
  have z4 : z.2.1 41 4 = σ.2.1 41 4 := zi 4 (by omega)
  have run : ∀ y, YOK τ y → PT (f_T_X0_walk (z.1 6 p) (z.1 6 q) 0 z) (fun s => PT (f_X11_laysMisses p0 p1 y) (fun t => KWK z s ∧ LMX s t ∧ (t.1 35 0 = 0 ↔ lbt (z.2.1 41 4) 0 = false))) := fun y hy => by
    have hTy := hT.keep hy.2.1 hI.1.1 zkta hy.1
    have hr : ∀ p : Nat, (p : Int) < (τ.1 0 32).toInt → (τ.1 8 p).toInt ≤ 6 := fun p hp => (hT p hp).1.2.2
    exact ab_lay h0 h1 (by rw [hy.2.1]; exact hp) (by rw [hy.2.1]; exact hq) hy.2.2 ⟨hTy p (by rw [hy.2.1]; exact hp), hTy q (by rw [hy.2.1]; exact hq)⟩ (hD.yok hy hI.1.1 hr q (by rw [hy.2.1]; exact hq)) (by rw [z4]; exact hG y hy) z6 z11 z12
  have hwk : PT (f_T_X0_walk (z.1 6 p) (z.1 6 q) 0 z) (fun s => KWK z s) := by
    obtain ⟨t, et, _⟩ := hI.lm p0 p1 ⟨by omega, by omega⟩ ⟨by omega, by omega⟩
    exact (run τ h.y0).mono (fun s hs => (hs t et).1)
  refine PT.bnd (PT.and hwk (PT.all run)) (fun s hs => PT.ret ?_)
  obtain ⟨hk, hall⟩ := hs
  have kk : KWM σ s := ⟨fun c hc => by
    rw [hk.1 c hc]
    exact zc c (fun e => hc (by rw [e]; decide)), hk.2.2.1.trans zr, fun c hc => (hk.2.2.2.1 c hc).trans (zl c hc), fun i hi => (hk.2.2.2.2 i hi).trans (zi i hi)⟩
  have hL : ∀ y, YOK τ y → PT (f_X11_laysMisses p0 p1 y) (fun t => LMX s t) := fun y hy => (hall y hy).mono (fun t ht => ht.2.1)
  refine ⟨kk, ⟨⟨?_, ?_, ?_⟩, ⟨hT.keep rfl hI.1.1 kk.kta KR.rf, hD, hI⟩, ?_⟩, hL⟩
  · unfold CAX
    rw [kk.2.2.2 2 (by omega), kk.2.2.1 42 (by omega)]
    exact hC
  · unfold VAX
    rw [kk.1 43 (by decide)]
    exact hV
  · intro p' q' hp' hq' h5 y hy
    have e5 : s.1 41 5 = z.1 41 5 := hk.2.1 5 (by decide)
    rw [e5, z5] at h5
    have ep : p' = p := by omega
    have eq : q' = q := by omega
    subst ep eq
    rw [← e0, ← e1]
    exact hL y hy
  · unfold MPX
    rw [kk.1 40 (by decide)]
    exact hP
theorem bw_root {p q : Nat} {y : ST} {p0 p1 : Int32} {L : Int64} (h0 : p0.toInt = p) (h1 : p1.toInt = q) (hp : (p : Int) < (y.1 0 32).toInt) (hq : (q : Int) < (y.1 0 32).toInt) (hB : IB y) (hG : GFX (stt y p0 p1) (RBX L)) : PT (f_X11_laysMisses p0 p1 y) (fun t => t.1 35 0 = 0 ↔ lbt L 0 = false) := by
  have lu := FUi
  have l0 := li_0
  unfold f_X11_laysMisses
  refine PT.bnd (PT.ok (bx_laysPairs p0 p1 y hB.1 hB.2.1 (by omega) (by omega))) (fun t ht => ?_)
  obtain ⟨tc, ⟨tM, tC, tG⟩, t53, t54⟩ := ht
  have hG2 : GFX t (RBX L) := hG.tr (stt_ch tc t53 t54) (by decide) (by decide) (by decide)
  have hE := (tG.uniq hG2 0 (by omega)).trans RBX_iff
  refine bw_18 FU 0 0 (stI (stI t 0 61 0) 0 57 0) l0 (by omega) (fun i hi => by omega) (fun u uc uz => ?_)
  have u35 : u.1 35 = t.1 35 := by
    rw [uc.1 35 (by decide) (by decide)]
    rfl
  have hh : PT (f_T_X11_looksAtRecords 0 0 u) (fun v => K20 u v) := w20_T_X11_looksAtRecords (s := u) ⟨CH.rf, fun h => ⟨h, rfl, rfl, rfl⟩⟩
  refine hh.mono (fun v hv => ?_)
  rw [hv.1.1 35 (by decide) (by decide), u35]
  exact hE
/-! matches, missStep, readers: both answer alike -/
theorem at_verdict {p q : Nat} {σ τ : ST} {p0 p1 : Int32} (h : MZ τ σ) (h0 : p0.toInt = p) (h1 : p1.toInt = q) (hp : (p : Int) < (τ.1 0 32).toInt) (hq : (q : Int) < (τ.1 0 32).toInt) : PT (f_X0_verdict p0 p1 σ) (fun r => KTA σ r.2 ∧ MZ τ r.2 ∧ ∀ y, YOK τ y → PT (f_X11_verdict p0 p1 y) (fun z => z.1 = r.1)) := by
  have b := h.2.1.2.2.1.1.2
  have hp6 : p < 6 := by omega
  have hq6 : q < 6 := by omega
  have e0 : p0 = Int32.ofNat p := intOf h0 (by omega)
  have e1 : p1 = Int32.ofNat q := intOf h1 (by omega)
  have l0 := li_0
  have lm := li_m1
  obtain ⟨v, ev, hv⟩ := a_pairOf p0 p1 σ h0 h1 hp6 hq6
  have nv : v.toNatClampNeg = 6 * p + q := nC (by omega)
  unfold f_X0_verdict
  rw [ev, sbnd]
  dsimp only
  refine PT.grd (fun _ => ?_)
  rw [nv]
  refine PT.ite (fun hm => ?_) (fun hm => ?_)
  rotate_left
  · unfold f_X0_verdict_61
    refine PT.grd (fun _ => ?_)
    rw [nv]
    refine PT.ret ⟨KTA.rf, h, fun y hy => ?_⟩
    rw [e0, e1]
    exact h.1.2.1 p q hp hq hm y hy
  refine PT.bnd (at_turnTo h h0 h1 hp hq) (fun s hs => ?_)
  obtain ⟨k1, hs1, hG⟩ := hs
  refine PT.bnd (at_collect hs1 h0 h1 hp hq hG) (fun u hu => ?_)
  obtain ⟨k2, hu1, hL⟩ := hu
  have u4 : u.2.1 41 4 = s.2.1 41 4 := k2.2.2.2 4 (by omega)
  have hroot : ∀ y, YOK τ y → PT (f_X11_laysMisses p0 p1 y) (fun t => t.1 35 0 = 0 ↔ lbt (u.2.1 41 4) 0 = false) := fun y hy => by
    rw [u4]
    exact bw_root h0 h1 (by rw [hy.2.1]; exact hp) (by rw [hy.2.1]; exact hq) hy.2.2 (hG y hy)
  have fin : ∀ w : Int32, (∀ y, YOK τ y → PT (f_X11_verdict p0 p1 y) (fun z => z.1 = w)) → PT (f_X0_verdict_60 v w v u) (fun r => KTA σ r.2 ∧ MZ τ r.2 ∧ ∀ y, YOK τ y → PT (f_X11_verdict p0 p1 y) (fun z => z.1 = r.1)) := fun w hw => by
    unfold f_X0_verdict_60 f_X0_verdict_61
    refine PT.grd (fun _ => ?_)
    refine PT.grd (fun _ => ?_)
    rw [nv]
    have e43 : (stI u 43 (6 * p + q) w).1 43 = upd (u.1 43) (6 * p + q) w := rfl
    rw [e43, upd_at]
    refine PT.ret ⟨fun c c1 c2 => ?_, ?_, hw⟩
    · have x := k1.kta c c1 c2
      have y := k2.kta c c1 c2
      refine ⟨?_, y.2.trans x.2⟩
      show (stI u 43 (6 * p + q) w).1 c = _
      rw [stI_ne (by omega)]
      exact y.1.trans x.1
    · obtain ⟨⟨m1, m2, m3⟩, ⟨m4, m5, m6⟩, m7⟩ := hu1
      refine ⟨⟨m1, ?_, m3⟩, ⟨m4.keep rfl m6.1.1 (KTA.rf.i (by omega)) KR.rf, m5, m6⟩, m7⟩
      intro p' q' hp' hq' hne y hy
      have hne : ¬ (stI u 43 (6 * p + q) w).1 43 (6 * p' + q') = -1 := hne
      show PT _ (fun (r : Int32 × ST) => r.1 = (stI u 43 (6 * p + q) w).1 43 (6 * p' + q'))
      rw [e43] at hne ⊢
      by_cases e : 6 * p' + q' = 6 * p + q
      · have ep : p' = p := by omega
        have eq : q' = q := by omega
        subst ep eq
        rw [upd_at, ← e0, ← e1]
        exact hw y hy
      · rw [upd_no e] at hne ⊢
        exact m2 p' q' hp' hq' hne y hy
  have n00 : (0 : Int32).toNatClampNeg = 0 := rfl
  have fit : ∀ w : Int32, (lbt (u.2.1 41 4) 0 = true → ∀ y, YOK τ y → PT (f_X11_laysMisses p0 p1 y) (fun t => ¬ (t.1 35 0) = 0 → ((t.1 0 61).toInt ≤ 0 ∧ w = 0 ∨ 0 < (t.1 0 61).toInt ∧ w = 1))) → PT (f_X0_verdict_40 v w u) (fun r => KTA σ r.2 ∧ MZ τ r.2 ∧ ∀ y, YOK τ y → PT (f_X11_verdict p0 p1 y) (fun z => z.1 = r.1)) := fun w hw => by
    unfold f_X0_verdict_40 f_X0_rootsFit
    rw [a_bitOf 0 0 u (a := 0) (b := 0) l0 l0 (by omega) (by omega), sbnd]
    dsimp only
    have e00 : 6 * (0 % 6) + 0 % 6 = 0 := rfl
    rw [e00]
    by_cases hb : lbt (u.2.1 41 4) 0 = false
    · rw [if_pos ((a_has (by omega)).mpr hb), sbnd]
      dsimp only
      rw [if_pos rfl]
      refine fin 2 (fun y hy => ?_)
      unfold f_X11_verdict
      refine PT.bnd (hroot y hy) (fun t ht => ?_)
      rw [n00, if_pos (ht.mpr hb)]
      exact PT.ret rfl
    · rw [if_neg (fun h9 => hb ((a_has (by omega)).mp h9)), sbnd]
      dsimp only
      rw [if_neg n1_0]
      have hb1 : lbt (u.2.1 41 4) 0 = true := by
        cases e : lbt (u.2.1 41 4) 0 with
        | true => rfl
        | false => exact absurd e hb
      refine fin w (fun y hy => ?_)
      unfold f_X11_verdict
      refine PT.bnd (PT.and (hroot y hy) (hw hb1 y hy)) (fun t ht => ?_)
      obtain ⟨t1, t2⟩ := ht
      have t3 : ¬ t.1 35 0 = 0 := fun h9 => hb (t1.mp h9)
      rw [n00, if_neg t3]
      refine PT.ile (fun h9 => PT.ret ?_) (fun h9 => PT.ret ?_)
      · rcases t2 t3 with h | h
        · exact h.2.symm
        · omega
      · rcases t2 t3 with h | h
        · omega
        · exact h.2.symm
  refine PT.ile (fun h9 => fit 0 (fun _ y hy => (hL y hy).mono (fun t ht _ => .inl ⟨by have := ht.1; omega, rfl⟩))) (fun h9 => fit 1 (fun _ y hy => (hL y hy).mono (fun t ht _ => .inr ⟨by have := ht.1; omega, rfl⟩)))
theorem at_find {p q : Nat} {σ τ : ST} {p0 p1 : Int32} (h : MZ τ σ) (h0 : p0.toInt = p) (h1 : p1.toInt = q) (hp : (p : Int) < (τ.1 0 32).toInt) (hq : (q : Int) < (τ.1 0 32).toInt) : PT (f_X0_findMisses p0 p1 σ) (fun s => MZ τ s ∧ ∀ y, YOK τ y → PT (f_X11_laysMisses p0 p1 y) (fun t => LMX s t)) := by
  unfold f_X0_findMisses
  refine PT.bnd (at_turnTo h h0 h1 hp hq) (fun s hs => ?_)
  obtain ⟨k1, hs1, hG⟩ := hs
  refine PT.bnd (at_collect hs1 h0 h1 hp hq hG) (fun u hu => ?_)
  exact PT.ret ⟨hu.2.1, hu.2.2⟩
theorem YOK.st0 {τ : ST} (h : IB τ) (v : Int32) : YOK τ (stI τ 0 0 v) := ⟨KR.eq (fun c hc => by
  rw [stI_ne (fun e => by rw [e] at hc; revert hc; decide)]) (fun c _ => rfl), rfl, h.th v⟩
theorem ab_matches {σ τ : ST} (h : MZ τ σ) (hc : σ.1 4 0 = τ.1 0 32) (p0 p1 : Int32) : PT (f_X10_matches p0 p1 σ) (fun r => MZ τ r.2 ∧ PT (f_X11_matches p0 p1 τ) (fun z => z.1 = r.1)) := by
  unfold f_X10_matches f_X11_matches
  have l0 := li_0
  have l1 := li_1
  have hy := YOK.st0 h.2.1.2.2 0
  have hci : (σ.1 4 0).toInt = (τ.1 0 32).toInt := by rw [hc]
  generalize stI τ 0 0 0 = y at hy ⊢
  have e32 := hy.2.1
  refine PT.bndR (k2_isPlan p0 σ) (fun v hv => ?_)
  dsimp only
  by_cases hp : 0 ≤ p0.toInt ∧ p0.toInt < (τ.1 0 32).toInt
  rotate_left
  · refine PT.ieq (fun _ => PT.ret ⟨h, ?_⟩) (fun h9 => by omega)
    refine PT.bndR (b_isPlanAt p0 y hy.2.2.1.1) (fun w hw => ?_)
    dsimp only
    rw [e32] at hw
    exact PT.ieq (fun _ => PT.ret rfl) (fun h9 => by omega)
  refine PT.ieq (fun h9 => by omega) (fun _ => ?_)
  refine PT.bndR (k2_isPlan p1 σ) (fun v2 hv2 => ?_)
  dsimp only
  have ref : ∀ r : Int32, ((0 ≤ p1.toInt ∧ p1.toInt < (τ.1 0 32).toInt) → PT (f_X11_verdict p0 p1 y) (fun z => z.1 = r)) → (¬ (0 ≤ p1.toInt ∧ p1.toInt < (τ.1 0 32).toInt) → r = -1) → PT ((f_X11_isPlanAt p0 y).bind fun q1 => if q1.1 = 0 then (some ((-1), q1.2)) else ((f_X11_isPlanAt p1 q1.2).bind fun q3 => if q3.1 = 0 then (some ((-1), q3.2)) else ((f_X11_verdict p0 p1 q3.2).bind fun q5 => some (q5.1, q5.2)))) (fun z => z.1 = r) := fun r h1 h2 => by
    refine PT.bndR (b_isPlanAt p0 y hy.2.2.1.1) (fun w hw => ?_)
    dsimp only
    rw [e32] at hw
    refine PT.ieq (fun h9 => by omega) (fun _ => ?_)
    refine PT.bndR (b_isPlanAt p1 y hy.2.2.1.1) (fun w2 hw2 => ?_)
    dsimp only
    rw [e32] at hw2
    refine PT.ieq (fun h9 => PT.ret (h2 (by omega)).symm) (fun h9 => ?_)
    exact PT.bnd (h1 (by omega)) (fun z hz => PT.ret hz)
  by_cases hq : 0 ≤ p1.toInt ∧ p1.toInt < (τ.1 0 32).toInt
  rotate_left
  · exact PT.ieq (fun _ => PT.ret ⟨h, ref _ (fun h9 => absurd h9 hq) (fun _ => rfl)⟩) (fun h9 => by omega)
  refine PT.ieq (fun h9 => by omega) (fun _ => ?_)
  obtain ⟨p, ep⟩ : ∃ p : Nat, p0.toInt = p := ⟨_, (Int.toNat_of_nonneg hp.1).symm⟩
  obtain ⟨q, eq⟩ : ∃ q : Nat, p1.toInt = q := ⟨_, (Int.toNat_of_nonneg hq.1).symm⟩
  refine PT.bnd (at_verdict h ep eq (by omega) (by omega)) (fun r hr => ?_)
  exact PT.ret ⟨hr.2.1, ref _ (fun _ => hr.2.2 y hy) (fun h9 => absurd hq h9)⟩
def bTL (p2 p3 : Int32) (t : ST) : Option (Int32 × ST) := (f_X11_within (p2.toInt64) 0 (((t.1 0 61) - 1).toInt64) t).bind fun q7 => if q7.1 = 0 then (some ((-1), q7.2)) else (if 0 ≤ p2.toInt ∧ p2.toInt < 20 then ((f_X11_within (p3.toInt64) 0 (((q7.2.1 38 p2.toNatClampNeg) - 1).toInt64) q7.2).bind fun q10 => if q10.1 = 0 then (some ((-1), q10.2)) else (if 0 ≤ ((256 * p2) + p3).toInt ∧ ((256 * p2) + p3).toInt < 5120 then (some ((q10.2.1 39 ((256 * p2) + p3).toNatClampNeg), q10.2)) else none)) else none)
theorem b_missStep_eq (p0 p1 p2 p3 : Int32) (τ : ST) : f_X11_missStep p0 p1 p2 p3 τ = (f_X11_isPlanAt p0 (stI τ 0 0 0)).bind fun q1 => if q1.1 = 0 then (some ((-1), q1.2)) else ((f_X11_isPlanAt p1 q1.2).bind fun q3 => if q3.1 = 0 then (some ((-1), q3.2)) else ((f_X11_laysMisses p0 p1 q3.2).bind fun q5 => bTL p2 p3 q5)) := rfl
theorem b_TL_no (p2 p3 : Int32) (t : ST) (h : 0 ≤ (t.1 0 61).toInt ∧ (t.1 0 61).toInt ≤ 20) (hn : ¬ (0 ≤ p2.toInt ∧ p2.toInt < (t.1 0 61).toInt)) : PT (bTL p2 p3 t) (fun z => z.1 = -1) := by
  have l0 := li_0
  have l1 := li_1
  have k0 := l64_0
  have i2 := i64 p2
  have w1 := i64 (t.1 0 61 - 1)
  have w2 := il_subE (x := t.1 0 61) (y := 1) (by omega) (by omega)
  unfold bTL
  refine PT.bndR (b_within _ _ _ _) (fun w hw => ?_)
  dsimp only
  exact PT.ieq (fun _ => PT.ret rfl) (fun h9 => by omega)
theorem b_TL_in (p2 p3 : Int32) (t : ST) {i : Nat} (ei : p2.toInt = i) (h : 0 ≤ (t.1 0 61).toInt ∧ (t.1 0 61).toInt ≤ 20) (hi : (i : Int) < (t.1 0 61).toInt) (h38 : 0 ≤ (t.1 38 i).toInt ∧ (t.1 38 i).toInt ≤ 32) : PT (bTL p2 p3 t) (fun z => ¬ (0 ≤ p3.toInt ∧ p3.toInt < (t.1 38 i).toInt) ∧ z.1 = -1 ∨ ∃ k : Nat, p3.toInt = k ∧ (k : Int) < (t.1 38 i).toInt ∧ z.1 = t.1 39 (256 * i + k)) := by
  have l0 := li_0
  have l1 := li_1
  have k0 := l64_0
  have i2 := i64 p2
  have i3 := i64 p3
  have ni : p2.toNatClampNeg = i := nC ei
  have w1 := i64 (t.1 0 61 - 1)
  have w2 := il_subE (x := t.1 0 61) (y := 1) (by omega) (by omega)
  have w3 := i64 (t.1 38 i - 1)
  have w4 := il_subE (x := t.1 38 i) (y := 1) (by omega) (by omega)
  unfold bTL
  refine PT.bndR (b_within _ _ _ _) (fun w hw => ?_)
  dsimp only
  refine PT.ieq (fun h9 => by omega) (fun _ => ?_)
  refine PT.grd (fun _ => ?_)
  rw [ni]
  refine PT.bndR (b_within _ _ _ _) (fun u hu => ?_)
  dsimp only
  refine PT.ieq (fun h9 => PT.ret (.inl ⟨by omega, rfl⟩)) (fun _ => ?_)
  refine PT.grd (fun _ => ?_)
  have hk : 0 ≤ p3.toInt ∧ p3.toInt < (t.1 38 i).toInt := by omega
  obtain ⟨k, ek⟩ : ∃ k : Nat, p3.toInt = k := ⟨_, (Int.toNat_of_nonneg hk.1).symm⟩
  have a3 := mlE (k := 256) (y := p2) 256 li_256 (by omega) (by omega)
  have a4 := il_addE (x := 256 * p2) (y := p3) (by omega) (by omega)
  have n2 : (256 * p2 + p3).toNatClampNeg = 256 * i + k := nC (by omega)
  rw [n2]
  exact PT.ret (.inr ⟨k, ek, by omega, rfl⟩)
theorem a_step_st (p2 p3 : Int32) (s : ST) : PT (f_X0_stepOfMiss p2 p3 s) (fun r => r.2 = s) := by
  unfold f_X0_stepOfMiss f_X0_isMiss
  have hm : PT (if p2 < 0 then (some ((0 : Int32), s)) else (if (s.1 41 6) ≤ p2 then (some (0, s)) else (if 20 ≤ p2 then (some (0, s)) else (some (1, s))))) (fun q => q.2 = s) := by
    refine PT.ite (fun _ => PT.ret rfl) (fun _ => ?_)
    refine PT.ite (fun _ => PT.ret rfl) (fun _ => ?_)
    exact PT.ite (fun _ => PT.ret rfl) (fun _ => PT.ret rfl)
  refine PT.bnd hm (fun q hq => ?_)
  rw [hq]
  refine PT.ite (fun _ => PT.ret rfl) (fun _ => ?_)
  refine PT.ite (fun _ => PT.ret rfl) (fun _ => ?_)
  refine PT.grd (fun _ => ?_)
  refine PT.ite (fun _ => PT.ret rfl) (fun _ => ?_)
  refine PT.ite (fun _ => PT.ret rfl) (fun _ => ?_)
  refine PT.grd (fun _ => ?_)
  exact PT.ret rfl
theorem ab_step (p2 p3 : Int32) {s t : ST} (h : LMX s t) : PT (f_X0_stepOfMiss p2 p3 s) (fun r => PT (bTL p2 p3 t) (fun z => z.1 = r.1)) := by
  obtain ⟨m1, m2, m4⟩ := h
  have l0 := li_0
  have l20 := li_20
  have l32 := li_32
  have lm := li_m1
  unfold f_X0_stepOfMiss f_X0_isMiss
  by_cases hi : 0 ≤ p2.toInt ∧ p2.toInt < (t.1 0 61).toInt
  rotate_left
  · have rr := b_TL_no p2 p3 t m2 hi
    by_cases hi0 : 0 ≤ p2.toInt
    · rw [if_neg (by rw [Int32.lt_iff_toInt_lt]; omega), if_pos (by rw [Int32.le_iff_toInt_le]; omega), sbnd]
      dsimp only
      rw [if_pos rfl]
      exact PT.ret rr
    · rw [if_pos (by rw [Int32.lt_iff_toInt_lt]; omega), sbnd]
      dsimp only
      rw [if_pos rfl]
      exact PT.ret rr
  obtain ⟨i, ei⟩ : ∃ i : Nat, p2.toInt = i := ⟨_, (Int.toNat_of_nonneg hi.1).symm⟩
  have ni : p2.toNatClampNeg = i := nC ei
  obtain ⟨x1, x2, x3, x5⟩ := m4 i (by omega)
  have x3' := x3
  obtain ⟨x31, x32⟩ := x3'
  have hin := b_TL_in p2 p3 t ei m2 (by omega) x3
  rw [if_neg (by rw [Int32.lt_iff_toInt_lt]; omega), if_neg (by rw [Int32.le_iff_toInt_le]; omega), if_neg (by rw [Int32.le_iff_toInt_le]; omega), sbnd]
  dsimp only
  rw [if_neg n1_0, ni, x2]
  refine PT.ilt (fun h9 => PT.ret (hin.mono (fun z hz => ?_))) (fun h9 => ?_)
  · rcases hz with hz | ⟨k, k1, _⟩
    · exact hz.2
    · omega
  refine PT.grd (fun _ => ?_)
  refine PT.ile (fun h8 => PT.ret (hin.mono (fun z hz => ?_))) (fun h8 => ?_)
  · rcases hz with hz | ⟨k, k1, k2, _⟩
    · exact hz.2
    · omega
  refine PT.ile (fun h7 => by omega) (fun h7 => ?_)
  refine PT.grd (fun _ => PT.ret (hin.mono (fun z hz => ?_)))
  rcases hz with hz | ⟨k, k1, k2, k3⟩
  · omega
  · have a1 : (p2 * 32).toInt = 32 * p2.toInt := by
      rw [Int32.mul_comm]
      exact mlE (k := 32) (y := p2) 32 l32 (by omega) (by omega)
    have a2 := il_addE (x := p2 * 32) (y := p3) (by omega) (by omega)
    have n1 : (p2 * 32 + p3).toNatClampNeg = 32 * i + k := nC (by omega)
    show z.1 = s.1 46 (p2 * 32 + p3).toNatClampNeg
    rw [n1, k3]
    exact (x5 k (by omega)).symm
theorem ab_missStep {σ τ : ST} (h : MZ τ σ) (hc : σ.1 4 0 = τ.1 0 32) (p0 p1 p2 p3 : Int32) : PT (f_X10_missStep p0 p1 p2 p3 σ) (fun r => MZ τ r.2 ∧ PT (f_X11_missStep p0 p1 p2 p3 τ) (fun z => z.1 = r.1)) := by
  rw [b_missStep_eq]
  unfold f_X10_missStep
  have l0 := li_0
  have l1 := li_1
  have hy := YOK.st0 h.2.1.2.2 0
  have hci : (σ.1 4 0).toInt = (τ.1 0 32).toInt := by rw [hc]
  generalize stI τ 0 0 0 = y at hy ⊢
  have e32 := hy.2.1
  refine PT.bndR (k2_isPlan p0 σ) (fun v hv => ?_)
  dsimp only
  by_cases hp : 0 ≤ p0.toInt ∧ p0.toInt < (τ.1 0 32).toInt
  rotate_left
  · refine PT.ieq (fun _ => PT.ret ⟨h, ?_⟩) (fun h9 => by omega)
    refine PT.bndR (b_isPlanAt p0 y hy.2.2.1.1) (fun w hw => ?_)
    dsimp only
    rw [e32] at hw
    exact PT.ieq (fun _ => PT.ret rfl) (fun h9 => by omega)
  refine PT.ieq (fun h9 => by omega) (fun _ => ?_)
  refine PT.bndR (k2_isPlan p1 σ) (fun v2 hv2 => ?_)
  dsimp only
  by_cases hq : 0 ≤ p1.toInt ∧ p1.toInt < (τ.1 0 32).toInt
  rotate_left
  · refine PT.ieq (fun _ => PT.ret ⟨h, ?_⟩) (fun h9 => by omega)
    refine PT.bndR (b_isPlanAt p0 y hy.2.2.1.1) (fun w hw => ?_)
    dsimp only
    rw [e32] at hw
    refine PT.ieq (fun h9 => by omega) (fun _ => ?_)
    refine PT.bndR (b_isPlanAt p1 y hy.2.2.1.1) (fun w2 hw2 => ?_)
    dsimp only
    rw [e32] at hw2
    exact PT.ieq (fun _ => PT.ret rfl) (fun h9 => by omega)
  refine PT.ieq (fun h9 => by omega) (fun _ => ?_)
  obtain ⟨p, ep⟩ : ∃ p : Nat, p0.toInt = p := ⟨_, (Int.toNat_of_nonneg hp.1).symm⟩
  obtain ⟨q, eq⟩ : ∃ q : Nat, p1.toInt = q := ⟨_, (Int.toNat_of_nonneg hq.1).symm⟩
  refine PT.bnd (at_find h ep eq (by omega) (by omega)) (fun s hs => ?_)
  obtain ⟨hs1, hL⟩ := hs
  refine PT.bnd (PT.and (a_step_st p2 p3 s) (PT.all (Y := fun t => LMX s t) (fun t ht => ab_step p2 p3 ht))) (fun r hr => PT.ret ⟨by rw [hr.1]; exact hs1, ?_⟩)
  refine PT.bndR (b_isPlanAt p0 y hy.2.2.1.1) (fun w hw => ?_)
  dsimp only
  rw [e32] at hw
  refine PT.ieq (fun h9 => by omega) (fun _ => ?_)
  refine PT.bndR (b_isPlanAt p1 y hy.2.2.1.1) (fun w2 hw2 => ?_)
  dsimp only
  rw [e32] at hw2
  refine PT.ieq (fun h9 => by omega) (fun h9 => ?_)
  exact PT.bnd (hL y hy) (fun t ht => hr.2 t ht)
theorem YOK.vd {τ y : ST} (h : YOK τ y) (p0 p1 : Int32) (h0 : 0 ≤ p0.toInt ∧ p0.toInt < (τ.1 0 32).toInt) (h1 : 0 ≤ p1.toInt ∧ p1.toInt < (τ.1 0 32).toInt) : PT (f_X11_verdict p0 p1 y) (fun z => YOK τ z.2) := by
  have a := PT.ok (h.2.2.vd p0 p1 (by rw [h.2.1]; exact h0) (by rw [h.2.1]; exact h1))
  have b : PT (f_X11_verdict p0 p1 y) (fun z => KTB y z.2) := w_X11_verdict KTB.rf
  exact (PT.and a b).mono (fun z hz => h.trans ⟨hz.2.kr, hz.1.2.2.2, hz.1.1⟩)
theorem ab_readers_24 {τ : ST} (x1 x2 : Int32) {p : Nat} (hx1 : x1.toInt = p) (hp : (p : Int) < (τ.1 0 32).toInt) : ∀ (n n' : Nat) (x3 x4 : Int32) (σ y : ST), MZ τ σ → YOK τ y → σ.1 4 0 = τ.1 0 32 → 0 ≤ x4.toInt → PT (f_X10_readers_24 n x1 x2 x3 x4 σ) (fun r => MZ τ r.2 ∧ PT (f_X11_readers_30 n' x1 x2 x3 x4 y) (fun z => z.1 = r.1)) := by
  intro n
  have l1 := li_1
  induction n with
  | zero => intro n' x3 x4 σ y _ _ _ _; exact PT.none
  | succ n ih =>
    intro n' x3 x4 σ y h hy hc h4
    rw [f_X10_readers_24]
    unfold f_X10_readers_57
    have b := h.2.1.2.2.1.1.2
    have hci : (σ.1 4 0).toInt = (τ.1 0 32).toInt := by rw [hc]
    have e32 : (y.1 0 32).toInt = (τ.1 0 32).toInt := by rw [hy.2.1]
    refine PT.ile (fun hle => PT.ret ⟨h, ?_⟩) (fun hlt => ?_)
    · cases n' with
      | zero => exact PT.none
      | succ n' =>
        rw [f_X11_readers_30]
        exact PT.ile (fun _ => PT.ret rfl) (fun h9 => by omega)
    obtain ⟨q, eq⟩ : ∃ q : Nat, x4.toInt = q := ⟨_, (Int.toNat_of_nonneg h4).symm⟩
    have e4 := il_addE (x := x4) (y := 1) (by omega) (by omega)
    refine PT.bnd (at_verdict h hx1 eq hp (by omega)) (fun r hr => ?_)
    obtain ⟨k, hr1, hr2⟩ := hr
    have hc' : r.2.1 4 0 = τ.1 0 32 := by rw [(k 4 (by omega) (by omega)).1]; exact hc
    have hv := PT.and (hr2 y hy) (hy.vd x1 x4 ⟨by omega, by omega⟩ ⟨by omega, by omega⟩)
    have ref : ∀ (w : Int32), (∀ y' : ST, YOK τ y' → ∀ n'', PT (f_X11_readers_30 n'' x1 x2 (x3 ||| (if x2 < r.1 then (0 : Int32) else (1 <<< (x4 &&& 31)))) (x4 + 1) y') (fun z => z.1 = w)) → PT (f_X11_readers_30 n' x1 x2 x3 x4 y) (fun z => z.1 = w) := fun w hw => by
      cases n' with
      | zero => exact PT.none
      | succ n' =>
        rw [f_X11_readers_30]
        unfold f_X11_readers_59
        refine PT.ile (fun h9 => by omega) (fun _ => ?_)
        refine PT.bnd hv (fun z hz => ?_)
        obtain ⟨z1, z2⟩ := hz
        rw [z1]
        refine PT.ite (fun h9 => ?_) (fun h9 => ?_)
        · have := hw z.2 z2 n'
          rw [if_pos h9] at this
          exact this
        · have := hw z.2 z2 n'
          rw [if_neg h9] at this
          exact this
    refine PT.ite (fun h9 => ?_) (fun h9 => ?_)
    · have e0 : x3 ||| (if x2 < r.1 then (0 : Int32) else (1 <<< (x4 &&& 31))) = x3 := by
        rw [if_pos h9]
        exact Int32.or_zero
      refine (PT.all (Y := fun (yn : ST × Nat) => YOK τ yn.1) (fun yn hyn => ih yn.2 x3 (x4 + 1) r.2 yn.1 hr1 hyn hc' (by omega))).mono (fun z hz => ⟨(hz (y, 0) hy).1, ref z.1 (fun y' hy' n'' => ?_)⟩)
      rw [e0]
      exact (hz (y', n'') hy').2
    · have e0 : x3 ||| (if x2 < r.1 then (0 : Int32) else (1 <<< (x4 &&& 31))) = x3 ||| (1 <<< (x4 &&& 31)) := by rw [if_neg h9]
      refine (PT.all (Y := fun (yn : ST × Nat) => YOK τ yn.1) (fun yn hyn => ih yn.2 (x3 ||| (1 <<< (x4 &&& 31))) (x4 + 1) r.2 yn.1 hr1 hyn hc' (by omega))).mono (fun z hz => ⟨(hz (y, 0) hy).1, ref z.1 (fun y' hy' n'' => ?_)⟩)
      rw [e0]
      exact (hz (y', n'') hy').2
theorem ab_readers {σ τ : ST} (h : MZ τ σ) (hc : σ.1 4 0 = τ.1 0 32) (p0 p1 : Int32) : PT (f_X10_readers p0 p1 σ) (fun r => MZ τ r.2 ∧ PT (f_X11_readers p0 p1 τ) (fun z => z.1 = r.1)) := by
  unfold f_X10_readers f_X11_readers
  have l0 := li_0
  have l1 := li_1
  have k0 := l64_0
  have k1 := l64_1
  have i1 := i64 p1
  have hy := YOK.st0 h.2.1.2.2 0
  have hci : (σ.1 4 0).toInt = (τ.1 0 32).toInt := by rw [hc]
  generalize stI τ 0 0 0 = y at hy ⊢
  have e32 := hy.2.1
  refine PT.bndR (k2_isPlan p0 σ) (fun v hv => ?_)
  dsimp only
  by_cases hp : 0 ≤ p0.toInt ∧ p0.toInt < (τ.1 0 32).toInt
  rotate_left
  · refine PT.ieq (fun _ => PT.ret ⟨h, ?_⟩) (fun h9 => by omega)
    refine PT.bndR (b_isPlanAt p0 y hy.2.2.1.1) (fun w hw => ?_)
    dsimp only
    rw [e32] at hw
    exact PT.ieq (fun _ => PT.ret rfl) (fun h9 => by omega)
  refine PT.ieq (fun h9 => by omega) (fun _ => ?_)
  have no : ¬ (0 ≤ p1.toInt ∧ p1.toInt ≤ 1) → PT ((f_X11_isPlanAt p0 y).bind fun q1 => if q1.1 = 0 then (some ((-1), q1.2)) else ((f_X11_within (p1.toInt64) 0 1 q1.2).bind fun q3 => if q3.1 = 0 then (some ((-1), q3.2)) else (f_X11_readers_30 FU p0 p1 0 0 q3.2))) (fun z => z.1 = -1) := fun hn => by
    refine PT.bndR (b_isPlanAt p0 y hy.2.2.1.1) (fun w hw => ?_)
    dsimp only
    refine PT.ieq (fun _ => PT.ret rfl) (fun _ => ?_)
    refine PT.bndR (b_within _ _ _ _) (fun w hw => ?_)
    dsimp only
    exact PT.ieq (fun _ => PT.ret rfl) (fun h9 => by omega)
  refine PT.ilt (fun h9 => PT.ret ⟨h, no (by omega)⟩) (fun h9 => ?_)
  refine PT.ile (fun h8 => ?_) (fun h8 => PT.ret ⟨h, no (by omega)⟩)
  obtain ⟨p, ep⟩ : ∃ p : Nat, p0.toInt = p := ⟨_, (Int.toNat_of_nonneg hp.1).symm⟩
  refine (ab_readers_24 p0 p1 ep (by omega) FU FU 0 0 σ y h hy hc (by omega)).mono (fun r hr => ⟨hr.1, ?_⟩)
  refine PT.bndR (b_isPlanAt p0 y hy.2.2.1.1) (fun w hw => ?_)
  dsimp only
  rw [e32] at hw
  refine PT.ieq (fun h9 => by omega) (fun _ => ?_)
  refine PT.bndR (b_within _ _ _ _) (fun w hw => ?_)
  dsimp only
  exact PT.ieq (fun h9 => by omega) (fun _ => hr.2)
