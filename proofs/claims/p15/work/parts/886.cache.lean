/-! what the class keeps of its matchings, against what the reference would answer -/
theorem PT.all {α β : Type} {o : Option α} {Y : β → Prop} {P : α → β → Prop} (h : ∀ y, Y y → PT o (fun q => P q y)) : PT o (fun q => ∀ y, Y y → P q y) := fun q e y hy => h y hy q e
theorem PT.and {α : Type} {o : Option α} {P Q : α → Prop} (h : PT o P) (k : PT o Q) : PT o (fun q => P q ∧ Q q) := fun q e => ⟨h q e, k q e⟩
/-- a state of the reference with the same plans -/
def YOK (τ y : ST) : Prop := KR τ y ∧ y.1 0 32 = τ.1 0 32 ∧ IB y
theorem YOK.trans {a b c : ST} (h : YOK a b) (k : YOK b c) : YOK a c := ⟨h.1.trans k.1, k.2.1.trans h.2.1, k.2.2⟩
def DNs (τ : ST) : Prop := ∀ p : Nat, (p : Int) < (τ.1 0 32).toInt → DNB p τ
theorem DNs.yok {τ y : ST} (h : DNs τ) (k : YOK τ y) (hb : bI (τ.1 0 32) 0 6) (hr : ∀ p : Nat, (p : Int) < (τ.1 0 32).toInt → (τ.1 8 p).toInt ≤ 6) : DNs y := by
  intro p hp i j hij hj
  obtain ⟨⟨k1, k2, _⟩, k3, _⟩ := k
  rw [k3] at hp
  have h32 := hb.2
  have h6 := hr p hp
  rw [k1 p (by omega)] at hj
  rw [(k2 (6 * p + i) (by omega)).2.2, (k2 (6 * p + j) (by omega)).2.2]
  exact h p hp i j hij hj
/-- the relations that are known -/
def CAX (σ τ : ST) : Prop := ∀ p q : Nat, (p : Int) < (τ.1 0 32).toInt → (q : Int) < (τ.1 0 32).toInt → lbt (σ.2.1 41 2) (6 * p + q) = true → ∀ y, YOK τ y → GFX (stt y (Int32.ofNat p) (Int32.ofNat q)) (RBX (σ.2.1 42 (6 * p + q)))
/-- the verdicts -/
def VAX (σ τ : ST) : Prop := ∀ p q : Nat, (p : Int) < (τ.1 0 32).toInt → (q : Int) < (τ.1 0 32).toInt → ¬ σ.1 43 (6 * p + q) = -1 → ∀ y, YOK τ y → PT (f_X11_verdict (Int32.ofNat p) (Int32.ofNat q) y) (fun r => r.1 = σ.1 43 (6 * p + q))
/-- and the misses -/
def MAX_ (σ τ : ST) : Prop := ∀ p q : Nat, (p : Int) < (τ.1 0 32).toInt → (q : Int) < (τ.1 0 32).toInt → (σ.1 41 5).toInt = 6 * (p : Int) + q → ∀ y, YOK τ y → PT (f_X11_laysMisses (Int32.ofNat p) (Int32.ofNat q) y) (fun t => LMX σ t)
/-- which of the plans a message was written with -/
def MPX (σ τ : ST) : Prop := ∀ i : Nat, i < 4 → -1 ≤ (σ.1 40 i).toInt ∧ (σ.1 40 i).toInt < (τ.1 0 32).toInt
def MZ (τ σ : ST) : Prop := (CAX σ τ ∧ VAX σ τ ∧ MAX_ σ τ) ∧ (T5 σ τ ∧ DNs τ ∧ IB τ) ∧ MPX σ τ
theorem LMX.to {σ s t : ST} (h : LMX σ t) (h6 : s.1 41 6 = σ.1 41 6) (h4 : s.1 44 = σ.1 44) (h5 : s.1 45 = σ.1 45) (h46 : s.1 46 = σ.1 46) : LMX s t := by
  unfold LMX
  rw [h6, h4, h5, h46]
  exact h
theorem MZ.to {τ σ s : ST} (h : MZ τ σ) (k : ∀ c, 4 ≤ c → c < 20 → s.1 c = σ.1 c ∧ s.2.1 c = σ.2.1 c) (m : ∀ c, c ∈ [40, 41, 43, 44, 45, 46] → s.1 c = σ.1 c) (l : s.2.1 41 = σ.2.1 41 ∧ s.2.1 42 = σ.2.1 42) : MZ τ s := by
  obtain ⟨⟨h1, h2, h3⟩, ⟨h4, h5, h6⟩, h7⟩ := h
  refine ⟨⟨?_, ?_, ?_⟩, ⟨h4.keep rfl h6.1.1 k KR.rf, h5, h6⟩, ?_⟩
  · unfold CAX
    rw [l.1, l.2]
    exact h1
  · unfold VAX
    rw [m 43 (by decide)]
    exact h2
  · unfold MAX_ LMX
    rw [m 41 (by decide), m 44 (by decide), m 45 (by decide), m 46 (by decide)]
    exact h3
  · unfold MPX
    rw [m 40 (by decide)]
    exact h7
theorem MZ.yok {τ y σ : ST} (h : MZ τ σ) (k : YOK τ y) : MZ y σ := by
  obtain ⟨⟨h1, h2, h3⟩, ⟨h4, h5, h6⟩, h7⟩ := h
  have e := k.2.1
  have hr : ∀ p : Nat, (p : Int) < (τ.1 0 32).toInt → (τ.1 8 p).toInt ≤ 6 := fun p hp => (h4 p hp).1.2.2
  refine ⟨⟨fun p q hp hq hb z hz => h1 p q (by rw [← e]; exact hp) (by rw [← e]; exact hq) hb z (k.trans hz), fun p q hp hq hb z hz => h2 p q (by rw [← e]; exact hp) (by rw [← e]; exact hq) hb z (k.trans hz), fun p q hp hq hb z hz => h3 p q (by rw [← e]; exact hp) (by rw [← e]; exact hq) hb z (k.trans hz)⟩, ⟨h4.keep e h6.1.1 KTA.rf k.1, h5.yok k h6.1.1 hr, k.2.2⟩, fun i hi => by rw [e]; exact h7 i hi⟩
theorem MZ.y0 {τ σ : ST} (h : MZ τ σ) : YOK τ τ := ⟨KR.rf, rfl, h.2.1.2.2⟩
theorem a_pairOf (p0 p1 : Int32) (σ : ST) {p q : Nat} (h0 : p0.toInt = p) (h1 : p1.toInt = q) (hp : p < 6) (hq : q < 6) : ∃ v : Int32, f_X0_pairOf p0 p1 σ = some (v, σ) ∧ v.toInt = 6 * (p : Int) + q := by
  unfold f_X0_pairOf
  have l0 := li_0
  have l6 := li_6
  have m1 : (p0 * 6).toInt = 6 * p0.toInt := by
    rw [Int32.mul_comm]
    exact mlE (k := 6) (y := p0) 6 l6 (by omega) (by omega)
  have m2 := il_addE (x := p0 * 6) (y := p1) (by omega) (by omega)
  rw [if_neg (by rw [Int32.lt_iff_toInt_lt]; omega), if_neg (by rw [Int32.le_iff_toInt_le]; omega), if_neg (by rw [Int32.lt_iff_toInt_lt]; omega), if_neg (by rw [Int32.le_iff_toInt_le]; omega)]
  exact ⟨_, rfl, by omega⟩
theorem PQ.mk {p q : Nat} {σ τ y : ST} {p0 p1 : Int32} (h : T5 σ y) (hB : IB y) (h0 : p0.toInt = p) (h1 : p1.toInt = q) (hp : (p : Int) < (y.1 0 32).toInt) (hq : (q : Int) < (y.1 0 32).toInt) : PQ p q σ (stt y p0 p1) := by
  have b := hB.1.1.2
  have kr : KR y (stt y p0 p1) := KR.eq (fun c hc => by
    show (stI (stI y 0 53 p0) 0 54 p1).1 c = _
    rw [stI_ne (fun e => by rw [e] at hc; revert hc; decide), stI_ne (fun e => by rw [e] at hc; revert hc; decide)]) (fun c _ => rfl)
  exact ⟨⟨by omega, by omega⟩, ⟨h0, h1⟩, ⟨(h p hp).keep (by omega) KTA.rf kr, (h q hq).keep (by omega) KTA.rf kr⟩, ⟨hB.1.of rfl rfl rfl rfl rfl rfl rfl rfl rfl, ⟨⟨by show 0 ≤ p0.toInt; omega, by show p0.toInt < (y.1 0 32).toInt; omega⟩, by show 0 ≤ p1.toInt; omega, by show p1.toInt < (y.1 0 32).toInt; omega⟩, hB.2.1⟩⟩
/-- turned to two plans: nothing but the relations changes -/
def KTN (σ s : ST) : Prop := s.1 = σ.1 ∧ s.2.2 = σ.2.2 ∧ ∀ c, c ≠ 41 → c ≠ 42 → s.2.1 c = σ.2.1 c
theorem K41.ktn {σ s : ST} (h : K41 σ s) : KTN σ s := ⟨h.1, h.2.1, fun c h1 _ => h.2.2.1 c h1⟩
theorem KTN.trans {a b c : ST} (h : KTN a b) (k : KTN b c) : KTN a c := ⟨k.1.trans h.1, k.2.1.trans h.2.1, fun d h1 h2 => (k.2.2 d h1 h2).trans (h.2.2 d h1 h2)⟩
theorem KTN.l {σ : ST} {c i : Nat} {v : Int64} (hc : c = 41 ∨ c = 42) : KTN σ (stL σ c i v) := ⟨rfl, rfl, fun d h1 h2 => stL_ne (by omega)⟩
theorem KTN.kta {σ s : ST} (h : KTN σ s) : KTA σ s := fun c h1 h2 => ⟨by rw [h.1], h.2.2 c (by omega) (by omega)⟩
theorem at_turnTo {p q : Nat} {σ τ : ST} {p0 p1 : Int32} (h : MZ τ σ) (h0 : p0.toInt = p) (h1 : p1.toInt = q) (hp : (p : Int) < (τ.1 0 32).toInt) (hq : (q : Int) < (τ.1 0 32).toInt) : PT (f_X0_turnTo p0 p1 σ) (fun s => KTN σ s ∧ MZ τ s ∧ ∀ y, YOK τ y → GFX (stt y p0 p1) (RBX (s.2.1 41 4))) := by
  obtain ⟨⟨hC, hV, hM⟩, ⟨hT, hD, hI⟩, hP⟩ := h
  have b := hI.1.1.2
  have hp6 : p < 6 := by omega
  have hq6 : q < 6 := by omega
  have e0 : p0 = Int32.ofNat p := intOf h0 (by omega)
  have e1 : p1 = Int32.ofNat q := intOf h1 (by omega)
  obtain ⟨v, ev, hv⟩ := a_pairOf p0 p1 σ h0 h1 hp6 hq6
  have nv : v.toNatClampNeg = 6 * p + q := nC (by omega)
  have evn : v = Int32.ofNat (6 * p + q) := intOf (by omega) (by omega)
  unfold f_X0_turnTo f_X0_turnTo_47
  rw [ev, sbnd]
  dsimp only
  refine PT.ite (fun hb => ?_) (fun hb => ?_)
  · have hrel : PT (f_X0_relate p0 p1 σ) (fun t => K41 σ t ∧ ∀ y, YOK τ y → GFX (stt y p0 p1) (RBX (t.2.1 41 4))) := PT.and ((PT.ok (ab_relate (PQ.mk (τ := τ) hT hI h0 h1 hp hq) p0 p1 h0 h1)).mono (fun t ht => ht.1)) (PT.all (fun y hy => (PT.ok (ab_relate (PQ.mk (τ := τ) (hT.keep hy.2.1 hI.1.1 KTA.rf hy.1) hy.2.2 h0 h1 (by rw [hy.2.1]; exact hp) (by rw [hy.2.1]; exact hq)) p0 p1 h0 h1)).mono (fun t ht => ht.2)))
    refine PT.bnd hrel (fun t ht => ?_)
    obtain ⟨k, hG⟩ := ht
    refine PT.grd (fun _ => ?_)
    refine PT.lt (fun z hz => ?_)
    refine PT.grd (fun _ => ?_)
    refine PT.ret ?_
    rw [nv] at hz ⊢
    have z42 : z.2.1 42 = vp_updL (t.2.1 42) (6 * p + q) (t.2.1 41 4) := by
      rw [hz, stL_ne (by omega)]
      show (bif Nat.beq 42 42 then vp_updL (t.2.1 42) (6 * p + q) (t.2.1 41 4) else t.2.1 42) = _
      rw [Nat.beq_refl]
      rfl
    have z2 : z.2.1 41 2 = (t.2.1 41 2 ||| lb1 (6 * p + q)) := by
      rw [hz, stL_at, stL_ne (by omega), evn, shl1 _ (by omega)]
    have zk : KTN t z := by
      rw [hz]
      exact (KTN.l (.inr rfl)).trans (KTN.l (.inl rfl))
    clear hz
    have w4 : (stL z 41 4 (z.2.1 42 (6 * p + q))).2.1 41 4 = t.2.1 41 4 := by
      rw [stL_at, z42, updL_at]
    have w42 : (stL z 41 4 (z.2.1 42 (6 * p + q))).2.1 42 = z.2.1 42 := stL_ne (by omega)
    have w2 : (stL z 41 4 (z.2.1 42 (6 * p + q))).2.1 41 2 = z.2.1 41 2 := by
      show vp_updL (z.2.1 41) 4 (z.2.1 42 (6 * p + q)) 2 = _
      rw [updL_no (by omega)]
    have wk : KTN σ (stL z 41 4 (z.2.1 42 (6 * p + q))) := (k.ktn.trans zk).trans (KTN.l (.inl rfl))
    generalize stL z 41 4 (z.2.1 42 (6 * p + q)) = w at w4 w42 w2 wk ⊢
    refine ⟨wk, ⟨⟨?_, ?_, ?_⟩, ⟨hT.keep rfl hI.1.1 wk.kta KR.rf, hD, hI⟩, ?_⟩, ?_⟩
    · intro p' q' hp' hq' hbit y hy
      have b32 := hI.1.1.2
      rw [w42, z42]
      by_cases e : 6 * p' + q' = 6 * p + q
      · have ep : p' = p := by omega
        have eq : q' = q := by omega
        subst ep eq
        rw [updL_at, ← e0, ← e1]
        exact hG y hy
      · rw [updL_no e]
        rw [w2, z2, lbt_or (by omega)] at hbit
        have t42 : t.2.1 42 = σ.2.1 42 := k.2.2.1 42 (by omega)
        have t2 : t.2.1 41 2 = σ.2.1 41 2 := k.2.2.2 2 (by omega)
        rw [t42]
        rw [t2] at hbit
        refine hC p' q' hp' hq' ?_ y hy
        simpa [e] using hbit
    · unfold VAX
      rw [wk.1]
      exact hV
    · unfold MAX_ LMX
      rw [wk.1]
      exact hM
    · unfold MPX
      rw [wk.1]
      exact hP
    · intro y hy
      rw [w4]
      exact hG y hy
  · rw [evn] at hb
    rw [lg_cmp_eq, lbt_shr (by omega)] at hb
    have hbit : lbt (σ.2.1 41 2) (6 * p + q) = true := by
      cases e : lbt (σ.2.1 41 2) (6 * p + q) with
      | true => rfl
      | false => exact absurd e hb
    refine PT.grd (fun _ => ?_)
    refine PT.ret ?_
    rw [nv]
    have w4 : (stL σ 41 4 (σ.2.1 42 (6 * p + q))).2.1 41 4 = σ.2.1 42 (6 * p + q) := stL_at
    have w42 : (stL σ 41 4 (σ.2.1 42 (6 * p + q))).2.1 42 = σ.2.1 42 := stL_ne (by omega)
    have w2 : (stL σ 41 4 (σ.2.1 42 (6 * p + q))).2.1 41 2 = σ.2.1 41 2 := by
      show vp_updL (σ.2.1 41) 4 (σ.2.1 42 (6 * p + q)) 2 = _
      rw [updL_no (by omega)]
    have wk : KTN σ (stL σ 41 4 (σ.2.1 42 (6 * p + q))) := KTN.l (.inl rfl)
    generalize stL σ 41 4 (σ.2.1 42 (6 * p + q)) = w at w4 w42 w2 wk ⊢
    refine ⟨wk, ⟨⟨?_, ?_, ?_⟩, ⟨hT.keep rfl hI.1.1 wk.kta KR.rf, hD, hI⟩, ?_⟩, ?_⟩
    · unfold CAX
      rw [w2, w42]
      exact hC
    · unfold VAX
      rw [wk.1]
      exact hV
    · unfold MAX_ LMX
      rw [wk.1]
      exact hM
    · unfold MPX
      rw [wk.1]
      exact hP
    · intro y hy
      rw [w4, e0, e1]
      exact hC p q hp hq hbit y hy
/-- the misses told: what changes -/
def KWM (σ s : ST) : Prop := (∀ c, c ∉ [41, 44, 45, 46, 47] → s.1 c = σ.1 c) ∧ s.2.2 = σ.2.2 ∧ (∀ c, c ≠ 41 → s.2.1 c = σ.2.1 c) ∧ ∀ i, i ≠ 12 → s.2.1 41 i = σ.2.1 41 i
theorem KWM.kta {σ s : ST} (h : KWM σ s) : KTA σ s := fun c h1 h2 => ⟨h.1 c (fun e => by
  simp only [List.mem_cons, List.not_mem_nil, or_false] at e
  omega), h.2.2.1 c (by omega)⟩
theorem a4_rootType (p0 : Int32) (σ : ST) {p : Nat} (h0 : p0.toInt = p) (hp : p < 6) : f_X5_rootType 4 p0 σ = some (σ.1 6 p, σ) := by
  unfold f_X5_rootType
  have l0 := li_0
  have l6 := li_6
  have np : p0.toNatClampNeg = p := nC h0
  rw [if_neg (by rw [Int32.lt_iff_toInt_lt]; omega), if_neg (by rw [Int32.le_iff_toInt_le]; omega), if_pos ⟨by omega, by omega⟩, np]
theorem at_collect {p q : Nat} {σ τ : ST} {p0 p1 : Int32} (h : MZ τ σ) (h0 : p0.toInt = p) (h1 : p1.toInt = q) (hp : (p : Int) < (τ.1 0 32).toInt) (hq : (q : Int) < (τ.1 0 32).toInt) (hG : ∀ y, YOK τ y → GFX (stt y p0 p1) (RBX (σ.2.1 41 4))) : PT (f_X0_collectMisses p0 p1 σ) (fun s => KWM σ s ∧ MZ τ s ∧ ∀ y, YOK τ y → PT (f_X11_laysMisses p0 p1 y) (fun t => LMX s t)) := by
  have h' := h
  obtain ⟨⟨hC, hV, hM⟩, ⟨hT, hD, hI⟩, hP⟩ := h'
  have b := hI.1.1.2
  have hp6 : p < 6 := by omega
  have hq6 : q < 6 := by omega
  have e0 : p0 = Int32.ofNat p := intOf h0 (by omega)
  have e1 : p1 = Int32.ofNat q := intOf h1 (by omega)
  obtain ⟨v, ev, hv⟩ := a_pairOf p0 p1 σ h0 h1 hp6 hq6
  unfold f_X0_collectMisses
  rw [ev, sbnd]
  dsimp only
  refine PT.ieq (fun hb => PT.ret ⟨⟨fun _ _ => rfl, rfl, fun _ _ => rfl, fun _ _ => rfl⟩, h, fun y hy => ?_⟩) (fun hb => ?_)
  · rw [e0, e1]
    exact hM p q hp hq (by omega) y hy
  have z5 : (stL (stI (stI (stI σ 41 5 v) 41 6 0) 41 11 0) 41 12 0).1 41 5 = v := rfl
  have z6 : (stL (stI (stI (stI σ 41 5 v) 41 6 0) 41 11 0) 41 12 0).1 41 6 = 0 := rfl
  have z11 : (stL (stI (stI (stI σ 41 5 v) 41 6 0) 41 11 0) 41 12 0).1 41 11 = 0 := rfl
  have z12 : (stL (stI (stI (stI σ 41 5 v) 41 6 0) 41 11 0) 41 12 0).2.1 41 12 = 0 := stL_at
  have zi : ∀ i, i ≠ 12 → (stL (stI (stI (stI σ 41 5 v) 41 6 0) 41 11 0) 41 12 0).2.1 41 i = σ.2.1 41 i := fun i hi => by
    show vp_updL (σ.2.1 41) 12 0 i = _
    rw [updL_no hi]
  have zc : ∀ c, c ≠ 41 → (stL (stI (stI (stI σ 41 5 v) 41 6 0) 41 11 0) 41 12 0).1 c = σ.1 c := fun c hc => by
    show (stI (stI (stI σ 41 5 v) 41 6 0) 41 11 0).1 c = _
    rw [stI_ne hc, stI_ne hc, stI_ne hc]
  have zl : ∀ c, c ≠ 41 → (stL (stI (stI (stI σ 41 5 v) 41 6 0) 41 11 0) 41 12 0).2.1 c = σ.2.1 c := fun c hc => stL_ne hc
  have zr : (stL (stI (stI (stI σ 41 5 v) 41 6 0) 41 11 0) 41 12 0).2.2 = σ.2.2 := rfl
  generalize stL (stI (stI (stI σ 41 5 v) 41 6 0) 41 11 0) 41 12 0 = z at z5 z6 z11 z12 zi zc zl zr ⊢
  have zkta : KTA σ z := fun c h1 h2 => ⟨zc c (by omega), zl c (by omega)⟩
  rw [a4_rootType p0 z h0 hp6, sbnd]
  dsimp only
  rw [a4_rootType p1 z h1 hq6, sbnd]
  dsimp only
  have z4 : z.2.1 41 4 = σ.2.1 41 4 := zi 4 (by omega)
  have run : ∀ y, YOK τ y → PT (f_T_X0_walk (z.1 6 p) (z.1 6 q) 0 z) (fun s => PT (f_X11_laysMisses p0 p1 y) (fun t => KWK z s ∧ LMX s t ∧ (t.1 35 0 = 0 ↔ lbt (z.2.1 41 4) 0 = false))) := fun y hy => by
    have hTy := hT.keep hy.2.1 hI.1.1 zkta hy.1
    have hr : ∀ p : Nat, (p : Int) < (τ.1 0 32).toInt → (τ.1 8 p).toInt ≤ 6 := fun p hp => (hT p hp).1.2.2
    exact ab_lay h0 h1 (by rw [hy.2.1]; exact hp) (by rw [hy.2.1]; exact hq) hy.2.2 ⟨hTy p (by rw [hy.2.1]; exact hp), hTy q (by rw [hy.2.1]; exact hq)⟩ (hD.yok hy hI.1.1 hr q (by rw [hy.2.1]; exact hq)) (by rw [z4]; exact hG y hy) z6 z11 z12
  have hwk : PT (f_T_X0_walk (z.1 6 p) (z.1 6 q) 0 z) (fun s => KWK z s) := by
    obtain ⟨t, et, _⟩ := hI.lm p0 p1 ⟨by omega, by omega⟩ ⟨by omega, by omega⟩
    exact (run τ h.y0).mono (fun s hs => (hs t et).1)
  refine PT.bnd (PT.and hwk (PT.all run)) (fun s hs => PT.ret ?_)
  obtain ⟨hk, hall⟩ := hs
  have kk : KWM σ s := ⟨fun c hc => by
    rw [hk.1 c hc]
    exact zc c (fun e => hc (by rw [e]; decide)), hk.2.2.1.trans zr, fun c hc => (hk.2.2.2.1 c hc).trans (zl c hc), fun i hi => (hk.2.2.2.2 i hi).trans (zi i hi)⟩
  have hL : ∀ y, YOK τ y → PT (f_X11_laysMisses p0 p1 y) (fun t => LMX s t) := fun y hy => (hall y hy).mono (fun t ht => ht.2.1)
  refine ⟨kk, ⟨⟨?_, ?_, ?_⟩, ⟨hT.keep rfl hI.1.1 kk.kta KR.rf, hD, hI⟩, ?_⟩, hL⟩
  · unfold CAX
    rw [kk.2.2.2 2 (by omega), kk.2.2.1 42 (by omega)]
    exact hC
  · unfold VAX
    rw [kk.1 43 (by decide)]
    exact hV
  · intro p' q' hp' hq' h5 y hy
    have e5 : s.1 41 5 = z.1 41 5 := hk.2.1 5 (by decide)
    rw [e5, z5] at h5
    have ep : p' = p := by omega
    have eq : q' = q := by omega
    subst ep eq
    rw [← e0, ← e1]
    exact hL y hy
  · unfold MPX
    rw [kk.1 40 (by decide)]
    exact hP
theorem bw_root {p q : Nat} {y : ST} {p0 p1 : Int32} {L : Int64} (h0 : p0.toInt = p) (h1 : p1.toInt = q) (hp : (p : Int) < (y.1 0 32).toInt) (hq : (q : Int) < (y.1 0 32).toInt) (hB : IB y) (hG : GFX (stt y p0 p1) (RBX L)) : PT (f_X11_laysMisses p0 p1 y) (fun t => t.1 35 0 = 0 ↔ lbt L 0 = false) := by
  have lu := FUi
  have l0 := li_0
  unfold f_X11_laysMisses
  refine PT.bnd (PT.ok (bx_laysPairs p0 p1 y hB.1 hB.2.1 (by omega) (by omega))) (fun t ht => ?_)
  obtain ⟨tc, ⟨tM, tC, tG⟩, t53, t54⟩ := ht
  have hG2 : GFX t (RBX L) := hG.tr (stt_ch tc t53 t54) (by decide) (by decide) (by decide)
  have hE := (tG.uniq hG2 0 (by omega)).trans RBX_iff
  refine bw_18 FU 0 0 (stI (stI t 0 61 0) 0 57 0) l0 (by omega) (fun i hi => by omega) (fun u uc uz => ?_)
  have u35 : u.1 35 = t.1 35 := by
    rw [uc.1 35 (by decide) (by decide)]
    rfl
  have hh : PT (f_T_X11_looksAtRecords 0 0 u) (fun v => K20 u v) := w20_T_X11_looksAtRecords (s := u) ⟨CH.rf, fun h => ⟨h, rfl, rfl, rfl⟩⟩
  refine hh.mono (fun v hv => ?_)
  rw [hv.1.1 35 (by decide) (by decide), u35]
  exact hE
