/-! matches, missStep, readers: both answer alike -/
theorem at_verdict {p q : Nat} {σ τ : ST} {p0 p1 : Int32} (h : MZ τ σ) (h0 : p0.toInt = p) (h1 : p1.toInt = q) (hp : (p : Int) < (τ.1 0 32).toInt) (hq : (q : Int) < (τ.1 0 32).toInt) : PT (f_X0_verdict p0 p1 σ) (fun r => KTA σ r.2 ∧ MZ τ r.2 ∧ ∀ y, YOK τ y → PT (f_X11_verdict p0 p1 y) (fun z => z.1 = r.1)) := by
  have b := h.2.1.2.2.1.1.2
  have hp6 : p < 6 := by omega
  have hq6 : q < 6 := by omega
  have e0 : p0 = Int32.ofNat p := intOf h0 (by omega)
  have e1 : p1 = Int32.ofNat q := intOf h1 (by omega)
  have l0 := li_0
  have lm := li_m1
  obtain ⟨v, ev, hv⟩ := a_pairOf p0 p1 σ h0 h1 hp6 hq6
  have nv : v.toNatClampNeg = 6 * p + q := nC (by omega)
  unfold f_X0_verdict
  rw [ev, sbnd]
  dsimp only
  refine PT.grd (fun _ => ?_)
  rw [nv]
  refine PT.ite (fun hm => ?_) (fun hm => ?_)
  rotate_left
  · unfold f_X0_verdict_61
    refine PT.grd (fun _ => ?_)
    rw [nv]
    refine PT.ret ⟨KTA.rf, h, fun y hy => ?_⟩
    rw [e0, e1]
    exact h.1.2.1 p q hp hq hm y hy
  refine PT.bnd (at_turnTo h h0 h1 hp hq) (fun s hs => ?_)
  obtain ⟨k1, hs1, hG⟩ := hs
  refine PT.bnd (at_collect hs1 h0 h1 hp hq hG) (fun u hu => ?_)
  obtain ⟨k2, hu1, hL⟩ := hu
  have u4 : u.2.1 41 4 = s.2.1 41 4 := k2.2.2.2 4 (by omega)
  have hroot : ∀ y, YOK τ y → PT (f_X11_laysMisses p0 p1 y) (fun t => t.1 35 0 = 0 ↔ lbt (u.2.1 41 4) 0 = false) := fun y hy => by
    rw [u4]
    exact bw_root h0 h1 (by rw [hy.2.1]; exact hp) (by rw [hy.2.1]; exact hq) hy.2.2 (hG y hy)
  have fin : ∀ w : Int32, (∀ y, YOK τ y → PT (f_X11_verdict p0 p1 y) (fun z => z.1 = w)) → PT (f_X0_verdict_60 v w v u) (fun r => KTA σ r.2 ∧ MZ τ r.2 ∧ ∀ y, YOK τ y → PT (f_X11_verdict p0 p1 y) (fun z => z.1 = r.1)) := fun w hw => by
    unfold f_X0_verdict_60 f_X0_verdict_61
    refine PT.grd (fun _ => ?_)
    refine PT.grd (fun _ => ?_)
    rw [nv]
    have e43 : (stI u 43 (6 * p + q) w).1 43 = upd (u.1 43) (6 * p + q) w := rfl
    rw [e43, upd_at]
    refine PT.ret ⟨fun c c1 c2 => ?_, ?_, hw⟩
    · have x := k1.kta c c1 c2
      have y := k2.kta c c1 c2
      refine ⟨?_, y.2.trans x.2⟩
      show (stI u 43 (6 * p + q) w).1 c = _
      rw [stI_ne (by omega)]
      exact y.1.trans x.1
    · obtain ⟨⟨m1, m2, m3⟩, ⟨m4, m5, m6⟩, m7⟩ := hu1
      refine ⟨⟨m1, ?_, m3⟩, ⟨m4.keep rfl m6.1.1 (KTA.rf.i (by omega)) KR.rf, m5, m6⟩, m7⟩
      intro p' q' hp' hq' hne y hy
      have hne : ¬ (stI u 43 (6 * p + q) w).1 43 (6 * p' + q') = -1 := hne
      show PT _ (fun (r : Int32 × ST) => r.1 = (stI u 43 (6 * p + q) w).1 43 (6 * p' + q'))
      rw [e43] at hne ⊢
      by_cases e : 6 * p' + q' = 6 * p + q
      · have ep : p' = p := by omega
        have eq : q' = q := by omega
        subst ep eq
        rw [upd_at, ← e0, ← e1]
        exact hw y hy
      · rw [upd_no e] at hne ⊢
        exact m2 p' q' hp' hq' hne y hy
  have n00 : (0 : Int32).toNatClampNeg = 0 := rfl
  have fit : ∀ w : Int32, (lbt (u.2.1 41 4) 0 = true → ∀ y, YOK τ y → PT (f_X11_laysMisses p0 p1 y) (fun t => ¬ (t.1 35 0) = 0 → ((t.1 0 61).toInt ≤ 0 ∧ w = 0 ∨ 0 < (t.1 0 61).toInt ∧ w = 1))) → PT (f_X0_verdict_40 v w u) (fun r => KTA σ r.2 ∧ MZ τ r.2 ∧ ∀ y, YOK τ y → PT (f_X11_verdict p0 p1 y) (fun z => z.1 = r.1)) := fun w hw => by
    unfold f_X0_verdict_40 f_X0_rootsFit
    rw [a_bitOf 0 0 u (a := 0) (b := 0) l0 l0 (by omega) (by omega), sbnd]
    dsimp only
    have e00 : 6 * (0 % 6) + 0 % 6 = 0 := rfl
    rw [e00]
    by_cases hb : lbt (u.2.1 41 4) 0 = false
    · rw [if_pos ((a_has (by omega)).mpr hb), sbnd]
      dsimp only
      rw [if_pos rfl]
      refine fin 2 (fun y hy => ?_)
      unfold f_X11_verdict
      refine PT.bnd (hroot y hy) (fun t ht => ?_)
      rw [n00, if_pos (ht.mpr hb)]
      exact PT.ret rfl
    · rw [if_neg (fun h9 => hb ((a_has (by omega)).mp h9)), sbnd]
      dsimp only
      rw [if_neg n1_0]
      have hb1 : lbt (u.2.1 41 4) 0 = true := by
        cases e : lbt (u.2.1 41 4) 0 with
        | true => rfl
        | false => exact absurd e hb
      refine fin w (fun y hy => ?_)
      unfold f_X11_verdict
      refine PT.bnd (PT.and (hroot y hy) (hw hb1 y hy)) (fun t ht => ?_)
      obtain ⟨t1, t2⟩ := ht
      have t3 : ¬ t.1 35 0 = 0 := fun h9 => hb (t1.mp h9)
      rw [n00, if_neg t3]
      refine PT.ile (fun h9 => PT.ret ?_) (fun h9 => PT.ret ?_)
      · rcases t2 t3 with h | h
        · exact h.2.symm
        · omega
      · rcases t2 t3 with h | h
        · omega
        · exact h.2.symm
  refine PT.ile (fun h9 => fit 0 (fun _ y hy => (hL y hy).mono (fun t ht _ => .inl ⟨by have := ht.1; omega, rfl⟩))) (fun h9 => fit 1 (fun _ y hy => (hL y hy).mono (fun t ht _ => .inr ⟨by have := ht.1; omega, rfl⟩)))
theorem at_find {p q : Nat} {σ τ : ST} {p0 p1 : Int32} (h : MZ τ σ) (h0 : p0.toInt = p) (h1 : p1.toInt = q) (hp : (p : Int) < (τ.1 0 32).toInt) (hq : (q : Int) < (τ.1 0 32).toInt) : PT (f_X0_findMisses p0 p1 σ) (fun s => MZ τ s ∧ ∀ y, YOK τ y → PT (f_X11_laysMisses p0 p1 y) (fun t => LMX s t)) := by
  unfold f_X0_findMisses
  refine PT.bnd (at_turnTo h h0 h1 hp hq) (fun s hs => ?_)
  obtain ⟨k1, hs1, hG⟩ := hs
  refine PT.bnd (at_collect hs1 h0 h1 hp hq hG) (fun u hu => ?_)
  exact PT.ret ⟨hu.2.1, hu.2.2⟩
theorem YOK.st0 {τ : ST} (h : IB τ) (v : Int32) : YOK τ (stI τ 0 0 v) := ⟨KR.eq (fun c hc => by
  rw [stI_ne (fun e => by rw [e] at hc; revert hc; decide)]) (fun c _ => rfl), rfl, h.th v⟩
theorem ab_matches {σ τ : ST} (h : MZ τ σ) (hc : σ.1 4 0 = τ.1 0 32) (p0 p1 : Int32) : PT (f_X10_matches p0 p1 σ) (fun r => MZ τ r.2 ∧ PT (f_X11_matches p0 p1 τ) (fun z => z.1 = r.1)) := by
  unfold f_X10_matches f_X11_matches
  have l0 := li_0
  have l1 := li_1
  have hy := YOK.st0 h.2.1.2.2 0
  have hci : (σ.1 4 0).toInt = (τ.1 0 32).toInt := by rw [hc]
  generalize stI τ 0 0 0 = y at hy ⊢
  have e32 := hy.2.1
  refine PT.bndR (k2_isPlan p0 σ) (fun v hv => ?_)
  dsimp only
  by_cases hp : 0 ≤ p0.toInt ∧ p0.toInt < (τ.1 0 32).toInt
  rotate_left
  · refine PT.ieq (fun _ => PT.ret ⟨h, ?_⟩) (fun h9 => by omega)
    refine PT.bndR (b_isPlanAt p0 y hy.2.2.1.1) (fun w hw => ?_)
    dsimp only
    rw [e32] at hw
    exact PT.ieq (fun _ => PT.ret rfl) (fun h9 => by omega)
  refine PT.ieq (fun h9 => by omega) (fun _ => ?_)
  refine PT.bndR (k2_isPlan p1 σ) (fun v2 hv2 => ?_)
  dsimp only
  have ref : ∀ r : Int32, ((0 ≤ p1.toInt ∧ p1.toInt < (τ.1 0 32).toInt) → PT (f_X11_verdict p0 p1 y) (fun z => z.1 = r)) → (¬ (0 ≤ p1.toInt ∧ p1.toInt < (τ.1 0 32).toInt) → r = -1) → PT ((f_X11_isPlanAt p0 y).bind fun q1 => if q1.1 = 0 then (some ((-1), q1.2)) else ((f_X11_isPlanAt p1 q1.2).bind fun q3 => if q3.1 = 0 then (some ((-1), q3.2)) else ((f_X11_verdict p0 p1 q3.2).bind fun q5 => some (q5.1, q5.2)))) (fun z => z.1 = r) := fun r h1 h2 => by
    refine PT.bndR (b_isPlanAt p0 y hy.2.2.1.1) (fun w hw => ?_)
    dsimp only
    rw [e32] at hw
    refine PT.ieq (fun h9 => by omega) (fun _ => ?_)
    refine PT.bndR (b_isPlanAt p1 y hy.2.2.1.1) (fun w2 hw2 => ?_)
    dsimp only
    rw [e32] at hw2
    refine PT.ieq (fun h9 => PT.ret (h2 (by omega)).symm) (fun h9 => ?_)
    exact PT.bnd (h1 (by omega)) (fun z hz => PT.ret hz)
  by_cases hq : 0 ≤ p1.toInt ∧ p1.toInt < (τ.1 0 32).toInt
  rotate_left
  · exact PT.ieq (fun _ => PT.ret ⟨h, ref _ (fun h9 => absurd h9 hq) (fun _ => rfl)⟩) (fun h9 => by omega)
  refine PT.ieq (fun h9 => by omega) (fun _ => ?_)
  obtain ⟨p, ep⟩ : ∃ p : Nat, p0.toInt = p := ⟨_, (Int.toNat_of_nonneg hp.1).symm⟩
  obtain ⟨q, eq⟩ : ∃ q : Nat, p1.toInt = q := ⟨_, (Int.toNat_of_nonneg hq.1).symm⟩
  refine PT.bnd (at_verdict h ep eq (by omega) (by omega)) (fun r hr => ?_)
  exact PT.ret ⟨hr.2.1, ref _ (fun _ => hr.2.2 y hy) (fun h9 => absurd hq h9)⟩
def bTL (p2 p3 : Int32) (t : ST) : Option (Int32 × ST) := (f_X11_within (p2.toInt64) 0 (((t.1 0 61) - 1).toInt64) t).bind fun q7 => if q7.1 = 0 then (some ((-1), q7.2)) else (if 0 ≤ p2.toInt ∧ p2.toInt < 20 then ((f_X11_within (p3.toInt64) 0 (((q7.2.1 38 p2.toNatClampNeg) - 1).toInt64) q7.2).bind fun q10 => if q10.1 = 0 then (some ((-1), q10.2)) else (if 0 ≤ ((256 * p2) + p3).toInt ∧ ((256 * p2) + p3).toInt < 5120 then (some ((q10.2.1 39 ((256 * p2) + p3).toNatClampNeg), q10.2)) else none)) else none)
theorem b_missStep_eq (p0 p1 p2 p3 : Int32) (τ : ST) : f_X11_missStep p0 p1 p2 p3 τ = (f_X11_isPlanAt p0 (stI τ 0 0 0)).bind fun q1 => if q1.1 = 0 then (some ((-1), q1.2)) else ((f_X11_isPlanAt p1 q1.2).bind fun q3 => if q3.1 = 0 then (some ((-1), q3.2)) else ((f_X11_laysMisses p0 p1 q3.2).bind fun q5 => bTL p2 p3 q5)) := rfl
theorem b_TL_no (p2 p3 : Int32) (t : ST) (h : 0 ≤ (t.1 0 61).toInt ∧ (t.1 0 61).toInt ≤ 20) (hn : ¬ (0 ≤ p2.toInt ∧ p2.toInt < (t.1 0 61).toInt)) : PT (bTL p2 p3 t) (fun z => z.1 = -1) := by
  have l0 := li_0
  have l1 := li_1
  have k0 := l64_0
  have i2 := i64 p2
  have w1 := i64 (t.1 0 61 - 1)
  have w2 := il_subE (x := t.1 0 61) (y := 1) (by omega) (by omega)
  unfold bTL
  refine PT.bndR (b_within _ _ _ _) (fun w hw => ?_)
  dsimp only
  exact PT.ieq (fun _ => PT.ret rfl) (fun h9 => by omega)
theorem b_TL_in (p2 p3 : Int32) (t : ST) {i : Nat} (ei : p2.toInt = i) (h : 0 ≤ (t.1 0 61).toInt ∧ (t.1 0 61).toInt ≤ 20) (hi : (i : Int) < (t.1 0 61).toInt) (h38 : 0 ≤ (t.1 38 i).toInt ∧ (t.1 38 i).toInt ≤ 32) : PT (bTL p2 p3 t) (fun z => ¬ (0 ≤ p3.toInt ∧ p3.toInt < (t.1 38 i).toInt) ∧ z.1 = -1 ∨ ∃ k : Nat, p3.toInt = k ∧ (k : Int) < (t.1 38 i).toInt ∧ z.1 = t.1 39 (256 * i + k)) := by
  have l0 := li_0
  have l1 := li_1
  have k0 := l64_0
  have i2 := i64 p2
  have i3 := i64 p3
  have ni : p2.toNatClampNeg = i := nC ei
  have w1 := i64 (t.1 0 61 - 1)
  have w2 := il_subE (x := t.1 0 61) (y := 1) (by omega) (by omega)
  have w3 := i64 (t.1 38 i - 1)
  have w4 := il_subE (x := t.1 38 i) (y := 1) (by omega) (by omega)
  unfold bTL
  refine PT.bndR (b_within _ _ _ _) (fun w hw => ?_)
  dsimp only
  refine PT.ieq (fun h9 => by omega) (fun _ => ?_)
  refine PT.grd (fun _ => ?_)
  rw [ni]
  refine PT.bndR (b_within _ _ _ _) (fun u hu => ?_)
  dsimp only
  refine PT.ieq (fun h9 => PT.ret (.inl ⟨by omega, rfl⟩)) (fun _ => ?_)
  refine PT.grd (fun _ => ?_)
  have hk : 0 ≤ p3.toInt ∧ p3.toInt < (t.1 38 i).toInt := by omega
  obtain ⟨k, ek⟩ : ∃ k : Nat, p3.toInt = k := ⟨_, (Int.toNat_of_nonneg hk.1).symm⟩
  have a3 := mlE (k := 256) (y := p2) 256 li_256 (by omega) (by omega)
  have a4 := il_addE (x := 256 * p2) (y := p3) (by omega) (by omega)
  have n2 : (256 * p2 + p3).toNatClampNeg = 256 * i + k := nC (by omega)
  rw [n2]
  exact PT.ret (.inr ⟨k, ek, by omega, rfl⟩)
theorem a_step_st (p2 p3 : Int32) (s : ST) : PT (f_X0_stepOfMiss p2 p3 s) (fun r => r.2 = s) := by
  unfold f_X0_stepOfMiss f_X0_isMiss
  have hm : PT (if p2 < 0 then (some ((0 : Int32), s)) else (if (s.1 41 6) ≤ p2 then (some (0, s)) else (if 20 ≤ p2 then (some (0, s)) else (some (1, s))))) (fun q => q.2 = s) := by
    refine PT.ite (fun _ => PT.ret rfl) (fun _ => ?_)
    refine PT.ite (fun _ => PT.ret rfl) (fun _ => ?_)
    exact PT.ite (fun _ => PT.ret rfl) (fun _ => PT.ret rfl)
  refine PT.bnd hm (fun q hq => ?_)
  rw [hq]
  refine PT.ite (fun _ => PT.ret rfl) (fun _ => ?_)
  refine PT.ite (fun _ => PT.ret rfl) (fun _ => ?_)
  refine PT.grd (fun _ => ?_)
  refine PT.ite (fun _ => PT.ret rfl) (fun _ => ?_)
  refine PT.ite (fun _ => PT.ret rfl) (fun _ => ?_)
  refine PT.grd (fun _ => ?_)
  exact PT.ret rfl
theorem ab_step (p2 p3 : Int32) {s t : ST} (h : LMX s t) : PT (f_X0_stepOfMiss p2 p3 s) (fun r => PT (bTL p2 p3 t) (fun z => z.1 = r.1)) := by
  obtain ⟨m1, m2, m4⟩ := h
  have l0 := li_0
  have l20 := li_20
  have l32 := li_32
  have lm := li_m1
  unfold f_X0_stepOfMiss f_X0_isMiss
  by_cases hi : 0 ≤ p2.toInt ∧ p2.toInt < (t.1 0 61).toInt
  rotate_left
  · have rr := b_TL_no p2 p3 t m2 hi
    by_cases hi0 : 0 ≤ p2.toInt
    · rw [if_neg (by rw [Int32.lt_iff_toInt_lt]; omega), if_pos (by rw [Int32.le_iff_toInt_le]; omega), sbnd]
      dsimp only
      rw [if_pos rfl]
      exact PT.ret rr
    · rw [if_pos (by rw [Int32.lt_iff_toInt_lt]; omega), sbnd]
      dsimp only
      rw [if_pos rfl]
      exact PT.ret rr
  obtain ⟨i, ei⟩ : ∃ i : Nat, p2.toInt = i := ⟨_, (Int.toNat_of_nonneg hi.1).symm⟩
  have ni : p2.toNatClampNeg = i := nC ei
  obtain ⟨x1, x2, x3, x5⟩ := m4 i (by omega)
  have x3' := x3
  obtain ⟨x31, x32⟩ := x3'
  have hin := b_TL_in p2 p3 t ei m2 (by omega) x3
  rw [if_neg (by rw [Int32.lt_iff_toInt_lt]; omega), if_neg (by rw [Int32.le_iff_toInt_le]; omega), if_neg (by rw [Int32.le_iff_toInt_le]; omega), sbnd]
  dsimp only
  rw [if_neg n1_0, ni, x2]
  refine PT.ilt (fun h9 => PT.ret (hin.mono (fun z hz => ?_))) (fun h9 => ?_)
  · rcases hz with hz | ⟨k, k1, _⟩
    · exact hz.2
    · omega
  refine PT.grd (fun _ => ?_)
  refine PT.ile (fun h8 => PT.ret (hin.mono (fun z hz => ?_))) (fun h8 => ?_)
  · rcases hz with hz | ⟨k, k1, k2, _⟩
    · exact hz.2
    · omega
  refine PT.ile (fun h7 => by omega) (fun h7 => ?_)
  refine PT.grd (fun _ => PT.ret (hin.mono (fun z hz => ?_)))
  rcases hz with hz | ⟨k, k1, k2, k3⟩
  · omega
  · have a1 : (p2 * 32).toInt = 32 * p2.toInt := by
      rw [Int32.mul_comm]
      exact mlE (k := 32) (y := p2) 32 l32 (by omega) (by omega)
    have a2 := il_addE (x := p2 * 32) (y := p3) (by omega) (by omega)
    have n1 : (p2 * 32 + p3).toNatClampNeg = 32 * i + k := nC (by omega)
    show z.1 = s.1 46 (p2 * 32 + p3).toNatClampNeg
    rw [n1, k3]
    exact (x5 k (by omega)).symm
theorem ab_missStep {σ τ : ST} (h : MZ τ σ) (hc : σ.1 4 0 = τ.1 0 32) (p0 p1 p2 p3 : Int32) : PT (f_X10_missStep p0 p1 p2 p3 σ) (fun r => MZ τ r.2 ∧ PT (f_X11_missStep p0 p1 p2 p3 τ) (fun z => z.1 = r.1)) := by
  rw [b_missStep_eq]
  unfold f_X10_missStep
  have l0 := li_0
  have l1 := li_1
  have hy := YOK.st0 h.2.1.2.2 0
  have hci : (σ.1 4 0).toInt = (τ.1 0 32).toInt := by rw [hc]
  generalize stI τ 0 0 0 = y at hy ⊢
  have e32 := hy.2.1
  refine PT.bndR (k2_isPlan p0 σ) (fun v hv => ?_)
  dsimp only
  by_cases hp : 0 ≤ p0.toInt ∧ p0.toInt < (τ.1 0 32).toInt
  rotate_left
  · refine PT.ieq (fun _ => PT.ret ⟨h, ?_⟩) (fun h9 => by omega)
    refine PT.bndR (b_isPlanAt p0 y hy.2.2.1.1) (fun w hw => ?_)
    dsimp only
    rw [e32] at hw
    exact PT.ieq (fun _ => PT.ret rfl) (fun h9 => by omega)
  refine PT.ieq (fun h9 => by omega) (fun _ => ?_)
  refine PT.bndR (k2_isPlan p1 σ) (fun v2 hv2 => ?_)
  dsimp only
  by_cases hq : 0 ≤ p1.toInt ∧ p1.toInt < (τ.1 0 32).toInt
  rotate_left
  · refine PT.ieq (fun _ => PT.ret ⟨h, ?_⟩) (fun h9 => by omega)
    refine PT.bndR (b_isPlanAt p0 y hy.2.2.1.1) (fun w hw => ?_)
    dsimp only
    rw [e32] at hw
    refine PT.ieq (fun h9 => by omega) (fun _ => ?_)
    refine PT.bndR (b_isPlanAt p1 y hy.2.2.1.1) (fun w2 hw2 => ?_)
    dsimp only
    rw [e32] at hw2
    exact PT.ieq (fun _ => PT.ret rfl) (fun h9 => by omega)
  refine PT.ieq (fun h9 => by omega) (fun _ => ?_)
  obtain ⟨p, ep⟩ : ∃ p : Nat, p0.toInt = p := ⟨_, (Int.toNat_of_nonneg hp.1).symm⟩
  obtain ⟨q, eq⟩ : ∃ q : Nat, p1.toInt = q := ⟨_, (Int.toNat_of_nonneg hq.1).symm⟩
  refine PT.bnd (at_find h ep eq (by omega) (by omega)) (fun s hs => ?_)
  obtain ⟨hs1, hL⟩ := hs
  refine PT.bnd (PT.and (a_step_st p2 p3 s) (PT.all (Y := fun t => LMX s t) (fun t ht => ab_step p2 p3 ht))) (fun r hr => PT.ret ⟨by rw [hr.1]; exact hs1, ?_⟩)
  refine PT.bndR (b_isPlanAt p0 y hy.2.2.1.1) (fun w hw => ?_)
  dsimp only
  rw [e32] at hw
  refine PT.ieq (fun h9 => by omega) (fun _ => ?_)
  refine PT.bndR (b_isPlanAt p1 y hy.2.2.1.1) (fun w2 hw2 => ?_)
  dsimp only
  rw [e32] at hw2
  refine PT.ieq (fun h9 => by omega) (fun h9 => ?_)
  exact PT.bnd (hL y hy) (fun t ht => hr.2 t ht)
theorem YOK.vd {τ y : ST} (h : YOK τ y) (p0 p1 : Int32) (h0 : 0 ≤ p0.toInt ∧ p0.toInt < (τ.1 0 32).toInt) (h1 : 0 ≤ p1.toInt ∧ p1.toInt < (τ.1 0 32).toInt) : PT (f_X11_verdict p0 p1 y) (fun z => YOK τ z.2) := by
  have a := PT.ok (h.2.2.vd p0 p1 (by rw [h.2.1]; exact h0) (by rw [h.2.1]; exact h1))
  have b : PT (f_X11_verdict p0 p1 y) (fun z => KTB y z.2) := w_X11_verdict KTB.rf
  exact (PT.and a b).mono (fun z hz => h.trans ⟨hz.2.kr, hz.1.2.2.2, hz.1.1⟩)
theorem ab_readers_24 {τ : ST} (x1 x2 : Int32) {p : Nat} (hx1 : x1.toInt = p) (hp : (p : Int) < (τ.1 0 32).toInt) : ∀ (n n' : Nat) (x3 x4 : Int32) (σ y : ST), MZ τ σ → YOK τ y → σ.1 4 0 = τ.1 0 32 → 0 ≤ x4.toInt → PT (f_X10_readers_24 n x1 x2 x3 x4 σ) (fun r => MZ τ r.2 ∧ PT (f_X11_readers_30 n' x1 x2 x3 x4 y) (fun z => z.1 = r.1)) := by
  intro n
  have l1 := li_1
  induction n with
  | zero => intro n' x3 x4 σ y _ _ _ _; exact PT.none
  | succ n ih =>
    intro n' x3 x4 σ y h hy hc h4
    rw [f_X10_readers_24]
    unfold f_X10_readers_57
    have b := h.2.1.2.2.1.1.2
    have hci : (σ.1 4 0).toInt = (τ.1 0 32).toInt := by rw [hc]
    have e32 : (y.1 0 32).toInt = (τ.1 0 32).toInt := by rw [hy.2.1]
    refine PT.ile (fun hle => PT.ret ⟨h, ?_⟩) (fun hlt => ?_)
    · cases n' with
      | zero => exact PT.none
      | succ n' =>
        rw [f_X11_readers_30]
        exact PT.ile (fun _ => PT.ret rfl) (fun h9 => by omega)
    obtain ⟨q, eq⟩ : ∃ q : Nat, x4.toInt = q := ⟨_, (Int.toNat_of_nonneg h4).symm⟩
    have e4 := il_addE (x := x4) (y := 1) (by omega) (by omega)
    refine PT.bnd (at_verdict h hx1 eq hp (by omega)) (fun r hr => ?_)
    obtain ⟨k, hr1, hr2⟩ := hr
    have hc' : r.2.1 4 0 = τ.1 0 32 := by rw [(k 4 (by omega) (by omega)).1]; exact hc
    have hv := PT.and (hr2 y hy) (hy.vd x1 x4 ⟨by omega, by omega⟩ ⟨by omega, by omega⟩)
    have ref : ∀ (w : Int32), (∀ y' : ST, YOK τ y' → ∀ n'', PT (f_X11_readers_30 n'' x1 x2 (x3 ||| (if x2 < r.1 then (0 : Int32) else (1 <<< (x4 &&& 31)))) (x4 + 1) y') (fun z => z.1 = w)) → PT (f_X11_readers_30 n' x1 x2 x3 x4 y) (fun z => z.1 = w) := fun w hw => by
      cases n' with
      | zero => exact PT.none
      | succ n' =>
        rw [f_X11_readers_30]
        unfold f_X11_readers_59
        refine PT.ile (fun h9 => by omega) (fun _ => ?_)
        refine PT.bnd hv (fun z hz => ?_)
        obtain ⟨z1, z2⟩ := hz
        rw [z1]
        refine PT.ite (fun h9 => ?_) (fun h9 => ?_)
        · have := hw z.2 z2 n'
          rw [if_pos h9] at this
          exact this
        · have := hw z.2 z2 n'
          rw [if_neg h9] at this
          exact this
    refine PT.ite (fun h9 => ?_) (fun h9 => ?_)
    · have e0 : x3 ||| (if x2 < r.1 then (0 : Int32) else (1 <<< (x4 &&& 31))) = x3 := by
        rw [if_pos h9]
        exact Int32.or_zero
      refine (PT.all (Y := fun (yn : ST × Nat) => YOK τ yn.1) (fun yn hyn => ih yn.2 x3 (x4 + 1) r.2 yn.1 hr1 hyn hc' (by omega))).mono (fun z hz => ⟨(hz (y, 0) hy).1, ref z.1 (fun y' hy' n'' => ?_)⟩)
      rw [e0]
      exact (hz (y', n'') hy').2
    · have e0 : x3 ||| (if x2 < r.1 then (0 : Int32) else (1 <<< (x4 &&& 31))) = x3 ||| (1 <<< (x4 &&& 31)) := by rw [if_neg h9]
      refine (PT.all (Y := fun (yn : ST × Nat) => YOK τ yn.1) (fun yn hyn => ih yn.2 (x3 ||| (1 <<< (x4 &&& 31))) (x4 + 1) r.2 yn.1 hr1 hyn hc' (by omega))).mono (fun z hz => ⟨(hz (y, 0) hy).1, ref z.1 (fun y' hy' n'' => ?_)⟩)
      rw [e0]
      exact (hz (y', n'') hy').2
theorem ab_readers {σ τ : ST} (h : MZ τ σ) (hc : σ.1 4 0 = τ.1 0 32) (p0 p1 : Int32) : PT (f_X10_readers p0 p1 σ) (fun r => MZ τ r.2 ∧ PT (f_X11_readers p0 p1 τ) (fun z => z.1 = r.1)) := by
  unfold f_X10_readers f_X11_readers
  have l0 := li_0
  have l1 := li_1
  have k0 := l64_0
  have k1 := l64_1
  have i1 := i64 p1
  have hy := YOK.st0 h.2.1.2.2 0
  have hci : (σ.1 4 0).toInt = (τ.1 0 32).toInt := by rw [hc]
  generalize stI τ 0 0 0 = y at hy ⊢
  have e32 := hy.2.1
  refine PT.bndR (k2_isPlan p0 σ) (fun v hv => ?_)
  dsimp only
  by_cases hp : 0 ≤ p0.toInt ∧ p0.toInt < (τ.1 0 32).toInt
  rotate_left
  · refine PT.ieq (fun _ => PT.ret ⟨h, ?_⟩) (fun h9 => by omega)
    refine PT.bndR (b_isPlanAt p0 y hy.2.2.1.1) (fun w hw => ?_)
    dsimp only
    rw [e32] at hw
    exact PT.ieq (fun _ => PT.ret rfl) (fun h9 => by omega)
  refine PT.ieq (fun h9 => by omega) (fun _ => ?_)
  have no : ¬ (0 ≤ p1.toInt ∧ p1.toInt ≤ 1) → PT ((f_X11_isPlanAt p0 y).bind fun q1 => if q1.1 = 0 then (some ((-1), q1.2)) else ((f_X11_within (p1.toInt64) 0 1 q1.2).bind fun q3 => if q3.1 = 0 then (some ((-1), q3.2)) else (f_X11_readers_30 FU p0 p1 0 0 q3.2))) (fun z => z.1 = -1) := fun hn => by
    refine PT.bndR (b_isPlanAt p0 y hy.2.2.1.1) (fun w hw => ?_)
    dsimp only
    refine PT.ieq (fun _ => PT.ret rfl) (fun _ => ?_)
    refine PT.bndR (b_within _ _ _ _) (fun w hw => ?_)
    dsimp only
    exact PT.ieq (fun _ => PT.ret rfl) (fun h9 => by omega)
  refine PT.ilt (fun h9 => PT.ret ⟨h, no (by omega)⟩) (fun h9 => ?_)
  refine PT.ile (fun h8 => ?_) (fun h8 => PT.ret ⟨h, no (by omega)⟩)
  obtain ⟨p, ep⟩ : ∃ p : Nat, p0.toInt = p := ⟨_, (Int.toNat_of_nonneg hp.1).symm⟩
  refine (ab_readers_24 p0 p1 ep (by omega) FU FU 0 0 σ y h hy hc (by omega)).mono (fun r hr => ⟨hr.1, ?_⟩)
  refine PT.bndR (b_isPlanAt p0 y hy.2.2.1.1) (fun w hw => ?_)
  dsimp only
  rw [e32] at hw
  refine PT.ieq (fun h9 => by omega) (fun _ => ?_)
  refine PT.bndR (b_within _ _ _ _) (fun w hw => ?_)
  dsimp only
  exact PT.ieq (fun h9 => by omega) (fun _ => hr.2)
