/-! what holds between two calls, and that each call keeps it -/
def T8 (σ : ST) : Prop := ∀ i, bI (σ.1 1 i) (-128) 127
theorem t8_four_3 : ∀ (n : Nat) (x1 x2 : Int32) (σ q : ST), f_X10_feedFour_3 n x1 x2 σ = some q → T8 σ → T8 q := by
  intro n
  induction n with
  | zero => intro x1 x2 σ q h; rw [f_X10_feedFour_3] at h; cases h
  | succ n ih =>
    intro x1 x2 σ q h hT
    rw [f_X10_feedFour_3] at h
    unfold f_X10_feedFour_40 at h
    by_cases h1 : x2 < 0
    · rw [if_pos h1] at h
      cases h
      exact hT
    rw [if_neg h1] at h
    by_cases h2 : 1000 ≤ σ.1 0 1
    · rw [if_pos h2] at h
      exact ih _ _ _ _ h hT
    rw [if_neg h2] at h
    by_cases h3 : 0 ≤ (σ.1 0 1).toInt ∧ (σ.1 0 1).toInt < 1000
    · rw [if_pos h3, sbnd] at h
      refine ih _ _ _ _ h (fun i => ?_)
      have hb : bI (vp_nar .byte ((x1 >>> (x2 &&& 31)).toInt8.toInt32)) (-128) 127 := by rw [vp_nar_byte]; exact by8 _
      exact upd_all (P := fun x => bI x (-128) 127) hT hb i
    · rw [if_neg h3] at h
      cases h
theorem t8_four (p : Int32) (σ q : ST) (h : f_X10_feedFour p σ = some q) (hT : T8 σ) : T8 q := t8_four_3 _ _ _ _ _ h hT
theorem t8_feed (p0 p1 p2 p3 p4 v : Int32) (σ q : ST) (h : f_X10_feed p0 p1 p2 p3 p4 σ = some (v, q)) (hT : T8 σ) : T8 q := by
  unfold f_X10_feed at h
  by_cases h1 : σ.1 0 1 + 20 ≤ 1000
  · rw [if_pos h1] at h
    obtain ⟨s1, e1, h⟩ := bnd_some h
    obtain ⟨s2, e2, h⟩ := bnd_some h
    obtain ⟨s3, e3, h⟩ := bnd_some h
    obtain ⟨s4, e4, h⟩ := bnd_some h
    obtain ⟨s5, e5, h⟩ := bnd_some h
    cases h
    exact t8_four _ _ _ e5 (t8_four _ _ _ e4 (t8_four _ _ _ e3 (t8_four _ _ _ e2 (t8_four _ _ _ e1 hT))))
  · rw [if_neg h1] at h
    cases h
    exact hT
theorem ib_0 : IB s0B := by
  have l0 := li_0
  have e32 : (s0B.1 0 32).toInt = 0 := l0
  have z : ∀ (c i : Nat), c ≠ 32 → s0B.1 c i = 0 := fun c i hc => by
    have e : Nat.beq c 32 = false := by
      cases h : Nat.beq c 32 with
      | false => rfl
      | true => exact absurd (Nat.eq_of_beq_eq_true h) hc
    show (bif Nat.beq c 32 then _ else (fun _ => 0 : Nat → Int32)) i = 0
    rw [e]
    rfl
  have b0 : ∀ (n : Int), 0 ≤ n → ∀ c i : Nat, c ≠ 32 → bI (s0B.1 c i) 0 n := fun n hn c i hc => by
    rw [z c i hc]
    unfold bI
    omega
  refine ⟨⟨b0 6 (by omega) 0 32 (by decide), fun p hp => by omega, fun i => b0 12 (by omega) 19 i (by decide)⟩, fun k => .inl ?_, fun i hi => ?_, fun i => b0 400 (by omega) 33 i (by decide), fun i => b0 256 (by omega) 38 i (by decide), b0 256 (by omega) 0 68 (by decide), b0 400 (by omega) 0 73 (by decide), b0 256 (by omega) 0 83 (by decide), b0 4 (by omega) 0 92 (by decide), fun i => b0 500 (by omega) 45 i (by decide)⟩
  · rw [z 35 k (by decide)]
    exact l0
  · have h : ∀ i : Nat, i < 4 → -1 ≤ (s0B.1 32 i).toInt ∧ (s0B.1 32 i).toInt < 0 := by decide
    have := h i hi
    omega
/-- what holds after n calls, with k cells spelt -/
def Inv (n : Nat) (σ τ : ST) (κ : Nat) : Prop := n ≤ 512 ∧ IA σ ∧ IB τ ∧ FE σ τ ∧ σ.1 4 0 = τ.1 0 32 ∧ σ.2.1 3 = kw0 ∧ T8 σ ∧ (κ : Int) + 40 * (σ.1 0 1).toInt ≤ 950 * n
theorem inv_0 : Inv 0 s0A s0B 0 := by
  have e3 : s0A.2.1 3 = kw0 := by
    unfold s0A
    generalize kw0 = k
    rfl
  refine ⟨by omega, ia_0, ib_0, ⟨rfl, rfl⟩, rfl, e3, fun i => ?_, ?_⟩
  · have e : s0A.1 1 i = 0 := rfl
    have l0 := li_0
    rw [e]
    unfold bI
    omega
  · have e : (s0A.1 0 1).toInt = 0 := li_0
    rw [e]
    omega
theorem inv_feed {n κ : Nat} {σ τ : ST} (h : Inv n σ τ κ) (hn : n < 512) (p0 p1 p2 p3 p4 : Int32) : ∃ (qa : Int32 × ST) (qb : (Int32 × ST) × Nat), f_X10_feed p0 p1 p2 p3 p4 σ = some qa ∧ ((f_X11_feed p0 p1 p2 p3 p4 τ).bind fun q => some ((q.1, q.2), 0)) = some qb ∧ qa.1 = qb.1.1 ∧ Inv (n + 1) qa.2 qb.1.2 (κ + qb.2) := by
  obtain ⟨_, hA, hB, hF, h32, hk, hT, hc⟩ := h
  obtain ⟨v, σ', τ', e1, e2, i1, i2, i3, i4, i5⟩ := feedAB p0 p1 p2 p3 p4 σ τ hA hF
  refine ⟨(v, σ'), ((v, τ'), 0), e1, by rw [e2, sbnd], rfl, by omega, i1, ?_, i2, ?_, i3.2.trans hk, t8_feed _ _ _ _ _ _ _ _ e1 hT, ?_⟩
  · show IB τ'
    have hs := hB.th 0
    generalize stI τ 0 0 0 = s at i4 hs
    obtain ⟨f1, f2, f3⟩ := i4
    refine hs.ch (C := [1]) (I := [2]) ⟨fun c h0 h1 => f1 c h0 (fun e => h1 (by rw [e]; decide)), fun i hi => f3 i (fun e => hi (by rw [e]; decide)), by rw [f2], by rw [f2], by rw [f2], by rw [f2], by rw [f2]⟩ (by decide) (by decide)
  · show σ'.1 4 0 = τ'.1 0 32
    rw [i3.1, i4.2.2 32 (by decide), h32]
    rfl
  · show ((κ + 0 : Nat) : Int) + 40 * (σ'.1 0 1).toInt ≤ 950 * ((n + 1 : Nat) : Int)
    omega
/-- the plans that hold, side by side -/
def T5 (σ τ : ST) : Prop := ∀ p : Nat, (p : Int) < (τ.1 0 32).toInt → PHB 4 p σ τ
theorem T5.keep {σ τ a b : ST} (h : T5 σ τ) (h1 : b.1 0 32 = τ.1 0 32) (hb : bI (τ.1 0 32) 0 6) (hA : KTA σ a) (hB : KR τ b) : T5 a b := fun p hp => by
  rw [h1] at hp
  have := hb.2
  exact (h p hp).keep (by omega) hA hB
theorem inv_plans {n κ : Nat} {σ τ : ST} (h : Inv n σ τ κ) (hn : n < 512) (p0 : Int32) : ∃ (qa : Int32 × ST) (qb : (Int32 × ST) × Nat), f_X10_plans p0 σ = some qa ∧ f_X11_plans p0 τ = some qb ∧ Inv (n + 1) qa.2 qb.1.2 (κ + qb.2) ∧ (T5 σ τ → T5 qa.2 qb.1.2) := by
  obtain ⟨_, hA, hB, hF, h32, hk, hT, hc⟩ := h
  have ht := hA.tape
  have e2 : (τ.1 0 2).toInt = (σ.1 0 1).toInt := by rw [hF.1]
  have l0 := l64_0
  have i0 := i64 p0
  have l0' := li_0
  obtain ⟨qa, ea, q1, ⟨q2, q3⟩, q4⟩ := k_X10_plans p0 σ hA
  have hs := hB.th 0
  have s1 : (stI τ 0 0 0).1 1 = τ.1 1 := rfl
  have s2 : (stI τ 0 0 0).1 0 2 = τ.1 0 2 := rfl
  have s32 : (stI τ 0 0 0).1 0 32 = τ.1 0 32 := rfl
  have s9 : ∀ c, c ≠ 0 → (stI τ 0 0 0).1 c = τ.1 c := fun c hc => stI_ne hc
  have sL : (stI τ 0 0 0).2.1 = τ.2.1 := rfl
  have hb : ∃ qb : (Int32 × ST) × Nat, f_X11_plans p0 τ = some qb ∧ Inv (n + 1) qa.2 qb.1.2 (κ + qb.2) ∧ (T5 σ τ → T5 qa.2 qb.1.2) := by
    unfold f_X11_plans
    generalize stI τ 0 0 0 = s at hs s1 s2 s32 s9 sL
    have kr : KR τ s := KR.eq (fun c hc => s9 c (fun e => by rw [e] at hc; revert hc; decide)) (fun c _ => by rw [sL])
    have i2 := i64 (s.1 0 2)
    have e2' : (s.1 0 2).toInt = (σ.1 0 1).toInt := by rw [s2]; exact e2
    have ok : OK ((f_X11_within (p0.toInt64) 0 ((s.1 0 2).toInt64) s).bind fun q1 => if q1.1 = 0 then (some (((-1), q1.2), 0)) else ((f_X11_begins p0 q1.2).bind fun q3 => (f_X11_plan (stI (stI q3 0 33 0) 0 34 400)).bind fun q5 => ac q5.2 (f_X11_plans_43 FU q5.1.1 q5.1.2))) (fun qb => Inv (n + 1) qa.2 qb.1.2 (κ + qb.2) ∧ (T5 σ τ → T5 qa.2 qb.1.2)) := by
      refine OK.bndR (b_within _ _ _ _) (fun v hv => ?_)
      dsimp only
      rcases q4 with ⟨c, q4⟩ | ⟨c, q01, t1, r, t2, e1, e3, q5, q6⟩
      · refine OK.ieq (fun _ => ?_) (fun h => by omega)
        refine OK.ret ⟨⟨by omega, q1, hs, ⟨?_, ?_⟩, ?_, ?_, ?_, ?_⟩, fun hT5 => hT5.keep s32 hB.1.1 (by rw [q4]; exact KTA.rf) kr⟩
        · show qa.2.1 0 1 = s.1 0 2
          rw [q4, s2, hF.1]
        · show qa.2.1 1 = s.1 1
          rw [q4, s1, hF.2]
        · show qa.2.1 4 0 = s.1 0 32
          rw [q4, s32, h32]
        · rw [q4]
          exact hk
        · rw [q4]
          exact hT
        · show ((κ + 0 : Nat) : Int) + 40 * (qa.2.1 0 1).toInt ≤ 950 * ((n + 1 : Nat) : Int)
          rw [q4]
          omega
      · refine OK.ieq (fun h => by omega) (fun _ => ?_)
        have hp1000 : p0.toInt ≤ 1000 := by
          have := ht.2
          omega
        have hb := ab_plans p0 (stI σ 0 1 0) s (by rw [s1]; exact hF.2) (by rw [s1, ← hF.2]; exact hT) hk hs ⟨c.1, hp1000⟩ t1 e1 r t2 e3
        refine hb.mono (fun y hy => ?_)
        obtain ⟨y0, y1, y2, y3, y4⟩ := hy
        have k5 := k6_plans p0 σ qa ea c t1 r t2 e1 e3
        refine ⟨⟨by omega, q1, y1, ⟨?_, ?_⟩, ?_, ?_, ?_, ?_⟩, fun hT5 => ?_⟩
        · rw [q01, y3]
        · rw [q2, y2, s1, hF.2]
        · rcases y4 with ⟨r0, y5, _⟩ | ⟨r0, y5, _⟩
          · rw [q5 r0, y5, s32, h32]
          · rw [q6 r0]
            exact Int32.toInt_inj.mp y5.symm
        · rw [q3]
          exact hk
        · show T8 qa.2
          unfold T8
          rw [q2]
          exact hT
        · rw [q01, l0']
          omega
        · rcases y4 with ⟨r0, y5, yK⟩ | ⟨r0, y5, yT⟩
          · exact (hT5.keep s32 hB.1.1 KTA.rf kr).keep y5 hs.1.1 (k5.1 r0) yK
          · intro p hp
            have h6 := y1.1.1.2
            exact k5.2 r0 p _ (by omega) (yT p (by omega))
    obtain ⟨qb, eb, hq⟩ := ok
    exact ⟨qb, eb, hq⟩
  obtain ⟨qb, eb, hq⟩ := hb
  exact ⟨qa, qb, ea, eb, hq⟩
theorem inv_write {n κ : Nat} {σ τ : ST} (h : Inv n σ τ κ) (hn : n < 512) (p0 p1 p2 : Int32) : ∃ (qa : Int32 × ST) (qb : (Int32 × ST) × Nat), f_X10_write p0 p1 p2 σ = some qa ∧ f_X11_write p0 p1 p2 τ = some qb ∧ Inv (n + 1) qa.2 qb.1.2 (κ + qb.2) := by
  obtain ⟨_, hA, hB, hF, h32, hk, hT, hc⟩ := h
  have ht := hA.tape
  have l0 := li_0
  have e2 : (τ.1 0 2).toInt = (σ.1 0 1).toInt := by rw [hF.1]
  have e32 : (τ.1 0 32).toInt = (σ.1 4 0).toInt := by rw [h32]
  have hw : WRc σ p0 p1 p2 ↔ WRd τ p0 p1 p2 := by
    unfold WRc WRd
    rw [e2, e32]
  obtain ⟨qa, ea, a1, a2, ⟨a3, a4⟩, a5⟩ := k_X10_write p0 p1 p2 σ hA
  obtain ⟨qb, eb, b1, b2, b3, b5⟩ := b_write p0 p1 p2 τ hB (by rw [← hF.1]; exact ht)
  refine ⟨qa, qb, ea, eb, by omega, a1, b1, ⟨?_, ?_⟩, ?_, ?_, ?_, ?_⟩
  · rcases a5 with ⟨c, a5⟩ | ⟨c, a5⟩
    · rcases b5 with ⟨_, b5, _⟩ | ⟨d, _⟩
      · rw [a5, b5]
      · exact absurd (hw.mp c) d
    · rcases b5 with ⟨d, _⟩ | ⟨_, b5, _⟩
      · exact absurd (hw.mpr d) c
      · rw [a5, b5]
        exact hF.1
  · rw [a2, b2]
    exact hF.2
  · rw [a3, b3]
    exact h32
  · rw [a4]
    exact hk
  · unfold T8
    rw [a2]
    exact hT
  · rcases a5 with ⟨c, a5⟩ | ⟨c, a5⟩
    · rcases b5 with ⟨_, _, b6⟩ | ⟨d, _⟩
      · have hp := c.2.2.2
        rw [a5, l0]
        omega
      · exact absurd (hw.mp c) d
    · rcases b5 with ⟨d, _⟩ | ⟨_, _, b6⟩
      · exact absurd (hw.mpr d) c
      · rw [a5]
        omega
/-- what a call other than plans leaves of the plans -/
theorem w_L_byteAt {s : ST} {p0 p1 : Int32} {σ : ST} (h : KTA s σ) : PF st1 (KTA s) (f_L_byteAt p0 p1 σ) := by
  unfold f_L_byteAt
  refine PF.bnd (w_X10_byteAt h) (fun q hq => ?_)
  cases q.1 with
  | none => exact PF.ret1 hq
  | some r => exact PF.ret1 (KTA.l (by omega) hq)
theorem w_L_node {s : ST} {p0 p1 : Int32} {σ : ST} (h : KTA s σ) : PF st1 (KTA s) (f_L_node p0 p1 σ) := by
  unfold f_L_node
  refine PF.bnd (w_X10_node h) (fun q hq => ?_)
  cases q.1 with
  | none => exact PF.ret1 hq
  | some r => exact PF.ret1 (KTA.l (by omega) hq)
theorem w_L_letter {s : ST} {p0 p1 : Int32} {σ : ST} (h : KTA s σ) : PF st1 (KTA s) (f_L_letter p0 p1 σ) := by
  unfold f_L_letter
  refine PF.bnd (w_X10_letter h) (fun q hq => ?_)
  cases q.1 with
  | none => exact PF.ret1 hq
  | some r => exact PF.ret1 (KTA.l (by omega) hq)
theorem w_L_value {s : ST} {p0 : Int32} {σ : ST} (h : KTA s σ) : PF st1 (KTA s) (f_L_value p0 σ) := by
  unfold f_L_value
  refine PF.bnd (w_X10_value h) (fun q hq => ?_)
  cases q.1 with
  | none => exact PF.ret1 hq
  | some r => exact PF.ret1 (KTA.l (by omega) hq)
theorem w_fA (j : Nat) (h1 : j ≠ 1) (pr : Nat → Int32) (σ : ST) : PF st1 (KTA σ) (fA j pr σ) := by
  match j, h1 with
  | 0, _ => exact w_X10_feed KTA.rf
  | 2, _ => exact w_X10_write KTA.rf
  | 3, _ => exact w_X10_record KTA.rf
  | 4, _ => exact w_X10_field KTA.rf
  | 5, _ => exact w_X10_message KTA.rf
  | 6, _ => exact w_L_byteAt KTA.rf
  | 7, _ => exact w_X10_spoil KTA.rf
  | 8, _ => exact w_X10_cut KTA.rf
  | 9, _ => exact w_X10_matches KTA.rf
  | 10, _ => exact w_X10_miss KTA.rf
  | 11, _ => exact w_X10_missStep KTA.rf
  | 12, _ => exact w_X10_readers KTA.rf
  | 13, _ => exact w_X10_read KTA.rf
  | 14, _ => exact w_X10_failure KTA.rf
  | 15, _ => exact w_X10_failureStep KTA.rf
  | 16, _ => exact w_L_node KTA.rf
  | 17, _ => exact w_L_value KTA.rf
  | 18, _ => exact w_L_letter KTA.rf
  | 19, _ => exact w_X10_convert KTA.rf
  | 20, _ => exact w_X10_alike KTA.rf
  | 21, _ => exact w_X10_kept KTA.rf
  | 22, _ => exact w_X10_count KTA.rf
  | j + 23, _ => exact PF.ret1 KTA.rf
theorem w_fB (j : Nat) (h1 : j ≠ 1) (pr : Nat → Int32) (τ : ST) : PF st2 (KTB τ) (fB j pr τ) := by
  match j, h1 with
  | 0, _ => exact PF.bnd (w_X11_feed KTB.rf) (fun q hq => PF.ret2 hq)
  | 2, _ => exact w_X11_write KTB.rf
  | 3, _ => exact PF.bnd (w_X11_record_ KTB.rf) (fun q hq => PF.ret2 hq)
  | 4, _ => exact PF.bnd (w_X11_field_ KTB.rf) (fun q hq => PF.ret2 hq)
  | 5, _ => exact PF.bnd (w_X11_message KTB.rf) (fun q hq => PF.ret2 hq)
  | 6, _ => exact PF.bnd (w_X11_byteAt_ KTB.rf) (fun q hq => PF.ret2 hq)
  | 7, _ => exact PF.bnd (w_X11_spoil KTB.rf) (fun q hq => PF.ret2 hq)
  | 8, _ => exact PF.bnd (w_X11_cut KTB.rf) (fun q hq => PF.ret2 hq)
  | 9, _ => exact PF.bnd (w_X11_matches KTB.rf) (fun q hq => PF.ret2 hq)
  | 10, _ => exact PF.bnd (w_X11_miss KTB.rf) (fun q hq => PF.ret2 hq)
  | 11, _ => exact PF.bnd (w_X11_missStep KTB.rf) (fun q hq => PF.ret2 hq)
  | 12, _ => exact PF.bnd (w_X11_readers KTB.rf) (fun q hq => PF.ret2 hq)
  | 13, _ => exact PF.bnd (w_X11_read KTB.rf) (fun q hq => PF.ret2 hq)
  | 14, _ => exact PF.bnd (w_X11_failure KTB.rf) (fun q hq => PF.ret2 hq)
  | 15, _ => exact PF.bnd (w_X11_failureStep KTB.rf) (fun q hq => PF.ret2 hq)
  | 16, _ => exact PF.bnd (w_X11_node KTB.rf) (fun q hq => PF.ret2 hq)
  | 17, _ => exact PF.bnd (w_X11_value_ KTB.rf) (fun q hq => PF.ret2 hq)
  | 18, _ => exact PF.bnd (w_X11_letter KTB.rf) (fun q hq => PF.ret2 hq)
  | 19, _ => exact PF.bnd (w_X11_convert KTB.rf) (fun q hq => PF.ret2 hq)
  | 20, _ => exact PF.bnd (w_X11_alike KTB.rf) (fun q hq => PF.ret2 hq)
  | 21, _ => exact PF.bnd (w_X11_kept KTB.rf) (fun q hq => PF.ret2 hq)
  | 22, _ => exact PF.bnd (w_X11_count KTB.rf) (fun q hq => PF.ret2 hq)
  | j + 23, _ => exact PF.ret2 KTB.rf
theorem inv_call (n : Nat) (σ τ : ST) (κ : Nat) (h : Inv n σ τ κ) (hn : n < 512) (j : Nat) (pr : Nat → Int32) : ∃ (qa : Int32 × ST) (qb : (Int32 × ST) × Nat), fA j pr σ = some qa ∧ fB j pr τ = some qb ∧ Inv (n + 1) qa.2 qb.1.2 (κ + qb.2) ∧ (T5 σ τ → T5 qa.2 qb.1.2) := by
  by_cases h1 : j = 1
  · subst h1
    exact inv_plans h hn (pr 1)
  have hB := h.2.2.1.1.1
  have h4 : σ.1 4 0 = τ.1 0 32 := h.2.2.2.2.1
  have main : ∃ (qa : Int32 × ST) (qb : (Int32 × ST) × Nat), fA j pr σ = some qa ∧ fB j pr τ = some qb ∧ Inv (n + 1) qa.2 qb.1.2 (κ + qb.2) := by
    by_cases h0 : j = 0
    · subst h0
      obtain ⟨qa, qb, e1, e2, e3, e4⟩ := inv_feed h hn (pr 1) (pr 2) (pr 3) (pr 4) (pr 5)
      exact ⟨qa, qb, e1, e2, e4⟩
    by_cases h2 : j = 2
    · subst h2
      exact inv_write h hn (pr 1) (pr 2) (pr 3)
    obtain ⟨_, hA, hB, hF, h32, hk, hT, hc⟩ := h
    obtain ⟨qa, ea, a1, a2, a3, a4, a5⟩ := callsA j (by omega) pr σ hA
    obtain ⟨qb, eb, ⟨b1, b2, b3, b4⟩, b5⟩ := callsB j (by omega) pr τ hB
    refine ⟨qa, qb, ea, eb, by omega, a1, b1, ⟨?_, ?_⟩, ?_, ?_, ?_, ?_⟩
    · rw [a2, b2]
      exact hF.1
    · rw [a3, b3]
      exact hF.2
    · rw [a4, b4]
      exact h32
    · rw [a5]
      exact hk
    · unfold T8
      rw [a3]
      exact hT
    · rw [a2, b5]
      omega
  obtain ⟨qa, qb, ea, eb, hI⟩ := main
  have kA : KTA σ qa.2 := w_fA j h1 pr σ qa ea
  have kB : KTB τ qb.1.2 := w_fB j h1 pr τ qb eb
  have h5 : qa.2.1 4 0 = qb.1.2.1 0 32 := hI.2.2.2.2.1
  have e4 : qa.2.1 4 = σ.1 4 := (kA 4 (by omega) (by omega)).1
  exact ⟨qa, qb, ea, eb, hI, fun hT5 => hT5.keep (by rw [← h5, e4, h4]) hB kA kB.kr⟩
theorem inv_room (n : Nat) (σ τ : ST) (κ : Nat) (h : Inv n σ τ κ) : κ ≤ 500000 := by
  obtain ⟨h1, hA, _, _, _, _, _, hc⟩ := h
  have := hA.tape.1
  omega
theorem t5_0 : T5 s0A s0B := fun p hp => by
  have e : (s0B.1 0 32).toInt = 0 := li_0
  omega
/-- what holds after n calls -/
def Inv5 (n : Nat) (σ τ : ST) (κ : Nat) : Prop := Inv n σ τ κ ∧ T5 σ τ
theorem inv5_call (n : Nat) (σ τ : ST) (κ : Nat) (h : Inv5 n σ τ κ) (hn : n < 512) (j : Nat) (pr : Nat → Int32) : ∃ (qa : Int32 × ST) (qb : (Int32 × ST) × Nat), fA j pr σ = some qa ∧ fB j pr τ = some qb ∧ Inv5 (n + 1) qa.2 qb.1.2 (κ + qb.2) := by
  obtain ⟨h1, h2⟩ := h
  obtain ⟨qa, qb, ea, eb, e1, e2⟩ := inv_call n σ τ κ h1 hn j pr
  exact ⟨qa, qb, ea, eb, e1, e2 h2⟩
theorem inv5_room (n : Nat) (σ τ : ST) (κ : Nat) (h : Inv5 n σ τ κ) : κ ≤ 500000 := inv_room n σ τ κ h.1
theorem inv5_0 : Inv5 0 s0A s0B 0 := ⟨inv_0, t5_0⟩
