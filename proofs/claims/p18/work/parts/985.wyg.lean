/-! what the calls that are not about messages leave, all of them -/
theorem wy_L_byteAt {s : ST} {p0 p1 : Int32} {σ : ST} (h : KYA s σ) : PF st1 (KYA s) (f_L_byteAt p0 p1 σ) := by
  unfold f_L_byteAt
  refine PF.bnd (wy_X10_byteAt h) (fun q hq => ?_)
  cases q.1 with
  | none => exact PF.ret1 hq
  | some r => exact PF.ret1 (KYA.l (by omega) hq)
theorem wy_L_node {s : ST} {p0 p1 : Int32} {σ : ST} (h : KYA s σ) : PF st1 (KYA s) (f_L_node p0 p1 σ) := by
  unfold f_L_node
  refine PF.bnd (wy_X10_node h) (fun q hq => ?_)
  cases q.1 with
  | none => exact PF.ret1 hq
  | some r => exact PF.ret1 (KYA.l (by omega) hq)
theorem wy_L_letter {s : ST} {p0 p1 : Int32} {σ : ST} (h : KYA s σ) : PF st1 (KYA s) (f_L_letter p0 p1 σ) := by
  unfold f_L_letter
  refine PF.bnd (wy_X10_letter h) (fun q hq => ?_)
  cases q.1 with
  | none => exact PF.ret1 hq
  | some r => exact PF.ret1 (KYA.l (by omega) hq)
theorem wy_L_value {s : ST} {p0 : Int32} {σ : ST} (h : KYA s σ) : PF st1 (KYA s) (f_L_value p0 σ) := by
  unfold f_L_value
  refine PF.bnd (wy_X10_value h) (fun q hq => ?_)
  cases q.1 with
  | none => exact PF.ret1 hq
  | some r => exact PF.ret1 (KYA.l (by omega) hq)
theorem wy_fA (j : Nat) (h1 : j ≠ 1 ∧ j ≠ 2 ∧ j ≠ 7 ∧ j ≠ 8 ∧ j ≠ 13 ∧ j ≠ 19) (pr : Nat → Int32) (σ : ST) : PF st1 (KYA σ) (fA j pr σ) := by
  match j, h1 with
  | 1, h => exact absurd rfl (h.1)
  | 2, h => exact absurd rfl (h.2.1)
  | 7, h => exact absurd rfl (h.2.2.1)
  | 8, h => exact absurd rfl (h.2.2.2.1)
  | 13, h => exact absurd rfl (h.2.2.2.2.1)
  | 19, h => exact absurd rfl (h.2.2.2.2.2)
  | 0, _ => exact wy_X10_feed KYA.rf
  | 3, _ => exact wy_X10_record KYA.rf
  | 4, _ => exact wy_X10_field KYA.rf
  | 5, _ => exact wy_X10_message KYA.rf
  | 6, _ => exact wy_L_byteAt KYA.rf
  | 9, _ => exact wy_X10_matches KYA.rf
  | 10, _ => exact wy_X10_miss KYA.rf
  | 11, _ => exact wy_X10_missStep KYA.rf
  | 12, _ => exact wy_X10_readers KYA.rf
  | 14, _ => exact wy_X10_failure KYA.rf
  | 15, _ => exact wy_X10_failureStep KYA.rf
  | 16, _ => exact wy_L_node KYA.rf
  | 17, _ => exact wy_L_value KYA.rf
  | 18, _ => exact wy_L_letter KYA.rf
  | 20, _ => exact wy_X10_alike KYA.rf
  | 21, _ => exact wy_X10_kept KYA.rf
  | 22, _ => exact wy_X10_count KYA.rf
  | j + 23, _ => exact PF.ret1 KYA.rf
theorem wy_fB (j : Nat) (h1 : j ≠ 1 ∧ j ≠ 2 ∧ j ≠ 7 ∧ j ≠ 8 ∧ j ≠ 13 ∧ j ≠ 19) (pr : Nat → Int32) (τ : ST) : PF st2 (KYB τ) (fB j pr τ) := by
  match j, h1 with
  | 1, h => exact absurd rfl (h.1)
  | 2, h => exact absurd rfl (h.2.1)
  | 7, h => exact absurd rfl (h.2.2.1)
  | 8, h => exact absurd rfl (h.2.2.2.1)
  | 13, h => exact absurd rfl (h.2.2.2.2.1)
  | 19, h => exact absurd rfl (h.2.2.2.2.2)
  | 0, _ => exact PF.bnd (wy_X11_feed KYB.rf) (fun q hq => PF.ret2 hq)
  | 3, _ => exact PF.bnd (wy_X11_record_ KYB.rf) (fun q hq => PF.ret2 hq)
  | 4, _ => exact PF.bnd (wy_X11_field_ KYB.rf) (fun q hq => PF.ret2 hq)
  | 5, _ => exact PF.bnd (wy_X11_message KYB.rf) (fun q hq => PF.ret2 hq)
  | 6, _ => exact PF.bnd (wy_X11_byteAt_ KYB.rf) (fun q hq => PF.ret2 hq)
  | 9, _ => exact PF.bnd (wy_X11_matches KYB.rf) (fun q hq => PF.ret2 hq)
  | 10, _ => exact PF.bnd (wy_X11_miss KYB.rf) (fun q hq => PF.ret2 hq)
  | 11, _ => exact PF.bnd (wy_X11_missStep KYB.rf) (fun q hq => PF.ret2 hq)
  | 12, _ => exact PF.bnd (wy_X11_readers KYB.rf) (fun q hq => PF.ret2 hq)
  | 14, _ => exact PF.bnd (wy_X11_failure KYB.rf) (fun q hq => PF.ret2 hq)
  | 15, _ => exact PF.bnd (wy_X11_failureStep KYB.rf) (fun q hq => PF.ret2 hq)
  | 16, _ => exact PF.bnd (wy_X11_node KYB.rf) (fun q hq => PF.ret2 hq)
  | 17, _ => exact PF.bnd (wy_X11_value_ KYB.rf) (fun q hq => PF.ret2 hq)
  | 18, _ => exact PF.bnd (wy_X11_letter KYB.rf) (fun q hq => PF.ret2 hq)
  | 20, _ => exact PF.bnd (wy_X11_alike KYB.rf) (fun q hq => PF.ret2 hq)
  | 21, _ => exact PF.bnd (wy_X11_kept KYB.rf) (fun q hq => PF.ret2 hq)
  | 22, _ => exact PF.bnd (wy_X11_count KYB.rf) (fun q hq => PF.ret2 hq)
  | j + 23, _ => exact PF.ret2 KYB.rf
/-! calls about messages, both sides -/
theorem QT.weq {α : Type} {o : Option α} {P : α → Prop} (h : ∀ q, o = some q → P q) : QT o P := h
/-- a message read -/
theorem ab_read (p0 p1 : Int32) {σ τ : ST} (hZ : MZ τ σ) (hX : EHY σ) (hM : MSG σ τ) (hK : KPR σ τ) (hcap : (σ.1 50 0).toInt = 400) (hc : σ.1 4 0 = τ.1 0 32) : QT (f_X10_read p0 p1 σ) (fun qa => QT (f_X11_read p0 p1 τ) (fun qb => (MSG qa.2 qb.2 ∧ KPR qa.2 qb.2) ∧ ((qa.1 = qb.1 ∧ SHE σ qa.2 ∧ SHB τ qb.2) ∨ ∃ (q : Nat) (rb : Int32 × ST), q < 6 ∧ RFN 50 q qa rb ∧ qb.2 = rb.2 ∧ qb.1 = if 0 ≤ rb.1 then rb.2.1 0 73 else rb.1))) := by
  have l0 := li_0
  have l1 := li_1
  have l6 := li_6
  have hpl := hZ.2.1.2.2.1.1
  have hM0 : MSG σ (stI τ 0 0 0) := hM.eq rfl rfl rfl (stI_ne (by omega)) (stI_ne (by omega)) (stI_ne (by omega))
  have hK0 : KPR σ (stI τ 0 0 0) := hK.eq rfl rfl (fun i _ _ => by rw [stI_at, upN (by omega)]) (stI_ne (by omega))
  have hZ0 : MZ (stI τ 0 0 0) σ := hZ.yok (YOK.st0 hZ.2.1.2.2 0)
  have g32 : (stI τ 0 0 0).1 0 32 = τ.1 0 32 := rfl
  have hB0 : SHB τ (stI τ 0 0 0) := ⟨⟨fun c c1 c2 => stI_ne (by omega), by rw [stI_at, upN (by omega)]⟩, rfl, rfl⟩
  unfold f_X10_read f_X11_read
  generalize stI τ 0 0 0 = u at hM0 hK0 hZ0 g32 hB0
  refine QT.bnd2 (ab_isWritten hM0 hZ0 rfl p0) (fun x y hxy => ?_)
  obtain ⟨xv, xs⟩ := x
  obtain ⟨yv, ys⟩ := y
  obtain ⟨⟨e1, e2, e3⟩, hx⟩ := hxy
  have e1 : xs = σ := e1
  have e2 : ys = u := e2
  have e3 : xv = yv := e3
  have hx : xv = 0 ∨ xv = 1 ∧ (0 ≤ p0.toInt ∧ p0.toInt < 4) ∧ ¬ σ.1 40 p0.toNatClampNeg = -1 := hx
  rw [e1, e2, ← e3]
  dsimp only
  by_cases x0 : xv = 0
  · rw [if_pos x0, if_pos x0]
    exact QT.ret (QT.ret ⟨⟨hM0, hK0⟩, .inl ⟨rfl, SHE.rf, hB0⟩⟩)
  rw [if_neg x0, if_neg x0]
  obtain ⟨_, hp0, hw⟩ := hx.resolve_left x0
  refine QT.bnd2 (ab_isPlan (by rw [hc, g32]) (by rw [g32]; exact hpl) p1) (fun x y hxy => ?_)
  obtain ⟨av, as⟩ := x
  obtain ⟨bv, bs⟩ := y
  obtain ⟨⟨a1, a2, a3⟩, ha⟩ := hxy
  have a1 : as = σ := a1
  have a2 : bs = u := a2
  have a3 : av = bv := a3
  have ha : av = 0 ∨ av = 1 ∧ 0 ≤ p1.toInt ∧ p1.toInt < (u.1 0 32).toInt := ha
  rw [a1, a2, ← a3]
  dsimp only
  by_cases a0 : av = 0
  · rw [if_pos a0, if_pos a0]
    exact QT.ret (QT.ret ⟨⟨hM0, hK0⟩, .inl ⟨rfl, SHE.rf, hB0⟩⟩)
  rw [if_neg a0, if_neg a0]
  obtain ⟨_, hp1, hp1'⟩ := ha.resolve_left a0
  refine QT.bnd (fun q e => pt_planOf p0 σ hp0 q e) (fun q7 hq7 => ?_)
  rw [hq7]
  dsimp only
  obtain ⟨m, hm⟩ : ∃ m : Nat, p0.toInt = m := ⟨p0.toInt.toNat, by omega⟩
  obtain ⟨q, hq⟩ : ∃ q : Nat, p1.toInt = q := ⟨p1.toInt.toNat, by omega⟩
  have nm : p0.toNatClampNeg = m := nC hm
  rw [nm] at hw ⊢
  have hw' : ¬ (σ.1 40 m).toInt = -1 := fun h => hw (Int32.toInt_inj.mp (h.trans li_m1.symm))
  unfold bI at hpl
  rw [g32] at hp1'
  have hX' : EHX σ := hX.resolve_left (by rw [hc]; omega)
  refine QT.assoc (QT.bnd2 (ab_readsFor hZ0 hX' hM0 hK0 hcap p0 p1 hm (by omega) hw' hq (by rw [g32]; omega)) (fun x y hxy => ?_))
  obtain ⟨⟨hMr, hKr⟩, _, _, hR⟩ := hxy
  refine QT.ret ?_
  by_cases h9 : 0 ≤ y.1
  · rw [if_pos h9]
    exact QT.ret ⟨⟨hMr, hKr⟩, .inr ⟨q, y, by omega, hR, rfl, (if_pos h9).symm⟩⟩
  · rw [if_neg h9]
    exact QT.ret ⟨⟨hMr, hKr⟩, .inr ⟨q, y, by omega, hR, rfl, (if_neg h9).symm⟩⟩
/-- a byte of a message -/
theorem ab_hasByte (p0 p1 : Int32) {σ u : ST} (hZ : MZ u σ) (hM : MSG σ u) : QT (f_X1_hasByte p0 p1 σ) (fun qa => QT (f_X11_isByte p0 p1 u) (fun qb => (qa.2 = σ ∧ qb.2 = u ∧ qa.1 = qb.1) ∧ (qa.1 = 0 ∨ qa.1 = 1 ∧ ∃ m i : Nat, (p0.toInt = m ∧ m < 4) ∧ ¬ (u.1 32 m).toInt = -1 ∧ p1.toInt = i ∧ (i : Int) < (u.1 33 m).toInt ∧ (u.1 33 m).toInt ≤ 400))) := by
  have l0 := li_0
  have l1 := li_1
  have l400 := li_400
  have lm := li_m1
  unfold f_X1_hasByte f_X11_isByte
  refine QT.bnd2 (ab_isWritten hM hZ rfl p0) (fun x y hxy => ?_)
  obtain ⟨xv, xs⟩ := x
  obtain ⟨yv, ys⟩ := y
  obtain ⟨⟨e1, e2, e3⟩, hx⟩ := hxy
  have e1 : xs = σ := e1
  have e2 : ys = u := e2
  have e3 : xv = yv := e3
  have hx : xv = 0 ∨ xv = 1 ∧ (0 ≤ p0.toInt ∧ p0.toInt < 4) ∧ ¬ σ.1 40 p0.toNatClampNeg = -1 := hx
  rw [e1, e2, ← e3]
  dsimp only
  by_cases x0 : xv = 0
  · rw [if_pos x0, if_pos x0]
    exact QT.ret (QT.ret ⟨⟨rfl, rfl, rfl⟩, .inl rfl⟩)
  rw [if_neg x0, if_neg x0]
  obtain ⟨_, hp0, hw⟩ := hx.resolve_left x0
  obtain ⟨m, hm⟩ : ∃ m : Nat, p0.toInt = m := ⟨p0.toInt.toNat, by omega⟩
  have nm : p0.toNatClampNeg = m := nC hm
  rw [nm] at hw ⊢
  obtain ⟨m1, m2⟩ := hM m (by omega)
  have hu : ¬ (u.1 32 m).toInt = -1 := fun h => hw (Int32.toInt_inj.mp ((by rw [m1]; exact h : (σ.1 40 m).toInt = -1).trans lm.symm))
  obtain ⟨m3, ⟨m4, m5⟩, _⟩ := m2 hu
  have es := il_subE (x := u.1 33 m) (y := 1) (by omega) (by omega)
  have i1 := i64 p1
  have i2 := i64 (u.1 33 m - 1)
  have l0' := l64_0
  refine QT.sw ?_
  refine QT.grd (fun _ => ?_)
  refine QT.bndR (b_within _ _ _ _) (fun v hv => ?_)
  dsimp only
  rw [m3]
  by_cases hin : 0 ≤ p1.toInt ∧ p1.toInt < (u.1 33 m).toInt
  · refine QT.ieq (fun h => by omega) (fun _ => QT.ret ?_)
    refine QT.ilt (fun h => by omega) (fun _ => QT.grd (fun _ => ?_))
    refine QT.ile (fun h => by omega) (fun _ => ?_)
    refine QT.ile (fun h => by omega) (fun _ => QT.ret ?_)
    refine ⟨⟨rfl, rfl, rfl⟩, .inr ⟨rfl, m, p1.toInt.toNat, ⟨hm, by omega⟩, hu, by omega, by omega, m5⟩⟩
  · refine QT.ieq (fun _ => QT.ret ?_) (fun h => by omega)
    have z : (((0, σ) : Int32 × ST).2 = σ ∧ ((0, u) : Int32 × ST).2 = u ∧ ((0, σ) : Int32 × ST).1 = ((0, u) : Int32 × ST).1) ∧ (((0, σ) : Int32 × ST).1 = 0 ∨ ((0, σ) : Int32 × ST).1 = 1 ∧ ∃ m i : Nat, (p0.toInt = m ∧ m < 4) ∧ ¬ (u.1 32 m).toInt = -1 ∧ p1.toInt = i ∧ (i : Int) < (u.1 33 m).toInt ∧ (u.1 33 m).toInt ≤ 400) := ⟨⟨rfl, rfl, rfl⟩, .inl rfl⟩
    refine QT.ilt (fun _ => QT.ret z) (fun _ => QT.grd (fun _ => ?_))
    refine QT.ile (fun _ => QT.ret z) (fun _ => ?_)
    refine QT.ile (fun _ => QT.ret z) (fun _ => by omega)
/-- where a byte lies -/
theorem at400 {p0 p1 : Int32} {m i : Nat} (h0 : p0.toInt = m) (hm : m < 4) (h1 : p1.toInt = i) (hi : i < 400) : ((400 * p0) + p1).toInt = 400 * (m : Int) + i ∧ ((400 * p0) + p1).toNatClampNeg = 400 * m + i ∧ (p0 * 400) + p1 = (400 * p0) + p1 := by
  have l400 := li_400
  have e1 := mlE (k := 400) (y := p0) 400 l400 (by omega) (by omega)
  have e2 := il_addE (x := 400 * p0) (y := p1) (by omega) (by omega)
  exact ⟨by omega, nC (by omega), by rw [Int32.mul_comm]⟩
theorem ab_spoil (p0 p1 p2 : Int32) {σ τ : ST} (hZ : MZ τ σ) (hM : MSG σ τ) : QT (f_X10_spoil p0 p1 p2 σ) (fun qa => QT (f_X11_spoil p0 p1 p2 τ) (fun qb => qa.1 = qb.1 ∧ MSG qa.2 qb.2)) := by
  have l0 := li_0
  have l1 := li_1
  have l1600 : (1600 : Int32).toInt = 1600 := by decide
  have hM0 : MSG σ (stI τ 0 0 0) := hM.eq rfl rfl rfl (stI_ne (by omega)) (stI_ne (by omega)) (stI_ne (by omega))
  have hZ0 : MZ (stI τ 0 0 0) σ := hZ.yok (YOK.st0 hZ.2.1.2.2 0)
  unfold f_X10_spoil f_X11_spoil
  generalize stI τ 0 0 0 = u at hM0 hZ0
  have hH := ab_hasByte p0 p1 hZ0 hM0
  refine QT.bnd2 hH (fun x y hxy => ?_)
  obtain ⟨xv, xs⟩ := x
  obtain ⟨yv, ys⟩ := y
  obtain ⟨⟨e1, e2, e3⟩, hx⟩ := hxy
  have e1 : xs = σ := e1
  have e2 : ys = u := e2
  have e3 : xv = yv := e3
  have hx : xv = 0 ∨ xv = 1 ∧ ∃ m i : Nat, (p0.toInt = m ∧ m < 4) ∧ ¬ (u.1 32 m).toInt = -1 ∧ p1.toInt = i ∧ (i : Int) < (u.1 33 m).toInt ∧ (u.1 33 m).toInt ≤ 400 := hx
  rw [e1, e2, ← e3]
  dsimp only
  by_cases x0 : xv = 0
  · rw [if_pos x0, if_pos x0]
    exact QT.ret (QT.ret ⟨rfl, hM0⟩)
  rw [if_neg x0, if_neg x0]
  obtain ⟨_, m, i, ⟨h0, hm4⟩, hu, h1, hi, hi4⟩ := hx.resolve_left x0
  obtain ⟨a1, a2, a3⟩ := at400 h0 hm4 h1 (by omega)
  obtain ⟨m1, m2⟩ := hM0 m hm4
  obtain ⟨m3, _, m5⟩ := m2 hu
  have m6 := m5 i hi
  unfold f_X1_change f_X1_byteOf
  rw [a3, a2]
  refine QT.sw ?_
  refine QT.grd (fun _ => QT.lt (fun z4 hz4 => QT.ret ?_))
  refine QT.bnd (Q := fun q3 => q3.1 = σ.1 38 (400 * m + i) &&& 255 ∧ q3.2 = stI σ 38 (400 * m + i) (vp_nar .byte (((σ.1 38 (400 * m + i) &&& 255) ^^^ p2).toInt8.toInt32))) ?_ (fun q3 hq3 => QT.ret ?_)
  · rw [if_neg (fun h => by have := il_lt h; omega), if_neg (fun h => by have := il_le h; omega), if_pos (by omega), sbnd]
    dsimp only
    refine QT.bnd (Q := fun q => q.2 = σ ∧ ¬ q.1 = 0) (fun q e => ?_) (fun q3 hq3 => ?_)
    · obtain ⟨o1, o2⟩ := q
      -- what hasByte answered before
      unfold f_X1_hasByte at e
      obtain ⟨⟨wv, ws⟩, ew, e⟩ := bnd_some e
      obtain ⟨k1, k2⟩ := qa_isWritten p0 σ _ ew
      have k1 : ws = σ := k1
      have k2 : (wv = 0 ∧ ¬ ((0 ≤ p0.toInt ∧ p0.toInt < 4) ∧ ¬ σ.1 40 p0.toNatClampNeg = -1)) ∨ wv = 1 ∧ _ := k2
      have nm : p0.toNatClampNeg = m := nC h0
      rw [k1, nm, m3] at e
      dsimp only at e
      have hw : ¬ σ.1 40 m = -1 := fun h9 => hu (by rw [← m1, h9]; exact li_m1)
      have hwv : ¬ wv = 0 := by
        rcases k2 with ⟨_, k2⟩ | ⟨k2, _⟩
        · rw [nm] at k2
          exact absurd ⟨by omega, hw⟩ k2
        · rw [k2]
          exact one_ne
      have l400 := li_400
      rw [if_neg hwv, if_neg (fun h => by have := il_lt h; omega), if_pos (by omega), if_neg (fun h => by have := il_le h; omega), if_neg (fun h => by have := il_le h; omega)] at e
      cases e
      exact ⟨rfl, one_ne⟩
    · obtain ⟨o1, o2⟩ := q3
      obtain ⟨k1, k2⟩ := hq3
      have k1 : o2 = σ := k1
      have k2 : ¬ o1 = 0 := k2
      rw [k1]
      dsimp only
      rw [if_neg k2, if_pos (by omega)]
      exact QT.lt (fun z6 hz6 => QT.ret ⟨rfl, hz6⟩)
  · obtain ⟨o1, o2⟩ := hq3
    refine ⟨?_, ?_⟩
    · show q3.1 = u.1 34 (400 * m + i) &&& 255
      rw [o1, m6]
    · show MSG q3.2 z4
      rw [o2, hz4, m6]
      intro k hk
      obtain ⟨k1, k2⟩ := hM0 k hk
      rw [stI_ne (by omega), stI_ne (by omega), stI_ne (by omega), stI_ne (by omega), stI_at, stI_at]
      refine ⟨k1, fun hu9 => ?_⟩
      obtain ⟨k3, k4, k5⟩ := k2 hu9
      refine ⟨k3, k4, fun j hj => ?_⟩
      by_cases e : 400 * k + j = 400 * m + i
      · rw [upA e, upA e]
      · rw [upN e, upN e]
        exact k5 j hj
theorem ab_cut (p0 p1 : Int32) {σ τ : ST} (hZ : MZ τ σ) (hM : MSG σ τ) : QT (f_X10_cut p0 p1 σ) (fun qa => QT (f_X11_cut p0 p1 τ) (fun qb => qa.1 = qb.1 ∧ MSG qa.2 qb.2)) := by
  have l0 := li_0
  have l1 := li_1
  have lm := li_m1
  have l0' := l64_0
  have hM0 : MSG σ (stI τ 0 0 0) := hM.eq rfl rfl rfl (stI_ne (by omega)) (stI_ne (by omega)) (stI_ne (by omega))
  have hZ0 : MZ (stI τ 0 0 0) σ := hZ.yok (YOK.st0 hZ.2.1.2.2 0)
  unfold f_X10_cut f_X11_cut
  generalize stI τ 0 0 0 = u at hM0 hZ0
  refine QT.bnd2 (ab_isWritten hM0 hZ0 rfl p0) (fun x y hxy => ?_)
  obtain ⟨xv, xs⟩ := x
  obtain ⟨yv, ys⟩ := y
  obtain ⟨⟨e1, e2, e3⟩, hx⟩ := hxy
  have e1 : xs = σ := e1
  have e2 : ys = u := e2
  have e3 : xv = yv := e3
  have hx : xv = 0 ∨ xv = 1 ∧ (0 ≤ p0.toInt ∧ p0.toInt < 4) ∧ ¬ σ.1 40 p0.toNatClampNeg = -1 := hx
  rw [e1, e2, ← e3]
  dsimp only
  by_cases x0 : xv = 0
  · rw [if_pos x0, if_pos x0]
    exact QT.ret (QT.ret ⟨rfl, hM0⟩)
  rw [if_neg x0, if_neg x0]
  obtain ⟨_, hp0, hw⟩ := hx.resolve_left x0
  obtain ⟨m, hm⟩ : ∃ m : Nat, p0.toInt = m := ⟨p0.toInt.toNat, by omega⟩
  have nm : p0.toNatClampNeg = m := nC hm
  rw [nm] at hw ⊢
  obtain ⟨m1, m2⟩ := hM0 m (by omega)
  have hu : ¬ (u.1 32 m).toInt = -1 := fun h => hw (Int32.toInt_inj.mp ((by rw [m1]; exact h : (σ.1 40 m).toInt = -1).trans lm.symm))
  obtain ⟨m3, ⟨m4, m5⟩, m6⟩ := m2 hu
  have i1 := i64 p1
  have i2 := i64 (u.1 33 m)
  refine QT.sw ?_
  refine QT.grd (fun _ => ?_)
  refine QT.bndR (b_within _ _ _ _) (fun v hv => ?_)
  dsimp only
  have sz := q_sizeOfM p0 σ hp0
  rw [nm] at sz
  have mid : ∀ {P : Int32 × ST → Prop}, QT (if p1 ≤ σ.1 39 m then ((f_X1_shorten p0 p1 σ).bind fun q5 => some (q5.1, q5.2)) else some (-1, σ)) P → QT ((f_X1_sizeOf p0 σ).bind fun q3 => if p1 ≤ q3.1 then ((f_X1_shorten p0 p1 q3.2).bind fun q5 => some (q5.1, q5.2)) else some (-1, q3.2)) P := fun h => QT.bnd sz (fun q hq => by rw [hq]; exact h)
  by_cases hin : 0 ≤ p1.toInt ∧ p1.toInt ≤ (u.1 33 m).toInt
  · refine QT.ieq (fun h => by omega) (fun _ => QT.ret ?_)
    refine QT.ilt (fun h => by omega) (fun _ => mid ?_)
    rw [m3]
    refine QT.ile (fun _ => ?_) (fun h => by omega)
    unfold f_X1_shorten
    refine QT.bnd (Q := fun q5 => q5.1 = σ.1 39 m ∧ q5.2 = stI σ 39 m p1) ?_ (fun q5 h5 => QT.ret ?_)
    · refine QT.bnd sz (fun q hq => ?_)
      rw [hq]
      dsimp only
      refine QT.bndR (k2_isNumber p0 σ) (fun v2 hv2 => ?_)
      dsimp only
      refine QT.ieq (fun h => by omega) (fun _ => QT.grd (fun _ => QT.ret ⟨rfl, ?_⟩))
      rw [nm]
    · obtain ⟨o1, o2⟩ := h5
      refine ⟨o1.trans m3, ?_⟩
      show MSG q5.2 (stI u 33 m p1)
      rw [o2]
      intro k hk
      obtain ⟨k1, k2⟩ := hM0 k hk
      have a40 : (stI σ 39 m p1).1 40 = σ.1 40 := stI_ne (by omega)
      have a38 : (stI σ 39 m p1).1 38 = σ.1 38 := stI_ne (by omega)
      have b32 : (stI u 33 m p1).1 32 = u.1 32 := stI_ne (by omega)
      have b34 : (stI u 33 m p1).1 34 = u.1 34 := stI_ne (by omega)
      rw [a40, a38, b32, b34, stI_at, stI_at]
      refine ⟨k1, fun hu9 => ?_⟩
      obtain ⟨k3, k4, k5⟩ := k2 hu9
      by_cases e : k = m
      · rw [upA e, upA e, e]
        rw [e] at k5
        exact ⟨rfl, ⟨by omega, by omega⟩, fun j hj => k5 j (by omega)⟩
      · rw [upN e, upN e]
        exact ⟨k3, k4, k5⟩
  · refine QT.ieq (fun _ => QT.ret ?_) (fun h => by omega)
    refine QT.ilt (fun _ => QT.ret ⟨rfl, hM0⟩) (fun _ => mid ?_)
    rw [m3]
    exact QT.ile (fun h => by omega) (fun _ => QT.ret ⟨rfl, hM0⟩)
theorem ab_message (p0 p1 : Int32) {σ τ : ST} (hZ : MZ τ σ) (hM : MSG σ τ) : QT (f_X10_message p0 p1 σ) (fun qa => QT (f_X11_message p0 p1 τ) (fun qb => qa.1 = qb.1)) := by
  have l0 := li_0
  have l1 := li_1
  have lm := li_m1
  have l0' := l64_0
  have l1' : (1 : Int64).toInt = 1 := by decide
  have hM0 : MSG σ (stI τ 0 0 0) := hM.eq rfl rfl rfl (stI_ne (by omega)) (stI_ne (by omega)) (stI_ne (by omega))
  have hZ0 : MZ (stI τ 0 0 0) σ := hZ.yok (YOK.st0 hZ.2.1.2.2 0)
  unfold f_X10_message f_X11_message
  generalize stI τ 0 0 0 = u at hM0 hZ0
  refine QT.bnd2 (ab_isWritten hM0 hZ0 rfl p0) (fun x y hxy => ?_)
  obtain ⟨xv, xs⟩ := x
  obtain ⟨yv, ys⟩ := y
  obtain ⟨⟨e1, e2, e3⟩, hx⟩ := hxy
  have e1 : xs = σ := e1
  have e2 : ys = u := e2
  have e3 : xv = yv := e3
  have hx : xv = 0 ∨ xv = 1 ∧ (0 ≤ p0.toInt ∧ p0.toInt < 4) ∧ ¬ σ.1 40 p0.toNatClampNeg = -1 := hx
  rw [e1, e2, ← e3]
  dsimp only
  by_cases x0 : xv = 0
  · rw [if_pos x0, if_pos x0]
    exact QT.ret (QT.ret rfl)
  rw [if_neg x0, if_neg x0]
  obtain ⟨_, hp0, hw⟩ := hx.resolve_left x0
  obtain ⟨m, hm⟩ : ∃ m : Nat, p0.toInt = m := ⟨p0.toInt.toNat, by omega⟩
  have nm : p0.toNatClampNeg = m := nC hm
  obtain ⟨m1, m2⟩ := hM0 m (by omega)
  rw [nm] at hw ⊢
  have hu : ¬ (u.1 32 m).toInt = -1 := fun h => hw (Int32.toInt_inj.mp ((by rw [m1]; exact h : (σ.1 40 m).toInt = -1).trans lm.symm))
  obtain ⟨m3, _, _⟩ := m2 hu
  have i1 := i64 p1
  refine QT.sw ?_
  refine QT.bndR (b_within _ _ _ _) (fun v hv => ?_)
  dsimp only
  refine QT.ieq (fun h => QT.ret ?_) (fun h => ?_)
  · refine QT.ieq (fun h9 => by omega) (fun _ => ?_)
    exact QT.ieq (fun h9 => by omega) (fun _ => QT.ret rfl)
  refine QT.ieq (fun h9 => QT.grd (fun _ => QT.ret ?_)) (fun h9 => QT.grd (fun _ => QT.ret ?_))
  · refine QT.ieq (fun _ => ?_) (fun h => by omega)
    refine QT.bnd (q_sizeOfM p0 σ hp0) (fun q hq => QT.ret ?_)
    rw [hq, nm]
    exact m3
  · refine QT.ieq (fun h => by omega) (fun _ => ?_)
    refine QT.ieq (fun _ => ?_) (fun h => by omega)
    refine QT.bnd (fun q e => pt_planOf p0 σ hp0 q e) (fun q hq => QT.ret ?_)
    rw [hq, nm]
    exact m1
theorem ab_kept (p0 : Int32) {σ τ : ST} (hK : KPR σ τ) : QT (f_X10_kept p0 σ) (fun qa => QT (f_X11_kept p0 τ) (fun qb => qa.1 = qb.1)) := by
  have l0 := li_0
  have l1 := li_1
  have l4 := li_4
  have lm := li_m1
  have l0' := l64_0
  obtain ⟨⟨h1, h2, h3⟩, _, h6, _⟩ := hK
  have e92 : (stI τ 0 0 0).1 0 92 = τ.1 0 92 := by rw [stI_at, upN (by omega)]
  have e55 : (stI τ 0 0 0).1 55 = τ.1 55 := stI_ne (by omega)
  unfold f_X10_kept f_X11_kept
  rw [e92]
  generalize stI τ 0 0 0 = u at e55
  by_cases hm : p0 = -1
  · rw [if_pos hm, if_pos hm]
    exact QT.ret (QT.ret h1)
  rw [if_neg hm, if_neg hm]
  have es := il_subE (x := τ.1 0 92) (y := 1) (by omega) (by omega)
  have i1 := i64 p0
  have i2 := i64 (τ.1 0 92 - 1)
  refine QT.sw ?_
  refine QT.bndR (b_within _ _ _ _) (fun v hv => ?_)
  dsimp only
  unfold f_X9_pairAt
  by_cases hin : 0 ≤ p0.toInt ∧ p0.toInt < (τ.1 0 92).toInt
  · refine QT.ieq (fun h => by omega) (fun _ => QT.grd (fun _ => QT.ret ?_))
    refine QT.bnd (Q := fun q => q.1 = σ.1 49 p0.toNatClampNeg) ?_ (fun q hq => QT.ret ?_)
    · refine QT.ilt (fun h => by omega) (fun _ => ?_)
      refine QT.ile (fun h => by rw [h1] at h; omega) (fun _ => ?_)
      refine QT.ile (fun h => by omega) (fun _ => QT.grd (fun _ => QT.ret rfl))
    · show q.1 = u.1 55 p0.toNatClampNeg
      have n0 := nN_ hin.1
      rw [hq, e55]
      exact h6 _ (by omega)
  · refine QT.ieq (fun _ => QT.ret ?_) (fun h => by omega)
    refine QT.bnd (Q := fun q => q.1 = -1) ?_ (fun q hq => QT.ret hq)
    refine QT.ilt (fun _ => QT.ret rfl) (fun _ => ?_)
    refine QT.ile (fun _ => QT.ret rfl) (fun h => ?_)
    rw [h1] at h
    exact QT.ile (fun _ => QT.ret rfl) (fun h => by omega)
/-! plans: both keep their messages, or forget them -/
theorem OK.eqn {α : Type} {o : Option α} {P : α → Prop} (h : OK o P) : OK o (fun q => P q ∧ o = some q) := by
  obtain ⟨q, e, hq⟩ := h
  exact ⟨q, e, hq, e⟩
/-- no message, no pair kept, nothing shown -/
def CLD (y : ST) : Prop := (∀ i, i < 4 → y.1 32 i = -1) ∧ y.1 0 73 = 0 ∧ y.1 0 92 = 0 ∧ y.1 0 93 = 0 ∧ y.1 0 94 = 0
theorem q_plans80 : ∀ (n k : Nat) (x3 : Int32) (σ : ST), x3.toInt = k → (∀ i, i < k → σ.1 32 i = -1) → QT (f_X11_plans_80 n x3 σ) (fun y => CLD y.1.2) := by
  intro n
  have l1 := li_1
  have l4 := li_4
  induction n with
  | zero =>
    intro k x3 σ _ _
    rw [f_X11_plans_80]
    exact QT.none
  | succ n ih =>
    intro k x3 σ h3 hk
    rw [f_X11_plans_80]
    refine QT.ile (fun hle => QT.ret ⟨fun i hi => ?_, ?_, ?_, ?_, ?_⟩) (fun hlt => QT.grd (fun _ => ?_))
    · show (stI (stI (stI (stI (stI σ 0 73 0) 0 81 0) 0 92 0) 0 93 0) 0 94 0).1 32 i = -1
      rw [stI_ne (by omega), stI_ne (by omega), stI_ne (by omega), stI_ne (by omega), stI_ne (by omega)]
      exact hk i (by omega)
    · show (stI (stI (stI (stI (stI σ 0 73 0) 0 81 0) 0 92 0) 0 93 0) 0 94 0).1 0 73 = 0
      rw [stI_at, upN (by omega), stI_at, upN (by omega), stI_at, upN (by omega), stI_at, upN (by omega), stI_at, upA rfl]
    · show (stI (stI (stI (stI (stI σ 0 73 0) 0 81 0) 0 92 0) 0 93 0) 0 94 0).1 0 92 = 0
      rw [stI_at, upN (by omega), stI_at, upN (by omega), stI_at, upA rfl]
    · show (stI (stI (stI (stI (stI σ 0 73 0) 0 81 0) 0 92 0) 0 93 0) 0 94 0).1 0 93 = 0
      rw [stI_at, upN (by omega), stI_at, upA rfl]
    · show (stI (stI (stI (stI (stI σ 0 73 0) 0 81 0) 0 92 0) 0 93 0) 0 94 0).1 0 94 = 0
      rw [stI_at, upA rfl]
    · have ea := il_addE (x := x3) (y := 1) (by omega) (by omega)
      have n3 : x3.toNatClampNeg = k := nC h3
      rw [n3]
      refine ih (k + 1) (x3 + 1) _ (by omega) (fun i hi => ?_)
      rw [stI_at]
      by_cases e : i = k
      · rw [upA e]
      · rw [upN e]
        exact hk i (by omega)
theorem q_plans62 (b : ST) : QT (f_X11_plans_62 1 b) (fun y => CLD y.1.2) := by
  unfold f_X11_plans_62
  refine QT.ite (fun h => absurd h one_ne) (fun _ => ?_)
  exact QT.bnd (Q := fun _ => True) (fun _ _ => trivial) (fun q _ => q_plans80 FU 0 0 q li_0 (fun i hi => by omega))
theorem ab_plans_loop2 (τ0 : ST) (hI : IB τ0) : ∀ (g k t : Nat) (σ0 τ : ST) (A : Option (Int32 × ST)) (v : Int32) (b : ST) (x : Nat), 8 < g + k → k ≤ 6 → FV 6 400 36 τ0 τ → (∀ p, p < k → PLD p t τ) → (∀ p, p < k → FPA p t σ0 τ) → M4 t τ → (τ.1 0 33).toInt = k → 400 ≤ t → PLO (k + 1) t k σ0 τ A ((v, b), x) → (v.toInt = 1 → k < 6 ∧ x + 40 * uT b ≤ 40 * uT τ) → KYB τ0 b → OK (f_X11_plans_43 g v b) (fun y => OK A (fun qa => (qa.1.toInt = 0 ∧ KYB τ0 y.1.2) ∨ (qa.1.toInt = 1 ∧ CLD y.1.2))) := by
  intro g
  have l0 := li_0
  have l1 := li_1
  induction g with
  | zero => intro k t σ0 τ A v b x h1 h2; omega
  | succ g ih =>
    intro k t σ0 τ A v b x hg hk hF hD hE0 hM h33 ht hO hc hY
    obtain ⟨zF, hz⟩ := hO
    dsimp only at zF hz
    have zF0 : FV 6 400 36 τ0 b := hF.trans zF (by omega) ht (by omega)
    rw [f_X11_plans_43]
    rcases hz with ⟨z1, z2, z3⟩ | ⟨z1, ⟨t1, ⟨ht1, ht2⟩, hPk, h34, hMr, hE⟩, z33, z4⟩
    · refine OK.ieq (fun _ => ?_) (fun h => by omega)
      unfold f_X11_plans_62
      refine OK.ieq (fun _ => ?_) (fun h => by omega)
      exact OK.ret (z2.mono (fun qa h => .inl ⟨h, hY⟩))
    · obtain ⟨hk6, hc⟩ := hc z1
      refine OK.ieq (fun h => by omega) (fun _ => ?_)
      have e33 := il_addE (x := τ.1 0 33) (y := 1) (by omega) (by omega)
      have hz33 : (b.1 0 33).toInt = ((k + 1 : Nat) : Int) := by rw [z33]; omega
      have hD1 : ∀ p, p < k + 1 → PLD p t1 b := fun p hp => by
        by_cases e : p = k
        · rw [e]
          exact hPk
        · exact (hD p (by omega)).fv zF (Nat.le_refl _) ht1 (by omega) (by omega)
      have hM1 : M4 t1 b := fun q hq1 hq2 => by
        by_cases e : q < t
        · rw [(zF.2.2.1 q e).2.2]
          exact hM q hq1 e
        · exact hMr q (by omega) hq2
      rcases hE with ⟨h0, hA⟩ | ⟨n, xk, x2, σ, hW, eA, hX, hxk, hcA, hat, hx2, hn, hP0, hQ0⟩
      · refine OK.ieq (fun _ => ?_) (fun h => by omega)
        have ez : v = 1 := Int32.toInt_inj.mp (by omega)
        rw [ez]
        refine (b_plans_62 b (k + 1) t1 (hI.fv zF0) (by omega) hz33 h34 (by omega) hD1 hM1).eqn.mono (fun y hy => ?_)
        exact hA.mono (fun qa h => .inr ⟨h.1, q_plans62 b y hy.2⟩)
      · have w1 := hW.1
        refine OK.ieq (fun h => by omega) (fun _ => ?_)
        have hpl := ab_plan (k + 1) t1 n xk x2 σ b hX hW (by omega) hz33 h34 (by omega) (by omega) hat (by omega) (by omega) hn
        rw [← eA] at hpl
        have hE1 : ∀ p, p < k + 1 → FPA p t1 σ b := fun p hp => by
          by_cases e : p = k
          · rw [e]
            exact hQ0
          · exact (hE0 p (by omega)).keep (by omega) hP0 zF (Nat.le_refl _) ht1 (by omega)
        refine OK.bnd hpl.eqn (fun z' hz' => ?_)
        obtain ⟨⟨v', b'⟩, x'⟩ := z'
        obtain ⟨⟨p1, p2⟩, ez'⟩ := hz'
        refine OK.kac ?_
        exact ih (k + 1) t1 σ b A v' b' x' (by omega) (by omega) zF0 hD1 hE1 hM1 hz33 (by omega) p1 p2 (wy_X11_plan hY _ ez')
theorem ab_plans2 (p0 : Int32) (σ τ : ST) (h1 : σ.1 1 = τ.1 1) (hT8 : ∀ i, bI (τ.1 1 i) (-128) 127) (hkw : σ.2.1 3 = kw0) (hI : IB τ) (hp : 0 ≤ p0.toInt ∧ p0.toInt ≤ 1000) (s1 : ST) (e1 : f_X6_begin p0 σ = some s1) (r : Int32) (s2 : ST) (e2 : f_X3_parse s1 = some (r, s2)) : OK ((f_X11_begins p0 τ).bind fun q3 => (f_X11_plan (stI (stI q3 0 33 0) 0 34 400)).bind fun q5 => ac q5.2 (f_X11_plans_43 FU q5.1.1 q5.1.2)) (fun y => (r.toInt = 0 ∧ KYB τ y.1.2) ∨ (¬ r.toInt = 0 ∧ CLD y.1.2)) := by
  have l0 := li_0
  have l1 := li_1
  have lm := li_m1
  have lu := FUi
  refine OK.bnd (b_begins p0 τ hp).eqn (fun t ht => ?_)
  obtain ⟨⟨ct, tx, tu, t2, t3, t12, s, hsk, hTB⟩, et⟩ := ht
  have hYt : KYB τ (stI (stI t 0 33 0) 0 34 400) := ((wy_X11_begins KYB.rf t et).i (by omega)).i (by omega)
  -- the class at its first token
  have cI : IB t := hI.ch ct (by decide) (by decide)
  have g9 : (stI (stI t 0 33 0) 0 34 400).1 0 = upd (upd (t.1 0) 33 0) 34 400 := rfl
  have g0 : ∀ i, i ∉ [33, 34] → (stI (stI t 0 33 0) 0 34 400).1 0 i = t.1 0 i := fun i hi => by
    simp only [List.mem_cons, List.not_mem_nil, or_false, not_or] at hi
    rw [g9, upd_no hi.2, upd_no hi.1]
  have g33 : (stI (stI t 0 33 0) 0 34 400).1 0 33 = 0 := by rw [g9, upd_no (by decide), upd_at]
  have g34 : (stI (stI t 0 33 0) 0 34 400).1 0 34 = 400 := by rw [g9, upd_at]
  have g1 : ∀ c, c ≠ 0 → (stI (stI t 0 33 0) 0 34 400).1 c = t.1 c := fun c hc => by rw [stI_ne hc, stI_ne hc]
  have g2 : (stI (stI t 0 33 0) 0 34 400).2.1 = t.2.1 := rfl
  have gC : CH [] [33, 34] t (stI (stI t 0 33 0) 0 34 400) := (CH.rf.o (by decide)).o (by decide)
  clear g9
  generalize stI (stI t 0 33 0) 0 34 400 = b at g0 g33 g34 g1 g2 gC hYt ⊢
  have bI_ : IB b := cI.ch gC (by decide) (by decide)
  have ub : uT b = uT t := uT_eq (g0 3 (by decide)) (g0 5 (by decide)) (g0 6 (by decide))
  unfold f_X6_begin at e1
  have a9 : (stI (stI (stI (stI σ 2 2 p0) 2 3 0) 2 12 0) 2 13 0).1 2 = upd (upd (upd (upd (σ.1 2) 2 p0) 3 0) 12 0) 13 0 := rfl
  have a1 : ∀ c, c ≠ 2 → (stI (stI (stI (stI σ 2 2 p0) 2 3 0) 2 12 0) 2 13 0).1 c = σ.1 c := fun c hc => by rw [stI_ne hc, stI_ne hc, stI_ne hc, stI_ne hc]
  have a2 : (stI (stI (stI (stI σ 2 2 p0) 2 3 0) 2 12 0) 2 13 0).1 2 2 = p0 := by rw [a9, upd_no (by decide), upd_no (by decide), upd_no (by decide), upd_at]
  have a3 : (stI (stI (stI (stI σ 2 2 p0) 2 3 0) 2 12 0) 2 13 0).1 2 3 = 0 := by rw [a9, upd_no (by decide), upd_no (by decide), upd_at]
  have aL : (stI (stI (stI (stI σ 2 2 p0) 2 3 0) 2 12 0) 2 13 0).2.1 = σ.2.1 := rfl
  clear a9
  generalize stI (stI (stI (stI σ 2 2 p0) 2 3 0) 2 12 0) 2 13 0 = u at a1 a2 a3 aL e1
  obtain ⟨u9, eu, ca, s', hs', hTA⟩ := a_advance u 0 (by rw [a1 1 (by decide), h1]; exact hT8) (by rw [a2]; exact hp) (by rw [a3]; exact l0) (by omega)
  rw [eu, sbnd] at e1
  cases e1
  rw [a1 1 (by decide), a2, h1] at hs' hTA
  have es : s' = s := hs'.uniq hsk
  subst es
  have t1 : t.1 1 = τ.1 1 := ct.1 1 (by decide) (by decide)
  have hkw9 : s1.2.1 3 = kw0 := by rw [ca.2.2.1 3 (by decide), aL]; exact hkw
  have hK : TK s1 t := TK.mk hT8 hkw9 t1 (by rw [t3]) hTA hTB
  have hX : LX s1 t := by
    refine ⟨⟨?_, ?_, ?_, hkw9⟩, ?_, hK, 0, s', by omega, ?_, ?_⟩
    · rw [ca.1 1 (by decide), a1 1 (by decide), h1, t1]
    · rw [ca.2.1, a2, t3]
    · rw [t1]
      exact hT8
    · rw [t3]
      exact hp
    · rw [t1, t3]
      exact hsk
    · rw [t1, t3]
      exact hTB
  -- the class's draft is emptied
  unfold f_X3_parse f_X5_clear at e2
  rw [sbnd] at e2
  have c1 : ∀ c, c ≠ 20 → (stI (stI s1 20 0 0) 20 1 0).1 c = s1.1 c := fun c hc => by rw [stI_ne hc, stI_ne hc]
  have c20 : (stI (stI s1 20 0 0) 20 1 0).1 20 1 = 0 := by
    have e9 : (stI (stI s1 20 0 0) 20 1 0).1 20 = upd (upd (s1.1 20) 0 0) 1 0 := rfl
    rw [e9, upd_at]
  have cL : (stI (stI s1 20 0 0) 20 1 0).2.1 = s1.2.1 := rfl
  generalize stI (stI s1 20 0 0) 20 1 0 = a at c1 c20 cL e2
  have hXa : LX a b := hX.ext (c1 1 (by decide)) (c1 2 (by decide)) (by rw [cL]) (by rw [cL]) (g1 1 (by decide)) (fun i hi => g0 i (fun h9 => by
    simp only [List.mem_cons, List.not_mem_nil, or_false] at h9 hi
    omega)) (by rw [g2])
  have htop := a_parse_top a b hXa.2.2.1 (by rw [c20]; exact l0)
  have bc : ∀ c, c ≠ 0 → b.1 c = τ.1 c := fun c hc => (g1 c hc).trans (ct.1 c hc (by simp))
  have b1 : b.1 1 = τ.1 1 := (g1 1 (by decide)).trans t1
  have tL5 := ct.l5
  have bKR : KR τ b := KR.eq (fun c hc => bc c (fun e => by rw [e] at hc; revert hc; decide)) (fun c hc => by
    rw [g2]
    simp only [List.mem_cons, List.not_mem_nil, or_false] at hc
    rcases hc with e | e | e | e | e
    · rw [e]; exact tL5.1
    · rw [e]; exact tL5.2.1
    · rw [e]; exact tL5.2.2.1
    · rw [e]; exact tL5.2.2.2.1
    · rw [e]; exact tL5.2.2.2.2)
  have b32 : b.1 0 32 = τ.1 0 32 := (g0 32 (by decide)).trans (ct.2.1 32 (by decide))
  have b2 : b.1 0 2 = 0 := (g0 2 (by decide)).trans t2
  by_cases hW : W_ b v_plan
  · have eA := htop.1 hW
    have hat : (0 : Int) ≤ (b.1 0 4).toInt := by
      rw [g0 4 (by decide), hTB.1]
      omega
    refine OK.bnd (OK.eqn (ab_plan 0 400 99999 (-1) 0 a b hXa hW (by omega) (by rw [g33]; exact l0) (by rw [g34]; exact li_400) (by omega) (by rw [c20, l0]; rfl) (by omega) (by rw [lm]; rfl) (by omega) (by omega))) (fun z hz => ?_)
    obtain ⟨⟨zv, zs⟩, zx⟩ := z
    obtain ⟨hz, ez⟩ := hz
    refine OK.kac ?_
    refine (ab_plans_loop2 b bI_ FU 0 400 a b _ zv zs zx (by omega) (by omega) FV.rf (fun p hp => by omega) (fun p hp => by omega) (fun q h1 h2 => by omega) (by rw [g33]; exact l0) (by omega) hz.1 hz.2 (wy_X11_plan KYB.rf _ ez)).mono (fun y hy => ?_)
    obtain ⟨qa, ea, y4⟩ := hy
    rw [← eA, e2] at ea
    cases ea
    rcases y4 with ⟨q1, q2⟩ | ⟨q1, q2⟩
    · exact .inl ⟨q1, hYt.trans q2⟩
    · have q1 : r.toInt = 1 := q1
      exact .inr ⟨by omega, q2⟩
  · obtain ⟨qa, ea, hq⟩ := htop.2 hW
    rw [e2] at ea
    cases ea
    refine OK.bnd (Q := fun q => (q.1.1.toInt = 0 ∧ CH [] [12] b q.1.2 ∧ q.2 ≤ 1) ∧ f_X11_plan b = some q) ?_ (fun z hz => ?_)
    · refine OK.eqn ?_
      unfold f_X11_plan
      refine OK.bndK (b_isPlan b) (fun v x hv hx => ?_)
      refine OK.kac ?_
      dsimp only
      have hv0 : v.toInt = 0 := by
        rcases hv with hv | hv
        · exact hv.1
        · exact absurd hv.2 hW
      refine OK.ieq (fun _ => ?_) (fun h => by omega)
      refine OK.bndC (b_wrongHere 1 b) (fun v2 s9 c2 hv2 => ?_)
      refine OK.grd (b01 (.inl hv2)) ?_
      exact OK.ret ⟨hv2, c2, by show x + 0 ≤ 1; omega⟩
    · obtain ⟨⟨zv, zs⟩, zx⟩ := z
      obtain ⟨⟨z1, z2, z3⟩, ez⟩ := hz
      dsimp only at z1 z2 z3
      refine OK.kac ?_
      have ef : FU = 99999 + 1 := rfl
      dsimp only
      rw [ef, f_X11_plans_43]
      refine OK.ieq (fun _ => ?_) (fun h => by omega)
      unfold f_X11_plans_62
      refine OK.ieq (fun _ => ?_) (fun h => by omega)
      have hz9 : KYB τ zs := wy_X11_plan hYt _ ez
      exact OK.ret (.inl ⟨hq, hz9⟩)
/-! what holds between two calls: the messages, the pairs kept, the heights -/
theorem k8_plans (p0 : Int32) (σ : ST) (q : Int32 × ST) (h : f_X10_plans p0 σ = some q) (hr : 0 ≤ p0.toInt ∧ p0.toInt ≤ (σ.1 0 1).toInt) (s1 : ST) (r : Int32) (s2 : ST) (e1 : f_X6_begin p0 (stI σ 0 1 0) = some s1) (e2 : f_X3_parse s1 = some (r, s2)) : (r.toInt = 0 → KYA σ q.2) ∧ (¬ r.toInt = 0 → (∀ i, i < 4 → q.2.1 40 i = -1) ∧ (q.2.1 48 1 = 0 ∧ q.2.1 48 2 = 0 ∧ q.2.1 48 3 = 0) ∧ q.2.1 50 1 = 0) := by
  have l0 := li_0
  have k7 := k7_plans p0 σ q h hr s1 r s2 e1 e2
  unfold f_X10_plans at h
  rw [if_neg (by rw [Int32.lt_iff_toInt_lt]; omega), if_pos (by rw [Int32.le_iff_toInt_le]; omega), e1, sbnd, e2, sbnd] at h
  dsimp only at h
  refine ⟨fun r0 => ?_, fun r1 => ?_⟩
  · rw [if_pos (Int32.toInt_inj.mp (r0.trans l0.symm))] at h
    obtain ⟨x, ex, h⟩ := bnd_some h
    cases h
    have k1 : KYA σ s1 := wy_X6_begin (KYA.i (by omega) KYA.rf) s1 e1
    have k2 : KYA σ s2 := wy_X3_parse k1 (r, s2) e2
    exact wy_X6_faultAnswer k2 x ex
  · have hc := k7.2 r1
    rw [if_neg (fun e => r1 (by rw [e]; exact l0))] at h
    obtain ⟨c, ec, h⟩ := bnd_some h
    obtain ⟨d, ed, h⟩ := bnd_some h
    obtain ⟨x1, e3, h⟩ := bnd_some h
    obtain ⟨x2, e4, h⟩ := bnd_some h
    obtain ⟨x3, e5, h⟩ := bnd_some h
    obtain ⟨x4, e6, h⟩ := bnd_some h
    cases h
    unfold f_X9_clear at e5
    cases e5
    unfold f_X7_clear at e6
    cases e6
    refine ⟨hc.2.2.2, ⟨?_, ?_, ?_⟩, ?_⟩
    · show (stI (stI (stI (stI x2 48 1 0) 48 2 0) 48 3 0) 50 1 0).1 48 1 = 0
      rw [stI_ne (by omega), stI_at, upN (by omega), stI_at, upN (by omega), stI_at, upA rfl]
    · show (stI (stI (stI (stI x2 48 1 0) 48 2 0) 48 3 0) 50 1 0).1 48 2 = 0
      rw [stI_ne (by omega), stI_at, upN (by omega), stI_at, upA rfl]
    · show (stI (stI (stI (stI x2 48 1 0) 48 2 0) 48 3 0) 50 1 0).1 48 3 = 0
      rw [stI_ne (by omega), stI_at, upA rfl]
    · show (stI (stI (stI (stI x2 48 1 0) 48 2 0) 48 3 0) 50 1 0).1 50 1 = 0
      rw [stI_at, upA rfl]
/-- behind plans -/
def PLQ (σ τ s w : ST) : Prop := (KYA σ s ∧ KYB τ w) ∨ (((∀ i, i < 4 → s.1 40 i = -1) ∧ (s.1 48 1 = 0 ∧ s.1 48 2 = 0 ∧ s.1 48 3 = 0) ∧ s.1 50 1 = 0) ∧ CLD w)
theorem ab_plansQ {n κ : Nat} {σ τ : ST} (h : Inv n σ τ κ) (p0 : Int32) (qa : Int32 × ST) (ea : f_X10_plans p0 σ = some qa) : QT (f_X11_plans p0 τ) (fun qb => PLQ σ τ qa.2 qb.1.2) := by
  obtain ⟨_, hA, hB, hF, h32, hk, hT, hc⟩ := h
  have ht := hA.tape
  unfold bI at ht
  have e2 : (τ.1 0 2).toInt = (σ.1 0 1).toInt := by rw [hF.1]
  have l0 := l64_0
  have i0 := i64 p0
  have l0' := li_0
  obtain ⟨qa', ea', q1, ⟨q2, q3⟩, q4⟩ := k_X10_plans p0 σ hA
  have eq : qa' = qa := Option.some.inj (ea'.symm.trans ea)
  subst eq
  have hs := hB.th 0
  have s1 : (stI τ 0 0 0).1 1 = τ.1 1 := rfl
  have s2 : (stI τ 0 0 0).1 0 2 = τ.1 0 2 := rfl
  have hY : KYB τ (stI τ 0 0 0) := KYB.rf.i (by omega)
  unfold f_X11_plans
  generalize stI τ 0 0 0 = s at hs s1 s2 hY
  have i2 := i64 (s.1 0 2)
  have e2' : (s.1 0 2).toInt = (σ.1 0 1).toInt := by rw [s2]; exact e2
  refine QT.bndR (b_within _ _ _ _) (fun v hv => ?_)
  dsimp only
  rcases q4 with ⟨c, q4⟩ | ⟨c, q01, t1, r, t2, e1, e3, q5, q6⟩
  · refine QT.ieq (fun _ => QT.ret (.inl ⟨by rw [q4]; exact KYA.rf, hY⟩)) (fun h => by omega)
  · refine QT.ieq (fun h => by omega) (fun _ => ?_)
    have hb := ab_plans2 p0 (stI σ 0 1 0) s (by rw [s1]; exact hF.2) (by rw [s1, ← hF.2]; exact hT) hk hs ⟨c.1, by omega⟩ t1 e1 r t2 e3
    have k8 := k8_plans p0 σ qa' ea c t1 r t2 e1 e3
    refine (QT.ok hb).mono (fun y hy => ?_)
    rcases hy with ⟨r0, hy⟩ | ⟨r0, hy⟩
    · exact .inl ⟨k8.1 r0, hY.trans hy⟩
    · exact .inr ⟨k8.2 r0, hy⟩
def Inv8 (n : Nat) (σ τ : ST) (κ : Nat) : Prop := Inv7 n σ τ κ ∧ EHY σ ∧ MSG σ τ ∧ KPR σ τ
theorem MSG.y {σ τ s t : ST} (h : MSG σ τ) (a : KYA σ s) (b : KYB τ t) : MSG s t := h.eq (a.1 38 (by omega)) (a.1 39 (by omega)) (a.1 40 (by omega)) (b.1 32 (by omega)) (b.1 33 (by omega)) (b.1 34 (by omega))
theorem KPR.y {σ τ s t : ST} (h : KPR σ τ) (a : KYA σ s) (b : KYB τ t) : KPR s t := h.eq (a.1 48 (by omega)) (a.1 49 (by omega)) (fun i i1 i2 => b.2.1 i (by omega)) (b.1 55 (by omega))
theorem KPR.z {σ τ s t : ST} (h : KPR σ τ) (a : KZA σ s) (b : KZB τ t) : KPR s t := h.eq (a.1 48 (by omega) (by omega)) (a.1 49 (by omega) (by omega)) (fun i i1 i2 => b.2.1 i (by omega)) (b.1 55 (by omega))
theorem msg_clr {s w : ST} (h : ∀ i, i < 4 → s.1 40 i = -1) (k : CLD w) : MSG s w := fun m hm => ⟨by rw [h m hm, k.1 m hm], fun h9 => absurd (by rw [k.1 m hm]; exact li_m1) h9⟩
theorem kpr_clr {s w : ST} (h : s.1 48 1 = 0 ∧ s.1 48 2 = 0 ∧ s.1 48 3 = 0) (k : CLD w) : KPR s w := by
  obtain ⟨_, _, k1, k2, k3⟩ := k
  have l0 := li_0
  unfold KPR
  rw [h.1, h.2.1, h.2.2, k1, k2, k3, l0]
  exact ⟨⟨rfl, by omega, by omega⟩, ⟨rfl, rfl⟩, fun i hi => by omega, fun i j _ hj => by omega⟩
/-- the part that is said of both answers' states -/
theorem inv8_st {n κ : Nat} {σ τ : ST} (h : Inv8 n σ τ κ) (j : Nat) (pr : Nat → Int32) (qa : Int32 × ST) (qb : (Int32 × ST) × Nat) (ea : fA j pr σ = some qa) (eb : fB j pr τ = some qb) (hIA : IA qa.2) : EHY qa.2 ∧ MSG qa.2 qb.1.2 ∧ KPR qa.2 qb.1.2 := by
  obtain ⟨⟨hI, hZ⟩, hX, hM, hK⟩ := h
  have hI' := hI
  obtain ⟨_, hA, hB, hF, h32, hk, hT, hc⟩ := hI'
  have hcap : (σ.1 50 0).toInt = 400 := hA.t50.1
  have hX' : EHY qa.2 := by
    by_cases h1 : j = 1
    · subst h1
      exact eh_plans (pr 1) σ qa ea hX hIA
    · exact hX.at (w_fA j h1 pr σ qa ea)
  refine ⟨hX', ?_⟩
  have two : ∀ {o : Option (Int32 × ST)}, (o.bind fun q => some ((q.1, q.2), 0)) = some qb → ∃ x, o = some x ∧ qb.1 = x := fun e => by
    obtain ⟨x, ex, e2⟩ := bnd_some e
    cases e2
    exact ⟨x, ex, rfl⟩
  by_cases h1 : j = 1
  · subst h1
    rcases ab_plansQ hI (pr 1) qa ea qb eb with ⟨a, b⟩ | ⟨⟨a1, a2, _⟩, b⟩
    · exact ⟨hM.y a b, hK.y a b⟩
    · exact ⟨msg_clr a1 b, kpr_clr a2 b⟩
  by_cases h2 : j = 2
  · subst h2
    have a : KZA σ qa.2 := wkz_X10_write KZA.rf qa ea
    have b : KZB τ qb.1.2 := wkz_X11_write KZB.rf qb eb
    exact ⟨ab_write (pr 1) (pr 2) (pr 3) σ τ hA hB hF h32 hk hT hZ.2.1.1 hM qa ea qb eb, hK.z a b⟩
  by_cases h7 : j = 7
  · subst h7
    obtain ⟨x, ex, e2⟩ := two eb
    have a : KZA σ qa.2 := wkz_X10_spoil KZA.rf qa ea
    have b : KZB τ x.2 := wkz_X11_spoil KZB.rf x ex
    rw [e2]
    exact ⟨(ab_spoil (pr 1) (pr 2) (pr 3) hZ hM qa ea x ex).2, hK.z a b⟩
  by_cases h8 : j = 8
  · subst h8
    obtain ⟨x, ex, e2⟩ := two eb
    have a : KZA σ qa.2 := wkz_X10_cut KZA.rf qa ea
    have b : KZB τ x.2 := wkz_X11_cut KZB.rf x ex
    rw [e2]
    exact ⟨(ab_cut (pr 1) (pr 2) hZ hM qa ea x ex).2, hK.z a b⟩
  by_cases h13 : j = 13
  · subst h13
    obtain ⟨x, ex, e2⟩ := two eb
    rw [e2]
    exact (ab_read (pr 1) (pr 2) hZ hX hM hK hcap h32 qa ea x ex).1
  by_cases h19 : j = 19
  · subst h19
    obtain ⟨x, ex, e2⟩ := two eb
    rw [e2]
    exact (ab_convert (pr 1) (pr 2) (pr 3) hZ hX hM hK hcap h32 qa ea x ex).2.1
  have hn : j ≠ 1 ∧ j ≠ 2 ∧ j ≠ 7 ∧ j ≠ 8 ∧ j ≠ 13 ∧ j ≠ 19 := ⟨h1, h2, h7, h8, h13, h19⟩
  have a : KYA σ qa.2 := wy_fA j hn pr σ qa ea
  have b : KYB τ qb.1.2 := wy_fB j hn pr τ qb eb
  exact ⟨hM.y a b, hK.y a b⟩
theorem inv8_call (n : Nat) (σ τ : ST) (κ : Nat) (h : Inv8 n σ τ κ) (hn : n < 512) (j : Nat) (pr : Nat → Int32) : ∃ (qa : Int32 × ST) (qb : (Int32 × ST) × Nat), fA j pr σ = some qa ∧ fB j pr τ = some qb ∧ Inv8 (n + 1) qa.2 qb.1.2 (κ + qb.2) := by
  obtain ⟨qa, qb, ea, eb, e1⟩ := inv7_call n σ τ κ h.1 hn j pr
  exact ⟨qa, qb, ea, eb, e1, inv8_st h j pr qa qb ea eb e1.1.2.1⟩
theorem inv8_room (n : Nat) (σ τ : ST) (κ : Nat) (h : Inv8 n σ τ κ) : κ ≤ 500000 := inv7_room n σ τ κ h.1
theorem inv8_0 : Inv8 0 s0A s0B 0 := by
  have l0 := li_0
  refine ⟨inv7_0, ?_, ?_, ?_⟩
  · exact .inl l0
  · have e40 : ∀ i, i < 4 → s0A.1 40 i = -1 := clr_0.2.2.2
    have e32 : ∀ i, i < 4 → s0B.1 32 i = -1 := by decide
    exact fun m hm => ⟨by rw [e40 m hm, e32 m hm], fun h9 => absurd (by rw [e32 m hm]; exact li_m1) h9⟩
  · have a1 : s0A.1 48 1 = 0 := rfl
    have a2 : s0A.1 48 2 = 0 := rfl
    have a3 : s0A.1 48 3 = 0 := rfl
    have b1 : s0B.1 0 92 = 0 := rfl
    have b2 : s0B.1 0 93 = 0 := rfl
    have b3 : s0B.1 0 94 = 0 := rfl
    unfold KPR
    rw [a1, a2, a3, b1, b2, b3, l0]
    exact ⟨⟨rfl, by omega, by omega⟩, ⟨rfl, rfl⟩, fun i hi => by omega, fun i j _ hj => by omega⟩
/-! message, spoil, cut, convert, kept are told alike -/
theorem inv8_message (n : Nat) (σ τ : ST) (κ : Nat) (h : Inv8 n σ τ κ) (hn : n < 512) (j : Nat) (pr : Nat → Int32) (hj : j < 32) : ∃ (qa : Int32 × ST) (qb : (Int32 × ST) × Nat), fA j pr σ = some qa ∧ fB j pr τ = some qb ∧ (j = 5 → qa.1 = qb.1.1) ∧ Inv8 (n + 1) qa.2 qb.1.2 (κ + qb.2) := by
  obtain ⟨qa, qb, ea, eb, e1⟩ := inv8_call n σ τ κ h hn j pr
  refine ⟨qa, qb, ea, eb, fun h3 => ?_, e1⟩
  subst h3
  have eb : ((f_X11_message (pr 1) (pr 2) τ).bind fun q => some ((q.1, q.2), 0)) = some qb := eb
  obtain ⟨x, ex, e2⟩ := bnd_some eb
  cases e2
  exact ab_message (pr 1) (pr 2) h.1.2 h.2.2.1 qa ea x ex
theorem inv8_spoil (n : Nat) (σ τ : ST) (κ : Nat) (h : Inv8 n σ τ κ) (hn : n < 512) (j : Nat) (pr : Nat → Int32) (hj : j < 32) : ∃ (qa : Int32 × ST) (qb : (Int32 × ST) × Nat), fA j pr σ = some qa ∧ fB j pr τ = some qb ∧ (j = 7 → qa.1 = qb.1.1) ∧ Inv8 (n + 1) qa.2 qb.1.2 (κ + qb.2) := by
  obtain ⟨qa, qb, ea, eb, e1⟩ := inv8_call n σ τ κ h hn j pr
  refine ⟨qa, qb, ea, eb, fun h3 => ?_, e1⟩
  subst h3
  have eb : ((f_X11_spoil (pr 1) (pr 2) (pr 3) τ).bind fun q => some ((q.1, q.2), 0)) = some qb := eb
  obtain ⟨x, ex, e2⟩ := bnd_some eb
  cases e2
  exact (ab_spoil (pr 1) (pr 2) (pr 3) h.1.2 h.2.2.1 qa ea x ex).1
theorem inv8_cut (n : Nat) (σ τ : ST) (κ : Nat) (h : Inv8 n σ τ κ) (hn : n < 512) (j : Nat) (pr : Nat → Int32) (hj : j < 32) : ∃ (qa : Int32 × ST) (qb : (Int32 × ST) × Nat), fA j pr σ = some qa ∧ fB j pr τ = some qb ∧ (j = 8 → qa.1 = qb.1.1) ∧ Inv8 (n + 1) qa.2 qb.1.2 (κ + qb.2) := by
  obtain ⟨qa, qb, ea, eb, e1⟩ := inv8_call n σ τ κ h hn j pr
  refine ⟨qa, qb, ea, eb, fun h3 => ?_, e1⟩
  subst h3
  have eb : ((f_X11_cut (pr 1) (pr 2) τ).bind fun q => some ((q.1, q.2), 0)) = some qb := eb
  obtain ⟨x, ex, e2⟩ := bnd_some eb
  cases e2
  exact (ab_cut (pr 1) (pr 2) h.1.2 h.2.2.1 qa ea x ex).1
theorem inv8_convert (n : Nat) (σ τ : ST) (κ : Nat) (h : Inv8 n σ τ κ) (hn : n < 512) (j : Nat) (pr : Nat → Int32) (hj : j < 32) : ∃ (qa : Int32 × ST) (qb : (Int32 × ST) × Nat), fA j pr σ = some qa ∧ fB j pr τ = some qb ∧ (j = 19 → qa.1 = qb.1.1) ∧ Inv8 (n + 1) qa.2 qb.1.2 (κ + qb.2) := by
  obtain ⟨qa, qb, ea, eb, e1⟩ := inv8_call n σ τ κ h hn j pr
  refine ⟨qa, qb, ea, eb, fun h3 => ?_, e1⟩
  subst h3
  have eb : ((f_X11_convert (pr 1) (pr 2) (pr 3) τ).bind fun q => some ((q.1, q.2), 0)) = some qb := eb
  obtain ⟨x, ex, e2⟩ := bnd_some eb
  cases e2
  exact (ab_convert (pr 1) (pr 2) (pr 3) h.1.2 h.2.1 h.2.2.1 h.2.2.2 h.1.1.2.1.t50.1 h.1.1.2.2.2.2.1 qa ea x ex).1
theorem inv8_kept (n : Nat) (σ τ : ST) (κ : Nat) (h : Inv8 n σ τ κ) (hn : n < 512) (j : Nat) (pr : Nat → Int32) (hj : j < 32) : ∃ (qa : Int32 × ST) (qb : (Int32 × ST) × Nat), fA j pr σ = some qa ∧ fB j pr τ = some qb ∧ (j = 21 → qa.1 = qb.1.1) ∧ Inv8 (n + 1) qa.2 qb.1.2 (κ + qb.2) := by
  obtain ⟨qa, qb, ea, eb, e1⟩ := inv8_call n σ τ κ h hn j pr
  refine ⟨qa, qb, ea, eb, fun h3 => ?_, e1⟩
  subst h3
  have eb : ((f_X11_kept (pr 1) τ).bind fun q => some ((q.1, q.2), 0)) = some qb := eb
  obtain ⟨x, ex, e2⟩ := bnd_some eb
  cases e2
  exact ab_kept (pr 1) h.2.2.2 qa ea x ex
