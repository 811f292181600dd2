/-! what the calls that are not about messages leave, all of them -/
theorem wy_L_byteAt {s : ST} {p0 p1 : Int32} {σ : ST} (h : KYA s σ) : PF st1 (KYA s) (f_L_byteAt p0 p1 σ) := by
  unfold f_L_byteAt
  refine PF.bnd (wy_X10_byteAt h) (fun q hq => ?_)
  cases q.1 with
  | none => exact PF.ret1 hq
  | some r => exact PF.ret1 (KYA.l (by omega) hq)
theorem wy_L_node {s : ST} {p0 p1 : Int32} {σ : ST} (h : KYA s σ) : PF st1 (KYA s) (f_L_node p0 p1 σ) := by
  unfold f_L_node
  refine PF.bnd (wy_X10_node h) (fun q hq => ?_)
  cases q.1 with
  | none => exact PF.ret1 hq
  | some r => exact PF.ret1 (KYA.l (by omega) hq)
theorem wy_L_letter {s : ST} {p0 p1 : Int32} {σ : ST} (h : KYA s σ) : PF st1 (KYA s) (f_L_letter p0 p1 σ) := by
  unfold f_L_letter
  refine PF.bnd (wy_X10_letter h) (fun q hq => ?_)
  cases q.1 with
  | none => exact PF.ret1 hq
  | some r => exact PF.ret1 (KYA.l (by omega) hq)
theorem wy_L_value {s : ST} {p0 : Int32} {σ : ST} (h : KYA s σ) : PF st1 (KYA s) (f_L_value p0 σ) := by
  unfold f_L_value
  refine PF.bnd (wy_X10_value h) (fun q hq => ?_)
  cases q.1 with
  | none => exact PF.ret1 hq
  | some r => exact PF.ret1 (KYA.l (by omega) hq)
theorem wy_fA (j : Nat) (h1 : j ≠ 1 ∧ j ≠ 2 ∧ j ≠ 7 ∧ j ≠ 8 ∧ j ≠ 13 ∧ j ≠ 19) (pr : Nat → Int32) (σ : ST) : PF st1 (KYA σ) (fA j pr σ) := by
  match j, h1 with
  | 1, h => exact absurd rfl (h.1)
  | 2, h => exact absurd rfl (h.2.1)
  | 7, h => exact absurd rfl (h.2.2.1)
  | 8, h => exact absurd rfl (h.2.2.2.1)
  | 13, h => exact absurd rfl (h.2.2.2.2.1)
  | 19, h => exact absurd rfl (h.2.2.2.2.2)
  | 0, _ => exact wy_X10_feed KYA.rf
  | 3, _ => exact wy_X10_record KYA.rf
  | 4, _ => exact wy_X10_field KYA.rf
  | 5, _ => exact wy_X10_message KYA.rf
  | 6, _ => exact wy_L_byteAt KYA.rf
  | 9, _ => exact wy_X10_matches KYA.rf
  | 10, _ => exact wy_X10_miss KYA.rf
  | 11, _ => exact wy_X10_missStep KYA.rf
  | 12, _ => exact wy_X10_readers KYA.rf
  | 14, _ => exact wy_X10_failure KYA.rf
  | 15, _ => exact wy_X10_failureStep KYA.rf
  | 16, _ => exact wy_L_node KYA.rf
  | 17, _ => exact wy_L_value KYA.rf
  | 18, _ => exact wy_L_letter KYA.rf
  | 20, _ => exact wy_X10_alike KYA.rf
  | 21, _ => exact wy_X10_kept KYA.rf
  | 22, _ => exact wy_X10_count KYA.rf
  | j + 23, _ => exact PF.ret1 KYA.rf
theorem wy_fB (j : Nat) (h1 : j ≠ 1 ∧ j ≠ 2 ∧ j ≠ 7 ∧ j ≠ 8 ∧ j ≠ 13 ∧ j ≠ 19) (pr : Nat → Int32) (τ : ST) : PF st2 (KYB τ) (fB j pr τ) := by
  match j, h1 with
  | 1, h => exact absurd rfl (h.1)
  | 2, h => exact absurd rfl (h.2.1)
  | 7, h => exact absurd rfl (h.2.2.1)
  | 8, h => exact absurd rfl (h.2.2.2.1)
  | 13, h => exact absurd rfl (h.2.2.2.2.1)
  | 19, h => exact absurd rfl (h.2.2.2.2.2)
  | 0, _ => exact PF.bnd (wy_X11_feed KYB.rf) (fun q hq => PF.ret2 hq)
  | 3, _ => exact PF.bnd (wy_X11_record_ KYB.rf) (fun q hq => PF.ret2 hq)
  | 4, _ => exact PF.bnd (wy_X11_field_ KYB.rf) (fun q hq => PF.ret2 hq)
  | 5, _ => exact PF.bnd (wy_X11_message KYB.rf) (fun q hq => PF.ret2 hq)
  | 6, _ => exact PF.bnd (wy_X11_byteAt_ KYB.rf) (fun q hq => PF.ret2 hq)
  | 9, _ => exact PF.bnd (wy_X11_matches KYB.rf) (fun q hq => PF.ret2 hq)
  | 10, _ => exact PF.bnd (wy_X11_miss KYB.rf) (fun q hq => PF.ret2 hq)
  | 11, _ => exact PF.bnd (wy_X11_missStep KYB.rf) (fun q hq => PF.ret2 hq)
  | 12, _ => exact PF.bnd (wy_X11_readers KYB.rf) (fun q hq => PF.ret2 hq)
  | 14, _ => exact PF.bnd (wy_X11_failure KYB.rf) (fun q hq => PF.ret2 hq)
  | 15, _ => exact PF.bnd (wy_X11_failureStep KYB.rf) (fun q hq => PF.ret2 hq)
  | 16, _ => exact PF.bnd (wy_X11_node KYB.rf) (fun q hq => PF.ret2 hq)
  | 17, _ => exact PF.bnd (wy_X11_value_ KYB.rf) (fun q hq => PF.ret2 hq)
  | 18, _ => exact PF.bnd (wy_X11_letter KYB.rf) (fun q hq => PF.ret2 hq)
  | 20, _ => exact PF.bnd (wy_X11_alike KYB.rf) (fun q hq => PF.ret2 hq)
  | 21, _ => exact PF.bnd (wy_X11_kept KYB.rf) (fun q hq => PF.ret2 hq)
  | 22, _ => exact PF.bnd (wy_X11_count KYB.rf) (fun q hq => PF.ret2 hq)
  | j + 23, _ => exact PF.ret2 KYB.rf
/-! calls about messages, both sides -/
theorem QT.weq {α : Type} {o : Option α} {P : α → Prop} (h : ∀ q, o = some q → P q) : QT o P := h
/-- a message read -/
theorem ab_read (p0 p1 : Int32) {σ τ : ST} (hZ : MZ τ σ) (hX : EHY σ) (hM : MSG σ τ) (hK : KPR σ τ) (hcap : (σ.1 50 0).toInt = 400) (hc : σ.1 4 0 = τ.1 0 32) : QT (f_X10_read p0 p1 σ) (fun qa => QT (f_X11_read p0 p1 τ) (fun qb => (MSG qa.2 qb.2 ∧ KPR qa.2 qb.2) ∧ ((qa.1 = qb.1 ∧ SHE σ qa.2 ∧ SHB τ qb.2) ∨ ∃ (q : Nat) (rb : Int32 × ST), q < 6 ∧ RFN 50 q qa rb ∧ qb.2 = rb.2 ∧ qb.1 = if 0 ≤ rb.1 then rb.2.1 0 73 else rb.1))) := by
  have l0 := li_0
  have l1 := li_1
  have l6 := li_6
  have hpl := hZ.2.1.2.2.1.1
  have hM0 : MSG σ (stI τ 0 0 0) := hM.eq rfl rfl rfl (stI_ne (by omega)) (stI_ne (by omega)) (stI_ne (by omega))
  have hK0 : KPR σ (stI τ 0 0 0) := hK.eq rfl rfl (fun i _ _ => by rw [stI_at, upN (by omega)]) (stI_ne (by omega))
  have hZ0 : MZ (stI τ 0 0 0) σ := hZ.yok (YOK.st0 hZ.2.1.2.2 0)
  have g32 : (stI τ 0 0 0).1 0 32 = τ.1 0 32 := rfl
  have hB0 : SHB τ (stI τ 0 0 0) := ⟨⟨fun c c1 c2 => stI_ne (by omega), by rw [stI_at, upN (by omega)]⟩, rfl, rfl⟩
  unfold f_X10_read f_X11_read
  generalize stI τ 0 0 0 = u at hM0 hK0 hZ0 g32 hB0
  refine QT.bnd2 (ab_isWritten hM0 hZ0 rfl p0) (fun x y hxy => ?_)
  obtain ⟨xv, xs⟩ := x
  obtain ⟨yv, ys⟩ := y
  obtain ⟨⟨e1, e2, e3⟩, hx⟩ := hxy
  have e1 : xs = σ := e1
  have e2 : ys = u := e2
  have e3 : xv = yv := e3
  have hx : xv = 0 ∨ xv = 1 ∧ (0 ≤ p0.toInt ∧ p0.toInt < 4) ∧ ¬ σ.1 40 p0.toNatClampNeg = -1 := hx
  rw [e1, e2, ← e3]
  dsimp only
  by_cases x0 : xv = 0
  · rw [if_pos x0, if_pos x0]
    exact QT.ret (QT.ret ⟨⟨hM0, hK0⟩, .inl ⟨rfl, SHE.rf, hB0⟩⟩)
  rw [if_neg x0, if_neg x0]
  obtain ⟨_, hp0, hw⟩ := hx.resolve_left x0
  refine QT.bnd2 (ab_isPlan (by rw [hc, g32]) (by rw [g32]; exact hpl) p1) (fun x y hxy => ?_)
  obtain ⟨av, as⟩ := x
  obtain ⟨bv, bs⟩ := y
  obtain ⟨⟨a1, a2, a3⟩, ha⟩ := hxy
  have a1 : as = σ := a1
  have a2 : bs = u := a2
  have a3 : av = bv := a3
  have ha : av = 0 ∨ av = 1 ∧ 0 ≤ p1.toInt ∧ p1.toInt < (u.1 0 32).toInt := ha
  rw [a1, a2, ← a3]
  dsimp only
  by_cases a0 : av = 0
  · rw [if_pos a0, if_pos a0]
    exact QT.ret (QT.ret ⟨⟨hM0, hK0⟩, .inl ⟨rfl, SHE.rf, hB0⟩⟩)
  rw [if_neg a0, if_neg a0]
  obtain ⟨_, hp1, hp1'⟩ := ha.resolve_left a0
  refine QT.bnd (fun q e => pt_planOf p0 σ hp0 q e) (fun q7 hq7 => ?_)
  rw [hq7]
  dsimp only
  obtain ⟨m, hm⟩ : ∃ m : Nat, p0.toInt = m := ⟨p0.toInt.toNat, by omega⟩
  obtain ⟨q, hq⟩ : ∃ q : Nat, p1.toInt = q := ⟨p1.toInt.toNat, by omega⟩
  have nm : p0.toNatClampNeg = m := nC hm
  rw [nm] at hw ⊢
  have hw' : ¬ (σ.1 40 m).toInt = -1 := fun h => hw (Int32.toInt_inj.mp (h.trans li_m1.symm))
  unfold bI at hpl
  rw [g32] at hp1'
  have hX' : EHX σ := hX.resolve_left (by rw [hc]; omega)
  refine QT.assoc (QT.bnd2 (ab_readsFor hZ0 hX' hM0 hK0 hcap p0 p1 hm (by omega) hw' hq (by rw [g32]; omega)) (fun x y hxy => ?_))
  obtain ⟨⟨hMr, hKr⟩, _, _, hR⟩ := hxy
  refine QT.ret ?_
  by_cases h9 : 0 ≤ y.1
  · rw [if_pos h9]
    exact QT.ret ⟨⟨hMr, hKr⟩, .inr ⟨q, y, by omega, hR, rfl, (if_pos h9).symm⟩⟩
  · rw [if_neg h9]
    exact QT.ret ⟨⟨hMr, hKr⟩, .inr ⟨q, y, by omega, hR, rfl, (if_neg h9).symm⟩⟩
/-- a byte of a message -/
theorem ab_hasByte (p0 p1 : Int32) {σ u : ST} (hZ : MZ u σ) (hM : MSG σ u) : QT (f_X1_hasByte p0 p1 σ) (fun qa => QT (f_X11_isByte p0 p1 u) (fun qb => (qa.2 = σ ∧ qb.2 = u ∧ qa.1 = qb.1) ∧ (qa.1 = 0 ∨ qa.1 = 1 ∧ ∃ m i : Nat, (p0.toInt = m ∧ m < 4) ∧ ¬ (u.1 32 m).toInt = -1 ∧ p1.toInt = i ∧ (i : Int) < (u.1 33 m).toInt ∧ (u.1 33 m).toInt ≤ 400))) := by
  have l0 := li_0
  have l1 := li_1
  have l400 := li_400
  have lm := li_m1
  unfold f_X1_hasByte f_X11_isByte
  refine QT.bnd2 (ab_isWritten hM hZ rfl p0) (fun x y hxy => ?_)
  obtain ⟨xv, xs⟩ := x
  obtain ⟨yv, ys⟩ := y
  obtain ⟨⟨e1, e2, e3⟩, hx⟩ := hxy
  have e1 : xs = σ := e1
  have e2 : ys = u := e2
  have e3 : xv = yv := e3
  have hx : xv = 0 ∨ xv = 1 ∧ (0 ≤ p0.toInt ∧ p0.toInt < 4) ∧ ¬ σ.1 40 p0.toNatClampNeg = -1 := hx
  rw [e1, e2, ← e3]
  dsimp only
  by_cases x0 : xv = 0
  · rw [if_pos x0, if_pos x0]
    exact QT.ret (QT.ret ⟨⟨rfl, rfl, rfl⟩, .inl rfl⟩)
  rw [if_neg x0, if_neg x0]
  obtain ⟨_, hp0, hw⟩ := hx.resolve_left x0
  obtain ⟨m, hm⟩ : ∃ m : Nat, p0.toInt = m := ⟨p0.toInt.toNat, by omega⟩
  have nm : p0.toNatClampNeg = m := nC hm
  rw [nm] at hw ⊢
  obtain ⟨m1, m2⟩ := hM m (by omega)
  have hu : ¬ (u.1 32 m).toInt = -1 := fun h => hw (Int32.toInt_inj.mp ((by rw [m1]; exact h : (σ.1 40 m).toInt = -1).trans lm.symm))
  obtain ⟨m3, ⟨m4, m5⟩, _⟩ := m2 hu
  have es := il_subE (x := u.1 33 m) (y := 1) (by omega) (by omega)
  have i1 := i64 p1
  have i2 := i64 (u.1 33 m - 1)
  have l0' := l64_0
  refine QT.sw ?_
  refine QT.grd (fun _ => ?_)
  refine QT.bndR (b_within _ _ _ _) (fun v hv => ?_)
  dsimp only
  rw [m3]
  by_cases hin : 0 ≤ p1.toInt ∧ p1.toInt < (u.1 33 m).toInt
  · refine QT.ieq (fun h => by omega) (fun _ => QT.ret ?_)
    refine QT.ilt (fun h => by omega) (fun _ => QT.grd (fun _ => ?_))
    refine QT.ile (fun h => by omega) (fun _ => ?_)
    refine QT.ile (fun h => by omega) (fun _ => QT.ret ?_)
    refine ⟨⟨rfl, rfl, rfl⟩, .inr ⟨rfl, m, p1.toInt.toNat, ⟨hm, by omega⟩, hu, by omega, by omega, m5⟩⟩
  · refine QT.ieq (fun _ => QT.ret ?_) (fun h => by omega)
    have z : (((0, σ) : Int32 × ST).2 = σ ∧ ((0, u) : Int32 × ST).2 = u ∧ ((0, σ) : Int32 × ST).1 = ((0, u) : Int32 × ST).1) ∧ (((0, σ) : Int32 × ST).1 = 0 ∨ ((0, σ) : Int32 × ST).1 = 1 ∧ ∃ m i : Nat, (p0.toInt = m ∧ m < 4) ∧ ¬ (u.1 32 m).toInt = -1 ∧ p1.toInt = i ∧ (i : Int) < (u.1 33 m).toInt ∧ (u.1 33 m).toInt ≤ 400) := ⟨⟨rfl, rfl, rfl⟩, .inl rfl⟩
    refine QT.ilt (fun _ => QT.ret z) (fun _ => QT.grd (fun _ => ?_))
    refine QT.ile (fun _ => QT.ret z) (fun _ => ?_)
    refine QT.ile (fun _ => QT.ret z) (fun _ => by omega)
/-- where a byte lies -/
theorem at400 {p0 p1 : Int32} {m i : Nat} (h0 : p0.toInt = m) (hm : m < 4) (h1 : p1.toInt = i) (hi : i < 400) : ((400 * p0) + p1).toInt = 400 * (m : Int) + i ∧ ((400 * p0) + p1).toNatClampNeg = 400 * m + i ∧ (p0 * 400) + p1 = (400 * p0) + p1 := by
  have l400 := li_400
  have e1 := mlE (k := 400) (y := p0) 400 l400 (by omega) (by omega)
  have e2 := il_addE (x := 400 * p0) (y := p1) (by omega) (by omega)
  exact ⟨by omega, nC (by omega), by rw [Int32.mul_comm]⟩
theorem ab_spoil (p0 p1 p2 : Int32) {σ τ : ST} (hZ : MZ τ σ) (hM : MSG σ τ) : QT (f_X10_spoil p0 p1 p2 σ) (fun qa => QT (f_X11_spoil p0 p1 p2 τ) (fun qb => qa.1 = qb.1 ∧ MSG qa.2 qb.2)) := by
  have l0 := li_0
  have l1 := li_1
  have l1600 : (1600 : Int32).toInt = 1600 := by decide
  have hM0 : MSG σ (stI τ 0 0 0) := hM.eq rfl rfl rfl (stI_ne (by omega)) (stI_ne (by omega)) (stI_ne (by omega))
  have hZ0 : MZ (stI τ 0 0 0) σ := hZ.yok (YOK.st0 hZ.2.1.2.2 0)
  unfold f_X10_spoil f_X11_spoil
  generalize stI τ 0 0 0 = u at hM0 hZ0
  have hH := ab_hasByte p0 p1 hZ0 hM0
  refine QT.bnd2 hH (fun x y hxy => ?_)
  obtain ⟨xv, xs⟩ := x
  obtain ⟨yv, ys⟩ := y
  obtain ⟨⟨e1, e2, e3⟩, hx⟩ := hxy
  have e1 : xs = σ := e1
  have e2 : ys = u := e2
  have e3 : xv = yv := e3
  have hx : xv = 0 ∨ xv = 1 ∧ ∃ m i : Nat, (p0.toInt = m ∧ m < 4) ∧ ¬ (u.1 32 m).toInt = -1 ∧ p1.toInt = i ∧ (i : Int) < (u.1 33 m).toInt ∧ (u.1 33 m).toInt ≤ 400 := hx
  rw [e1, e2, ← e3]
  dsimp only
  by_cases x0 : xv = 0
  · rw [if_pos x0, if_pos x0]
    exact QT.ret (QT.ret ⟨rfl, hM0⟩)
  rw [if_neg x0, if_neg x0]
  obtain ⟨_, m, i, ⟨h0, hm4⟩, hu, h1, hi, hi4⟩ := hx.resolve_left x0
  obtain ⟨a1, a2, a3⟩ := at400 h0 hm4 h1 (by omega)
  obtain ⟨m1, m2⟩ := hM0 m hm4
  obtain ⟨m3, _, m5⟩ := m2 hu
  have m6 := m5 i hi
  unfold f_X1_change f_X1_byteOf
  rw [a3, a2]
  refine QT.sw ?_
  refine QT.grd (fun _ => QT.lt (fun z4 hz4 => QT.ret ?_))
  refine QT.bnd (Q := fun q3 => q3.1 = σ.1 38 (400 * m + i) &&& 255 ∧ q3.2 = stI σ 38 (400 * m + i) (vp_nar .byte (((σ.1 38 (400 * m + i) &&& 255) ^^^ p2).toInt8.toInt32))) ?_ (fun q3 hq3 => QT.ret ?_)
  · rw [if_neg (fun h => by have := il_lt h; omega), if_neg (fun h => by have := il_le h; omega), if_pos (by omega), sbnd]
    dsimp only
    refine QT.bnd (Q := fun q => q.2 = σ ∧ ¬ q.1 = 0) (fun q e => ?_) (fun q3 hq3 => ?_)
    · obtain ⟨o1, o2⟩ := q
      -- what hasByte answered before
      unfold f_X1_hasByte at e
      obtain ⟨⟨wv, ws⟩, ew, e⟩ := bnd_some e
      obtain ⟨k1, k2⟩ := qa_isWritten p0 σ _ ew
      have k1 : ws = σ := k1
      have k2 : (wv = 0 ∧ ¬ ((0 ≤ p0.toInt ∧ p0.toInt < 4) ∧ ¬ σ.1 40 p0.toNatClampNeg = -1)) ∨ wv = 1 ∧ _ := k2
      have nm : p0.toNatClampNeg = m := nC h0
      rw [k1, nm, m3] at e
      dsimp only at e
      have hw : ¬ σ.1 40 m = -1 := fun h9 => hu (by rw [← m1, h9]; exact li_m1)
      have hwv : ¬ wv = 0 := by
        rcases k2 with ⟨_, k2⟩ | ⟨k2, _⟩
        · rw [nm] at k2
          exact absurd ⟨by omega, hw⟩ k2
        · rw [k2]
          exact one_ne
      have l400 := li_400
      rw [if_neg hwv, if_neg (fun h => by have := il_lt h; omega), if_pos (by omega), if_neg (fun h => by have := il_le h; omega), if_neg (fun h => by have := il_le h; omega)] at e
      cases e
      exact ⟨rfl, one_ne⟩
    · obtain ⟨o1, o2⟩ := q3
      obtain ⟨k1, k2⟩ := hq3
      have k1 : o2 = σ := k1
      have k2 : ¬ o1 = 0 := k2
      rw [k1]
      dsimp only
      rw [if_neg k2, if_pos (by omega)]
      exact QT.lt (fun z6 hz6 => QT.ret ⟨rfl, hz6⟩)
  · obtain ⟨o1, o2⟩ := hq3
    refine ⟨?_, ?_⟩
    · show q3.1 = u.1 34 (400 * m + i) &&& 255
      rw [o1, m6]
    · show MSG q3.2 z4
      rw [o2, hz4, m6]
      intro k hk
      obtain ⟨k1, k2⟩ := hM0 k hk
      rw [stI_ne (by omega), stI_ne (by omega), stI_ne (by omega), stI_ne (by omega), stI_at, stI_at]
      refine ⟨k1, fun hu9 => ?_⟩
      obtain ⟨k3, k4, k5⟩ := k2 hu9
      refine ⟨k3, k4, fun j hj => ?_⟩
      by_cases e : 400 * k + j = 400 * m + i
      · rw [upA e, upA e]
      · rw [upN e, upN e]
        exact k5 j hj
theorem ab_cut (p0 p1 : Int32) {σ τ : ST} (hZ : MZ τ σ) (hM : MSG σ τ) : QT (f_X10_cut p0 p1 σ) (fun qa => QT (f_X11_cut p0 p1 τ) (fun qb => qa.1 = qb.1 ∧ MSG qa.2 qb.2)) := by
  have l0 := li_0
  have l1 := li_1
  have lm := li_m1
  have l0' := l64_0
  have hM0 : MSG σ (stI τ 0 0 0) := hM.eq rfl rfl rfl (stI_ne (by omega)) (stI_ne (by omega)) (stI_ne (by omega))
  have hZ0 : MZ (stI τ 0 0 0) σ := hZ.yok (YOK.st0 hZ.2.1.2.2 0)
  unfold f_X10_cut f_X11_cut
  generalize stI τ 0 0 0 = u at hM0 hZ0
  refine QT.bnd2 (ab_isWritten hM0 hZ0 rfl p0) (fun x y hxy => ?_)
  obtain ⟨xv, xs⟩ := x
  obtain ⟨yv, ys⟩ := y
  obtain ⟨⟨e1, e2, e3⟩, hx⟩ := hxy
  have e1 : xs = σ := e1
  have e2 : ys = u := e2
  have e3 : xv = yv := e3
  have hx : xv = 0 ∨ xv = 1 ∧ (0 ≤ p0.toInt ∧ p0.toInt < 4) ∧ ¬ σ.1 40 p0.toNatClampNeg = -1 := hx
  rw [e1, e2, ← e3]
  dsimp only
  by_cases x0 : xv = 0
  · rw [if_pos x0, if_pos x0]
    exact QT.ret (QT.ret ⟨rfl, hM0⟩)
  rw [if_neg x0, if_neg x0]
  obtain ⟨_, hp0, hw⟩ := hx.resolve_left x0
  obtain ⟨m, hm⟩ : ∃ m : Nat, p0.toInt = m := ⟨p0.toInt.toNat, by omega⟩
  have nm : p0.toNatClampNeg = m := nC hm
  rw [nm] at hw ⊢
  obtain ⟨m1, m2⟩ := hM0 m (by omega)
  have hu : ¬ (u.1 32 m).toInt = -1 := fun h => hw (Int32.toInt_inj.mp ((by rw [m1]; exact h : (σ.1 40 m).toInt = -1).trans lm.symm))
  obtain ⟨m3, ⟨m4, m5⟩, m6⟩ := m2 hu
  have i1 := i64 p1
  have i2 := i64 (u.1 33 m)
  refine QT.sw ?_
  refine QT.grd (fun _ => ?_)
  refine QT.bndR (b_within _ _ _ _) (fun v hv => ?_)
  dsimp only
  have sz := q_sizeOfM p0 σ hp0
  rw [nm] at sz
  have mid : ∀ {P : Int32 × ST → Prop}, QT (if p1 ≤ σ.1 39 m then ((f_X1_shorten p0 p1 σ).bind fun q5 => some (q5.1, q5.2)) else some (-1, σ)) P → QT ((f_X1_sizeOf p0 σ).bind fun q3 => if p1 ≤ q3.1 then ((f_X1_shorten p0 p1 q3.2).bind fun q5 => some (q5.1, q5.2)) else some (-1, q3.2)) P := fun h => QT.bnd sz (fun q hq => by rw [hq]; exact h)
  by_cases hin : 0 ≤ p1.toInt ∧ p1.toInt ≤ (u.1 33 m).toInt
  · refine QT.ieq (fun h => by omega) (fun _ => QT.ret ?_)
    refine QT.ilt (fun h => by omega) (fun _ => mid ?_)
    rw [m3]
    refine QT.ile (fun _ => ?_) (fun h => by omega)
    unfold f_X1_shorten
    refine QT.bnd (Q := fun q5 => q5.1 = σ.1 39 m ∧ q5.2 = stI σ 39 m p1) ?_ (fun q5 h5 => QT.ret ?_)
    · refine QT.bnd sz (fun q hq => ?_)
      rw [hq]
      dsimp only
      refine QT.bndR (k2_isNumber p0 σ) (fun v2 hv2 => ?_)
      dsimp only
      refine QT.ieq (fun h => by omega) (fun _ => QT.grd (fun _ => QT.ret ⟨rfl, ?_⟩))
      rw [nm]
    · obtain ⟨o1, o2⟩ := h5
      refine ⟨o1.trans m3, ?_⟩
      show MSG q5.2 (stI u 33 m p1)
      rw [o2]
      intro k hk
      obtain ⟨k1, k2⟩ := hM0 k hk
      have a40 : (stI σ 39 m p1).1 40 = σ.1 40 := stI_ne (by omega)
      have a38 : (stI σ 39 m p1).1 38 = σ.1 38 := stI_ne (by omega)
      have b32 : (stI u 33 m p1).1 32 = u.1 32 := stI_ne (by omega)
      have b34 : (stI u 33 m p1).1 34 = u.1 34 := stI_ne (by omega)
      rw [a40, a38, b32, b34, stI_at, stI_at]
      refine ⟨k1, fun hu9 => ?_⟩
      obtain ⟨k3, k4, k5⟩ := k2 hu9
      by_cases e : k = m
      · rw [upA e, upA e, e]
        rw [e] at k5
        exact ⟨rfl, ⟨by omega, by omega⟩, fun j hj => k5 j (by omega)⟩
      · rw [upN e, upN e]
        exact ⟨k3, k4, k5⟩
  · refine QT.ieq (fun _ => QT.ret ?_) (fun h => by omega)
    refine QT.ilt (fun _ => QT.ret ⟨rfl, hM0⟩) (fun _ => mid ?_)
    rw [m3]
    exact QT.ile (fun h => by omega) (fun _ => QT.ret ⟨rfl, hM0⟩)
theorem ab_message (p0 p1 : Int32) {σ τ : ST} (hZ : MZ τ σ) (hM : MSG σ τ) : QT (f_X10_message p0 p1 σ) (fun qa => QT (f_X11_message p0 p1 τ) (fun qb => qa.1 = qb.1)) := by
  have l0 := li_0
  have l1 := li_1
  have lm := li_m1
  have l0' := l64_0
  have l1' : (1 : Int64).toInt = 1 := by decide
  have hM0 : MSG σ (stI τ 0 0 0) := hM.eq rfl rfl rfl (stI_ne (by omega)) (stI_ne (by omega)) (stI_ne (by omega))
  have hZ0 : MZ (stI τ 0 0 0) σ := hZ.yok (YOK.st0 hZ.2.1.2.2 0)
  unfold f_X10_message f_X11_message
  generalize stI τ 0 0 0 = u at hM0 hZ0
  refine QT.bnd2 (ab_isWritten hM0 hZ0 rfl p0) (fun x y hxy => ?_)
  obtain ⟨xv, xs⟩ := x
  obtain ⟨yv, ys⟩ := y
  obtain ⟨⟨e1, e2, e3⟩, hx⟩ := hxy
  have e1 : xs = σ := e1
  have e2 : ys = u := e2
  have e3 : xv = yv := e3
  have hx : xv = 0 ∨ xv = 1 ∧ (0 ≤ p0.toInt ∧ p0.toInt < 4) ∧ ¬ σ.1 40 p0.toNatClampNeg = -1 := hx
  rw [e1, e2, ← e3]
  dsimp only
  by_cases x0 : xv = 0
  · rw [if_pos x0, if_pos x0]
    exact QT.ret (QT.ret rfl)
  rw [if_neg x0, if_neg x0]
  obtain ⟨_, hp0, hw⟩ := hx.resolve_left x0
  obtain ⟨m, hm⟩ : ∃ m : Nat, p0.toInt = m := ⟨p0.toInt.toNat, by omega⟩
  have nm : p0.toNatClampNeg = m := nC hm
  obtain ⟨m1, m2⟩ := hM0 m (by omega)
  rw [nm] at hw ⊢
  have hu : ¬ (u.1 32 m).toInt = -1 := fun h => hw (Int32.toInt_inj.mp ((by rw [m1]; exact h : (σ.1 40 m).toInt = -1).trans lm.symm))
  obtain ⟨m3, _, _⟩ := m2 hu
  have i1 := i64 p1
  refine QT.sw ?_
  refine QT.bndR (b_within _ _ _ _) (fun v hv => ?_)
  dsimp only
  refine QT.ieq (fun h => QT.ret ?_) (fun h => ?_)
  · refine QT.ieq (fun h9 => by omega) (fun _ => ?_)
    exact QT.ieq (fun h9 => by omega) (fun _ => QT.ret rfl)
  refine QT.ieq (fun h9 => QT.grd (fun _ => QT.ret ?_)) (fun h9 => QT.grd (fun _ => QT.ret ?_))
  · refine QT.ieq (fun _ => ?_) (fun h => by omega)
    refine QT.bnd (q_sizeOfM p0 σ hp0) (fun q hq => QT.ret ?_)
    rw [hq, nm]
    exact m3
  · refine QT.ieq (fun h => by omega) (fun _ => ?_)
    refine QT.ieq (fun _ => ?_) (fun h => by omega)
    refine QT.bnd (fun q e => pt_planOf p0 σ hp0 q e) (fun q hq => QT.ret ?_)
    rw [hq, nm]
    exact m1
theorem ab_kept (p0 : Int32) {σ τ : ST} (hK : KPR σ τ) : QT (f_X10_kept p0 σ) (fun qa => QT (f_X11_kept p0 τ) (fun qb => qa.1 = qb.1)) := by
  have l0 := li_0
  have l1 := li_1
  have l4 := li_4
  have lm := li_m1
  have l0' := l64_0
  obtain ⟨⟨h1, h2, h3⟩, _, h6, _⟩ := hK
  have e92 : (stI τ 0 0 0).1 0 92 = τ.1 0 92 := by rw [stI_at, upN (by omega)]
  have e55 : (stI τ 0 0 0).1 55 = τ.1 55 := stI_ne (by omega)
  unfold f_X10_kept f_X11_kept
  rw [e92]
  generalize stI τ 0 0 0 = u at e55
  by_cases hm : p0 = -1
  · rw [if_pos hm, if_pos hm]
    exact QT.ret (QT.ret h1)
  rw [if_neg hm, if_neg hm]
  have es := il_subE (x := τ.1 0 92) (y := 1) (by omega) (by omega)
  have i1 := i64 p0
  have i2 := i64 (τ.1 0 92 - 1)
  refine QT.sw ?_
  refine QT.bndR (b_within _ _ _ _) (fun v hv => ?_)
  dsimp only
  unfold f_X9_pairAt
  by_cases hin : 0 ≤ p0.toInt ∧ p0.toInt < (τ.1 0 92).toInt
  · refine QT.ieq (fun h => by omega) (fun _ => QT.grd (fun _ => QT.ret ?_))
    refine QT.bnd (Q := fun q => q.1 = σ.1 49 p0.toNatClampNeg) ?_ (fun q hq => QT.ret ?_)
    · refine QT.ilt (fun h => by omega) (fun _ => ?_)
      refine QT.ile (fun h => by rw [h1] at h; omega) (fun _ => ?_)
      refine QT.ile (fun h => by omega) (fun _ => QT.grd (fun _ => QT.ret rfl))
    · show q.1 = u.1 55 p0.toNatClampNeg
      have n0 := nN_ hin.1
      rw [hq, e55]
      exact h6 _ (by omega)
  · refine QT.ieq (fun _ => QT.ret ?_) (fun h => by omega)
    refine QT.bnd (Q := fun q => q.1 = -1) ?_ (fun q hq => QT.ret hq)
    refine QT.ilt (fun _ => QT.ret rfl) (fun _ => ?_)
    refine QT.ile (fun _ => QT.ret rfl) (fun h => ?_)
    rw [h1] at h
    exact QT.ile (fun _ => QT.ret rfl) (fun h => by omega)
/-! plans: both keep their messages, or forget them -/
theorem OK.eqn {α : Type} {o : Option α} {P : α → Prop} (h : OK o P) : OK o (fun q => P q ∧ o = some q) := by
  obtain ⟨q, e, hq⟩ := h
  exact ⟨q, e, hq, e⟩
/-- no message, no pair kept, nothing shown -/
def CLD (y : ST) : Prop := (∀ i, i < 4 → y.1 32 i = -1) ∧ y.1 0 73 = 0 ∧ y.1 0 92 = 0 ∧ y.1 0 93 = 0 ∧ y.1 0 94 = 0
theorem q_plans80 : ∀ (n k : Nat) (x3 : Int32) (σ : ST), x3.toInt = k → (∀ i, i < k → σ.1 32 i = -1) → QT (f_X11_plans_80 n x3 σ) (fun y => CLD y.1.2) := by
  intro n
  have l1 := li_1
  have l4 := li_4
  induction n with
  | zero =>
    intro k x3 σ _ _
    rw [f_X11_plans_80]
    exact QT.none
  | succ n ih =>
    intro k x3 σ h3 hk
    rw [f_X11_plans_80]
    refine QT.ile (fun hle => QT.ret ⟨fun i hi => ?_, ?_, ?_, ?_, ?_⟩) (fun hlt => QT.grd (fun _ => ?_))
    · show (stI (stI (stI (stI (stI σ 0 73 0) 0 81 0) 0 92 0) 0 93 0) 0 94 0).1 32 i = -1
      rw [stI_ne (by omega), stI_ne (by omega), stI_ne (by omega), stI_ne (by omega), stI_ne (by omega)]
      exact hk i (by omega)
    · show (stI (stI (stI (stI (stI σ 0 73 0) 0 81 0) 0 92 0) 0 93 0) 0 94 0).1 0 73 = 0
      rw [stI_at, upN (by omega), stI_at, upN (by omega), stI_at, upN (by omega), stI_at, upN (by omega), stI_at, upA rfl]
    · show (stI (stI (stI (stI (stI σ 0 73 0) 0 81 0) 0 92 0) 0 93 0) 0 94 0).1 0 92 = 0
      rw [stI_at, upN (by omega), stI_at, upN (by omega), stI_at, upA rfl]
    · show (stI (stI (stI (stI (stI σ 0 73 0) 0 81 0) 0 92 0) 0 93 0) 0 94 0).1 0 93 = 0
      rw [stI_at, upN (by omega), stI_at, upA rfl]
    · show (stI (stI (stI (stI (stI σ 0 73 0) 0 81 0) 0 92 0) 0 93 0) 0 94 0).1 0 94 = 0
      rw [stI_at, upA rfl]
    · have ea := il_addE (x := x3) (y := 1) (by omega) (by omega)
      have n3 : x3.toNatClampNeg = k := nC h3
      rw [n3]
      refine ih (k + 1) (x3 + 1) _ (by omega) (fun i hi => ?_)
      rw [stI_at]
      by_cases e : i = k
      · rw [upA e]
      · rw [upN e]
        exact hk i (by omega)
theorem q_plans62 (b : ST) : QT (f_X11_plans_62 1 b) (fun y => CLD y.1.2) := by
  unfold f_X11_plans_62
  refine QT.ite (fun h => absurd h one_ne) (fun _ => ?_)
  exact QT.bnd (Q := fun _ => True) (fun _ _ => trivial) (fun q _ => q_plans80 FU 0 0 q li_0 (fun i hi => by omega))
theorem ab_plans_loop2 (τ0 : ST) (hI : IB τ0) : ∀ (g k t : Nat) (σ0 τ : ST) (A : Option (Int32 × ST)) (v : Int32) (b : ST) (x : Nat), 8 < g + k → k ≤ 6 → FV 6 400 36 τ0 τ → (∀ p, p < k → PLD p t τ) → (∀ p, p < k → FPA p t σ0 τ) → M4 t τ → (τ.1 0 33).toInt = k → 400 ≤ t → PLO (k + 1) t k σ0 τ A ((v, b), x) → (v.toInt = 1 → k < 6 ∧ x + 40 * uT b ≤ 40 * uT τ) → KYB τ0 b → OK (f_X11_plans_43 g v b) (fun y => OK A (fun qa => (qa.1.toInt = 0 ∧ KYB τ0 y.1.2) ∨ (qa.1.toInt = 1 ∧ CLD y.1.2))) := by
  intro g
  have l0 := li_0
  have l1 := li_1
  induction g with
  | zero => intro k t σ0 τ A v b x h1 h2; omega
  | succ g ih =>
    intro k t σ0 τ A v b x hg hk hF hD hE0 hM h33 ht hO hc hY
    obtain ⟨zF, hz⟩ := hO
    dsimp only at zF hz
    have zF0 : FV 6 400 36 τ0 b := hF.trans zF (by omega) ht (by omega)
    rw [f_X11_plans_43]
    rcases hz with ⟨z1, z2, z3⟩ | ⟨z1, ⟨t1, ⟨ht1, ht2⟩, hPk, h34, hMr, hE⟩, z33, z4⟩
    · refine OK.ieq (fun _ => ?_) (fun h => by omega)
      unfold f_X11_plans_62
      refine OK.ieq (fun _ => ?_) (fun h => by omega)
      exact OK.ret (z2.mono (fun qa h => .inl ⟨h, hY⟩))
    · obtain ⟨hk6, hc⟩ := hc z1
      refine OK.ieq (fun h => by omega) (fun _ => ?_)
      have e33 := il_addE (x := τ.1 0 33) (y := 1) (by omega) (by omega)
      have hz33 : (b.1 0 33).toInt = ((k + 1 : Nat) : Int) := by rw [z33]; omega
      have hD1 : ∀ p, p < k + 1 → PLD p t1 b := fun p hp => by
        by_cases e : p = k
        · rw [e]
          exact hPk
        · exact (hD p (by omega)).fv zF (Nat.le_refl _) ht1 (by omega) (by omega)
      have hM1 : M4 t1 b := fun q hq1 hq2 => by
        by_cases e : q < t
        · rw [(zF.2.2.1 q e).2.2]
          exact hM q hq1 e
        · exact hMr q (by omega) hq2
      rcases hE with ⟨h0, hA⟩ | ⟨n, xk, x2, σ, hW, eA, hX, hxk, hcA, hat, hx2, hn, hP0, hQ0⟩
      · refine OK.ieq (fun _ => ?_) (fun h => by omega)
        have ez : v = 1 := Int32.toInt_inj.mp (by omega)
        rw [ez]
        refine (b_plans_62 b (k + 1) t1 (hI.fv zF0) (by omega) hz33 h34 (by omega) hD1 hM1).eqn.mono (fun y hy => ?_)
        exact hA.mono (fun qa h => .inr ⟨h.1, q_plans62 b y hy.2⟩)
      · have w1 := hW.1
        refine OK.ieq (fun h => by omega) (fun _ => ?_)
        have hpl := ab_plan (k + 1) t1 n xk x2 σ b hX hW (by omega) hz33 h34 (by omega) (by omega) hat (by omega) (by omega) hn
        rw [← eA] at hpl
        have hE1 : ∀ p, p < k + 1 → FPA p t1 σ b := fun p hp => by
          by_cases e : p = k
          · rw [e]
            exact hQ0
          · exact (hE0 p (by omega)).keep (by omega) hP0 zF (Nat.le_refl _) ht1 (by omega)
        refine OK.bnd hpl.eqn (fun z' hz' => ?_)
        obtain ⟨⟨v', b'⟩, x'⟩ := z'
        obtain ⟨⟨p1, p2⟩, ez'⟩ := hz'
        refine OK.kac ?_
        exact ih (k + 1) t1 σ b A v' b' x' (by omega) (by omega) zF0 hD1 hE1 hM1 hz33 (by omega) p1 p2 (wy_X11_plan hY _ ez')
theorem ab_plans2 (p0 : Int32) (σ τ : ST) (h1 : σ.1 1 = τ.1 1) (hT8 : ∀ i, bI (τ.1 1 i) (-128) 127) (hkw : σ.2.1 3 = kw0) (hI : IB τ) (hp : 0 ≤ p0.toInt ∧ p0.toInt ≤ 1000) (s1 : ST) (e1 : f_X6_begin p0 σ = some s1) (r : Int32) (s2 : ST) (e2 : f_X3_parse s1 = some (r, s2)) : OK ((f_X11_begins p0 τ).bind fun q3 => (f_X11_plan (stI (stI q3 0 33 0) 0 34 400)).bind fun q5 => ac q5.2 (f_X11_plans_43 FU q5.1.1 q5.1.2)) (fun y => (r.toInt = 0 ∧ KYB τ y.1.2) ∨ (¬ r.toInt = 0 ∧ CLD y.1.2)) := by
  have l0 := li_0
  have l1 := li_1
  have lm := li_m1
  have lu := FUi
  refine OK.bnd (b_begins p0 τ hp).eqn (fun t ht => ?_)
  obtain ⟨⟨ct, tx, tu, t2, t3, t12, s, hsk, hTB⟩, et⟩ := ht
  have hYt : KYB τ (stI (stI t 0 33 0) 0 34 400) := ((wy_X11_begins KYB.rf t et).i (by omega)).i (by omega)
  -- the class at its first token
  have cI : IB t := hI.ch ct (by decide) (by decide)
  have g9 : (stI (stI t 0 33 0) 0 34 400).1 0 = upd (upd (t.1 0) 33 0) 34 400 := rfl
  have g0 : ∀ i, i ∉ [33, 34] → (stI (stI t 0 33 0) 0 34 400).1 0 i = t.1 0 i := fun i hi => by
    simp only [List.mem_cons, List.not_mem_nil, or_false, not_or] at hi
    rw [g9, upd_no hi.2, upd_no hi.1]
  have g33 : (stI (stI t 0 33 0) 0 34 400).1 0 33 = 0 := by rw [g9, upd_no (by decide), upd_at]
  have g34 : (stI (stI t 0 33 0) 0 34 400).1 0 34 = 400 := by rw [g9, upd_at]
  have g1 : ∀ c, c ≠ 0 → (stI (stI t 0 33 0) 0 34 400).1 c = t.1 c := fun c hc => by rw [stI_ne hc, stI_ne hc]
  have g2 : (stI (stI t 0 33 0) 0 34 400).2.1 = t.2.1 := rfl
  have gC : CH [] [33, 34] t (stI (stI t 0 33 0) 0 34 400) := (CH.rf.o (by decide)).o (by decide)
  clear g9
  generalize stI (stI t 0 33 0) 0 34 400 = b at g0 g33 g34 g1 g2 gC hYt ⊢
  have bI_ : IB b := cI.ch gC (by decide) (by decide)
  have ub : uT b = uT t := uT_eq (g0 3 (by decide)) (g0 5 (by decide)) (g0 6 (by decide))
  unfold f_X6_begin at e1
  have a9 : (stI (stI (stI (stI σ 2 2 p0) 2 3 0) 2 12 0) 2 13 0).1 2 = upd (upd (upd (upd (σ.1 2) 2 p0) 3 0) 12 0) 13 0 := rfl
  have a1 : ∀ c, c ≠ 2 → (stI (stI (stI (stI σ 2 2 p0) 2 3 0) 2 12 0) 2 13 0).1 c = σ.1 c := fun c hc => by rw [stI_ne hc, stI_ne hc, stI_ne hc, stI_ne hc]
  have a2 : (stI (stI (stI (stI σ 2 2 p0) 2 3 0) 2 12 0) 2 13 0).1 2 2 = p0 := by rw [a9, upd_no (by decide), upd_no (by decide), upd_no (by decide), upd_at]
  have a3 : (stI (stI (stI (stI σ 2 2 p0) 2 3 0) 2 12 0) 2 13 0).1 2 3 = 0 := by rw [a9, upd_no (by decide), upd_no (by decide), upd_at]
  have aL : (stI (stI (stI (stI σ 2 2 p0) 2 3 0) 2 12 0) 2 13 0).2.1 = σ.2.1 := rfl
  clear a9
  generalize stI (stI (stI (stI σ 2 2 p0) 2 3 0) 2 12 0) 2 13 0 = u at a1 a2 a3 aL e1
  obtain ⟨u9, eu, ca, s', hs', hTA⟩ := a_advance u 0 (by rw [a1 1 (by decide), h1]; exact hT8) (by rw [a2]; exact hp) (by rw [a3]; exact l0) (by omega)
  rw [eu, sbnd] at e1
  cases e1
  rw [a1 1 (by decide), a2, h1] at hs' hTA
  have es : s' = s := hs'.uniq hsk
  subst es
  have t1 : t.1 1 = τ.1 1 := ct.1 1 (by decide) (by decide)
  have hkw9 : s1.2.1 3 = kw0 := by rw [ca.2.2.1 3 (by decide), aL]; exact hkw
  have hK : TK s1 t := TK.mk hT8 hkw9 t1 (by rw [t3]) hTA hTB
  have hX : LX s1 t := by
    refine ⟨⟨?_, ?_, ?_, hkw9⟩, ?_, hK, 0, s', by omega, ?_, ?_⟩
    · rw [ca.1 1 (by decide), a1 1 (by decide), h1, t1]
    · rw [ca.2.1, a2, t3]
    · rw [t1]
      exact hT8
    · rw [t3]
      exact hp
    · rw [t1, t3]
      exact hsk
    · rw [t1, t3]
      exact hTB
  -- the class's draft is emptied
  unfold f_X3_parse f_X5_clear at e2
  rw [sbnd] at e2
  have c1 : ∀ c, c ≠ 20 → (stI (stI s1 20 0 0) 20 1 0).1 c = s1.1 c := fun c hc => by rw [stI_ne hc, stI_ne hc]
  have c20 : (stI (stI s1 20 0 0) 20 1 0).1 20 1 = 0 := by
    have e9 : (stI (stI s1 20 0 0) 20 1 0).1 20 = upd (upd (s1.1 20) 0 0) 1 0 := rfl
    rw [e9, upd_at]
  have cL : (stI (stI s1 20 0 0) 20 1 0).2.1 = s1.2.1 := rfl
  generalize stI (stI s1 20 0 0) 20 1 0 = a at c1 c20 cL e2
  have hXa : LX a b := hX.ext (c1 1 (by decide)) (c1 2 (by decide)) (by rw [cL]) (by rw [cL]) (g1 1 (by decide)) (fun i hi => g0 i (fun h9 => by
    simp only [List.mem_cons, List.not_mem_nil, or_false] at h9 hi
    omega)) (by rw [g2])
  have htop := a_parse_top a b hXa.2.2.1 (by rw [c20]; exact l0)
  have bc : ∀ c, c ≠ 0 → b.1 c = τ.1 c := fun c hc => (g1 c hc).trans (ct.1 c hc (by simp))
  have b1 : b.1 1 = τ.1 1 := (g1 1 (by decide)).trans t1
  have tL5 := ct.l5
  have bKR : KR τ b := KR.eq (fun c hc => bc c (fun e => by rw [e] at hc; revert hc; decide)) (fun c hc => by
    rw [g2]
    simp only [List.mem_cons, List.not_mem_nil, or_false] at hc
    rcases hc with e | e | e | e | e
    · rw [e]; exact tL5.1
    · rw [e]; exact tL5.2.1
    · rw [e]; exact tL5.2.2.1
    · rw [e]; exact tL5.2.2.2.1
    · rw [e]; exact tL5.2.2.2.2)
  have b32 : b.1 0 32 = τ.1 0 32 := (g0 32 (by decide)).trans (ct.2.1 32 (by decide))
  have b2 : b.1 0 2 = 0 := (g0 2 (by decide)).trans t2
  by_cases hW : W_ b v_plan
  · have eA := htop.1 hW
    have hat : (0 : Int) ≤ (b.1 0 4).toInt := by
      rw [g0 4 (by decide), hTB.1]
      omega
    refine OK.bnd (OK.eqn (ab_plan 0 400 99999 (-1) 0 a b hXa hW (by omega) (by rw [g33]; exact l0) (by rw [g34]; exact li_400) (by omega) (by rw [c20, l0]; rfl) (by omega) (by rw [lm]; rfl) (by omega) (by omega))) (fun z hz => ?_)
    obtain ⟨⟨zv, zs⟩, zx⟩ := z
    obtain ⟨hz, ez⟩ := hz
    refine OK.kac ?_
    refine (ab_plans_loop2 b bI_ FU 0 400 a b _ zv zs zx (by omega) (by omega) FV.rf (fun p hp => by omega) (fun p hp => by omega) (fun q h1 h2 => by omega) (by rw [g33]; exact l0) (by omega) hz.1 hz.2 (wy_X11_plan KYB.rf _ ez)).mono (fun y hy => ?_)
    obtain ⟨qa, ea, y4⟩ := hy
    rw [← eA, e2] at ea
    cases ea
    rcases y4 with ⟨q1, q2⟩ | ⟨q1, q2⟩
    · exact .inl ⟨q1, hYt.trans q2⟩
    · have q1 : r.toInt = 1 := q1
      exact .inr ⟨by omega, q2⟩
  · obtain ⟨qa, ea, hq⟩ := htop.2 hW
    rw [e2] at ea
    cases ea
    refine OK.bnd (Q := fun q => (q.1.1.toInt = 0 ∧ CH [] [12] b q.1.2 ∧ q.2 ≤ 1) ∧ f_X11_plan b = some q) ?_ (fun z hz => ?_)
    · refine OK.eqn ?_
      unfold f_X11_plan
      refine OK.bndK (b_isPlan b) (fun v x hv hx => ?_)
      refine OK.kac ?_
      dsimp only
      have hv0 : v.toInt = 0 := by
        rcases hv with hv | hv
        · exact hv.1
        · exact absurd hv.2 hW
      refine OK.ieq (fun _ => ?_) (fun h => by omega)
      refine OK.bndC (b_wrongHere 1 b) (fun v2 s9 c2 hv2 => ?_)
      refine OK.grd (b01 (.inl hv2)) ?_
      exact OK.ret ⟨hv2, c2, by show x + 0 ≤ 1; omega⟩
    · obtain ⟨⟨zv, zs⟩, zx⟩ := z
      obtain ⟨⟨z1, z2, z3⟩, ez⟩ := hz
      dsimp only at z1 z2 z3
      refine OK.kac ?_
      have ef : FU = 99999 + 1 := rfl
      dsimp only
      rw [ef, f_X11_plans_43]
      refine OK.ieq (fun _ => ?_) (fun h => by omega)
      unfold f_X11_plans_62
      refine OK.ieq (fun _ => ?_) (fun h => by omega)
      have hz9 : KYB τ zs := wy_X11_plan hYt _ ez
      exact OK.ret (.inl ⟨hq, hz9⟩)
/-! what holds between two calls: the messages, the pairs kept, the heights -/
theorem k8_plans (p0 : Int32) (σ : ST) (q : Int32 × ST) (h : f_X10_plans p0 σ = some q) (hr : 0 ≤ p0.toInt ∧ p0.toInt ≤ (σ.1 0 1).toInt) (s1 : ST) (r : Int32) (s2 : ST) (e1 : f_X6_begin p0 (stI σ 0 1 0) = some s1) (e2 : f_X3_parse s1 = some (r, s2)) : (r.toInt = 0 → KYA σ q.2) ∧ (¬ r.toInt = 0 → (∀ i, i < 4 → q.2.1 40 i = -1) ∧ (q.2.1 48 1 = 0 ∧ q.2.1 48 2 = 0 ∧ q.2.1 48 3 = 0) ∧ q.2.1 50 1 = 0) := by
  have l0 := li_0
  have k7 := k7_plans p0 σ q h hr s1 r s2 e1 e2
  unfold f_X10_plans at h
  rw [if_neg (by rw [Int32.lt_iff_toInt_lt]; omega), if_pos (by rw [Int32.le_iff_toInt_le]; omega), e1, sbnd, e2, sbnd] at h
  dsimp only at h
  refine ⟨fun r0 => ?_, fun r1 => ?_⟩
  · rw [if_pos (Int32.toInt_inj.mp (r0.trans l0.symm))] at h
    obtain ⟨x, ex, h⟩ := bnd_some h
    cases h
    have k1 : KYA σ s1 := wy_X6_begin (KYA.i (by omega) KYA.rf) s1 e1
    have k2 : KYA σ s2 := wy_X3_parse k1 (r, s2) e2
    exact wy_X6_faultAnswer k2 x ex
  · have hc := k7.2 r1
    rw [if_neg (fun e => r1 (by rw [e]; exact l0))] at h
    obtain ⟨c, ec, h⟩ := bnd_some h
    obtain ⟨d, ed, h⟩ := bnd_some h
    obtain ⟨x1, e3, h⟩ := bnd_some h
    obtain ⟨x2, e4, h⟩ := bnd_some h
    obtain ⟨x3, e5, h⟩ := bnd_some h
    obtain ⟨x4, e6, h⟩ := bnd_some h
    cases h
    unfold f_X9_clear at e5
    cases e5
    unfold f_X7_clear at e6
    cases e6
    refine ⟨hc.2.2.2, ⟨?_, ?_, ?_⟩, ?_⟩
    · show (stI (stI (stI (stI x2 48 1 0) 48 2 0) 48 3 0) 50 1 0).1 48 1 = 0
      rw [stI_ne (by omega), stI_at, upN (by omega), stI_at, upN (by omega), stI_at, upA rfl]
    · show (stI (stI (stI (stI x2 48 1 0) 48 2 0) 48 3 0) 50 1 0).1 48 2 = 0
      rw [stI_ne (by omega), stI_at, upN (by omega), stI_at, upA rfl]
    · show (stI (stI (stI (stI x2 48 1 0) 48 2 0) 48 3 0) 50 1 0).1 48 3 = 0
      rw [stI_ne (by omega), stI_at, upA rfl]
    · show (stI (stI (stI (stI x2 48 1 0) 48 2 0) 48 3 0) 50 1 0).1 50 1 = 0
      rw [stI_at, upA rfl]
/-- behind plans -/
def PLQ (σ τ s w : ST) : Prop := (KYA σ s ∧ KYB τ w) ∨ (((∀ i, i < 4 → s.1 40 i = -1) ∧ (s.1 48 1 = 0 ∧ s.1 48 2 = 0 ∧ s.1 48 3 = 0) ∧ s.1 50 1 = 0) ∧ CLD w)
theorem ab_plansQ {n κ : Nat} {σ τ : ST} (h : Inv n σ τ κ) (p0 : Int32) (qa : Int32 × ST) (ea : f_X10_plans p0 σ = some qa) : QT (f_X11_plans p0 τ) (fun qb => PLQ σ τ qa.2 qb.1.2) := by
  obtain ⟨_, hA, hB, hF, h32, hk, hT, hc⟩ := h
  have ht := hA.tape
  unfold bI at ht
  have e2 : (τ.1 0 2).toInt = (σ.1 0 1).toInt := by rw [hF.1]
  have l0 := l64_0
  have i0 := i64 p0
  have l0' := li_0
  obtain ⟨qa', ea', q1, ⟨q2, q3⟩, q4⟩ := k_X10_plans p0 σ hA
  have eq : qa' = qa := Option.some.inj (ea'.symm.trans ea)
  subst eq
  have hs := hB.th 0
  have s1 : (stI τ 0 0 0).1 1 = τ.1 1 := rfl
  have s2 : (stI τ 0 0 0).1 0 2 = τ.1 0 2 := rfl
  have hY : KYB τ (stI τ 0 0 0) := KYB.rf.i (by omega)
  unfold f_X11_plans
  generalize stI τ 0 0 0 = s at hs s1 s2 hY
  have i2 := i64 (s.1 0 2)
  have e2' : (s.1 0 2).toInt = (σ.1 0 1).toInt := by rw [s2]; exact e2
  refine QT.bndR (b_within _ _ _ _) (fun v hv => ?_)
  dsimp only
  rcases q4 with ⟨c, q4⟩ | ⟨c, q01, t1, r, t2, e1, e3, q5, q6⟩
  · refine QT.ieq (fun _ => QT.ret (.inl ⟨by rw [q4]; exact KYA.rf, hY⟩)) (fun h => by omega)
  · refine QT.ieq (fun h => by omega) (fun _ => ?_)
    have hb := ab_plans2 p0 (stI σ 0 1 0) s (by rw [s1]; exact hF.2) (by rw [s1, ← hF.2]; exact hT) hk hs ⟨c.1, by omega⟩ t1 e1 r t2 e3
    have k8 := k8_plans p0 σ qa' ea c t1 r t2 e1 e3
    refine (QT.ok hb).mono (fun y hy => ?_)
    rcases hy with ⟨r0, hy⟩ | ⟨r0, hy⟩
    · exact .inl ⟨k8.1 r0, hY.trans hy⟩
    · exact .inr ⟨k8.2 r0, hy⟩
def Inv8 (n : Nat) (σ τ : ST) (κ : Nat) : Prop := Inv7 n σ τ κ ∧ EHY σ ∧ MSG σ τ ∧ KPR σ τ
theorem MSG.y {σ τ s t : ST} (h : MSG σ τ) (a : KYA σ s) (b : KYB τ t) : MSG s t := h.eq (a.1 38 (by omega)) (a.1 39 (by omega)) (a.1 40 (by omega)) (b.1 32 (by omega)) (b.1 33 (by omega)) (b.1 34 (by omega))
theorem KPR.y {σ τ s t : ST} (h : KPR σ τ) (a : KYA σ s) (b : KYB τ t) : KPR s t := h.eq (a.1 48 (by omega)) (a.1 49 (by omega)) (fun i i1 i2 => b.2.1 i (by omega)) (b.1 55 (by omega))
theorem KPR.z {σ τ s t : ST} (h : KPR σ τ) (a : KZA σ s) (b : KZB τ t) : KPR s t := h.eq (a.1 48 (by omega) (by omega)) (a.1 49 (by omega) (by omega)) (fun i i1 i2 => b.2.1 i (by omega)) (b.1 55 (by omega))
theorem msg_clr {s w : ST} (h : ∀ i, i < 4 → s.1 40 i = -1) (k : CLD w) : MSG s w := fun m hm => ⟨by rw [h m hm, k.1 m hm], fun h9 => absurd (by rw [k.1 m hm]; exact li_m1) h9⟩
theorem kpr_clr {s w : ST} (h : s.1 48 1 = 0 ∧ s.1 48 2 = 0 ∧ s.1 48 3 = 0) (k : CLD w) : KPR s w := by
  obtain ⟨_, _, k1, k2, k3⟩ := k
  have l0 := li_0
  unfold KPR
  rw [h.1, h.2.1, h.2.2, k1, k2, k3, l0]
  exact ⟨⟨rfl, by omega, by omega⟩, ⟨rfl, rfl⟩, fun i hi => by omega, fun i j _ hj => by omega⟩
/-- the part that is said of both answers' states -/
theorem inv8_st {n κ : Nat} {σ τ : ST} (h : Inv8 n σ τ κ) (j : Nat) (pr : Nat → Int32) (qa : Int32 × ST) (qb : (Int32 × ST) × Nat) (ea : fA j pr σ = some qa) (eb : fB j pr τ = some qb) (hIA : IA qa.2) : EHY qa.2 ∧ MSG qa.2 qb.1.2 ∧ KPR qa.2 qb.1.2 := by
  obtain ⟨⟨hI, hZ⟩, hX, hM, hK⟩ := h
  have hI' := hI
  obtain ⟨_, hA, hB, hF, h32, hk, hT, hc⟩ := hI'
  have hcap : (σ.1 50 0).toInt = 400 := hA.t50.1
  have hX' : EHY qa.2 := by
    by_cases h1 : j = 1
    · subst h1
      exact eh_plans (pr 1) σ qa ea hX hIA
    · exact hX.at (w_fA j h1 pr σ qa ea)
  refine ⟨hX', ?_⟩
  have two : ∀ {o : Option (Int32 × ST)}, (o.bind fun q => some ((q.1, q.2), 0)) = some qb → ∃ x, o = some x ∧ qb.1 = x := fun e => by
    obtain ⟨x, ex, e2⟩ := bnd_some e
    cases e2
    exact ⟨x, ex, rfl⟩
  by_cases h1 : j = 1
  · subst h1
    rcases ab_plansQ hI (pr 1) qa ea qb eb with ⟨a, b⟩ | ⟨⟨a1, a2, _⟩, b⟩
    · exact ⟨hM.y a b, hK.y a b⟩
    · exact ⟨msg_clr a1 b, kpr_clr a2 b⟩
  by_cases h2 : j = 2
  · subst h2
    have a : KZA σ qa.2 := wkz_X10_write KZA.rf qa ea
    have b : KZB τ qb.1.2 := wkz_X11_write KZB.rf qb eb
    exact ⟨ab_write (pr 1) (pr 2) (pr 3) σ τ hA hB hF h32 hk hT hZ.2.1.1 hM qa ea qb eb, hK.z a b⟩
  by_cases h7 : j = 7
  · subst h7
    obtain ⟨x, ex, e2⟩ := two eb
    have a : KZA σ qa.2 := wkz_X10_spoil KZA.rf qa ea
    have b : KZB τ x.2 := wkz_X11_spoil KZB.rf x ex
    rw [e2]
    exact ⟨(ab_spoil (pr 1) (pr 2) (pr 3) hZ hM qa ea x ex).2, hK.z a b⟩
  by_cases h8 : j = 8
  · subst h8
    obtain ⟨x, ex, e2⟩ := two eb
    have a : KZA σ qa.2 := wkz_X10_cut KZA.rf qa ea
    have b : KZB τ x.2 := wkz_X11_cut KZB.rf x ex
    rw [e2]
    exact ⟨(ab_cut (pr 1) (pr 2) hZ hM qa ea x ex).2, hK.z a b⟩
  by_cases h13 : j = 13
  · subst h13
    obtain ⟨x, ex, e2⟩ := two eb
    rw [e2]
    exact (ab_read (pr 1) (pr 2) hZ hX hM hK hcap h32 qa ea x ex).1
  by_cases h19 : j = 19
  · subst h19
    obtain ⟨x, ex, e2⟩ := two eb
    rw [e2]
    exact (ab_convert (pr 1) (pr 2) (pr 3) hZ hX hM hK hcap h32 qa ea x ex).2.1
  have hn : j ≠ 1 ∧ j ≠ 2 ∧ j ≠ 7 ∧ j ≠ 8 ∧ j ≠ 13 ∧ j ≠ 19 := ⟨h1, h2, h7, h8, h13, h19⟩
  have a : KYA σ qa.2 := wy_fA j hn pr σ qa ea
  have b : KYB τ qb.1.2 := wy_fB j hn pr τ qb eb
  exact ⟨hM.y a b, hK.y a b⟩
theorem inv8_call (n : Nat) (σ τ : ST) (κ : Nat) (h : Inv8 n σ τ κ) (hn : n < 512) (j : Nat) (pr : Nat → Int32) : ∃ (qa : Int32 × ST) (qb : (Int32 × ST) × Nat), fA j pr σ = some qa ∧ fB j pr τ = some qb ∧ Inv8 (n + 1) qa.2 qb.1.2 (κ + qb.2) := by
  obtain ⟨qa, qb, ea, eb, e1⟩ := inv7_call n σ τ κ h.1 hn j pr
  exact ⟨qa, qb, ea, eb, e1, inv8_st h j pr qa qb ea eb e1.1.2.1⟩
theorem inv8_room (n : Nat) (σ τ : ST) (κ : Nat) (h : Inv8 n σ τ κ) : κ ≤ 500000 := inv7_room n σ τ κ h.1
theorem inv8_0 : Inv8 0 s0A s0B 0 := by
  have l0 := li_0
  refine ⟨inv7_0, ?_, ?_, ?_⟩
  · exact .inl l0
  · have e40 : ∀ i, i < 4 → s0A.1 40 i = -1 := clr_0.2.2.2
    have e32 : ∀ i, i < 4 → s0B.1 32 i = -1 := by decide
    exact fun m hm => ⟨by rw [e40 m hm, e32 m hm], fun h9 => absurd (by rw [e32 m hm]; exact li_m1) h9⟩
  · have a1 : s0A.1 48 1 = 0 := rfl
    have a2 : s0A.1 48 2 = 0 := rfl
    have a3 : s0A.1 48 3 = 0 := rfl
    have b1 : s0B.1 0 92 = 0 := rfl
    have b2 : s0B.1 0 93 = 0 := rfl
    have b3 : s0B.1 0 94 = 0 := rfl
    unfold KPR
    rw [a1, a2, a3, b1, b2, b3, l0]
    exact ⟨⟨rfl, by omega, by omega⟩, ⟨rfl, rfl⟩, fun i hi => by omega, fun i j _ hj => by omega⟩
/-! message, spoil, cut, convert, kept are told alike -/
theorem inv8_message (n : Nat) (σ τ : ST) (κ : Nat) (h : Inv8 n σ τ κ) (hn : n < 512) (j : Nat) (pr : Nat → Int32) (hj : j < 32) : ∃ (qa : Int32 × ST) (qb : (Int32 × ST) × Nat), fA j pr σ = some qa ∧ fB j pr τ = some qb ∧ (j = 5 → qa.1 = qb.1.1) ∧ Inv8 (n + 1) qa.2 qb.1.2 (κ + qb.2) := by
  obtain ⟨qa, qb, ea, eb, e1⟩ := inv8_call n σ τ κ h hn j pr
  refine ⟨qa, qb, ea, eb, fun h3 => ?_, e1⟩
  subst h3
  have eb : ((f_X11_message (pr 1) (pr 2) τ).bind fun q => some ((q.1, q.2), 0)) = some qb := eb
  obtain ⟨x, ex, e2⟩ := bnd_some eb
  cases e2
  exact ab_message (pr 1) (pr 2) h.1.2 h.2.2.1 qa ea x ex
theorem inv8_spoil (n : Nat) (σ τ : ST) (κ : Nat) (h : Inv8 n σ τ κ) (hn : n < 512) (j : Nat) (pr : Nat → Int32) (hj : j < 32) : ∃ (qa : Int32 × ST) (qb : (Int32 × ST) × Nat), fA j pr σ = some qa ∧ fB j pr τ = some qb ∧ (j = 7 → qa.1 = qb.1.1) ∧ Inv8 (n + 1) qa.2 qb.1.2 (κ + qb.2) := by
  obtain ⟨qa, qb, ea, eb, e1⟩ := inv8_call n σ τ κ h hn j pr
  refine ⟨qa, qb, ea, eb, fun h3 => ?_, e1⟩
  subst h3
  have eb : ((f_X11_spoil (pr 1) (pr 2) (pr 3) τ).bind fun q => some ((q.1, q.2), 0)) = some qb := eb
  obtain ⟨x, ex, e2⟩ := bnd_some eb
  cases e2
  exact (ab_spoil (pr 1) (pr 2) (pr 3) h.1.2 h.2.2.1 qa ea x ex).1
theorem inv8_cut (n : Nat) (σ τ : ST) (κ : Nat) (h : Inv8 n σ τ κ) (hn : n < 512) (j : Nat) (pr : Nat → Int32) (hj : j < 32) : ∃ (qa : Int32 × ST) (qb : (Int32 × ST) × Nat), fA j pr σ = some qa ∧ fB j pr τ = some qb ∧ (j = 8 → qa.1 = qb.1.1) ∧ Inv8 (n + 1) qa.2 qb.1.2 (κ + qb.2) := by
  obtain ⟨qa, qb, ea, eb, e1⟩ := inv8_call n σ τ κ h hn j pr
  refine ⟨qa, qb, ea, eb, fun h3 => ?_, e1⟩
  subst h3
  have eb : ((f_X11_cut (pr 1) (pr 2) τ).bind fun q => some ((q.1, q.2), 0)) = some qb := eb
  obtain ⟨x, ex, e2⟩ := bnd_some eb
  cases e2
  exact (ab_cut (pr 1) (pr 2) h.1.2 h.2.2.1 qa ea x ex).1
theorem inv8_convert (n : Nat) (σ τ : ST) (κ : Nat) (h : Inv8 n σ τ κ) (hn : n < 512) (j : Nat) (pr : Nat → Int32) (hj : j < 32) : ∃ (qa : Int32 × ST) (qb : (Int32 × ST) × Nat), fA j pr σ = some qa ∧ fB j pr τ = some qb ∧ (j = 19 → qa.1 = qb.1.1) ∧ Inv8 (n + 1) qa.2 qb.1.2 (κ + qb.2) := by
  obtain ⟨qa, qb, ea, eb, e1⟩ := inv8_call n σ τ κ h hn j pr
  refine ⟨qa, qb, ea, eb, fun h3 => ?_, e1⟩
  subst h3
  have eb : ((f_X11_convert (pr 1) (pr 2) (pr 3) τ).bind fun q => some ((q.1, q.2), 0)) = some qb := eb
  obtain ⟨x, ex, e2⟩ := bnd_some eb
  cases e2
  exact (ab_convert (pr 1) (pr 2) (pr 3) h.1.2 h.2.1 h.2.2.1 h.2.2.2 h.1.1.2.1.t50.1 h.1.1.2.2.2.2.1 qa ea x ex).1
theorem inv8_kept (n : Nat) (σ τ : ST) (κ : Nat) (h : Inv8 n σ τ κ) (hn : n < 512) (j : Nat) (pr : Nat → Int32) (hj : j < 32) : ∃ (qa : Int32 × ST) (qb : (Int32 × ST) × Nat), fA j pr σ = some qa ∧ fB j pr τ = some qb ∧ (j = 21 → qa.1 = qb.1.1) ∧ Inv8 (n + 1) qa.2 qb.1.2 (κ + qb.2) := by
  obtain ⟨qa, qb, ea, eb, e1⟩ := inv8_call n σ τ κ h hn j pr
  refine ⟨qa, qb, ea, eb, fun h3 => ?_, e1⟩
  subst h3
  have eb : ((f_X11_kept (pr 1) τ).bind fun q => some ((q.1, q.2), 0)) = some qb := eb
  obtain ⟨x, ex, e2⟩ := bnd_some eb
  cases e2
  exact ab_kept (pr 1) h.2.2.2 qa ea x ex
/-! a tree's rows in the order in which they are told, both sides -/
/-- a row of both: what is told of it -/
def NDT (b : Nat) (σ τ : ST) (x v : Nat) : Prop := (σ.1 (b + 1) x = τ.1 20 v ∧ (0 ≤ (τ.1 20 v).toInt ∧ (τ.1 20 v).toInt ≤ 7)) ∧ (σ.1 (b + 4) x).toInt = (τ.1 23 v).toInt ∧ ((τ.1 20 v).toInt ≤ 5 → EWR (τ.1 20 v).toInt (σ.2.1 (b + 6) x) (τ.2.1 21 v) (τ.2.1 22 v) (τ.1 23 v)) ∧ (6 ≤ (τ.1 20 v).toInt → σ.2.1 (b + 6) x = τ.2.1 21 v ∧ τ.2.1 22 v = 0)
/-- a child of x and v -/
def KD2 (b : Nat) (σ τ : ST) (x v : Nat) (y : Nat × Nat) : Prop := ((σ.1 (b + 2) y.1).toInt = x ∧ (τ.1 24 y.2).toInt = v) ∧ (σ.1 (b + 3) y.1).toInt = (τ.1 25 y.2).toInt ∧ σ.1 (b + 5) y.1 = τ.1 27 y.2
/-- one behind the other -/
def FLT (P : Nat → Nat → Nat × Nat → Prop) : List (Nat × Nat) → Nat → Nat → Prop
  | [], i, e => i = e
  | y :: l, i, e => ∃ j, i < j ∧ P i j y ∧ FLT P l j e
/-- their places: one after the other -/
def PLC (τ : ST) : List (Nat × Nat) → Nat → Prop
  | [], _ => True
  | y :: l, k => (τ.1 25 y.2).toInt = k ∧ PLC τ l (k + 1)
/-- how many there are -/
def LEN (τ : ST) (v : Nat) (l : List (Nat × Nat)) : Prop := ((τ.1 20 v).toInt ≤ 5 → l.length = 0) ∧ (6 ≤ (τ.1 20 v).toInt → (τ.1 23 v).toInt = l.length) ∧ PLC τ l 0
/-- the rows of a subtree, from place N to e in LL: row (the class's, the reference's) and its parent's place -/
def PRZ (b : Nat) (σ τ : ST) (LL : Nat → Nat × Nat × Int) : Nat → Nat → Nat → Int → Nat → Nat → Prop
  | 0, _, _, _, _, _ => False
  | n + 1, N, e, pn, x, v => LL N = (x, v, pn) ∧ NDT b σ τ x v ∧ ∃ l : List (Nat × Nat), (CN (σ.1 (b + 9)) (σ.1 (b + 7) x) (l.map (fun y => y.1)) ∧ CN (τ.1 30) (τ.1 28 v) (l.map (fun y => y.2)) ∧ LEN τ v l) ∧ (∀ y, y ∈ l → KD2 b σ τ x v y) ∧ FLT (fun i j y => PRZ b σ τ LL n i j N y.1 y.2) l (N + 1) e
theorem FLT.le {P : Nat → Nat → Nat × Nat → Prop} : ∀ (l : List (Nat × Nat)) (i e : Nat), FLT P l i e → i ≤ e := by
  intro l
  induction l with
  | nil =>
    intro i e h
    have h : i = e := h
    omega
  | cons y l ih =>
    intro i e h
    obtain ⟨j, h1, _, h3⟩ := h
    have := ih j e h3
    omega
theorem FLT.mono {P Q : Nat → Nat → Nat × Nat → Prop} : ∀ (l : List (Nat × Nat)) (i e : Nat), FLT P l i e → (∀ j k y, i ≤ j → k ≤ e → y ∈ l → P j k y → Q j k y) → FLT Q l i e := by
  intro l
  induction l with
  | nil => intro i e h _; exact h
  | cons y l ih =>
    intro i e h k
    obtain ⟨j, h1, h2, h3⟩ := h
    have hle := FLT.le l j e h3
    exact ⟨j, h1, k i j y (Nat.le_refl _) hle List.mem_cons_self h2, ih j e h3 (fun a c z h4 h5 h6 h7 => k a c z (by omega) h5 (List.mem_cons_of_mem _ h6) h7)⟩
theorem PRZ.lt {b : Nat} {σ τ : ST} {LL : Nat → Nat × Nat × Int} {n N e : Nat} {pn : Int} {x v : Nat} (h : PRZ b σ τ LL n N e pn x v) : N < e := by
  cases n with
  | zero => exact h.elim
  | succ n =>
    obtain ⟨_, _, l, _, _, h4⟩ := h
    have := FLT.le l (N + 1) e h4
    omega
theorem PRZ.ext {b : Nat} {σ τ : ST} {f g : Nat → Nat × Nat × Int} : ∀ (n N e : Nat) (pn : Int) (x v : Nat), PRZ b σ τ f n N e pn x v → (∀ k, N ≤ k → k < e → g k = f k) → PRZ b σ τ g n N e pn x v := by
  intro n
  induction n with
  | zero => intro N e pn x v h; exact h.elim
  | succ n ih =>
    intro N e pn x v h hg
    have hlt := h.lt
    obtain ⟨h1, h2, l, h3, h4, h5⟩ := h
    refine ⟨by rw [hg N (Nat.le_refl _) hlt]; exact h1, h2, l, h3, h4, h5.mono l _ _ (fun j k y hj hk _ hP => ih j k N y.1 y.2 hP (fun i h6 h7 => hg i (by omega) (by omega)))⟩
/-- of a value that was read: its row, its children -/
theorem VAL.kids {b p n : Nat} {S T σ τ : ST} {tA tB : Int32} {A B : Nat × Nat} (h : VAL True b p S T σ τ (n + 1) tA tB A B) : (A.1 < A.2 ∧ B.1 < B.2) ∧ NDT b σ τ A.1 B.1 ∧ ∃ l : List EN, (CN (σ.1 (b + 9)) (σ.1 (b + 7) A.1) (rA l) ∧ CN (τ.1 30) (τ.1 28 B.1) (rB l)) ∧ (l.Pairwise SEPE ∧ ((τ.1 20 B.1).toInt ≤ 5 → l.length = 0) ∧ (6 ≤ (τ.1 20 B.1).toInt → (τ.1 23 B.1).toInt = l.length) ∧ l.map (fun y => y.1) = List.range l.length) ∧ A.1 + 1 + spA l = A.2 ∧ ∀ y, y ∈ l → (B.1 < y.2.2.1 ∧ y.2.2.2 ≤ B.2) ∧ (A.1 < y.2.1.1 ∧ y.2.1.2 ≤ A.2) ∧ inA y = true ∧ KID b σ τ A.1 B.1 y ∧ ∃ uA uB : Int32, VAL True b p S T σ τ n uA uB y.2.1 y.2.2 := by
  obtain ⟨⟨hA0, hB0⟩, uA, uB, h1, ⟨⟨h2, h3⟩, h4⟩, h5, h6, h7, h8⟩ := h
  refine ⟨⟨hA0, hB0⟩, ?_⟩
  by_cases s5 : (τ.1 20 B.1).toInt ≤ 5
  · obtain ⟨⟨⟨a1, a2⟩, a3, a4⟩, a5⟩ := h5 s5
    refine ⟨⟨⟨h3, h4⟩, a4, fun _ => a3, fun h => by omega⟩, [], ⟨a1, a2⟩, ⟨List.Pairwise.nil, fun _ => rfl, fun h => by omega, rfl⟩, ?_, fun y hy => (by cases hy)⟩
    show A.1 + 1 + 0 = A.2
    omega
  · have w := h6 (by omega)
    by_cases s6 : (τ.1 20 B.1).toInt = 6
    · obtain ⟨l, l1, l2, l3, ⟨⟨k1, _⟩, k3, _⟩, ⟨k5, _⟩, ⟨k7, k8⟩, k9⟩ := h7 s6
      refine ⟨⟨⟨h3, h4⟩, l3.trans k7.symm, fun h => absurd h s5, fun _ => w⟩, l, ⟨k1, k3⟩, ⟨k5, fun h => absurd h s5, fun _ => k7, l1⟩, k8.2, fun y hy => ?_⟩
      obtain ⟨m1, m2, ⟨m3, m4⟩, m5⟩ := k9 y hy
      exact ⟨⟨m1.1, m1.2.2⟩, m2.1 m3, m3, m4, _, _, m5⟩
    · obtain ⟨R, m, l, _, l2, l3, ⟨⟨k1, _⟩, k3, _⟩, ⟨k5, _⟩, ⟨k7, k8⟩, k9⟩ := h8 (by omega)
      obtain ⟨l4, l5⟩ := l3 trivial
      have hlen : l.length = m := by
        have := congrArg List.length l2
        rw [List.length_map, List.length_range] at this
        exact this
      refine ⟨⟨⟨h3, h4⟩, by rw [l4, k7, hlen], fun h => absurd h s5, fun _ => w⟩, l, ⟨k1, k3⟩, ⟨k5, fun h => absurd h s5, fun _ => k7, by rw [hlen]; exact l2⟩, k8.2, fun y hy => ?_⟩
      obtain ⟨m1, m2, m3⟩ := k9 y hy
      have hin := l5 y hy
      rcases m3 with ⟨⟨_, m4⟩, m5⟩ | ⟨m3, _⟩
      · exact ⟨⟨m1.1, m1.2.2⟩, m2.1 hin, hin, m4, _, _, m5⟩
      · rw [hin] at m3
        cases m3
theorem rA_all : ∀ {l : List EN}, (∀ y, y ∈ l → inA y = true) → rA l = (l.map (fun y => (y.2.1.1, y.2.2.1))).map (fun y => y.1) := by
  intro l
  induction l with
  | nil => intro _; rfl
  | cons y l ih =>
    intro h
    have e : rA (y :: l) = y.2.1.1 :: rA l := by
      unfold rA
      rw [List.filter_cons_of_pos (h y List.mem_cons_self), List.map_cons]
    rw [e, ih (fun z hz => h z (List.mem_cons_of_mem _ hz))]
    rfl
theorem rB_all {l : List EN} : rB l = (l.map (fun y => (y.2.1.1, y.2.2.1))).map (fun y => y.2) := by
  induction l with
  | nil => rfl
  | cons y l ih =>
    show y.2.2.1 :: rB l = _
    rw [ih]
    rfl
theorem plc_of {τ : ST} : ∀ (l : List EN) (k : Nat), (∀ y, y ∈ l → (τ.1 25 y.2.2.1).toInt = y.1) → l.map (fun y => y.1) = List.range' k l.length → PLC τ (l.map (fun y => (y.2.1.1, y.2.2.1))) k := by
  intro l
  induction l with
  | nil => intro k _ _; exact trivial
  | cons y l ih =>
    intro k hp hr
    rw [List.length_cons, List.range'_succ, List.map_cons] at hr
    have h1 := (List.cons.inj hr).1
    have h2 := (List.cons.inj hr).2
    refine ⟨?_, ih (k + 1) (fun z hz => hp z (List.mem_cons_of_mem _ hz)) h2⟩
    show (τ.1 25 y.2.2.1).toInt = k
    rw [hp y List.mem_cons_self]
    have h1 : y.1 = k := h1
    rw [h1]
/-- the rows of a value, in order -/
theorem val_pre {b p : Nat} {S T σ τ : ST} : ∀ (n : Nat) (tA tB : Int32) (A B : Nat × Nat), VAL True b p S T σ τ n tA tB A B → ∀ (N : Nat) (pn : Int), ∃ LL : Nat → Nat × Nat × Int, PRZ b σ τ LL n N (N + (A.2 - A.1)) pn A.1 B.1 ∧ (∀ i, N ≤ i → i < N + (A.2 - A.1) → (A.1 ≤ (LL i).1 ∧ (LL i).1 < A.2) ∧ B.1 ≤ (LL i).2.1 ∧ (LL i).2.1 < B.2) ∧ ∀ i j, N ≤ i → i < j → j < N + (A.2 - A.1) → ¬ (LL i).1 = (LL j).1 ∧ ¬ (LL i).2.1 = (LL j).2.1 := by
  intro n
  induction n with
  | zero => intro tA tB A B h; exact h.elim
  | succ n ih =>
    intro tA tB A B h N pn
    obtain ⟨⟨hA0, hB0⟩, hN, l, ⟨c1, c2⟩, ⟨hS, hl5, hl6, hlr⟩, hsp, hK⟩ := h.kids
    -- the children, one behind the other
    have key : ∀ (m : List EN), m.Pairwise SEPE → (∀ y, y ∈ m → inA y = true ∧ ∃ uA uB : Int32, VAL True b p S T σ τ n uA uB y.2.1 y.2.2) → ∀ i, ∃ f : Nat → Nat × Nat × Int, FLT (fun i j y => PRZ b σ τ f n i j N y.1 y.2) (m.map (fun y => (y.2.1.1, y.2.2.1))) i (i + spA m) ∧ (∀ k, i ≤ k → k < i + spA m → ∃ y, y ∈ m ∧ (y.2.1.1 ≤ (f k).1 ∧ (f k).1 < y.2.1.2) ∧ y.2.2.1 ≤ (f k).2.1 ∧ (f k).2.1 < y.2.2.2) ∧ ∀ k j, i ≤ k → k < j → j < i + spA m → ¬ (f k).1 = (f j).1 ∧ ¬ (f k).2.1 = (f j).2.1 := by
      intro m
      induction m with
      | nil =>
        intro _ _ i
        exact ⟨fun _ => (0, 0, 0), rfl, fun k h1 h2 => by
          have h2 : k < i + 0 := h2
          omega, fun k j h1 h2 h3 => by
          have h3 : j < i + 0 := h3
          omega⟩
      | cons y m ihm =>
        intro hS hK i
        obtain ⟨s1, s2⟩ := List.pairwise_cons.mp hS
        obtain ⟨hin, uA, uB, hV⟩ := hK y List.mem_cons_self
        have hlt := inA_lt hin
        obtain ⟨f1, p1, p2, p3⟩ := ih uA uB y.2.1 y.2.2 hV i (N : Int)
        obtain ⟨f2, q1, q2, q3⟩ := ihm s2 (fun z hz => hK z (List.mem_cons_of_mem _ hz)) (i + (y.2.1.2 - y.2.1.1))
        have esp : spA (y :: m) = y.2.1.2 - y.2.1.1 + spA m := spA_one hin m
        have g1 : ∀ k, k < i + (y.2.1.2 - y.2.1.1) → (fun k => if k < i + (y.2.1.2 - y.2.1.1) then f1 k else f2 k) k = f1 k := fun k hk => if_pos hk
        have g2 : ∀ k, i + (y.2.1.2 - y.2.1.1) ≤ k → (fun k => if k < i + (y.2.1.2 - y.2.1.1) then f1 k else f2 k) k = f2 k := fun k hk => if_neg (by omega)
        generalize (fun k => if k < i + (y.2.1.2 - y.2.1.1) then f1 k else f2 k) = g at g1 g2
        refine ⟨g, ⟨i + (y.2.1.2 - y.2.1.1), by omega, p1.ext n _ _ _ _ _ (fun k h1 h2 => g1 k h2), ?_⟩, fun k h1 h2 => ?_, fun k j h1 h2 h3 => ?_⟩
        · rw [esp, ← Nat.add_assoc]
          exact q1.mono _ _ _ (fun j k z hj hk _ hP => hP.ext n _ _ _ _ _ (fun w h1 h2 => g2 w (by omega)))
        · rw [esp] at h2
          by_cases hk : k < i + (y.2.1.2 - y.2.1.1)
          · rw [g1 k hk]
            exact ⟨y, List.mem_cons_self, p2 k h1 hk⟩
          · rw [g2 k (by omega)]
            obtain ⟨z, z1, z2⟩ := q2 k (by omega) (by omega)
            exact ⟨z, List.mem_cons_of_mem _ z1, z2⟩
        · rw [esp] at h3
          by_cases hj : j < i + (y.2.1.2 - y.2.1.1)
          · rw [g1 k (by omega), g1 j hj]
            exact p3 k j h1 h2 hj
          · rw [g2 j (by omega)]
            by_cases hk : k < i + (y.2.1.2 - y.2.1.1)
            · rw [g1 k hk]
              obtain ⟨⟨a1, a2⟩, a3, a4⟩ := p2 k h1 hk
              obtain ⟨z, z1, ⟨z2, z3⟩, z4, z5⟩ := q2 j (by omega) (by omega)
              obtain ⟨hs, hs2⟩ := s1 z z1
              exact ⟨by omega, by omega⟩
            · rw [g2 k (by omega)]
              exact q3 k j (by omega) h2 (by omega)
    obtain ⟨f, k1, k2, k3⟩ := key l hS (fun y hy => ⟨(hK y hy).2.2.1, (hK y hy).2.2.2.2⟩) (N + 1)
    have g1 : (fun k => if k = N then (A.1, B.1, pn) else f k) N = (A.1, B.1, pn) := if_pos rfl
    have g2 : ∀ k, N < k → (fun k => if k = N then (A.1, B.1, pn) else f k) k = f k := fun k hk => if_neg (by omega)
    generalize (fun k => if k = N then (A.1, B.1, pn) else f k) = g at g1 g2
    have ee : N + (A.2 - A.1) = N + 1 + spA l := by omega
    refine ⟨g, ⟨g1, hN, l.map (fun y => (y.2.1.1, y.2.2.1)), ⟨?_, ?_, ?_, ?_, ?_⟩, fun y hy => ?_, ?_⟩, fun i h1 h2 => ?_, fun i j h1 h2 h3 => ?_⟩
    · rw [← rA_all (fun y hy => (hK y hy).2.2.1)]
      exact c1
    · rw [← rB_all]
      exact c2
    · intro h
      rw [List.length_map]
      exact hl5 h
    · intro h
      rw [List.length_map]
      exact hl6 h
    · exact plc_of l 0 (fun y hy => (hK y hy).2.2.2.1.2.1.2) (by rw [hlr, List.range_eq_range'])
    · obtain ⟨z, z1, z2⟩ := List.mem_map.mp hy
      obtain ⟨_, _, _, ⟨⟨d1, d2⟩, ⟨d3, d4⟩, d5⟩, _⟩ := hK z z1
      rw [← z2]
      exact ⟨⟨d1, d3⟩, d2.trans d4.symm, d5⟩
    · rw [ee]
      exact k1.mono _ _ _ (fun j k z hj hk _ hP => hP.ext n _ _ _ _ _ (fun w h1 h2 => g2 w (by omega)))
    · by_cases hi : i = N
      · rw [hi, g1]
        exact ⟨⟨Nat.le_refl _, hA0⟩, Nat.le_refl _, hB0⟩
      · rw [g2 i (by omega)]
        obtain ⟨y, y1, ⟨y2, y3⟩, y4, y5⟩ := k2 i (by omega) (by omega)
        obtain ⟨⟨d1, d2⟩, ⟨d3, d4⟩, _⟩ := hK y y1
        exact ⟨⟨by omega, by omega⟩, by omega, by omega⟩
    · rw [g2 j (by omega)]
      by_cases hi : i = N
      · rw [hi, g1]
        obtain ⟨y, y1, ⟨y2, y3⟩, y4, y5⟩ := k2 j (by omega) (by omega)
        obtain ⟨⟨d1, d2⟩, ⟨d3, d4⟩, _⟩ := hK y y1
        show ¬ A.1 = (f j).1 ∧ ¬ B.1 = (f j).2.1
        exact ⟨by omega, by omega⟩
      · rw [g2 i (by omega)]
        exact k3 i j (by omega) h2 (by omega)
/-- a row's parent stands ahead of it -/
theorem PRZ.par {b : Nat} {σ τ : ST} {LL : Nat → Nat × Nat × Int} : ∀ (n N e : Nat) (pn : Int) (x v : Nat), PRZ b σ τ LL n N e pn x v → ∀ i, N ≤ i → i < e → NDT b σ τ (LL i).1 (LL i).2.1 ∧ (i = N ∨ ∃ k : Nat, (N ≤ k ∧ k < i) ∧ (LL i).2.2 = k ∧ KD2 b σ τ (LL k).1 (LL k).2.1 ((LL i).1, (LL i).2.1)) := by
  intro n
  induction n with
  | zero => intro N e pn x v h; exact h.elim
  | succ n ih =>
    intro N e pn x v h i hi he
    obtain ⟨h1, h2, l, _, h4, h5⟩ := h
    by_cases hiN : i = N
    · rw [hiN, h1]
      exact ⟨h2, .inl rfl⟩
    · have key : ∀ (m : List (Nat × Nat)) (j : Nat), (∀ y, y ∈ m → KD2 b σ τ x v y) → N < j → FLT (fun i j y => PRZ b σ τ LL n i j N y.1 y.2) m j e → j ≤ i → NDT b σ τ (LL i).1 (LL i).2.1 ∧ (i = N ∨ ∃ k : Nat, (N ≤ k ∧ k < i) ∧ (LL i).2.2 = k ∧ KD2 b σ τ (LL k).1 (LL k).2.1 ((LL i).1, (LL i).2.1)) := by
        intro m
        induction m with
        | nil =>
          intro j _ _ hf hji
          have hf : j = e := hf
          omega
        | cons y m ihm =>
          intro j hk hNj hf hji
          obtain ⟨j2, f1, f2, f3⟩ := hf
          have f2 : PRZ b σ τ LL n j j2 N y.1 y.2 := f2
          by_cases hij : i < j2
          · obtain ⟨g1, g2⟩ := ih j j2 N y.1 y.2 f2 i hji hij
            refine ⟨g1, .inr ?_⟩
            rcases g2 with g2 | ⟨k, k1, k2, k3⟩
            · have e1 : LL j = (y.1, y.2, (N : Int)) := by
                cases n with
                | zero => exact f2.elim
                | succ n => exact f2.1
              refine ⟨N, ⟨Nat.le_refl _, by omega⟩, by rw [g2, e1], ?_⟩
              rw [g2, e1, h1]
              exact hk y List.mem_cons_self
            · exact ⟨k, ⟨by omega, k1.2⟩, k2, k3⟩
          · exact ihm j2 (fun z hz => hk z (List.mem_cons_of_mem _ hz)) (by omega) f3 (by omega)
      exact key l (N + 1) h4 (by omega) h5 (by omega)
/-! the class's order of a tree -/
theorem q_parentRow {b : Nat} {x : Int32} {σ : ST} {r : Nat} (h : x.toInt = r) (h1 : (r : Int) < (σ.1 b 1).toInt) (h0 : (r : Int) < (σ.1 b 0).toInt) : QT (f_X7_parentOf b x σ) (fun q => q = (σ.1 (b + 2) r, σ)) := by
  have l0 := li_0
  have n := nC h
  unfold f_X7_parentOf
  rw [n]
  refine QT.bnd (q_isRow b x σ h h1 h0) (fun q hq => ?_)
  obtain ⟨w, s⟩ := q
  obtain ⟨e, hw⟩ := hq
  have e : s = σ := e
  subst e
  have hw : w.toInt = 1 := hw
  exact QT.ieq (fun h => by omega) (fun _ => QT.grd (fun _ => QT.ret rfl))
theorem q_next_m1 (b : Nat) (x : Int32) (σ : ST) (h : x.toInt = -1) : QT (f_X7_nextOf b x σ) (fun q => q.1.toInt = -1 ∧ q.2 = σ) := by
  have l0 := li_0
  unfold f_X7_nextOf f_X7_isRow
  rw [if_pos (by rw [Int32.lt_iff_toInt_lt]; omega), sbnd]
  dsimp only
  refine QT.ite (fun _ => QT.ret ⟨li_m1, rfl⟩) (fun h => absurd rfl h)
/-- what comes behind a row r: w -/
def RBA (b : Nat) (σ : ST) (r : Nat) (w : Int) : Prop := ∀ (s : ST) (x : Int32), KPO b σ s → x.toInt = r → QT (f_X7_rowBehind b x s) (fun q => q.1.toInt = w ∧ q.2 = s)
/-- what is found behind row x, on the way up: w -/
def UPR (b : Nat) (σ : ST) : Nat → Nat → Int → Prop
  | 0, x, w => ((x : Int) < (σ.1 b 1).toInt ∧ (x : Int) < (σ.1 b 0).toInt) ∧ (¬ (σ.1 (b + 9) x).toInt = -1 ∧ w = (σ.1 (b + 9) x).toInt ∨ (σ.1 (b + 9) x).toInt = -1 ∧ (σ.1 (b + 2) x).toInt = -1 ∧ w = -1)
  | d + 1, x, w => ((x : Int) < (σ.1 b 1).toInt ∧ (x : Int) < (σ.1 b 0).toInt) ∧ (¬ (σ.1 (b + 9) x).toInt = -1 ∧ w = (σ.1 (b + 9) x).toInt ∨ (σ.1 (b + 9) x).toInt = -1 ∧ ∃ p : Nat, (σ.1 (b + 2) x).toInt = p ∧ UPR b σ d p w)
theorem q_rb51 (b : Nat) (x : Int32) (s : ST) {P : Int32 × ST → Prop} (h : QT (f_X7_nextOf b x s) P) : QT (f_X7_rowBehind_51 b x s) P := by
  unfold f_X7_rowBehind_51
  exact QT.bnd h (fun q hq => QT.ret hq)
theorem q_up {b : Nat} {σ : ST} : ∀ (d x : Nat) (w : Int), UPR b σ d x w → ∀ (n k : Nat) (x2 x3 : Int32) (s : ST), KPO b σ s → x2.toInt = x → x3.toInt = k → k + d ≤ 31 → QT (f_X7_rowBehind_19 b n x2 x3 s) (fun q => q.1.toInt = w ∧ q.2 = s) := by
  have l1 := li_1
  have lm := li_m1
  have l31 : (31 : Int32).toInt = 31 := by decide
  intro d
  induction d with
  | zero =>
    intro x w hU n k x2 x3 s hs h2 h3 hk
    obtain ⟨⟨u1, u2⟩, hU⟩ := hU
    cases n with
    | zero =>
      rw [f_X7_rowBehind_19]
      exact QT.none
    | succ n =>
      have sb : s.1 b = σ.1 b := hs.1 b (by omega) (by omega)
      have s9 : s.1 (b + 9) = σ.1 (b + 9) := hs.1 (b + 9) (by omega) (by omega)
      have s2 : s.1 (b + 2) = σ.1 (b + 2) := hs.1 (b + 2) (by omega) (by omega)
      rw [f_X7_rowBehind_19]
      refine QT.ilt (fun h => by omega) (fun _ => ?_)
      refine QT.ieq (fun h => by omega) (fun _ => ?_)
      have hn := q_nextRow (b := b) (σ := s) h2 (by rw [sb]; exact u1) (by rw [sb]; exact u2)
      rw [s9] at hn
      refine QT.bnd hn (fun q hq => ?_)
      rw [hq]
      dsimp only
      rcases hU with ⟨u3, u4⟩ | ⟨u3, u4, u5⟩
      · refine QT.ieq (fun h => by omega) (fun _ => q_rb51 b x2 s (hn.mono (fun z hz => by rw [hz]; exact ⟨u4.symm, rfl⟩)))
      · refine QT.ieq (fun _ => ?_) (fun h => by omega)
        have hp := q_parentRow (b := b) (σ := s) h2 (by rw [sb]; exact u1) (by rw [sb]; exact u2)
        rw [s2] at hp
        refine QT.bnd hp (fun z hz => ?_)
        rw [hz]
        dsimp only
        have fin : QT (f_X7_rowBehind_51 b (σ.1 (b + 2) x) s) (fun q => q.1.toInt = w ∧ q.2 = s) := q_rb51 b _ s ((q_next_m1 b _ s u4).mono (fun z hz => ⟨hz.1.trans u5.symm, hz.2⟩))
        cases n with
        | zero =>
          rw [f_X7_rowBehind_19]
          exact QT.none
        | succ n =>
          rw [f_X7_rowBehind_19]
          exact QT.ilt (fun _ => fin) (fun _ => QT.ieq (fun _ => fin) (fun h => by omega))
  | succ d ih =>
    intro x w hU n k x2 x3 s hs h2 h3 hk
    obtain ⟨⟨u1, u2⟩, hU⟩ := hU
    cases n with
    | zero =>
      rw [f_X7_rowBehind_19]
      exact QT.none
    | succ n =>
      have sb : s.1 b = σ.1 b := hs.1 b (by omega) (by omega)
      have s9 : s.1 (b + 9) = σ.1 (b + 9) := hs.1 (b + 9) (by omega) (by omega)
      have s2 : s.1 (b + 2) = σ.1 (b + 2) := hs.1 (b + 2) (by omega) (by omega)
      rw [f_X7_rowBehind_19]
      refine QT.ilt (fun h => by omega) (fun _ => ?_)
      refine QT.ieq (fun h => by omega) (fun _ => ?_)
      have hn := q_nextRow (b := b) (σ := s) h2 (by rw [sb]; exact u1) (by rw [sb]; exact u2)
      rw [s9] at hn
      refine QT.bnd hn (fun q hq => ?_)
      rw [hq]
      dsimp only
      rcases hU with ⟨u3, u4⟩ | ⟨u3, p, u4, u5⟩
      · refine QT.ieq (fun h => by omega) (fun _ => q_rb51 b x2 s (hn.mono (fun z hz => by rw [hz]; exact ⟨u4.symm, rfl⟩)))
      · refine QT.ieq (fun _ => ?_) (fun h => by omega)
        have hp := q_parentRow (b := b) (σ := s) h2 (by rw [sb]; exact u1) (by rw [sb]; exact u2)
        rw [s2] at hp
        refine QT.bnd hp (fun z hz => ?_)
        rw [hz]
        dsimp only
        have e3 := il_addE (x := x3) (y := 1) (by omega) (by omega)
        exact ih p w u5 n (k + 1) _ (x3 + 1) s hs u4 (by omega) (by omega)
/-- a row of no children: what is behind it on the way up -/
theorem rba_leaf {b d x : Nat} {σ : ST} {w : Int} (hU : UPR b σ d x w) (hd : d ≤ 31) (hF : (σ.1 (b + 7) x).toInt = -1) : RBA b σ x w := by
  have lm := li_m1
  have hr : (x : Int) < (σ.1 b 1).toInt ∧ (x : Int) < (σ.1 b 0).toInt := by
    cases d with
    | zero => exact hU.1
    | succ d => exact hU.1
  intro s y hs hy
  have sb : s.1 b = σ.1 b := hs.1 b (by omega) (by omega)
  have s7 : s.1 (b + 7) = σ.1 (b + 7) := hs.1 (b + 7) (by omega) (by omega)
  unfold f_X7_rowBehind
  have hf := q_firstRow (b := b) (σ := s) hy (by rw [sb]; exact hr.1) (by rw [sb]; exact hr.2)
  rw [s7] at hf
  refine QT.bnd hf (fun q hq => ?_)
  rw [hq]
  dsimp only
  refine QT.ieq (fun _ => ?_) (fun h => by omega)
  exact q_up d x w hU FU 0 y 0 s hs hy li_0 (by omega)
/-- a row of children: the first of them -/
theorem rba_first {b x c : Nat} {σ : ST} (hr : (x : Int) < (σ.1 b 1).toInt ∧ (x : Int) < (σ.1 b 0).toInt) (hF : (σ.1 (b + 7) x).toInt = c) : RBA b σ x c := by
  have lm := li_m1
  intro s y hs hy
  have sb : s.1 b = σ.1 b := hs.1 b (by omega) (by omega)
  have s7 : s.1 (b + 7) = σ.1 (b + 7) := hs.1 (b + 7) (by omega) (by omega)
  unfold f_X7_rowBehind
  have hf := q_firstRow (b := b) (σ := s) hy (by rw [sb]; exact hr.1) (by rw [sb]; exact hr.2)
  rw [s7] at hf
  refine QT.bnd hf (fun q hq => ?_)
  rw [hq]
  dsimp only
  refine QT.ieq (fun h => by omega) (fun _ => ?_)
  refine QT.bnd hf (fun q hq => ?_)
  rw [hq]
  exact QT.ret ⟨hF, rfl⟩
theorem UPR.rng {b d x : Nat} {σ : ST} {w : Int} (hU : UPR b σ d x w) : (x : Int) < (σ.1 b 1).toInt ∧ (x : Int) < (σ.1 b 0).toInt := by
  cases d with
  | zero => exact hU.1
  | succ d => exact hU.1
/-- the rows of a subtree follow one another -/
theorem pre_rb {b : Nat} {σ τ : ST} {LL : Nat → Nat × Nat × Int} : ∀ (n N e : Nat) (pn : Int) (x v : Nat), PRZ b σ τ LL n N e pn x v → (∀ i, N ≤ i → i < e → ((LL i).1 : Int) < (σ.1 b 1).toInt ∧ ((LL i).1 : Int) < (σ.1 b 0).toInt) → ∀ (d : Nat) (w : Int), UPR b σ d x w → n + d ≤ 32 → (∀ i, N ≤ i → i + 1 < e → RBA b σ (LL i).1 ((LL (i + 1)).1 : Int)) ∧ RBA b σ (LL (e - 1)).1 w := by
  have lm := li_m1
  intro n
  induction n with
  | zero => intro N e pn x v h; exact h.elim
  | succ n ih =>
    intro N e pn x v h hr d w hU hd
    obtain ⟨h1, _, l, ⟨h3, _⟩, h4, h5⟩ := h
    have hx : (LL N).1 = x := by rw [h1]
    -- the children from one of them on
    have key : ∀ (y : Nat × Nat) (m : List (Nat × Nat)) (j : Nat) (ptr : Int32), N < j → (∀ z, z ∈ y :: m → KD2 b σ τ x v z) → CN (σ.1 (b + 9)) ptr ((y :: m).map (fun z => z.1)) → FLT (fun i j y => PRZ b σ τ LL n i j N y.1 y.2) (y :: m) j e → ((LL j).1 = y.1 ∧ j < e) ∧ (∀ i, j ≤ i → i + 1 < e → RBA b σ (LL i).1 ((LL (i + 1)).1 : Int)) ∧ RBA b σ (LL (e - 1)).1 w := by
      intro y m
      induction m generalizing y with
      | nil =>
        intro j ptr hj hK hc hf
        obtain ⟨j2, f1, f2, f3⟩ := hf
        have f2 : PRZ b σ τ LL n j j2 N y.1 y.2 := f2
        have f3 : j2 = e := f3
        subst f3
        have hy := hK y List.mem_cons_self
        have ej : (LL j).1 = y.1 := by
          cases n with
          | zero => exact f2.elim
          | succ n => rw [f2.1]
        have hry := hr j (by omega) f1
        rw [ej] at hry
        have hUy : UPR b σ (d + 1) y.1 w := ⟨hry, .inr ⟨hc.2, x, hy.1.1, hU⟩⟩
        obtain ⟨g1, g2⟩ := ih j j2 N y.1 y.2 f2 (fun i h6 h7 => hr i (by omega) h7) (d + 1) w hUy (by omega)
        exact ⟨⟨ej, f1⟩, g1, g2⟩
      | cons y2 m ihm =>
        intro j ptr hj hK hc hf
        obtain ⟨j2, f1, f2, f3⟩ := hf
        have f2 : PRZ b σ τ LL n j j2 N y.1 y.2 := f2
        have hy := hK y List.mem_cons_self
        have hle := FLT.le _ _ _ f3
        obtain ⟨⟨k1, k2⟩, k3, k4⟩ := ihm y2 j2 _ (by omega) (fun z hz => hK z (List.mem_cons_of_mem _ hz)) hc.2 f3
        have ej : (LL j).1 = y.1 := by
          cases n with
          | zero => exact f2.elim
          | succ n => rw [f2.1]
        have hry := hr j (by omega) (by omega)
        rw [ej] at hry
        have hn2 : (σ.1 (b + 9) y.1).toInt = (y2.1 : Int) := hc.2.1
        have hUy : UPR b σ (d + 1) y.1 (y2.1 : Int) := ⟨hry, .inl ⟨by omega, hn2.symm⟩⟩
        obtain ⟨g1, g2⟩ := ih j j2 N y.1 y.2 f2 (fun i h6 h7 => hr i (by omega) (by omega)) (d + 1) _ hUy (by omega)
        refine ⟨⟨ej, by omega⟩, fun i h6 h7 => ?_, k4⟩
        by_cases hi : i + 1 < j2
        · exact g1 i h6 hi
        · by_cases hi2 : i + 1 = j2
          · rw [hi2, k1, show i = j2 - 1 by omega]
            exact g2
          · exact k3 i (by omega) h7
    cases l with
    | nil =>
      have h5 : N + 1 = e := h5
      have h3 : (σ.1 (b + 7) x).toInt = -1 := h3
      refine ⟨fun i h6 h7 => by omega, ?_⟩
      rw [show e - 1 = N by omega, hx]
      exact rba_leaf hU (by omega) h3
    | cons y m =>
      obtain ⟨⟨k1, k2⟩, k3, k4⟩ := key y m (N + 1) _ (by omega) h4 h3 h5
      refine ⟨fun i h6 h7 => ?_, k4⟩
      by_cases hi : i = N
      · rw [hi, hx, k1]
        exact rba_first hU.rng h3.1
      · exact k3 i (by omega) h7
/-- the order that the class tells -/
theorem a_order {b e : Nat} {σ : ST} {LL : Nat → Nat × Nat × Int} {w : Int} (he : 0 < e ∧ e ≤ 1000) (hsz : (σ.1 b 1).toInt = e ∧ (e : Int) ≤ (σ.1 b 0).toInt) (h0 : (LL 0).1 = 0) (hin : ∀ i, i < e → (LL i).1 < e) (hrb : ∀ i, i + 1 < e → RBA b σ (LL i).1 ((LL (i + 1)).1 : Int)) (hrl : RBA b σ (LL (e - 1)).1 w) (hnd : ∀ i j, i < j → j < e → ¬ (LL i).1 = (LL j).1) : QT (f_X7_putInOrder b σ) (fun s => ∀ i, i < e → (s.1 (b + 10) i).toInt = (LL i).1 ∧ (s.1 (b + 11) (LL i).1).toInt = i) := by
  have l0 := li_0
  have l1 := li_1
  unfold f_X7_putInOrder
  have key : ∀ (n N : Nat) (x1 x2 : Int32) (s : ST), x2.toInt = N → N ≤ e → KPO b σ s → (N < e → x1.toInt = (LL N).1) → (∀ i, i < N → (s.1 (b + 10) i).toInt = (LL i).1 ∧ (s.1 (b + 11) (LL i).1).toInt = i) → QT (f_X7_putInOrder_4 b n x1 x2 s) (fun s => ∀ i, i < e → (s.1 (b + 10) i).toInt = (LL i).1 ∧ (s.1 (b + 11) (LL i).1).toInt = i) := by
    intro n
    induction n with
    | zero =>
      intro N x1 x2 s _ _ _ _ _
      rw [f_X7_putInOrder_4]
      exact QT.none
    | succ n ih =>
      intro N x1 x2 s h2 hN hs h1 ho
      have sb : s.1 b = σ.1 b := hs.1 b (by omega) (by omega)
      rw [f_X7_putInOrder_4, sb]
      refine QT.ile (fun hle => QT.ret (fun i hi => ho i (by omega))) (fun hlt => ?_)
      have hNe : N < e := by omega
      have h1 := h1 hNe
      have hr := hin N hNe
      refine QT.bnd (q_isRow b x1 s h1 (by rw [sb]; omega) (by rw [sb]; omega)) (fun q hq => ?_)
      obtain ⟨v, s1⟩ := q
      obtain ⟨e1, hv⟩ := hq
      have e1 : s1 = s := e1
      have hv : v.toInt = 1 := hv
      rw [e1]
      dsimp only
      refine QT.ieq (fun h => by omega) (fun _ => QT.grd (fun _ => QT.grd (fun _ => ?_)))
      have n2 : x2.toNatClampNeg = N := nC h2
      have n1 : x1.toNatClampNeg = (LL N).1 := nC h1
      rw [n1, n2]
      have k2 : KPO b σ (stI (stI s (b + 10) N x1) (b + 11) (LL N).1 x2) := (hs.i (.inl rfl)).i (.inr rfl)
      have c10 : (stI (stI s (b + 10) N x1) (b + 11) (LL N).1 x2).1 (b + 10) = upd (s.1 (b + 10)) N x1 := by rw [stI_ne (by omega), stI_at]
      have c11 : (stI (stI s (b + 10) N x1) (b + 11) (LL N).1 x2).1 (b + 11) = upd (s.1 (b + 11)) (LL N).1 x2 := by rw [stI_at, stI_ne (by omega)]
      generalize stI (stI s (b + 10) N x1) (b + 11) (LL N).1 x2 = y at k2 c10 c11
      have ea := il_addE (x := x2) (y := 1) (by omega) (by omega)
      have ho2 : ∀ i, i < N + 1 → (y.1 (b + 10) i).toInt = (LL i).1 ∧ (y.1 (b + 11) (LL i).1).toInt = i := fun i hi => by
        rw [c10, c11]
        by_cases e2 : i = N
        · rw [e2, upA rfl, upA rfl]
          exact ⟨h1, h2⟩
        · have := hnd i N (by omega) hNe
          rw [upN e2, upN this]
          exact ho i (by omega)
      by_cases hlast : N + 1 < e
      · refine QT.bnd (hrb N hlast y x1 k2 h1) (fun z hz => ?_)
        rw [hz.2]
        exact ih (N + 1) z.1 (x2 + 1) y (by omega) (by omega) k2 (fun _ => hz.1) ho2
      · have hl := hrl y x1 k2 (by rw [show e - 1 = N by omega]; exact h1)
        refine QT.bnd hl (fun z hz => ?_)
        rw [hz.2]
        exact ih (N + 1) z.1 (x2 + 1) y (by omega) (by omega) k2 (fun h => by omega) ho2
  exact key FU 0 0 0 σ l0 (by omega) KPO.rf (fun _ => by rw [h0]; exact l0) (fun i hi => by omega)
/-! the reference's nodes told -/
/-- one node told as its row says -/
def TDR (τ : ST) (LL : Nat → Nat × Nat × Int) (w : ST) (i : Nat) : Prop := (w.1 42 i = τ.1 20 (LL i).2.1 ∧ (w.1 43 i).toInt = (LL i).2.2) ∧ (w.1 44 i = if 0 ≤ (LL i).2.2 then τ.1 25 (LL i).2.1 else 0) ∧ (w.1 45 i = τ.1 23 (LL i).2.1 ∧ w.1 46 i = vp_nar .boolean (τ.1 27 (LL i).2.1)) ∧ w.2.1 47 i = τ.2.1 21 (LL i).2.1 ∧ w.2.1 48 i = τ.2.1 22 (LL i).2.1
/-- one node that stays -/
def TSM (z w : ST) (i : Nat) : Prop := (∀ c, 42 ≤ c → c ≤ 46 → w.1 c i = z.1 c i) ∧ w.2.1 47 i = z.2.1 47 i ∧ w.2.1 48 i = z.2.1 48 i
theorem TSM.rf {z : ST} {i : Nat} : TSM z z i := ⟨fun _ _ _ => rfl, rfl, rfl⟩
theorem TSM.trans {a b c : ST} {i : Nat} (h : TSM a b i) (k : TSM b c i) : TSM a c i := ⟨fun d h1 h2 => (k.1 d h1 h2).trans (h.1 d h1 h2), k.2.1.trans h.2.1, k.2.2.trans h.2.2⟩
theorem TDR.sm {τ z w : ST} {LL : Nat → Nat × Nat × Int} {i : Nat} (h : TDR τ LL z i) (k : TSM z w i) : TDR τ LL w i := by
  obtain ⟨k1, k2, k3⟩ := k
  unfold TDR
  rw [k1 42 (by omega) (by omega), k1 43 (by omega) (by omega), k1 44 (by omega) (by omega), k1 45 (by omega) (by omega), k1 46 (by omega) (by omega), k2, k3]
  exact h
theorem KTL.trans {a b c : ST} (h : KTL a b) (k : KTL b c) : KTL a c := ⟨fun d h1 h2 => (k.1 d h1 h2).trans (h.1 d h1 h2), fun i h1 => (k.2.1 i h1).trans (h.2.1 i h1), fun d h1 h2 => (k.2.2.1 d h1 h2).trans (h.2.2.1 d h1 h2), k.2.2.2.trans h.2.2.2⟩
/-- telling a subtree -/
def TEL (τ : ST) (LL : Nat → Nat × Nat × Int) (N e : Nat) (z w : ST) : Prop := KTL z w ∧ (w.1 0 73).toInt = e ∧ (∀ i, i < N → TSM z w i) ∧ ∀ i, N ≤ i → i < e → TDR τ LL w i
theorem updLA {f : Nat → Int64} {i j : Nat} {v : Int64} (h : j = i) : vp_updL f i v j = v := by rw [h]; exact updL_at
theorem updLN {f : Nat → Int64} {i j : Nat} {v : Int64} (h : j ≠ i) : vp_updL f i v j = f j := updL_no h
theorem stL_cell {σ : ST} {q i : Nat} {v : Int64} : (stL σ q i v).2.1 q = vp_updL (σ.2.1 q) i v := by
  show (bif Nat.beq q q then vp_updL (σ.2.1 q) i v else σ.2.1 q) = _
  rw [Nat.beq_refl]
  rfl
/-- the row itself is told -/
theorem q_tells53 {τ : ST} {LL : Nat → Nat × Nat × Int} {r : Int32 → Int32 → ST → Option ST} {N v : Nat} {pn : Int} (x1 x3 y0 : Int32) (z u : ST) {P : ST → Prop} (hx : x1.toInt = v) (h3 : x3.toInt = N) (hL : (LL N).2 = (v, pn)) (hz : KTL τ z) (kz : KTL z u) (sm : ∀ i, i < N → TSM z u i) (u42 : u.1 42 N = τ.1 20 v) (u43 : (u.1 43 N).toInt = pn) (hy : y0 = if 0 ≤ pn then τ.1 25 v else 0) (u73 : (u.1 0 73).toInt = (N : Int) + 1) (k : ∀ y, KTL z y → (y.1 0 73).toInt = (N : Int) + 1 → (∀ i, i < N → TSM z y i) → TDR τ LL y N → QT (f_X11_tells_110 r FU x3 (τ.1 28 v) y) P) : QT (f_X11_tells_53 r x1 x3 y0 x3 u) P := by
  have n1 : x1.toNatClampNeg = v := nC hx
  have n3 : x3.toNatClampNeg = N := nC h3
  have hu := hz.trans kz
  have e23 : u.1 23 = τ.1 23 := hu.1 23 (by omega) (by omega)
  have e27 : u.1 27 = τ.1 27 := hu.1 27 (by omega) (by omega)
  have e28 : u.1 28 = τ.1 28 := hu.1 28 (by omega) (by omega)
  have e21 : u.2.1 21 = τ.2.1 21 := hu.2.2.1 21 (by omega) (by omega)
  have e22 : u.2.1 22 = τ.2.1 22 := hu.2.2.1 22 (by omega) (by omega)
  unfold f_X11_tells_53
  refine QT.grd (fun _ => QT.grd (fun _ => QT.grd (fun _ => ?_)))
  rw [n1, n3]
  refine QT.lt (fun z4 h4 => ?_)
  have g23 : (stI u 44 N y0).1 23 v = τ.1 23 v := by rw [stI_ne (by omega), e23]
  rw [g23] at h4
  have c4 : KTL z z4 := by
    rw [h4]
    exact (kz.i (by omega)).i (by omega)
  have z4c : ∀ c, c ≠ 44 → c ≠ 45 → z4.1 c = u.1 c := fun c h1 h2 => by rw [h4, stI_ne h2, stI_ne h1]
  have z44 : z4.1 44 = upd (u.1 44) N y0 := by rw [h4, stI_ne (by omega), stI_at]
  have z45 : z4.1 45 = upd (u.1 45) N (τ.1 23 v) := by rw [h4, stI_at, stI_ne (by omega)]
  have z4L : z4.2.1 = u.2.1 := by rw [h4]; rfl
  clear h4
  refine QT.lt (fun z5 h5 => ?_)
  have g27 : z4.1 27 v = τ.1 27 v := by rw [z4c 27 (by omega) (by omega), e27]
  have g21 : (stI z4 46 N (vp_nar .boolean (z4.1 27 v))).2.1 21 v = τ.2.1 21 v := by
    show z4.2.1 21 v = _
    rw [z4L, e21]
  rw [g21, g27] at h5
  have c5 : KTL z z5 := by
    rw [h5]
    exact (c4.i (by omega)).l (by omega)
  have z5c : ∀ c, c ≠ 46 → z5.1 c = z4.1 c := fun c h1 => by
    rw [h5]
    exact stI_ne h1
  have z546 : z5.1 46 = upd (z4.1 46) N (vp_nar .boolean (τ.1 27 v)) := by
    rw [h5]
    show (stI z4 46 N (vp_nar .boolean (τ.1 27 v))).1 46 = _
    exact stI_at
  have z547 : z5.2.1 47 = vp_updL (z4.2.1 47) N (τ.2.1 21 v) := by rw [h5, stL_cell]; rfl
  have z5L : ∀ c, c ≠ 47 → z5.2.1 c = z4.2.1 c := fun c h1 => by rw [h5, stL_ne h1]; rfl
  clear h5
  have g22 : z5.2.1 22 v = τ.2.1 22 v := by rw [z5L 22 (by omega), z4L, e22]
  rw [g22]
  refine QT.lt (fun x6 h6 => ?_)
  have e6 : x6 = τ.1 28 v := by
    rw [h6]
    show z5.1 28 v = _
    rw [z5c 28 (by omega), z4c 28 (by omega) (by omega), e28]
  rw [e6]
  have yI : (stL z5 48 N (τ.2.1 22 v)).1 = z5.1 := rfl
  have y48 : (stL z5 48 N (τ.2.1 22 v)).2.1 48 = vp_updL (z5.2.1 48) N (τ.2.1 22 v) := stL_cell
  have y47 : (stL z5 48 N (τ.2.1 22 v)).2.1 47 = z5.2.1 47 := stL_ne (by omega)
  have cy : KTL z (stL z5 48 N (τ.2.1 22 v)) := c5.l (by omega)
  generalize stL z5 48 N (τ.2.1 22 v) = y at yI y48 y47 cy
  refine k y cy ?_ (fun i hi => ?_) ?_
  · rw [yI, z5c 0 (by omega), z4c 0 (by omega) (by omega)]
    exact u73
  · obtain ⟨s1, s2, s3⟩ := sm i hi
    refine ⟨fun c h1 h2 => ?_, ?_, ?_⟩
    · rw [yI]
      have hc : c = 42 ∨ c = 43 ∨ c = 44 ∨ c = 45 ∨ c = 46 := by omega
      rcases hc with hc | hc | hc | hc | hc
      · rw [hc, z5c 42 (by omega), z4c 42 (by omega) (by omega)]
        exact s1 42 (by omega) (by omega)
      · rw [hc, z5c 43 (by omega), z4c 43 (by omega) (by omega)]
        exact s1 43 (by omega) (by omega)
      · rw [hc, z5c 44 (by omega), z44, upN (by omega)]
        exact s1 44 (by omega) (by omega)
      · rw [hc, z5c 45 (by omega), z45, upN (by omega)]
        exact s1 45 (by omega) (by omega)
      · rw [hc, z546, upN (by omega), z4c 46 (by omega) (by omega)]
        exact s1 46 (by omega) (by omega)
    · rw [y47, z547, updLN (by omega), z4L]
      exact s2
    · rw [y48, updLN (by omega), z5L 48 (by omega), z4L]
      exact s3
  · unfold TDR
    rw [hL, yI]
    dsimp only
    refine ⟨⟨?_, ?_⟩, ?_, ⟨?_, ?_⟩, ?_, ?_⟩
    · rw [z5c 42 (by omega), z4c 42 (by omega) (by omega)]
      exact u42
    · rw [z5c 43 (by omega), z4c 43 (by omega) (by omega)]
      exact u43
    · rw [z5c 44 (by omega), z44, upA rfl]
      exact hy
    · rw [z5c 45 (by omega), z45, upA rfl]
    · rw [z546, upA rfl]
    · rw [y47, z547, updLA rfl]
    · rw [y48, updLA rfl]
theorem q_tells {b : Nat} {σ τ : ST} {LL : Nat → Nat × Nat × Int} : ∀ (n N e : Nat) (pn : Int) (x v : Nat), PRZ b σ τ LL n N e pn x v → e ≤ 400 → (pn = -1 ∨ 0 ≤ pn) → ∀ (M : Nat) (p0 p1 : Int32) (z : ST), p0.toInt = v → p1.toInt = pn → KTL τ z → (z.1 0 73).toInt = N → QT ((R_X11_tells M) p0 p1 z) (fun w => TEL τ LL N e z w) := by
  have l0 := li_0
  have l1 := li_1
  have lm := li_m1
  intro n
  induction n with
  | zero => intro N e pn x v h; exact h.elim
  | succ n ih =>
    intro N e pn x v h he hpn M p0 p1 z h0 h1 hz h73
    have hNe := h.lt
    obtain ⟨hL, _, l, ⟨_, hc, _⟩, _, hF⟩ := h
    cases M with
    | zero => exact QT.none
    | succ M =>
      show QT (f_X11_tells (R_X11_tells M) p0 p1 z) _
      have hkid : ∀ (m : List (Nat × Nat)) (f j : Nat) (x3 x4 : Int32) (y : ST), x3.toInt = N → N < j → CN (τ.1 30) x4 (m.map (fun y => y.2)) → FLT (fun i j y => PRZ b σ τ LL n i j N y.1 y.2) m j e → KTL τ y → (y.1 0 73).toInt = j → QT (f_X11_tells_110 (R_X11_tells M) f x3 x4 y) (fun w => TEL τ LL j e y w) := by
        intro m
        induction m with
        | nil =>
          intro f j x3 x4 y _ _ hc hf hy h73
          have hc : x4.toInt = -1 := hc
          have hf : j = e := hf
          cases f with
          | zero =>
            rw [f_X11_tells_110]
            exact QT.none
          | succ f =>
            rw [f_X11_tells_110]
            refine QT.ilt (fun _ => QT.ret ⟨KTL.rf, by rw [← hf]; exact h73, fun _ _ => TSM.rf, fun i h6 h7 => by omega⟩) (fun h => by omega)
        | cons c m ihm =>
          intro f j x3 x4 y h3 hNj hc hf hy h73
          obtain ⟨j2, f1, f2, f3⟩ := hf
          have f2 : PRZ b σ τ LL n j j2 N c.1 c.2 := f2
          have hle := FLT.le _ _ _ f3
          have hc1 : x4.toInt = (c.2 : Int) := hc.1
          cases f with
          | zero =>
            rw [f_X11_tells_110]
            exact QT.none
          | succ f =>
            rw [f_X11_tells_110]
            refine QT.ilt (fun h => by omega) (fun _ => ?_)
            refine QT.bnd (ih j j2 N c.1 c.2 f2 (by omega) (.inr (by omega)) M x4 x3 y hc1 h3 hy h73) (fun w hw => ?_)
            obtain ⟨w1, w2, w3, w4⟩ := hw
            refine QT.grd (fun _ => ?_)
            have n4 : x4.toNatClampNeg = c.2 := nC hc1
            have w30 : w.1 30 = τ.1 30 := (hy.trans w1).1 30 (by omega) (by omega)
            rw [n4, w30]
            refine (ihm f j2 x3 _ w h3 (by omega) hc.2 f3 (hy.trans w1) w2).mono (fun u hu => ?_)
            obtain ⟨u1, u2, u3, u4⟩ := hu
            refine ⟨w1.trans u1, u2, fun i hi => (w3 i hi).trans (u3 i (by omega)), fun i h6 h7 => ?_⟩
            by_cases hi : i < j2
            · exact (w4 i h6 hi).sm (u3 i hi)
            · exact u4 i (by omega) h7
      unfold f_X11_tells
      refine QT.grd (fun _ => QT.grd (fun _ => ?_))
      have n0 : p0.toNatClampNeg = v := nC h0
      have n73 : (z.1 0 73).toNatClampNeg = N := nC h73
      have ea := il_addE (x := z.1 0 73) (y := 1) (by omega) (by omega)
      rw [n0, n73]
      refine QT.lt (fun z3 h3 => ?_)
      have g20 : (stI z 0 73 (z.1 0 73 + 1)).1 20 v = τ.1 20 v := by rw [stI_ne (by omega), hz.1 20 (by omega) (by omega)]
      rw [g20] at h3
      have k3 : KTL z z3 := by
        rw [h3]
        exact (KTL.rf.i (.inl ⟨rfl, rfl⟩)).i (by omega)
      have z3c : ∀ c, c ≠ 0 → c ≠ 42 → z3.1 c = z.1 c := fun c a d => by rw [h3, stI_ne d, stI_ne a]
      have z30 : z3.1 0 = upd (z.1 0) 73 (z.1 0 73 + 1) := by rw [h3, stI_ne (by omega), stI_at]
      have z42 : z3.1 42 = upd (z.1 42) N (τ.1 20 v) := by rw [h3, stI_at, stI_ne (by omega)]
      have z3L : z3.2 = z.2 := by rw [h3]; rfl
      clear h3
      have ku : KTL z (stI z3 43 N p1) := k3.i (by omega)
      have uc : ∀ c, c ≠ 43 → (stI z3 43 N p1).1 c = z3.1 c := fun c a => stI_ne a
      have u43 : (stI z3 43 N p1).1 43 = upd (z3.1 43) N p1 := stI_at
      have uL : (stI z3 43 N p1).2 = z3.2 := rfl
      generalize stI z3 43 N p1 = u at ku uc u43 uL
      have sm : ∀ i, i < N → TSM z u i := fun i hi => by
        refine ⟨fun c a d => ?_, by rw [uL, z3L], by rw [uL, z3L]⟩
        by_cases e1 : c = 43
        · rw [e1, u43, upN (by omega), z3c 43 (by omega) (by omega)]
        · rw [uc c e1]
          by_cases e2 : c = 42
          · rw [e2, z42, upN (by omega)]
          · rw [z3c c (by omega) e2]
      have go : ∀ y0 : Int32, y0 = (if 0 ≤ pn then τ.1 25 v else 0) → QT (f_X11_tells_53 (R_X11_tells M) p0 (z.1 0 73) y0 (z.1 0 73) u) (fun w => TEL τ LL N e z w) := fun y0 hy0 => by
        refine q_tells53 (pn := pn) (LL := LL) (N := N) p0 (z.1 0 73) y0 z u h0 h73 (by rw [hL]) hz ku sm ?_ ?_ hy0 ?_ (fun y y1 y2 y3 y4 => ?_)
        · rw [uc 42 (by omega), z42, upA rfl]
        · rw [u43, upA rfl]
          exact h1
        · rw [uc 0 (by omega), z30, upA rfl]
          omega
        · refine (hkid l FU (N + 1) (z.1 0 73) (τ.1 28 v) y h73 (by omega) hc hF (hz.trans y1) (by omega)).mono (fun w hw => ?_)
          obtain ⟨w1, w2, w3, w4⟩ := hw
          refine ⟨y1.trans w1, w2, fun i hi => (y3 i hi).trans (w3 i (by omega)), fun i h6 h7 => ?_⟩
          by_cases hi : i = N
          · rw [hi]
            exact y4.sm (w3 N (by omega))
          · exact w4 i (by omega) h7
      refine QT.ile (fun h => ?_) (fun h => ?_)
      · have u25 : u.1 25 v = τ.1 25 v := by rw [uc 25 (by omega), z3c 25 (by omega) (by omega), hz.1 25 (by omega) (by omega)]
        rw [u25]
        exact go _ (if_pos (by omega)).symm
      · exact go 0 (if_neg (by omega)).symm
