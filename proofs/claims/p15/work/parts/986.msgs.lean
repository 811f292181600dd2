/-! calls about messages, both sides -/
theorem QT.weq {α : Type} {o : Option α} {P : α → Prop} (h : ∀ q, o = some q → P q) : QT o P := h
/-- a message read -/
theorem ab_read (p0 p1 : Int32) {σ τ : ST} (hZ : MZ τ σ) (hX : EHY σ) (hM : MSG σ τ) (hK : KPR σ τ) (hcap : (σ.1 50 0).toInt = 400) (hc : σ.1 4 0 = τ.1 0 32) : QT (f_X10_read p0 p1 σ) (fun qa => QT (f_X11_read p0 p1 τ) (fun qb => (MSG qa.2 qb.2 ∧ KPR qa.2 qb.2) ∧ ((qa.1 = qb.1 ∧ SHE σ qa.2 ∧ SHB τ qb.2) ∨ ∃ (q : Nat) (rb : Int32 × ST), q < 6 ∧ RFN 50 q qa rb ∧ qb.2 = rb.2 ∧ qb.1 = if 0 ≤ rb.1 then rb.2.1 0 73 else rb.1))) := by
  have l0 := li_0
  have l1 := li_1
  have l6 := li_6
  have hpl := hZ.2.1.2.2.1.1
  have hM0 : MSG σ (stI τ 0 0 0) := hM.eq rfl rfl rfl (stI_ne (by omega)) (stI_ne (by omega)) (stI_ne (by omega))
  have hK0 : KPR σ (stI τ 0 0 0) := hK.eq rfl rfl (fun i _ _ => by rw [stI_at, upN (by omega)]) (stI_ne (by omega))
  have hZ0 : MZ (stI τ 0 0 0) σ := hZ.yok (YOK.st0 hZ.2.1.2.2 0)
  have g32 : (stI τ 0 0 0).1 0 32 = τ.1 0 32 := rfl
  have hB0 : SHB τ (stI τ 0 0 0) := ⟨⟨fun c c1 c2 => stI_ne (by omega), by rw [stI_at, upN (by omega)]⟩, rfl, rfl⟩
  unfold f_X10_read f_X11_read
  generalize stI τ 0 0 0 = u at hM0 hK0 hZ0 g32 hB0
  refine QT.bnd2 (ab_isWritten hM0 hZ0 rfl p0) (fun x y hxy => ?_)
  obtain ⟨xv, xs⟩ := x
  obtain ⟨yv, ys⟩ := y
  obtain ⟨⟨e1, e2, e3⟩, hx⟩ := hxy
  have e1 : xs = σ := e1
  have e2 : ys = u := e2
  have e3 : xv = yv := e3
  have hx : xv = 0 ∨ xv = 1 ∧ (0 ≤ p0.toInt ∧ p0.toInt < 4) ∧ ¬ σ.1 40 p0.toNatClampNeg = -1 := hx
  rw [e1, e2, ← e3]
  dsimp only
  by_cases x0 : xv = 0
  · rw [if_pos x0, if_pos x0]
    exact QT.ret (QT.ret ⟨⟨hM0, hK0⟩, .inl ⟨rfl, SHE.rf, hB0⟩⟩)
  rw [if_neg x0, if_neg x0]
  obtain ⟨_, hp0, hw⟩ := hx.resolve_left x0
  refine QT.bnd2 (ab_isPlan (by rw [hc, g32]) (by rw [g32]; exact hpl) p1) (fun x y hxy => ?_)
  obtain ⟨av, as⟩ := x
  obtain ⟨bv, bs⟩ := y
  obtain ⟨⟨a1, a2, a3⟩, ha⟩ := hxy
  have a1 : as = σ := a1
  have a2 : bs = u := a2
  have a3 : av = bv := a3
  have ha : av = 0 ∨ av = 1 ∧ 0 ≤ p1.toInt ∧ p1.toInt < (u.1 0 32).toInt := ha
  rw [a1, a2, ← a3]
  dsimp only
  by_cases a0 : av = 0
  · rw [if_pos a0, if_pos a0]
    exact QT.ret (QT.ret ⟨⟨hM0, hK0⟩, .inl ⟨rfl, SHE.rf, hB0⟩⟩)
  rw [if_neg a0, if_neg a0]
  obtain ⟨_, hp1, hp1'⟩ := ha.resolve_left a0
  refine QT.bnd (fun q e => pt_planOf p0 σ hp0 q e) (fun q7 hq7 => ?_)
  rw [hq7]
  dsimp only
  obtain ⟨m, hm⟩ : ∃ m : Nat, p0.toInt = m := ⟨p0.toInt.toNat, by omega⟩
  obtain ⟨q, hq⟩ : ∃ q : Nat, p1.toInt = q := ⟨p1.toInt.toNat, by omega⟩
  have nm : p0.toNatClampNeg = m := nC hm
  rw [nm] at hw ⊢
  have hw' : ¬ (σ.1 40 m).toInt = -1 := fun h => hw (Int32.toInt_inj.mp (h.trans li_m1.symm))
  unfold bI at hpl
  rw [g32] at hp1'
  have hX' : EHX σ := hX.resolve_left (by rw [hc]; omega)
  refine QT.assoc (QT.bnd2 (ab_readsFor hZ0 hX' hM0 hK0 hcap p0 p1 hm (by omega) hw' hq (by rw [g32]; omega)) (fun x y hxy => ?_))
  obtain ⟨⟨hMr, hKr⟩, _, _, hR⟩ := hxy
  refine QT.ret ?_
  by_cases h9 : 0 ≤ y.1
  · rw [if_pos h9]
    exact QT.ret ⟨⟨hMr, hKr⟩, .inr ⟨q, y, by omega, hR, rfl, (if_pos h9).symm⟩⟩
  · rw [if_neg h9]
    exact QT.ret ⟨⟨hMr, hKr⟩, .inr ⟨q, y, by omega, hR, rfl, (if_neg h9).symm⟩⟩
/-- a byte of a message -/
theorem ab_hasByte (p0 p1 : Int32) {σ u : ST} (hZ : MZ u σ) (hM : MSG σ u) : QT (f_X1_hasByte p0 p1 σ) (fun qa => QT (f_X11_isByte p0 p1 u) (fun qb => (qa.2 = σ ∧ qb.2 = u ∧ qa.1 = qb.1) ∧ (qa.1 = 0 ∨ qa.1 = 1 ∧ ∃ m i : Nat, (p0.toInt = m ∧ m < 4) ∧ ¬ (u.1 32 m).toInt = -1 ∧ p1.toInt = i ∧ (i : Int) < (u.1 33 m).toInt ∧ (u.1 33 m).toInt ≤ 400))) := by
  have l0 := li_0
  have l1 := li_1
  have l400 := li_400
  have lm := li_m1
  unfold f_X1_hasByte f_X11_isByte
  refine QT.bnd2 (ab_isWritten hM hZ rfl p0) (fun x y hxy => ?_)
  obtain ⟨xv, xs⟩ := x
  obtain ⟨yv, ys⟩ := y
  obtain ⟨⟨e1, e2, e3⟩, hx⟩ := hxy
  have e1 : xs = σ := e1
  have e2 : ys = u := e2
  have e3 : xv = yv := e3
  have hx : xv = 0 ∨ xv = 1 ∧ (0 ≤ p0.toInt ∧ p0.toInt < 4) ∧ ¬ σ.1 40 p0.toNatClampNeg = -1 := hx
  rw [e1, e2, ← e3]
  dsimp only
  by_cases x0 : xv = 0
  · rw [if_pos x0, if_pos x0]
    exact QT.ret (QT.ret ⟨⟨rfl, rfl, rfl⟩, .inl rfl⟩)
  rw [if_neg x0, if_neg x0]
  obtain ⟨_, hp0, hw⟩ := hx.resolve_left x0
  obtain ⟨m, hm⟩ : ∃ m : Nat, p0.toInt = m := ⟨p0.toInt.toNat, by omega⟩
  have nm : p0.toNatClampNeg = m := nC hm
  rw [nm] at hw ⊢
  obtain ⟨m1, m2⟩ := hM m (by omega)
  have hu : ¬ (u.1 32 m).toInt = -1 := fun h => hw (Int32.toInt_inj.mp ((by rw [m1]; exact h : (σ.1 40 m).toInt = -1).trans lm.symm))
  obtain ⟨m3, ⟨m4, m5⟩, _⟩ := m2 hu
  have es := il_subE (x := u.1 33 m) (y := 1) (by omega) (by omega)
  have i1 := i64 p1
  have i2 := i64 (u.1 33 m - 1)
  have l0' := l64_0
  refine QT.sw ?_
  refine QT.grd (fun _ => ?_)
  refine QT.bndR (b_within _ _ _ _) (fun v hv => ?_)
  dsimp only
  rw [m3]
  by_cases hin : 0 ≤ p1.toInt ∧ p1.toInt < (u.1 33 m).toInt
  · refine QT.ieq (fun h => by omega) (fun _ => QT.ret ?_)
    refine QT.ilt (fun h => by omega) (fun _ => QT.grd (fun _ => ?_))
    refine QT.ile (fun h => by omega) (fun _ => ?_)
    refine QT.ile (fun h => by omega) (fun _ => QT.ret ?_)
    refine ⟨⟨rfl, rfl, rfl⟩, .inr ⟨rfl, m, p1.toInt.toNat, ⟨hm, by omega⟩, hu, by omega, by omega, m5⟩⟩
  · refine QT.ieq (fun _ => QT.ret ?_) (fun h => by omega)
    have z : (((0, σ) : Int32 × ST).2 = σ ∧ ((0, u) : Int32 × ST).2 = u ∧ ((0, σ) : Int32 × ST).1 = ((0, u) : Int32 × ST).1) ∧ (((0, σ) : Int32 × ST).1 = 0 ∨ ((0, σ) : Int32 × ST).1 = 1 ∧ ∃ m i : Nat, (p0.toInt = m ∧ m < 4) ∧ ¬ (u.1 32 m).toInt = -1 ∧ p1.toInt = i ∧ (i : Int) < (u.1 33 m).toInt ∧ (u.1 33 m).toInt ≤ 400) := ⟨⟨rfl, rfl, rfl⟩, .inl rfl⟩
    refine QT.ilt (fun _ => QT.ret z) (fun _ => QT.grd (fun _ => ?_))
    refine QT.ile (fun _ => QT.ret z) (fun _ => ?_)
    refine QT.ile (fun _ => QT.ret z) (fun _ => by omega)
/-- where a byte lies -/
theorem at400 {p0 p1 : Int32} {m i : Nat} (h0 : p0.toInt = m) (hm : m < 4) (h1 : p1.toInt = i) (hi : i < 400) : ((400 * p0) + p1).toInt = 400 * (m : Int) + i ∧ ((400 * p0) + p1).toNatClampNeg = 400 * m + i ∧ (p0 * 400) + p1 = (400 * p0) + p1 := by
  have l400 := li_400
  have e1 := mlE (k := 400) (y := p0) 400 l400 (by omega) (by omega)
  have e2 := il_addE (x := 400 * p0) (y := p1) (by omega) (by omega)
  exact ⟨by omega, nC (by omega), by rw [Int32.mul_comm]⟩
theorem ab_spoil (p0 p1 p2 : Int32) {σ τ : ST} (hZ : MZ τ σ) (hM : MSG σ τ) : QT (f_X10_spoil p0 p1 p2 σ) (fun qa => QT (f_X11_spoil p0 p1 p2 τ) (fun qb => qa.1 = qb.1 ∧ MSG qa.2 qb.2)) := by
  have l0 := li_0
  have l1 := li_1
  have l1600 : (1600 : Int32).toInt = 1600 := by decide
  have hM0 : MSG σ (stI τ 0 0 0) := hM.eq rfl rfl rfl (stI_ne (by omega)) (stI_ne (by omega)) (stI_ne (by omega))
  have hZ0 : MZ (stI τ 0 0 0) σ := hZ.yok (YOK.st0 hZ.2.1.2.2 0)
  unfold f_X10_spoil f_X11_spoil
  generalize stI τ 0 0 0 = u at hM0 hZ0
  have hH := ab_hasByte p0 p1 hZ0 hM0
  refine QT.bnd2 hH (fun x y hxy => ?_)
  obtain ⟨xv, xs⟩ := x
  obtain ⟨yv, ys⟩ := y
  obtain ⟨⟨e1, e2, e3⟩, hx⟩ := hxy
  have e1 : xs = σ := e1
  have e2 : ys = u := e2
  have e3 : xv = yv := e3
  have hx : xv = 0 ∨ xv = 1 ∧ ∃ m i : Nat, (p0.toInt = m ∧ m < 4) ∧ ¬ (u.1 32 m).toInt = -1 ∧ p1.toInt = i ∧ (i : Int) < (u.1 33 m).toInt ∧ (u.1 33 m).toInt ≤ 400 := hx
  rw [e1, e2, ← e3]
  dsimp only
  by_cases x0 : xv = 0
  · rw [if_pos x0, if_pos x0]
    exact QT.ret (QT.ret ⟨rfl, hM0⟩)
  rw [if_neg x0, if_neg x0]
  obtain ⟨_, m, i, ⟨h0, hm4⟩, hu, h1, hi, hi4⟩ := hx.resolve_left x0
  obtain ⟨a1, a2, a3⟩ := at400 h0 hm4 h1 (by omega)
  obtain ⟨m1, m2⟩ := hM0 m hm4
  obtain ⟨m3, _, m5⟩ := m2 hu
  have m6 := m5 i hi
  unfold f_X1_change f_X1_byteOf
  rw [a3, a2]
  refine QT.sw ?_
  refine QT.grd (fun _ => QT.lt (fun z4 hz4 => QT.ret ?_))
  refine QT.bnd (Q := fun q3 => q3.1 = σ.1 38 (400 * m + i) &&& 255 ∧ q3.2 = stI σ 38 (400 * m + i) (vp_nar .byte (((σ.1 38 (400 * m + i) &&& 255) ^^^ p2).toInt8.toInt32))) ?_ (fun q3 hq3 => QT.ret ?_)
  · rw [if_neg (fun h => by have := il_lt h; omega), if_neg (fun h => by have := il_le h; omega), if_pos (by omega), sbnd]
    dsimp only
    refine QT.bnd (Q := fun q => q.2 = σ ∧ ¬ q.1 = 0) (fun q e => ?_) (fun q3 hq3 => ?_)
    · obtain ⟨o1, o2⟩ := q
      -- what hasByte answered before
      unfold f_X1_hasByte at e
      obtain ⟨⟨wv, ws⟩, ew, e⟩ := bnd_some e
      obtain ⟨k1, k2⟩ := qa_isWritten p0 σ _ ew
      have k1 : ws = σ := k1
      have k2 : (wv = 0 ∧ ¬ ((0 ≤ p0.toInt ∧ p0.toInt < 4) ∧ ¬ σ.1 40 p0.toNatClampNeg = -1)) ∨ wv = 1 ∧ _ := k2
      have nm : p0.toNatClampNeg = m := nC h0
      rw [k1, nm, m3] at e
      dsimp only at e
      have hw : ¬ σ.1 40 m = -1 := fun h9 => hu (by rw [← m1, h9]; exact li_m1)
      have hwv : ¬ wv = 0 := by
        rcases k2 with ⟨_, k2⟩ | ⟨k2, _⟩
        · rw [nm] at k2
          exact absurd ⟨by omega, hw⟩ k2
        · rw [k2]
          exact one_ne
      have l400 := li_400
      rw [if_neg hwv, if_neg (fun h => by have := il_lt h; omega), if_pos (by omega), if_neg (fun h => by have := il_le h; omega), if_neg (fun h => by have := il_le h; omega)] at e
      cases e
      exact ⟨rfl, one_ne⟩
    · obtain ⟨o1, o2⟩ := q3
      obtain ⟨k1, k2⟩ := hq3
      have k1 : o2 = σ := k1
      have k2 : ¬ o1 = 0 := k2
      rw [k1]
      dsimp only
      rw [if_neg k2, if_pos (by omega)]
      exact QT.lt (fun z6 hz6 => QT.ret ⟨rfl, hz6⟩)
  · obtain ⟨o1, o2⟩ := hq3
    refine ⟨?_, ?_⟩
    · show q3.1 = u.1 34 (400 * m + i) &&& 255
      rw [o1, m6]
    · show MSG q3.2 z4
      rw [o2, hz4, m6]
      intro k hk
      obtain ⟨k1, k2⟩ := hM0 k hk
      rw [stI_ne (by omega), stI_ne (by omega), stI_ne (by omega), stI_ne (by omega), stI_at, stI_at]
      refine ⟨k1, fun hu9 => ?_⟩
      obtain ⟨k3, k4, k5⟩ := k2 hu9
      refine ⟨k3, k4, fun j hj => ?_⟩
      by_cases e : 400 * k + j = 400 * m + i
      · rw [upA e, upA e]
      · rw [upN e, upN e]
        exact k5 j hj
theorem ab_cut (p0 p1 : Int32) {σ τ : ST} (hZ : MZ τ σ) (hM : MSG σ τ) : QT (f_X10_cut p0 p1 σ) (fun qa => QT (f_X11_cut p0 p1 τ) (fun qb => qa.1 = qb.1 ∧ MSG qa.2 qb.2)) := by
  have l0 := li_0
  have l1 := li_1
  have lm := li_m1
  have l0' := l64_0
  have hM0 : MSG σ (stI τ 0 0 0) := hM.eq rfl rfl rfl (stI_ne (by omega)) (stI_ne (by omega)) (stI_ne (by omega))
  have hZ0 : MZ (stI τ 0 0 0) σ := hZ.yok (YOK.st0 hZ.2.1.2.2 0)
  unfold f_X10_cut f_X11_cut
  generalize stI τ 0 0 0 = u at hM0 hZ0
  refine QT.bnd2 (ab_isWritten hM0 hZ0 rfl p0) (fun x y hxy => ?_)
  obtain ⟨xv, xs⟩ := x
  obtain ⟨yv, ys⟩ := y
  obtain ⟨⟨e1, e2, e3⟩, hx⟩ := hxy
  have e1 : xs = σ := e1
  have e2 : ys = u := e2
  have e3 : xv = yv := e3
  have hx : xv = 0 ∨ xv = 1 ∧ (0 ≤ p0.toInt ∧ p0.toInt < 4) ∧ ¬ σ.1 40 p0.toNatClampNeg = -1 := hx
  rw [e1, e2, ← e3]
  dsimp only
  by_cases x0 : xv = 0
  · rw [if_pos x0, if_pos x0]
    exact QT.ret (QT.ret ⟨rfl, hM0⟩)
  rw [if_neg x0, if_neg x0]
  obtain ⟨_, hp0, hw⟩ := hx.resolve_left x0
  obtain ⟨m, hm⟩ : ∃ m : Nat, p0.toInt = m := ⟨p0.toInt.toNat, by omega⟩
  have nm : p0.toNatClampNeg = m := nC hm
  rw [nm] at hw ⊢
  obtain ⟨m1, m2⟩ := hM0 m (by omega)
  have hu : ¬ (u.1 32 m).toInt = -1 := fun h => hw (Int32.toInt_inj.mp ((by rw [m1]; exact h : (σ.1 40 m).toInt = -1).trans lm.symm))
  obtain ⟨m3, ⟨m4, m5⟩, m6⟩ := m2 hu
  have i1 := i64 p1
  have i2 := i64 (u.1 33 m)
  refine QT.sw ?_
  refine QT.grd (fun _ => ?_)
  refine QT.bndR (b_within _ _ _ _) (fun v hv => ?_)
  dsimp only
  have sz := q_sizeOfM p0 σ hp0
  rw [nm] at sz
  have mid : ∀ {P : Int32 × ST → Prop}, QT (if p1 ≤ σ.1 39 m then ((f_X1_shorten p0 p1 σ).bind fun q5 => some (q5.1, q5.2)) else some (-1, σ)) P → QT ((f_X1_sizeOf p0 σ).bind fun q3 => if p1 ≤ q3.1 then ((f_X1_shorten p0 p1 q3.2).bind fun q5 => some (q5.1, q5.2)) else some (-1, q3.2)) P := fun h => QT.bnd sz (fun q hq => by rw [hq]; exact h)
  by_cases hin : 0 ≤ p1.toInt ∧ p1.toInt ≤ (u.1 33 m).toInt
  · refine QT.ieq (fun h => by omega) (fun _ => QT.ret ?_)
    refine QT.ilt (fun h => by omega) (fun _ => mid ?_)
    rw [m3]
    refine QT.ile (fun _ => ?_) (fun h => by omega)
    unfold f_X1_shorten
    refine QT.bnd (Q := fun q5 => q5.1 = σ.1 39 m ∧ q5.2 = stI σ 39 m p1) ?_ (fun q5 h5 => QT.ret ?_)
    · refine QT.bnd sz (fun q hq => ?_)
      rw [hq]
      dsimp only
      refine QT.bndR (k2_isNumber p0 σ) (fun v2 hv2 => ?_)
      dsimp only
      refine QT.ieq (fun h => by omega) (fun _ => QT.grd (fun _ => QT.ret ⟨rfl, ?_⟩))
      rw [nm]
    · obtain ⟨o1, o2⟩ := h5
      refine ⟨o1.trans m3, ?_⟩
      show MSG q5.2 (stI u 33 m p1)
      rw [o2]
      intro k hk
      obtain ⟨k1, k2⟩ := hM0 k hk
      have a40 : (stI σ 39 m p1).1 40 = σ.1 40 := stI_ne (by omega)
      have a38 : (stI σ 39 m p1).1 38 = σ.1 38 := stI_ne (by omega)
      have b32 : (stI u 33 m p1).1 32 = u.1 32 := stI_ne (by omega)
      have b34 : (stI u 33 m p1).1 34 = u.1 34 := stI_ne (by omega)
      rw [a40, a38, b32, b34, stI_at, stI_at]
      refine ⟨k1, fun hu9 => ?_⟩
      obtain ⟨k3, k4, k5⟩ := k2 hu9
      by_cases e : k = m
      · rw [upA e, upA e, e]
        rw [e] at k5
        exact ⟨rfl, ⟨by omega, by omega⟩, fun j hj => k5 j (by omega)⟩
      · rw [upN e, upN e]
        exact ⟨k3, k4, k5⟩
  · refine QT.ieq (fun _ => QT.ret ?_) (fun h => by omega)
    refine QT.ilt (fun _ => QT.ret ⟨rfl, hM0⟩) (fun _ => mid ?_)
    rw [m3]
    exact QT.ile (fun h => by omega) (fun _ => QT.ret ⟨rfl, hM0⟩)
theorem ab_message (p0 p1 : Int32) {σ τ : ST} (hZ : MZ τ σ) (hM : MSG σ τ) : QT (f_X10_message p0 p1 σ) (fun qa => QT (f_X11_message p0 p1 τ) (fun qb => qa.1 = qb.1)) := by
  have l0 := li_0
  have l1 := li_1
  have lm := li_m1
  have l0' := l64_0
  have l1' : (1 : Int64).toInt = 1 := by decide
  have hM0 : MSG σ (stI τ 0 0 0) := hM.eq rfl rfl rfl (stI_ne (by omega)) (stI_ne (by omega)) (stI_ne (by omega))
  have hZ0 : MZ (stI τ 0 0 0) σ := hZ.yok (YOK.st0 hZ.2.1.2.2 0)
  unfold f_X10_message f_X11_message
  generalize stI τ 0 0 0 = u at hM0 hZ0
  refine QT.bnd2 (ab_isWritten hM0 hZ0 rfl p0) (fun x y hxy => ?_)
  obtain ⟨xv, xs⟩ := x
  obtain ⟨yv, ys⟩ := y
  obtain ⟨⟨e1, e2, e3⟩, hx⟩ := hxy
  have e1 : xs = σ := e1
  have e2 : ys = u := e2
  have e3 : xv = yv := e3
  have hx : xv = 0 ∨ xv = 1 ∧ (0 ≤ p0.toInt ∧ p0.toInt < 4) ∧ ¬ σ.1 40 p0.toNatClampNeg = -1 := hx
  rw [e1, e2, ← e3]
  dsimp only
  by_cases x0 : xv = 0
  · rw [if_pos x0, if_pos x0]
    exact QT.ret (QT.ret rfl)
  rw [if_neg x0, if_neg x0]
  obtain ⟨_, hp0, hw⟩ := hx.resolve_left x0
  obtain ⟨m, hm⟩ : ∃ m : Nat, p0.toInt = m := ⟨p0.toInt.toNat, by omega⟩
  have nm : p0.toNatClampNeg = m := nC hm
  obtain ⟨m1, m2⟩ := hM0 m (by omega)
  rw [nm] at hw ⊢
  have hu : ¬ (u.1 32 m).toInt = -1 := fun h => hw (Int32.toInt_inj.mp ((by rw [m1]; exact h : (σ.1 40 m).toInt = -1).trans lm.symm))
  obtain ⟨m3, _, _⟩ := m2 hu
  have i1 := i64 p1
  refine QT.sw ?_
  refine QT.bndR (b_within _ _ _ _) (fun v hv => ?_)
  dsimp only
  refine QT.ieq (fun h => QT.ret ?_) (fun h => ?_)
  · refine QT.ieq (fun h9 => by omega) (fun _ => ?_)
    exact QT.ieq (fun h9 => by omega) (fun _ => QT.ret rfl)
  refine QT.ieq (fun h9 => QT.grd (fun _ => QT.ret ?_)) (fun h9 => QT.grd (fun _ => QT.ret ?_))
  · refine QT.ieq (fun _ => ?_) (fun h => by omega)
    refine QT.bnd (q_sizeOfM p0 σ hp0) (fun q hq => QT.ret ?_)
    rw [hq, nm]
    exact m3
  · refine QT.ieq (fun h => by omega) (fun _ => ?_)
    refine QT.ieq (fun _ => ?_) (fun h => by omega)
    refine QT.bnd (fun q e => pt_planOf p0 σ hp0 q e) (fun q hq => QT.ret ?_)
    rw [hq, nm]
    exact m1
theorem ab_kept (p0 : Int32) {σ τ : ST} (hK : KPR σ τ) : QT (f_X10_kept p0 σ) (fun qa => QT (f_X11_kept p0 τ) (fun qb => qa.1 = qb.1)) := by
  have l0 := li_0
  have l1 := li_1
  have l4 := li_4
  have lm := li_m1
  have l0' := l64_0
  obtain ⟨⟨h1, h2, h3⟩, _, h6, _⟩ := hK
  have e92 : (stI τ 0 0 0).1 0 92 = τ.1 0 92 := by rw [stI_at, upN (by omega)]
  have e55 : (stI τ 0 0 0).1 55 = τ.1 55 := stI_ne (by omega)
  unfold f_X10_kept f_X11_kept
  rw [e92]
  generalize stI τ 0 0 0 = u at e55
  by_cases hm : p0 = -1
  · rw [if_pos hm, if_pos hm]
    exact QT.ret (QT.ret h1)
  rw [if_neg hm, if_neg hm]
  have es := il_subE (x := τ.1 0 92) (y := 1) (by omega) (by omega)
  have i1 := i64 p0
  have i2 := i64 (τ.1 0 92 - 1)
  refine QT.sw ?_
  refine QT.bndR (b_within _ _ _ _) (fun v hv => ?_)
  dsimp only
  unfold f_X9_pairAt
  by_cases hin : 0 ≤ p0.toInt ∧ p0.toInt < (τ.1 0 92).toInt
  · refine QT.ieq (fun h => by omega) (fun _ => QT.grd (fun _ => QT.ret ?_))
    refine QT.bnd (Q := fun q => q.1 = σ.1 49 p0.toNatClampNeg) ?_ (fun q hq => QT.ret ?_)
    · refine QT.ilt (fun h => by omega) (fun _ => ?_)
      refine QT.ile (fun h => by rw [h1] at h; omega) (fun _ => ?_)
      refine QT.ile (fun h => by omega) (fun _ => QT.grd (fun _ => QT.ret rfl))
    · show q.1 = u.1 55 p0.toNatClampNeg
      have n0 := nN_ hin.1
      rw [hq, e55]
      exact h6 _ (by omega)
  · refine QT.ieq (fun _ => QT.ret ?_) (fun h => by omega)
    refine QT.bnd (Q := fun q => q.1 = -1) ?_ (fun q hq => QT.ret hq)
    refine QT.ilt (fun _ => QT.ret rfl) (fun _ => ?_)
    refine QT.ile (fun _ => QT.ret rfl) (fun h => ?_)
    rw [h1] at h
    exact QT.ile (fun _ => QT.ret rfl) (fun h => by omega)
