/-! both walks through the fields of a pair of records; both as deep as they like -/
theorem wz_33 {p q : Nat} {rw_ rb rf : Int32 → Int32 → Int32 → ST → Option ST} {rl rr : Int32 → Int32 → ST → Option ST} (hw : cW p q rw_ rl) (x y w r x3 : Int32) (wn rn : Nat) (hx : x.toInt = 6 * (p : Int) + wn) (hy : y.toInt = 6 * (q : Int) + rn) (hwn : w.toInt = wn) (hx3 : x3.toInt = 6 * (q : Int) + rn) : ∀ (n n' j : Nat) (lev x4 : Int32) (σ τ : ST), STT p q σ τ → x4.toInt = j → (wn : Int) < (τ.1 8 p).toInt → (rn : Int) < (τ.1 8 q).toInt → LVB lev τ 5 → PT (f_X0_walkFields_33 rw_ rb rf n x y lev x4 σ) (fun s => PT (f_X11_looksAtRecords_40 rl rr n' w x3 x4 τ) (PWX σ τ s)) := by
  intro n
  have l0 := li_0
  have l1 := li_1
  have lm := li_m1
  have l8 := li_8
  induction n with
  | zero => intro n' j lev x4 σ τ _ _ _ _ _; exact PT.none
  | succ n ih =>
    intro n' j lev x4 σ τ h h4 h8p h8q hl
    cases n' with
    | zero =>
      refine PT.sw ?_
      exact PT.none
    | succ n' =>
    rw [f_X0_walkFields_33, f_X11_looksAtRecords_40]
    unfold f_X0_walkFields_119 f_X11_looksAtRecords_116
    have h' := h
    obtain ⟨⟨⟨hp, hq⟩, ⟨a2, a3⟩, ⟨a4, a5⟩, a6⟩, _, _⟩ := h'
    have cP := a4.cnt
    have cQ := a5.cnt
    obtain ⟨b1, b2, b3, b4, b5⟩ := a5.acc h8q
    have g5 := b3.1
    have g6 := b3.2
    have n3 : x3.toNatClampNeg = 6 * q + rn := nC (by omega)
    have hn57 : (τ.1 0 61).toInt < 20 → (τ.1 0 57).toInt < 32 := fun h9 => by have := hl h9; omega
    rw [a4_fieldsOf y σ (r := 6 * q + rn) (by omega) (by omega), sbnd]
    dsimp only
    rw [b2]
    refine PT.sw ?_
    refine PT.grd (fun _ => ?_)
    rw [n3]
    by_cases hj : (τ.1 11 (6 * q + rn)).toInt ≤ j
    · refine PT.ile (fun _ => PT.ret ?_) (fun h9 => by omega)
      exact PT.ile (fun _ => PT.ret (PWX.rf h.2.2)) (fun h9 => by omega)
    refine PT.ile (fun h9 => by omega) (fun _ => ?_)
    refine PT.sw ?_
    refine PT.ile (fun h9 => by omega) (fun _ => ?_)
    have m1 := mlE (k := 8) (y := x3) 8 l8 (by omega) (by omega)
    have m2 := il_addE (x := 8 * x3) (y := x4) (by omega) (by omega)
    have m3 := il_addE (x := x4) (y := 1) (by omega) (by omega)
    have nf : (8 * x3 + x4).toNatClampNeg = 8 * (6 * q + rn) + j := nC (by omega)
    obtain ⟨⟨z0, s0⟩, _, _, v, ev, _⟩ := ab_source h.1 x y x4 w (8 * x3 + x4) wn rn j h8p h8q (by omega) hx hy h4 hwn (by omega)
    rw [ev, sbnd]
    dsimp only
    refine PT.bnd2 (xw_step x4 h.2.2 hn57) (fun s1 t1 hE => ?_)
    have hS1 := h.se hE
    have t8 := hE.2.1.1 8 (by decide) (by decide)
    have t11 := hE.2.1.1 11 (by decide) (by decide)
    have h57 : (t1.1 0 61).toInt < 20 → (t1.1 0 57).toInt ≤ 32 := fun h9 => by
      rw [hE.2.2.2.1] at h9
      have := hE.2.2.2.2.2 h9
      have := hn57 h9
      omega
    have go : ∀ s2 t2 : ST, PWX s1 t1 s2 t2 → PT (f_X0_walkFields_33 rw_ rb rf n x y lev (x4 + 1) (stI s2 41 11 (s2.1 41 11 - 1))) (fun s => PT (f_X11_looksAtRecords_40 rl rr n' w x3 (x4 + 1) (stI t2 0 57 (t2.1 0 57 - 1))) (PWX σ τ s)) := fun s2 t2 hP => by
      have hQ := xw_leave h.2.2 hE hP
      have q8 := hQ.2.1.1 8 (by decide) (by decide)
      refine PT.mono2 (ih n' (j + 1) lev (x4 + 1) _ _ (h.sp hQ) (by omega) (by rw [q8]; exact h8p) (by rw [q8]; exact h8q) (hl.to hQ)) (fun s t hst => hQ.trans hst)
    obtain ⟨⟨_, _⟩, ⟨_, _⟩, ⟨a4', a5'⟩, a6'⟩ := hS1.1
    have h8p' : (wn : Int) < (t1.1 8 p).toInt := by rw [t8]; exact h8p
    have h8q' : (rn : Int) < (t1.1 8 q).toInt := by rw [t8]; exact h8q
    obtain ⟨d1, d2, d3, d4, d5⟩ := a5'.acc h8q'
    obtain ⟨c1, c2, c3, c4, c5⟩ := a4'.acc h8p'
    have hj' : (j : Int) < (t1.1 11 (6 * q + rn)).toInt := by rw [t11]; omega
    refine PT.bndR (ab_source (h.1.keep hE.1.kta) x y x4 w (8 * x3 + x4) wn rn j h8p h8q (by omega) hx hy h4 hwn (by omega)) (fun z hz => ?_)
    dsimp only
    obtain ⟨v', ev', hz⟩ := hz
    rw [ev] at ev'
    have evv : v = v' := (Prod.mk.inj (Option.some.inj ev')).1
    rw [← evv] at hz
    rcases hz with ⟨z1, z2⟩ | ⟨i, i1, i2, i3⟩
    · refine PT.ieq (fun _ => ?_) (fun h9 => by omega)
      have d16 := (d5 j hj').2.2.2
      have d16 : (t1.1 16 (8 * (6 * q + rn) + j)).toInt = 0 ∨ (t1.1 16 (8 * (6 * q + rn) + j)).toInt = 1 := d16.elim .inl (fun h => .inr h.1)
      refine PT.bndR (d4.has (by omega) y x4 (by omega) h4 (by omega) (by omega) d16) (fun k hk => ?_)
      dsimp only
      refine PT.sw ?_
      refine PT.ilt (fun _ => ?_) (fun h9 => by omega)
      refine PT.grd (fun _ => ?_)
      rw [nf]
      refine PT.ite (fun h0 => ?_) (fun h0 => ?_)
      · refine PT.sw ?_
        refine PT.ieq (fun _ => ?_) (fun h9 => ?_)
        · exact PT.bnd2 (xw_miss 1 hS1.2.2 h57) (fun s2 t2 hP => go s2 t2 hP)
        · exfalso
          rcases hk with hk | hk
          · omega
          · exact hk.2 h0
      · refine PT.sw ?_
        refine PT.ieq (fun h9 => ?_) (fun _ => ?_)
        · exfalso
          rcases hk with hk | hk
          · exact h0 hk.2
          · omega
        · exact go s1 t1 (PWX.rf hS1.2.2)
    · refine PT.ieq (fun h9 => by omega) (fun _ => ?_)
      rw [a4_typeOf x z s1 (r := 6 * p + wn) (j := i) (by omega) i2 (by omega) (by
        have g7 := c3.2
        rw [t11] at g7
        omega), sbnd]
      dsimp only
      rw [a4_typeOf y x4 s1 (r := 6 * q + rn) (j := j) (by omega) h4 (by omega) (by omega), sbnd]
      dsimp only
      refine PT.sw ?_
      refine PT.ilt (fun h9 => by omega) (fun _ => ?_)
      refine PT.grd (fun _ => ?_)
      refine PT.grd (fun _ => ?_)
      have nv : v.toNatClampNeg = 8 * (6 * p + wn) + i := nC (by omega)
      rw [nf, nv]
      have tW : TY p (t1.1 8 p).toInt s1 t1 4 (s1.1 13 (8 * (6 * p + wn) + i)) (t1.1 15 (8 * (6 * p + wn) + i)) := (c5 i (by rw [t11]; exact i1)).2.2.1
      have tR : TY q (t1.1 8 q).toInt s1 t1 4 (s1.1 13 (8 * (6 * q + rn) + j)) (t1.1 15 (8 * (6 * q + rn) + j)) := (d5 j hj').2.2.1
      refine PT.sw ?_
      exact PT.bnd2 (hw _ _ (lev + 1) _ _ s1 t1 4 4 hS1 tW tR (by omega) (by omega) (hl.inn hE (by omega) rfl h.n0)) (fun s2 t2 hP => go s2 t2 hP)
theorem wz_mark {p q : Nat} {σ τ : ST} {k : Nat} (h : STT p q σ τ) (hk : k < 36) (v : Int32) (hv : ¬ v = 0) : PWX σ τ (stL σ 41 12 (σ.2.1 41 12 ||| lb1 k)) (stI τ 40 k v) := by
  have e1 : (stL σ 41 12 (σ.2.1 41 12 ||| lb1 k)).2.1 41 12 = (σ.2.1 41 12 ||| lb1 k) := stL_at
  have e2 : (stI τ 40 k v).1 40 = upd (τ.1 40) k v := rfl
  refine ⟨KWK.rf.l, CH.rf.i (by decide) (by decide), ⟨h.2.2.1, fun h9 => ?_⟩, fun h9 => ⟨h9, rfl, fun j hj => ?_⟩⟩
  · obtain ⟨x1, x2, x3, x4⟩ := h.2.2.2 h9
    refine ⟨x1, x2, x3, fun j hj => ?_⟩
    rw [e1, e2, lbt_or (by omega)]
    by_cases e : j = k
    · subst e
      rw [upd_at]
      exact ⟨fun _ => hv, fun _ => by simp⟩
    · rw [upd_no e]
      have := x4 j hj
      simpa [e] using this
  · rw [e2] at hj
    by_cases e : j = k
    · subst e
      rw [upd_at] at hj
      exact absurd hj hv
    · rw [upd_no e] at hj
      exact hj
theorem wz_fields {p q : Nat} {rw_ rb rf : Int32 → Int32 → Int32 → ST → Option ST} {rl rr : Int32 → Int32 → ST → Option ST} (hw : cW p q rw_ rl) : cWF p q (f_X0_walkFields rw_ rb rf) (f_X11_looksAtRecords rl rr) := by
  intro x y lev w r σ τ wn rn h hn hx hy hwn hrn h8p h8q hN hl
  unfold f_X0_walkFields f_X11_looksAtRecords
  have h' := h
  obtain ⟨⟨⟨hp, hq⟩, ⟨a2, a3⟩, ⟨a4, a5⟩, a6⟩, _, _⟩ := h'
  have cP := a4.cnt
  have cQ := a5.cnt
  have hrm := h.1.rm
  have l0 := li_0
  have l6 := li_6
  have m1 := mlE (k := 6) (y := w) 6 l6 (by omega) (by omega)
  have m2 := il_addE (x := 6 * w) (y := r) (by omega) (by omega)
  have n1 : (6 * w + r).toNatClampNeg = 6 * wn + rn := nC (by omega)
  have m3 := mlE (k := 6) (y := τ.1 0 54) 6 l6 (by omega) (by omega)
  have m4 := il_addE (x := 6 * τ.1 0 54) (y := r) (by omega) (by omega)
  have hbit := a_bitOf x y σ (a := 6 * p + wn) (b := 6 * q + rn) (by omega) (by omega) (by omega) (by omega)
  have ek : 6 * ((6 * p + wn) % 6) + (6 * q + rn) % 6 = 6 * wn + rn := by omega
  rw [ek] at hbit
  rw [hbit, sbnd]
  dsimp only
  rw [hbit, sbnd]
  dsimp only
  refine PT.sw ?_
  refine PT.grd (fun _ => ?_)
  rw [n1]
  have hseen := (h.2.2.2 hn).2.2.2 (6 * wn + rn) (by omega)
  refine PT.ite (fun h0 => ?_) (fun h0 => ?_)
  · refine PT.lt (fun z hz => ?_)
    refine PT.sw ?_
    refine PT.ite (fun _ => ?_) (fun h9 => ?_)
    · have v1 : ¬ (vp_nar .boolean (1 : Int32)) = 0 := by decide
      have hP := wz_mark h (k := 6 * wn + rn) (by omega) _ v1
      have hlQ : LVB lev (stI τ 40 (6 * wn + rn) (vp_nar .boolean 1)) 5 := fun h9 => by
        obtain ⟨y1, y2⟩ := hl h9
        refine ⟨y1, ?_⟩
        have e2 : (stI τ 40 (6 * wn + rn) (vp_nar .boolean (1 : Int32))).1 40 (6 * wn + rn) = vp_nar .boolean (1 : Int32) := by
          show upd (τ.1 40) (6 * wn + rn) (vp_nar .boolean (1 : Int32)) (6 * wn + rn) = _
          rw [upd_at]
        have d1 : (6 * wn + rn) / 6 = wn := by omega
        have d2 : (6 * wn + rn) % 6 = rn := by omega
        have := uP_lt hP.2.1 (hP.2.2.2 h9).2.2 (k := 6 * wn + rn) (by omega) (by rw [e2]; exact v1) ⟨h0, ⟨by omega, by omega⟩, by
          rw [d1, d2, ← intOf hwn (by omega), ← intOf hrn (by omega)]
          exact hN⟩
        have e57 : (stI τ 40 (6 * wn + rn) (vp_nar .boolean (1 : Int32))).1 0 57 = τ.1 0 57 := rfl
        rw [e57]
        omega
      have ez : z.toInt = 6 * (q : Int) + rn := by
        rw [hz]
        show (6 * τ.1 0 54 + r).toInt = _
        omega
      exact PT.mono2 (wz_33 hw x y w r z wn rn hx hy hwn ez FU FU 0 lev 0 _ _ (h.sp hP) l0 h8p h8q hlQ) (fun s t hst => hP.trans hst)
    · exfalso
      apply h9
      rw [a_has (by omega)]
      cases e : lbt (σ.2.1 41 12) (6 * wn + rn) with
      | false => rfl
      | true => exact absurd h0 (hseen.mp e)
  · refine PT.ret ?_
    refine PT.ite (fun h9 => ?_) (fun _ => PT.ret (PWX.rf h.2.2))
    exfalso
    rw [a_has (by omega)] at h9
    have := hseen.mpr h0
    rw [h9] at this
    cases this
theorem wz_R {p q : Nat} : ∀ N M : Nat, cW p q (R_X0_walk N).1 (R_X11_looksAt M).1 ∧ cWB p q (R_X0_walk N).2.1 (fun u v τ => f_X11_looksAt_13 (R_X11_looksAt M).1 (R_X11_looksAt M).2 FU u v 0 τ) ∧ cWF p q (R_X0_walk N).2.2 (R_X11_looksAt M).2 := by
  intro N
  induction N with
  | zero => exact fun M => ⟨fun x y lev u v σ τ d e _ _ _ _ _ _ => PT.none, fun x y lev u v σ τ d e _ _ _ _ _ _ _ => PT.none, fun x y lev w r σ τ wn rn _ _ _ _ _ _ _ _ _ _ => PT.none⟩
  | succ N ih =>
    intro M
    refine ⟨?_, wz_branches (ih M).1, ?_⟩
    · cases M with
      | zero => exact fun x y lev u v σ τ d e _ _ _ _ _ _ => PT.sw PT.none
      | succ M =>
        refine wz_top ⟨fun a b s => (w20R_X11_looksAt (s := s) M).1 a b, fun a b s => (w20R_X11_looksAt (s := s) M).2 a b⟩ (ih M).2.1 ?_ (wz_77 (ih M).1 (ih M).2.2)
        cases M with
        | zero => exact fun x y lev u v σ τ d e _ _ _ _ _ _ _ _ _ => PT.sw PT.none
        | succ M => exact wz_77 (ih M).1 (ih M).2.2
    · cases M with
      | zero => exact fun x y lev w r σ τ wn rn _ _ _ _ _ _ _ _ _ _ => PT.sw PT.none
      | succ M => exact wz_fields (ih M).1
