/-! what holds between two calls: what is shown, too -/
def Inv9 (n : Nat) (σ τ : ST) (κ : Nat) : Prop := Inv8 n σ τ κ ∧ F27 τ ∧ SHW 50 σ τ
theorem KYA.she {σ s : ST} (h : KYA σ s) : SHE σ s := ⟨fun c _ _ => h.1 c (by omega), h.2⟩
theorem KYB.shb {τ w : ST} (h : KYB τ w) : SHB τ w := ⟨⟨fun c _ _ => h.1 c (by omega), h.2.1 73 (by omega)⟩, h.2.2.1, h.2.2.2⟩
theorem KZA.she {σ s : ST} (h : KZA σ s) : SHE σ s := ⟨fun c _ _ => h.1 c (by omega) (by omega), h.2⟩
theorem KZB.shb {τ w : ST} (h : KZB τ w) : SHB τ w := ⟨⟨fun c _ _ => h.1 c (by omega), h.2.1 73 (by omega)⟩, h.2.2.1, h.2.2.2⟩
theorem rfn_shw {q : Nat} {qa qb : Int32 × ST} (h : RFN 50 q qa qb) (hf : F27 qb.2) (h400 : (qa.2.1 50 0).toInt = 400) : SHW 50 qa.2 qb.2 := by
  rcases h with ⟨_, _, h1, h2⟩ | h
  · exact shw_0 h1 h2
  · exact (shw_read h hf h400).1
theorem SHB.f27 {a b : ST} (h : a.1 27 = b.1 27) (k : F27 b) : F27 a := fun i => by
  rw [h]
  exact k i
theorem inv9_st {n κ : Nat} {σ τ : ST} (h : Inv9 n σ τ κ) (j : Nat) (pr : Nat → Int32) (qa : Int32 × ST) (qb : (Int32 × ST) × Nat) (ea : fA j pr σ = some qa) (eb : fB j pr τ = some qb) (hIA : IA qa.2) : F27 qb.1.2 ∧ SHW 50 qa.2 qb.1.2 := by
  obtain ⟨⟨⟨hI, hZ⟩, hX, hM, hK⟩, hf, hS⟩ := h
  have hI' := hI
  obtain ⟨_, hA, hB, hF, h32, hk, hT, hc⟩ := hI'
  have hcap : (σ.1 50 0).toInt = 400 := hA.t50.1
  have hcap' : (qa.2.1 50 0).toInt = 400 := hIA.t50.1
  have hf' : F27 qb.1.2 := wf_fB j pr τ qb eb hf
  refine ⟨hf', ?_⟩
  have two : ∀ {o : Option (Int32 × ST)}, (o.bind fun q => some ((q.1, q.2), 0)) = some qb → ∃ x, o = some x ∧ qb.1 = x := fun e => by
    obtain ⟨x, ex, e2⟩ := bnd_some e
    cases e2
    exact ⟨x, ex, rfl⟩
  by_cases h1 : j = 1
  · subst h1
    rcases ab_plansQ hI (pr 1) qa ea qb eb with ⟨a, b⟩ | ⟨⟨_, _, a⟩, b⟩
    · exact hS.eq a.she b.shb
    · exact shw_0 (by rw [a]; exact li_0) (by rw [b.2.1]; exact li_0)
  by_cases h2 : j = 2
  · subst h2
    have a : KZA σ qa.2 := wkz_X10_write KZA.rf qa ea
    have b : KZB τ qb.1.2 := wkz_X11_write KZB.rf qb eb
    exact hS.eq a.she b.shb
  by_cases h7 : j = 7
  · subst h7
    obtain ⟨x, ex, e2⟩ := two eb
    have a : KZA σ qa.2 := wkz_X10_spoil KZA.rf qa ea
    have b : KZB τ x.2 := wkz_X11_spoil KZB.rf x ex
    rw [e2]
    exact hS.eq a.she b.shb
  by_cases h8 : j = 8
  · subst h8
    obtain ⟨x, ex, e2⟩ := two eb
    have a : KZA σ qa.2 := wkz_X10_cut KZA.rf qa ea
    have b : KZB τ x.2 := wkz_X11_cut KZB.rf x ex
    rw [e2]
    exact hS.eq a.she b.shb
  by_cases h13 : j = 13
  · subst h13
    obtain ⟨x, ex, e2⟩ := two eb
    rw [e2] at hf' ⊢
    rcases (ab_read (pr 1) (pr 2) hZ hX hM hK hcap h32 qa ea x ex).2 with ⟨_, a, b⟩ | ⟨q, rb, _, hR, e3, _⟩
    · exact hS.eq a b
    · rw [e3] at hf' ⊢
      exact rfn_shw hR hf' hcap'
  by_cases h19 : j = 19
  · subst h19
    obtain ⟨x, ex, e2⟩ := two eb
    rw [e2] at hf' ⊢
    have hcv := ab_convert (pr 1) (pr 2) (pr 3) hZ hX hM hK hcap h32 qa ea x ex
    rcases hcv.2.2 with ⟨a, b⟩ | ⟨q, ra, rb, _, hR, a, b, e27⟩
    · exact hS.eq a b
    · exact (rfn_shw hR (SHB.f27 e27.symm hf') (by rw [← a.1 50 (by omega) (by omega)]; exact hcap')).eq a b
  have hn : j ≠ 1 ∧ j ≠ 2 ∧ j ≠ 7 ∧ j ≠ 8 ∧ j ≠ 13 ∧ j ≠ 19 := ⟨h1, h2, h7, h8, h13, h19⟩
  have a : KYA σ qa.2 := wy_fA j hn pr σ qa ea
  have b : KYB τ qb.1.2 := wy_fB j hn pr τ qb eb
  exact hS.eq a.she b.shb
theorem inv9_call (n : Nat) (σ τ : ST) (κ : Nat) (h : Inv9 n σ τ κ) (hn : n < 512) (j : Nat) (pr : Nat → Int32) : ∃ (qa : Int32 × ST) (qb : (Int32 × ST) × Nat), fA j pr σ = some qa ∧ fB j pr τ = some qb ∧ Inv9 (n + 1) qa.2 qb.1.2 (κ + qb.2) := by
  obtain ⟨qa, qb, ea, eb, e1⟩ := inv8_call n σ τ κ h.1 hn j pr
  exact ⟨qa, qb, ea, eb, e1, inv9_st h j pr qa qb ea eb e1.1.1.2.1⟩
theorem inv9_room (n : Nat) (σ τ : ST) (κ : Nat) (h : Inv9 n σ τ κ) : κ ≤ 500000 := inv8_room n σ τ κ h.1
theorem inv9_0 : Inv9 0 s0A s0B 0 := by
  have l0 := li_0
  have e27 : ∀ i, s0B.1 27 i = 0 := fun i => rfl
  have a1 : s0A.1 50 1 = 0 := rfl
  have b1 : s0B.1 0 73 = 0 := rfl
  exact ⟨inv8_0, fun i => .inl (e27 i), shw_0 (by rw [a1]; exact l0) (by rw [b1]; exact l0)⟩
/-! read and count are told alike -/
theorem inv9_read (n : Nat) (σ τ : ST) (κ : Nat) (h : Inv9 n σ τ κ) (hn : n < 512) (j : Nat) (pr : Nat → Int32) (hj : j < 32) : ∃ (qa : Int32 × ST) (qb : (Int32 × ST) × Nat), fA j pr σ = some qa ∧ fB j pr τ = some qb ∧ (j = 13 → qa.1 = qb.1.1) ∧ Inv9 (n + 1) qa.2 qb.1.2 (κ + qb.2) := by
  obtain ⟨qa, qb, ea, eb, e1⟩ := inv9_call n σ τ κ h hn j pr
  refine ⟨qa, qb, ea, eb, fun h3 => ?_, e1⟩
  subst h3
  have l0 := li_0
  have hf' := e1.2.1
  have hcap' : (qa.2.1 50 0).toInt = 400 := e1.1.1.1.2.1.t50.1
  have eb : ((f_X11_read (pr 1) (pr 2) τ).bind fun q => some ((q.1, q.2), 0)) = some qb := eb
  obtain ⟨x, ex, e2⟩ := bnd_some eb
  cases e2
  have hf' : F27 x.2 := hf'
  show qa.1 = x.1
  rcases (ab_read (pr 1) (pr 2) h.1.1.2 h.1.2.1 h.1.2.2.1 h.1.2.2.2 h.1.1.1.2.1.t50.1 h.1.1.1.2.2.2.2.1 qa ea x ex).2 with ⟨e3, _⟩ | ⟨q, rb, _, hR, e3, e4⟩
  · exact e3
  · rw [e3] at hf'
    rw [e4]
    rcases hR with ⟨r1, r2, _⟩ | hR
    · have : ¬ 0 ≤ rb.1 := fun h9 => by
        have := il_le h9
        rw [← r1] at this
        omega
      rw [if_neg this]
      exact r1
    · have hb : rb.1 = 0 := hR.1
      rw [if_pos (by rw [hb, Int32.le_iff_toInt_le]; exact Int.le_refl _)]
      exact (shw_read hR hf' hcap').2
/-- which messages are there -/
theorem ab_bits {σ u : ST} (hM : MSG σ u) (hZ : MZ u σ) : ∀ (n m k : Nat) (x1 x2 : Int32), x2.toInt = k → QT (f_X1_writtenBits_4 n x1 x2 σ) (fun qa => QT (f_X11_messageSet_4 m x1 x2 u) (fun qb => qa.1 = qb.1)) := by
  have l0 := li_0
  have l1 := li_1
  have l4 := li_4
  intro n
  induction n with
  | zero =>
    intro m k x1 x2 _
    rw [f_X1_writtenBits_4]
    exact QT.none
  | succ n ih =>
    intro m k x1 x2 h2
    cases m with
    | zero =>
      refine fun s _ => ?_
      rw [f_X11_messageSet_4]
      exact QT.none
    | succ m =>
      rw [f_X1_writtenBits_4, f_X11_messageSet_4]
      refine QT.ile (fun h => QT.ret ?_) (fun hlt => ?_)
      · exact QT.ile (fun _ => QT.ret rfl) (fun h9 => by omega)
      · have hr : 0 ≤ x2.toInt ∧ x2.toInt < 4 := ⟨by omega, by omega⟩
        have ea := il_addE (x := x2) (y := 1) (by omega) (by omega)
        refine QT.bnd (qa_isWritten x2 σ) (fun q hq => ?_)
        obtain ⟨xv, xs⟩ := q
        obtain ⟨e1, hx⟩ := hq
        have e1 : xs = σ := e1
        have hx : (xv = 0 ∧ ¬ ((0 ≤ x2.toInt ∧ x2.toInt < 4) ∧ ¬ σ.1 40 x2.toNatClampNeg = -1)) ∨ xv = 1 ∧ (0 ≤ x2.toInt ∧ x2.toInt < 4) ∧ ¬ σ.1 40 x2.toNatClampNeg = -1 := hx
        rw [e1]
        dsimp only
        unfold f_X1_writtenBits_23 f_X11_messageSet_26
        refine QT.sw ?_
        refine QT.ile (fun h9 => by omega) (fun _ => QT.grd (fun _ => ?_))
        have hw := hM.wr hZ hr
        refine QT.ilt (fun hneg => ?_) (fun hpos => ?_)
        · have x0 : xv = 0 := by
            rcases hx with ⟨h9, _⟩ | ⟨_, _, h9⟩
            · exact h9
            · have := hw.mp h9
              omega
          rw [if_pos x0, Int32.or_zero]
          exact QT.sw (ih m (k + 1) x1 (x2 + 1) (by omega))
        · have x0 : ¬ xv = 0 := by
            rcases hx with ⟨_, h9⟩ | ⟨h9, _⟩
            · exact absurd ⟨hr, hw.mpr (by omega)⟩ h9
            · rw [h9]
              exact one_ne
          rw [if_neg x0]
          exact QT.sw (ih m (k + 1) (x1 ||| (1 <<< (x2 &&& 31))) (x2 + 1) (by omega))
theorem inv9_count (n : Nat) (σ τ : ST) (κ : Nat) (h : Inv9 n σ τ κ) (hn : n < 512) (j : Nat) (pr : Nat → Int32) (hj : j < 32) : ∃ (qa : Int32 × ST) (qb : (Int32 × ST) × Nat), fA j pr σ = some qa ∧ fB j pr τ = some qb ∧ (j = 22 → qa.1 = qb.1.1) ∧ Inv9 (n + 1) qa.2 qb.1.2 (κ + qb.2) := by
  obtain ⟨qa, qb, ea, eb, e1⟩ := inv9_call n σ τ κ h hn j pr
  refine ⟨qa, qb, ea, eb, fun h3 => ?_, e1⟩
  subst h3
  have ea : f_X10_count (pr 1) σ = some qa := ea
  have eb : ((f_X11_count (pr 1) τ).bind fun q => some ((q.1, q.2), 0)) = some qb := eb
  obtain ⟨x, ex, e2⟩ := bnd_some eb
  cases e2
  show qa.1 = x.1
  obtain ⟨⟨⟨hI, hZ⟩, hX, hM, hK⟩, hf, m, _, s1, s2, _⟩ := h
  obtain ⟨_, hA, hB, hF, h32, hk, hT, hc⟩ := hI
  have key : QT (f_X10_count (pr 1) σ) (fun qa => QT (f_X11_count (pr 1) τ) (fun qb => qa.1 = qb.1)) := by
    have g0 : ∀ i, i ≠ 0 → (stI τ 0 0 0).1 0 i = τ.1 0 i := fun i hi => by rw [stI_at, upN hi]
    have hM0 : MSG σ (stI τ 0 0 0) := hM.eq rfl rfl rfl (stI_ne (by omega)) (stI_ne (by omega)) (stI_ne (by omega))
    have hZ0 : MZ (stI τ 0 0 0) σ := hZ.yok (YOK.st0 hZ.2.1.2.2 0)
    unfold f_X10_count f_X11_count
    rw [g0 32 (by omega), g0 73 (by omega), g0 93 (by omega), g0 94 (by omega), g0 2 (by omega)]
    generalize stI τ 0 0 0 = u at hM0 hZ0
    by_cases c0 : pr 1 = 0
    · rw [if_pos c0, if_pos c0]
      exact QT.ret (QT.ret h32)
    rw [if_neg c0, if_neg c0]
    by_cases c1 : pr 1 = 1
    · rw [if_pos c1, if_pos c1]
      unfold f_X1_writtenBits f_X11_messageSet
      exact QT.bnd2 (ab_bits hM0 hZ0 FU FU 0 0 0 li_0) (fun x y h => QT.ret (QT.ret h))
    rw [if_neg c1, if_neg c1]
    by_cases c2 : pr 1 = 2
    · rw [if_pos c2, if_pos c2]
      exact QT.ret (QT.ret (Int32.toInt_inj.mp (s1.trans s2.symm)))
    rw [if_neg c2, if_neg c2]
    by_cases c3 : pr 1 = 3
    · rw [if_pos c3, if_pos c3]
      exact QT.ret (QT.ret hK.2.1.1)
    rw [if_neg c3, if_neg c3]
    by_cases c4 : pr 1 = 4
    · rw [if_pos c4, if_pos c4]
      exact QT.ret (QT.ret hK.2.1.2)
    rw [if_neg c4, if_neg c4]
    by_cases c5 : pr 1 = 5
    · rw [if_pos c5, if_pos c5]
      exact QT.ret (QT.ret hF.1)
    rw [if_neg c5, if_neg c5]
    exact QT.ret (QT.ret rfl)
  exact key qa ea x ex
