/-! letters, and what stands at a leaf: both sides -/
theorem n27_get : ∀ (m : Nat) (g : Nat → Nat), GL g m → ∀ k : Nat, k < m → n27 g m / 27 ^ (m - 1 - k) % 27 = g k := by
  intro m g
  induction m with
  | zero => intro _ k hk; omega
  | succ m ih =>
    intro hg k hk
    have hm := hg m (by omega)
    show (27 * n27 g m + g m) / 27 ^ (m + 1 - 1 - k) % 27 = g k
    rcases Nat.lt_or_ge k m with h | h
    · have e : m + 1 - 1 - k = (m - 1 - k) + 1 := by omega
      rw [e, Nat.pow_succ, Nat.mul_comm (27 ^ (m - 1 - k)) 27, ← Nat.div_div_eq_div_mul]
      have e2 : (27 * n27 g m + g m) / 27 = n27 g m := by omega
      rw [e2]
      exact ih (fun i hi => hg i (by omega)) k h
    · have e : k = m := by omega
      subst e
      have e2 : k + 1 - 1 - k = 0 := by omega
      rw [e2, Nat.pow_zero, Nat.div_one]
      omega
theorem qa_let14 (w : Int64) (x3 : Int32) {m : Nat} (h3 : x3.toInt = m) : ∀ (n k : Nat) (x4 : Int32) (σ : ST), m ≤ 12 → x4.toInt = k → k ≤ m → RMC (m - k) σ → QT (f_X2_packLetters_14 n w x3 x4 σ) (fun s => GRN (m - k) σ s) := by
  have l0 := li_0
  have l1 := li_1
  intro n
  induction n with
  | zero =>
    intro k x4 σ _ _ _ _
    rw [f_X2_packLetters_14]
    exact QT.none
  | succ n ih =>
    intro k x4 σ hm h4 hk hR
    rw [f_X2_packLetters_14]
    refine QT.ile (fun _ => QT.ret (GRN.rf (by omega))) (fun hlt => ?_)
    refine QT.bnd (Q := fun q => q.2 = σ) ?_ (fun q hq => ?_)
    · unfold f_X10_letterOf f_X10_letterOf_10
      refine QT.ite (fun _ => QT.ret rfl) (fun _ => QT.ite (fun _ => QT.ret rfl) (fun _ => QT.ret rfl))
    · rw [hq]
      refine QT.bnd (qa_put _ σ (hR.to (GRN.rf (k := 0) (by omega)) (by omega))) (fun t ht => ?_)
      have e4 := il_addE (x := x4) (y := 1) (by omega) (by omega)
      exact (ih (k + 1) (x4 + 1) t hm (by omega) (by omega) (hR.to ht (by omega))).mono (fun s hs => ht.trans hs (by omega))
theorem pk_let14 {w t9 : Int64} {n9 x1 : Int32} {m v : Nat} {g : Nat → Nat} (hm : m ≤ 12) (hg : GL g m) (hw : w.toInt = (n5 m g : Int)) (ht9 : t9.toInt = (n27 g m : Int)) (h9 : n9.toInt = m) (h1 : x1.toInt = v) : ∀ (n n' k : Nat) (x2 : Int64) (x4 : Int32) (σ τ : ST), x4.toInt = k → k ≤ m → (k < m → x2.toInt = 27 ^ (m - 1 - k)) → τ.1 23 v = n9 → τ.2.1 22 v = t9 → PKR σ τ → RMC (m - k) σ → QT (f_X2_packLetters_14 n w n9 x4 σ) (fun s => QT (f_X11_writesText_42 n' x1 x2 x4 τ) (fun t => PKR s t)) := by
  have l0 := li_0
  have l1 := li_1
  have n1 : x1.toNatClampNeg = v := nC h1
  have l27 : (27 : Int64).toInt = 27 := by decide
  have hN : n27 g m < 150094635296999121 + 1 := by
    have := n27_lt m g hg
    have := p27 m hm
    omega
  intro n
  induction n with
  | zero =>
    intro n' k x2 x4 σ τ _ _ _ _ _ _ _
    rw [f_X2_packLetters_14]
    exact QT.none
  | succ n ih =>
    intro n' k x2 x4 σ τ h4 hk hx e23 e22 hK hR
    cases n' with
    | zero =>
      rw [f_X11_writesText_42]
      exact fun _ _ => QT.none
    | succ n' =>
      rw [f_X2_packLetters_14, f_X11_writesText_42]
      rw [n1, e23, e22]
      refine QT.ile (fun hle => QT.ret ?_) (fun hlt => ?_)
      · exact QT.grd (fun _ => QT.ile (fun _ => QT.ret hK) (fun h => by omega))
      have hkm : k < m := by omega
      have hx2 := hx hkm
      have hR1 : RMC 1 σ := hR.to (GRN.rf (k := 0) (by omega)) (by omega)
      refine QT.bndR (a_letterOf12 w x4 σ hw h4 (by omega)) (fun l hl => ?_)
      rw [n5_get m g hg k, if_pos hkm] at hl
      dsimp only
      refine QT.sw ?_
      refine QT.grd (fun _ => ?_)
      refine QT.ile (fun h => by omega) (fun _ => QT.grd (fun _ => ?_))
      refine QT.sw ?_
      have hgk := hg k hkm
      have ep : ((27 : Int) ^ (m - 1 - k)) = ((27 ^ (m - 1 - k) : Nat) : Int) := by
        rw [Int.natCast_pow]
        rfl
      have hp1 : 1 ≤ 27 ^ (m - 1 - k) := Nat.pow_pos (by decide)
      have hne : ∀ y : Int64, 0 < y.toInt → ¬ y = -1 := fun y hy e => by
        rw [e] at hy
        revert hy
        decide
      have hD : (t9 / x2).toInt = ((n27 g m / 27 ^ (m - 1 - k) : Nat) : Int) := by
        rw [Int64.toInt_div_of_ne_right _ _ (hne x2 (by rw [hx2, ep]; omega)), ht9, hx2, ep]
        rfl
      have hdig := n27_get m g hg k hkm
      have hDl : n27 g m / 27 ^ (m - 1 - k) ≤ n27 g m := Nat.div_le_self _ _
      generalize n27 g m / 27 ^ (m - 1 - k) = D at hD hdig hDl
      have hD27 : ((t9 / x2) / 27).toInt = ((D / 27 : Nat) : Int) := by
        rw [Int64.toInt_div_of_ne_right _ _ (by decide), hD, l27]
        rfl
      have hDm : ((t9 / x2) / 27 * 27).toInt = ((D / 27 * 27 : Nat) : Int) := by
        rw [Int64.toInt_mul, hD27, l27]
        have e : ((D / 27 : Nat) : Int) * 27 = ((D / 27 * 27 : Nat) : Int) := by omega
        rw [e]
        exact Int.bmod_eq_of_le (by omega) (by omega)
      have hy : ((t9 / x2) - (t9 / x2) / 27 * 27).toInt = (g k : Int) := by
        rw [Int64.toInt_sub, hD, hDm]
        have e : (D : Int) - ((D / 27 * 27 : Nat) : Int) = (g k : Int) := by omega
        rw [e]
        exact Int.bmod_eq_of_le (by omega) (by omega)
      generalize (t9 / x2) - (t9 / x2) / 27 * 27 = y at hy
      have l96 : (96 : Int64).toInt = 96 := by decide
      have l96b : (96 : Int32).toInt = 96 := by decide
      have hb : ((96 : Int32) + l).toInt8 = ((96 : Int64) + y).toInt32.toInt8 := by
        have e : ((96 : Int64) + y).toInt32 = 96 + l := by
          refine Int32.toInt_inj.mp ?_
          have ea : ((96 : Int64) + y).toInt = 96 + (g k : Int) := by
            rw [Int64.toInt_add, hy, l96]
            exact Int.bmod_eq_of_le (by omega) (by omega)
          rw [Int64.toInt_toInt32, ea, il_addE (by omega) (by omega), hl, l96b]
          exact Int.bmod_eq_of_le (by omega) (by omega)
        rw [e]
      refine QT.bnd2 (Q := fun s t => PKR s t ∧ GRN 1 σ s ∧ KWR τ t) ?_ (fun s t hst => ?_)
      · intro s es t et
        exact ⟨pk_put _ _ σ τ hK hR1 hb s es t et, qa_put _ σ hR1 s es, wk_X11_writesByte (s := τ) KWR.rf t et⟩
      · obtain ⟨hs1, hs2, hs3⟩ := hst
        have e4 := il_addE (x := x4) (y := 1) (by omega) (by omega)
        have t23 : t.1 23 v = n9 := by rw [hs3.1 23 (by omega) (by omega)]; exact e23
        have t22 : t.2.1 22 v = t9 := by rw [hs3.2.2]; exact e22
        unfold f_X11_writesText_87
        refine QT.sw ?_
        refine QT.ite (fun hle => ?_) (fun hgt => ?_)
        · have hle := Int64.le_iff_toInt_le.mp ((lg_cmp_le _ _).mp hle)
          have l1' : (1 : Int64).toInt = 1 := by decide
          refine QT.grd (fun _ => ?_)
          refine QT.sw ?_
          refine ih n' (k + 1) _ (x4 + 1) s t (by omega) (by omega) (fun hk2 => ?_) t23 t22 hs1 (hR.to hs2 (by omega))
          exfalso
          rw [hx2, l1', ep] at hle
          have e9 : m - 1 - k = (m - 1 - (k + 1)) + 1 := by omega
          rw [e9, Nat.pow_succ] at hle
          have := Nat.pow_pos (a := 27) (n := m - 1 - (k + 1)) (by decide)
          omega
        · refine QT.grd (fun _ => ?_)
          refine QT.sw ?_
          refine ih n' (k + 1) _ (x4 + 1) s t (by omega) (by omega) (fun hk2 => ?_) t23 t22 hs1 (hR.to hs2 (by omega))
          have e9 : m - 1 - k = (m - 1 - (k + 1)) + 1 := by omega
          rw [Int64.toInt_div_of_ne_right _ _ (by decide), l27, hx2, e9, Int.pow_succ]
          exact Int.mul_tdiv_cancel _ (by decide)
theorem q_text16 {x1 : Int32} {v m : Nat} {P : ST → Prop} (h1 : x1.toInt = v) (τ : ST) (h23 : (τ.1 23 v).toInt = m) (hm : m ≤ 12) (k : ∀ x2 : Int64, (0 < m → x2.toInt = 27 ^ (m - 1)) → QT (f_X11_writesText_42 FU x1 x2 0 τ) P) : ∀ (n j : Nat) (x2 : Int64) (x4 : Int32), x4.toInt = (j : Int) + 1 → (m = 0 ∧ j = 0 ∨ j + 1 ≤ m) → x2.toInt = 27 ^ j → QT (f_X11_writesText_16 n x1 x2 x4 τ) P := by
  have l1 := li_1
  have n1 : x1.toNatClampNeg = v := nC h1
  intro n
  induction n with
  | zero =>
    intro j x2 x4 _ _ _
    rw [f_X11_writesText_16]
    exact QT.none
  | succ n ih =>
    intro j x2 x4 h4 hj hx
    rw [f_X11_writesText_16]
    rw [n1]
    refine QT.grd (fun _ => ?_)
    refine QT.ile (fun hle => k x2 (fun h0 => ?_)) (fun hlt => ?_)
    · rw [hx]
      congr 1
      omega
    · have a4 := il_addE (x := x4) (y := 1) (by omega) (by omega)
      refine ih (j + 1) (x2 * 27) (x4 + 1) (by omega) (by omega) ?_
      have l27 : (27 : Int64).toInt = 27 := by decide
      have hb : (27 : Int) ^ (j + 1) ≤ 150094635296999121 := by
        have h9 := p27 (j + 1) (by omega)
        have e9 : (27 : Int) ^ (j + 1) = ((27 ^ (j + 1) : Nat) : Int) := by rw [Int.natCast_pow]; rfl
        rw [e9]
        generalize 27 ^ (j + 1) = z at h9 ⊢
        omega
      have hpos : (0 : Int) < 27 ^ (j + 1) := Int.pow_pos (by decide)
      rw [Int64.toInt_mul, l27, hx, ← Int.pow_succ]
      exact Int.bmod_eq_of_le (by omega) (by omega)
theorem qa_letters (w t9 : Int64) (n9 : Int32) (σ : ST) (h : WLT w t9 n9) (hR : RMC 22 σ) : QT (f_X2_packLetters w σ) (fun s => GRN 22 σ s) := by
  have l0 := li_0
  unfold f_X2_packLetters
  rw [a_lettersIn12 w t9 n9 σ h]
  rw [sbnd]
  dsimp only
  obtain ⟨m, g, hm, _, _, _, h9⟩ := h
  refine QT.bnd (qa_putNumber _ σ (hR.to (GRN.rf (k := 0) (by omega)) (by omega))) (fun t ht => ?_)
  exact (qa_let14 w n9 h9 FU 0 0 t hm l0 (by omega) (hR.to ht (by omega))).mono (fun s hs => ht.trans hs (by omega))
theorem pk_letters (w t9 : Int64) (n9 x1 : Int32) (σ τ : ST) {v : Nat} (h : WLT w t9 n9) (h1 : x1.toInt = v) (e23 : τ.1 23 v = n9) (e22 : τ.2.1 22 v = t9) (hK : PKR σ τ) (hR : RMC 22 σ) : QT (f_X2_packLetters w σ) (fun s => QT (f_X11_writesText x1 τ) (fun t => PKR s t)) := by
  have l0 := li_0
  have l1 := li_1
  have n1 : x1.toNatClampNeg = v := nC h1
  unfold f_X2_packLetters f_X11_writesText
  rw [a_lettersIn12 w t9 n9 σ h]
  rw [sbnd]
  dsimp only
  obtain ⟨m, g, hm, hg, hw, ht, h9⟩ := h
  rw [n1, e23]
  refine QT.sw ?_
  refine QT.grd (fun _ => ?_)
  refine QT.sw ?_
  have hR1 : RMC 10 σ := hR.to (GRN.rf (k := 0) (by omega)) (by omega)
  refine QT.bnd2 (Q := fun s t => PKR s t ∧ GRN 10 σ s ∧ KWR τ t) ?_ (fun s t hst => ?_)
  · intro s es t et
    exact ⟨pk_putNumber _ σ τ hK hR1 s es t et, qa_putNumber _ σ hR1 s es, wk_X11_writesNumber (s := τ) KWR.rf t et⟩
  · obtain ⟨hs1, hs2, hs3⟩ := hst
    have t23 : t.1 23 v = n9 := by rw [hs3.1 23 (by omega) (by omega)]; exact e23
    have t22 : t.2.1 22 v = t9 := by rw [hs3.2.2]; exact e22
    refine QT.sw ?_
    refine q_text16 h1 t (by rw [t23]; exact h9) hm (fun x2 hx2 => ?_) FU 0 1 1 (by omega) (by omega) (by decide)
    refine QT.sw ?_
    exact pk_let14 hm hg hw ht h9 h1 FU FU 0 x2 0 s t l0 (by omega) (fun h => by rw [Nat.sub_zero]; exact hx2 h) t23 t22 hs1 (hR.to hs2 (by omega))
/-- a leaf's worth, the class alone -/
theorem qa_plain (s : Int32) (w c e : Int64) (n : Int32) (σ : ST) (hE : EWR s.toInt w c e n) (hR : RMC 22 σ) : QT (f_X2_packPlain s w σ) (fun t => GRN 22 σ t) := by
  have l5 := li_5
  have r (k : Int) (h : k ≤ 22) : RMC k σ := hR.to (GRN.rf (k := 0) (by omega)) (by omega)
  have num (x : Int64) : QT ((f_X2_putNumber x σ).bind fun q => some q) (fun t => GRN 22 σ t) := QT.bnd (qa_putNumber x σ (r 10 (by omega))) (fun t ht => QT.ret (ht.mono (by omega)))
  unfold f_X2_packPlain
  refine QT.ite (fun _ => QT.bnd (qa_put _ σ (r 1 (by omega))) (fun t ht => QT.ret (ht.mono (by omega)))) (fun _ => ?_)
  refine QT.ite (fun _ => num _) (fun _ => ?_)
  refine QT.ite (fun _ => num _) (fun _ => ?_)
  refine QT.ite (fun _ => (qa_plain61 FU 8 w 56 σ (by decide) (by omega) (r 8 (by omega))).mono (fun t ht => ht.mono (by omega))) (fun _ => ?_)
  refine QT.ieq (fun h5 => ?_) (fun _ => ?_)
  · unfold EWR at hE
    rw [if_pos (by omega)] at hE
    exact QT.bnd (qa_letters w e n σ hE.2 hR) (fun t ht => QT.ret ht)
  refine QT.ite (fun _ => num _) (fun _ => QT.ret (GRN.rf (by omega)))
theorem q_148 {rw_ : Int32 → ST → Option ST} (x1 : Int32) (τ : ST) {v : Nat} (h1 : x1.toInt = v) (h28 : (τ.1 28 v).toInt = -1) {P : ST → Prop} (h : P τ) : QT (f_X11_writes_148 rw_ x1 τ) P := by
  have l0 := li_0
  have n1 : x1.toNatClampNeg = v := nC h1
  unfold f_X11_writes_148
  rw [n1]
  refine QT.grd (fun _ => ?_)
  generalize FU = n
  cases n with
  | zero =>
    rw [f_X11_writes_155]
    exact QT.none
  | succ n =>
    rw [f_X11_writes_155]
    exact QT.ilt (fun _ => QT.ret h) (fun h => by omega)
/-- a leaf's worth, both sides -/
theorem pk_own {rw_ : Int32 → ST → Option ST} (s : Int32) (w : Int64) (x1 : Int32) (σ τ : ST) {v : Nat} (h1 : x1.toInt = v) (hs : τ.1 20 v = s) (hE : EWR s.toInt w (τ.2.1 21 v) (τ.2.1 22 v) (τ.1 23 v)) (h28 : (τ.1 28 v).toInt = -1) (hK : PKR σ τ) (hR : RMC 22 σ) : QT (f_X2_packPlain s w σ) (fun s' => QT (f_X11_writes_20 rw_ x1 τ) (fun t => PKR s' t)) := by
  have l1 := li_1
  have l2 := li_2
  have l3 := li_3
  have l4 := li_4
  have l5 := li_5
  have l6 := li_6
  have n1 : x1.toNatClampNeg = v := nC h1
  have r (k : Int) (h : k ≤ 22) : RMC k σ := hR.to (GRN.rf (k := 0) (by omega)) (by omega)
  have pl : ¬ s.toInt = 5 → w = τ.2.1 21 v ∧ (τ.1 23 v).toInt = 0 := fun h => by
    unfold EWR at hE
    rw [if_neg h] at hE
    exact ⟨hE.1, hE.2.2⟩
  unfold f_X2_packPlain f_X11_writes_20
  rw [n1, hs]
  refine QT.sw ?_
  refine QT.grd (fun _ => ?_)
  refine QT.sw ?_
  refine QT.ieq (fun e => ?_) (fun e1 => ?_)
  · refine QT.sw ?_
    refine QT.ieq (fun _ => ?_) (fun h => by omega)
    refine QT.sw ?_
    rw [(pl (by omega)).1]
    exact QT.bnd2 (pk_put _ _ σ τ hK (r 1 (by omega)) rfl) (fun s' t h => QT.ret (QT.ret h))
  refine QT.sw ?_
  refine QT.ieq (fun h => by omega) (fun _ => ?_)
  refine QT.sw ?_
  refine QT.ieq (fun e => ?_) (fun e2 => ?_)
  · refine QT.sw ?_
    refine QT.ieq (fun _ => ?_) (fun h => by omega)
    refine QT.sw ?_
    rw [(pl (by omega)).1]
    exact QT.bnd2 (pk_putNumber _ σ τ hK (r 10 (by omega))) (fun s' t h => QT.ret (QT.ret h))
  refine QT.sw ?_
  refine QT.ieq (fun h => by omega) (fun _ => ?_)
  refine QT.sw ?_
  refine QT.ieq (fun e => ?_) (fun e3 => ?_)
  · refine QT.sw ?_
    refine QT.ieq (fun _ => ?_) (fun h => by omega)
    refine QT.sw ?_
    rw [(pl (by omega)).1]
    exact QT.bnd2 (pk_putNumber _ σ τ hK (r 10 (by omega))) (fun s' t h => QT.ret (QT.ret h))
  refine QT.sw ?_
  refine QT.ieq (fun h => by omega) (fun _ => ?_)
  refine QT.sw ?_
  refine QT.ieq (fun e => ?_) (fun e4 => ?_)
  · refine QT.sw ?_
    refine QT.ieq (fun _ => ?_) (fun h => by omega)
    refine QT.sw ?_
    exact pk_plain61 x1 h1 FU FU 8 w 56 σ τ (by decide) (by omega) (pl (by omega)).1.symm hK (r 8 (by omega))
  refine QT.sw ?_
  refine QT.ieq (fun h => by omega) (fun _ => ?_)
  refine QT.sw ?_
  refine QT.ieq (fun e => ?_) (fun e5 => ?_)
  · refine QT.sw ?_
    refine QT.ieq (fun _ => ?_) (fun h => by omega)
    refine QT.sw ?_
    unfold EWR at hE
    rw [if_pos (by omega)] at hE
    exact QT.bnd2 (pk_letters w _ _ x1 σ τ hE.2 h1 rfl rfl hK hR) (fun s' t h => QT.ret (QT.ret h))
  refine QT.sw ?_
  refine QT.ieq (fun h => by omega) (fun _ => ?_)
  refine QT.sw ?_
  refine QT.ieq (fun e => ?_) (fun e6 => ?_)
  · refine QT.sw ?_
    refine QT.ieq (fun _ => ?_) (fun h => by omega)
    refine QT.sw ?_
    have e23 : τ.1 23 v = 0 := Int32.toInt_inj.mp (((pl (by omega)).2).trans li_0.symm)
    have ez : ((0 : Int32).toInt64) = 0 := by decide
    rw [e23, ez]
    refine QT.bnd2 (Q := fun s' t => PKR s' t ∧ KWR τ t) ?_ (fun s' t h => QT.ret (q_148 x1 t h1 (by rw [h.2.1 28 (by omega) (by omega)]; exact h28) h.1))
    intro s' es t et
    exact ⟨pk_putNumber _ σ τ hK (r 10 (by omega)) s' es t et, wk_X11_writesNumber (s := τ) KWR.rf t et⟩
  refine QT.sw ?_
  refine QT.ieq (fun h => by omega) (fun _ => ?_)
  refine QT.sw ?_
  exact QT.ret (q_148 x1 τ h1 h28 hK)
