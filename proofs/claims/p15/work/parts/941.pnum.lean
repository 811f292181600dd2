/-! bytes and numbers, both sides -/
/-- as many bytes, and the same; or both are beyond a message's room -/
def PKR (σ τ : ST) : Prop := (0 ≤ (τ.1 0 48).toInt ∧ (τ.1 0 48).toInt ≤ 400) ∧ ((τ.1 0 49 = 0 ∧ (σ.1 87 2).toInt = (τ.1 0 48).toInt ∧ ∀ i : Nat, (i : Int) < (τ.1 0 48).toInt → σ.1 88 i = τ.1 31 i) ∨ (¬ τ.1 0 49 = 0 ∧ (τ.1 0 48).toInt = 400 ∧ 400 < (σ.1 87 2).toInt))
/-- so many bytes at most came -/
def GRN (k : Int) (σ s : ST) : Prop := (σ.1 87 2).toInt ≤ (s.1 87 2).toInt ∧ (s.1 87 2).toInt ≤ (σ.1 87 2).toInt + k
theorem GRN.rf {σ : ST} {k : Int} (h : 0 ≤ k) : GRN k σ σ := ⟨by omega, by omega⟩
theorem GRN.trans {σ s u : ST} {a b c : Int} (h : GRN a σ s) (k : GRN b s u) (e : a + b ≤ c) : GRN c σ u := by
  obtain ⟨h1, h2⟩ := h
  obtain ⟨k1, k2⟩ := k
  exact ⟨by omega, by omega⟩
theorem GRN.mono {σ s : ST} {a b : Int} (h : GRN a σ s) (e : a ≤ b) : GRN b σ s := by
  obtain ⟨h1, h2⟩ := h
  exact ⟨h1, by omega⟩
/-- there is room to count -/
def RMC (k : Int) (σ : ST) : Prop := 0 ≤ (σ.1 87 2).toInt ∧ (σ.1 87 2).toInt + k ≤ 2000000000
theorem RMC.to {σ s : ST} {k j m : Int} (h : RMC k σ) (g : GRN j σ s) (e : j + m ≤ k) : RMC m s := by
  obtain ⟨h1, h2⟩ := h
  obtain ⟨g1, g2⟩ := g
  exact ⟨by omega, by omega⟩
theorem qa_put (p0 : Int32) (σ : ST) (h : RMC 1 σ) : QT (f_X2_put p0 σ) (fun s => GRN 1 σ s) := by
  have l1 := li_1
  obtain ⟨h1, h2⟩ := h
  have e1 := il_addE (x := σ.1 87 2) (y := 1) (by omega) (by omega)
  unfold f_X2_put f_X2_put_21
  refine QT.ite (fun _ => QT.ret ?_) (fun _ => QT.grd (fun _ => QT.ret ?_))
  · unfold GRN
    rw [stI_at, upA rfl]
    omega
  · unfold GRN
    have e0 : ∀ v : Int32, ∀ j, (stI σ 88 j v).1 87 = σ.1 87 := fun v j => stI_ne (by omega)
    rw [stI_at, upA rfl, e0]
    omega
theorem nar_nar (x : Int8) : vp_nar .byte x.toInt32 = x.toInt32 := by
  show (x.toInt32.toInt8).toInt32 = x.toInt32
  rw [Int8.toInt8_toInt32]
theorem pk_put (p0 : Int32) (p1 : Int64) (σ τ : ST) (h : PKR σ τ) (hR : RMC 1 σ) (hb : p0.toInt8 = p1.toInt32.toInt8) : QT (f_X2_put p0 σ) (fun s => QT (f_X11_writesByte p1 τ) (fun t => PKR s t)) := by
  have l1 := li_1
  have l400 := li_400
  obtain ⟨h1, h2⟩ := hR
  have e1 := il_addE (x := σ.1 87 2) (y := 1) (by omega) (by omega)
  obtain ⟨⟨h3, h4⟩, h5⟩ := h
  have e2 := il_addE (x := τ.1 0 48) (y := 1) (by omega) (by omega)
  have e0 : ∀ v : Int32, ∀ j, (stI σ 88 j v).1 87 = σ.1 87 := fun v j => stI_ne (by omega)
  unfold f_X2_put f_X2_put_21 f_X11_writesByte
  rcases h5 with ⟨h5, h6, h7⟩ | ⟨h5, h6, h7⟩
  · refine QT.ile (fun hle => QT.ret ?_) (fun hlt => QT.grd (fun _ => QT.ret ?_))
    · refine QT.ieq (fun _ => QT.ret ?_) (fun h => by omega)
      refine ⟨?_, .inr ⟨?_, ?_, ?_⟩⟩
      · rw [stI_at, upN (by omega)]
        omega
      · rw [stI_at, upA rfl]
        exact one_ne
      · rw [stI_at, upN (by omega)]
        omega
      · rw [stI_at, upA rfl]
        omega
    · refine QT.ieq (fun h => by omega) (fun _ => QT.grd (fun _ => ?_))
      refine QT.lt (fun z ez => QT.ret ?_)
      have n1 : (σ.1 87 2).toNatClampNeg = (τ.1 0 48).toNatClampNeg := by rw [show σ.1 87 2 = τ.1 0 48 from Int32.toInt_inj.mp h6]
      have n2 := nN_ h3
      have z0 : ∀ j, (stI τ 31 (τ.1 0 48).toNatClampNeg (vp_nar .byte ((p1.toInt32).toInt8.toInt32))).1 0 j = τ.1 0 j := fun j => by rw [stI_ne (by omega)]
      have z48 : z.1 0 48 = τ.1 0 48 + 1 := by
        rw [ez, stI_at, upA rfl, z0]
      have z49 : z.1 0 49 = τ.1 0 49 := by
        rw [ez, stI_at, upN (by omega), stI_ne (by omega)]
      have z31 : z.1 31 = upd (τ.1 31) (τ.1 0 48).toNatClampNeg (vp_nar .byte ((p1.toInt32).toInt8.toInt32)) := by
        rw [ez, stI_ne (by omega), stI_at]
      refine ⟨by rw [z48]; omega, .inl ⟨by rw [z49]; exact h5, ?_, fun i hi => ?_⟩⟩
      · rw [stI_at, upA rfl, e0, z48]
        omega
      · rw [z48] at hi
        rw [stI_ne (by omega), stI_at, n1, z31]
        by_cases ei : i = (τ.1 0 48).toNatClampNeg
        · rw [upA ei, upA ei, hb]
        · rw [upN ei, upN ei]
          exact h7 i (by omega)
  · refine QT.ile (fun hle => QT.ret ?_) (fun hlt => by omega)
    refine QT.ieq (fun _ => QT.ret ?_) (fun h => by omega)
    refine ⟨?_, .inr ⟨?_, ?_, ?_⟩⟩
    · rw [stI_at, upN (by omega)]
      omega
    · rw [stI_at, upA rfl]
      exact one_ne
    · rw [stI_at, upN (by omega)]
      exact h6
    · rw [stI_at, upA rfl]
      omega
theorem qa_putNumber_54 (x : Int64) (σ : ST) (h : RMC 1 σ) : QT (f_X2_putNumber_54 x σ) (fun s => GRN 1 σ s) := by
  unfold f_X2_putNumber_54
  exact QT.bnd (qa_put _ σ h) (fun t ht => QT.ret ht)
theorem qa_putNumber_12 : ∀ (n j : Nat) (x : Int64) (x5 : Int32) (σ : ST), x5.toInt + j = 9 → 0 ≤ x5.toInt → RMC (j + 1) σ → QT (f_X2_putNumber_12 n x x5 σ) (fun s => GRN (j + 1) σ s) := by
  have l1 := li_1
  have l9 : (9 : Int32).toInt = 9 := by decide
  intro n
  induction n with
  | zero =>
    intro j x x5 σ _ _ _
    rw [f_X2_putNumber_12]
    exact QT.none
  | succ n ih =>
    intro j x x5 σ h5 h50 hR
    rw [f_X2_putNumber_12]
    have one : QT (f_X2_putNumber_54 x σ) (fun s => GRN (j + 1) σ s) := (qa_putNumber_54 x σ (hR.to (GRN.rf (k := 0) (by omega)) (by omega))).mono (fun s hs => hs.mono (by omega))
    refine QT.ile (fun _ => one) (fun hlt => ?_)
    refine QT.ite (fun _ => one) (fun _ => ?_)
    refine QT.bnd (qa_put _ σ (hR.to (GRN.rf (k := 0) (by omega)) (by omega))) (fun t ht => ?_)
    refine QT.lt (fun z _ => ?_)
    have e5 := il_addE (x := x5) (y := 1) (by omega) (by omega)
    exact (ih (j - 1) z (x5 + 1) t (by omega) (by omega) (hR.to ht (by omega))).mono (fun s hs => ht.trans hs (by omega))
theorem qa_putNumber (x : Int64) (σ : ST) (h : RMC 10 σ) : QT (f_X2_putNumber x σ) (fun s => GRN 10 σ s) := by
  unfold f_X2_putNumber
  exact QT.lt (fun z _ => (qa_putNumber_12 FU 9 z 0 σ (by rw [li_0]; omega) (by rw [li_0]; omega) h).mono (fun s hs => hs.mono (by omega)))
theorem pk_putNumber_12 : ∀ (n n' j : Nat) (x : Int64) (x5 : Int32) (σ τ : ST), x5.toInt + j = 9 → 0 ≤ x5.toInt → x.toUInt64.toNat < 128 ^ (j + 1) → PKR σ τ → RMC (j + 1) σ → QT (f_X2_putNumber_12 n x x5 σ) (fun s => QT (f_X11_writesNumber_9 n' x τ) (fun t => PKR s t)) := by
  have l1 := li_1
  have l9 : (9 : Int32).toInt = 9 := by decide
  intro n
  induction n with
  | zero =>
    intro n' j x x5 σ τ _ _ _ _ _
    rw [f_X2_putNumber_12]
    exact QT.none
  | succ n ih =>
    intro n' j x x5 σ τ h5 h50 hx hK hR
    cases n' with
    | zero =>
      rw [f_X11_writesNumber_9]
      exact fun _ _ => QT.none
    | succ n' =>
      rw [f_X2_putNumber_12, f_X11_writesNumber_9]
      have hR1 : RMC 1 σ := hR.to (GRN.rf (k := 0) (by omega)) (by omega)
      have one : lg_cmp (x &&& (-128)) 0 = 0 → QT (f_X2_putNumber_54 x σ) (fun s => QT (if (lg_cmp (x &&& (-128)) 0) = 0 then ((f_X11_writesByte x τ).bind fun q1 => some q1) else ((f_X11_writesByte ((x &&& 127) ||| 128) τ).bind fun q3 => (some ((x.toUInt64 >>> ((7 : Int32).toInt64.toUInt64 &&& Int64.toUInt64 63)).toInt64)).bind fun x5 => f_X11_writesNumber_9 n' x5 q3)) (fun t => PKR s t)) := fun e => by
        unfold f_X2_putNumber_54
        rw [if_pos e]
        exact QT.bnd2 (pk_put x.toInt32 x σ τ hK hR1 rfl) (fun s t hst => QT.ret (QT.ret hst))
      refine QT.ile (fun hle => one (and128 ?_)) (fun hlt => ?_)
      · have : j = 0 := by omega
        subst this
        omega
      refine QT.ite (fun e => one e) (fun e => ?_)
      rw [if_neg e]
      refine QT.bnd2 (Q := fun s t => PKR s t ∧ GRN 1 σ s) ?_ (fun s t hst => ?_)
      · have hb : (((x &&& 127).toInt32) ||| 128).toInt8 = ((x &&& 127) ||| 128).toInt32.toInt8 := by
          rw [Int64.toInt32_or]
          rfl
        intro s es t et
        exact ⟨pk_put _ _ σ τ hK hR1 hb s es t et, qa_put _ σ hR1 s es⟩
      · refine QT.lt (fun z hz => ?_)
        refine QT.sw ?_
        refine QT.lt (fun z' hz' => ?_)
        refine QT.sw ?_
        have ez : z' = z := hz'.trans hz.symm
        subst ez
        have e5 := il_addE (x := x5) (y := 1) (by omega) (by omega)
        refine ih n' (j - 1) z' (x5 + 1) s t (by omega) (by omega) ?_ hst.1 (hR.to hst.2 (by omega))
        rw [hz, shr7]
        obtain ⟨m, rfl⟩ : ∃ m, j = m + 1 := ⟨j - 1, by omega⟩
        rw [Nat.pow_succ] at hx
        exact Nat.div_lt_of_lt_mul (by rw [Nat.mul_comm]; exact hx)
theorem pk_putNumber (x : Int64) (σ τ : ST) (hK : PKR σ τ) (hR : RMC 10 σ) : QT (f_X2_putNumber x σ) (fun s => QT (f_X11_writesNumber x τ) (fun t => PKR s t)) := by
  unfold f_X2_putNumber f_X11_writesNumber
  refine QT.lt (fun z hz => ?_)
  refine QT.sw ?_
  refine QT.lt (fun z' hz' => ?_)
  refine QT.sw ?_
  have ez : z' = z := hz'.trans hz.symm
  subst ez
  exact pk_putNumber_12 FU FU 9 z' 0 σ τ (by rw [li_0]; omega) (by rw [li_0]; omega) (Nat.lt_of_lt_of_le (UInt64.toNat_lt _) (by decide)) hK hR
/-! eight bytes of a double -/
theorem qa_plain61 : ∀ (n j : Nat) (x : Int64) (x4 : Int32) (σ : ST), x4.toInt + 8 = 8 * j → j ≤ 8 → RMC j σ → QT (f_X2_packPlain_61 n x x4 σ) (fun s => GRN j σ s) := by
  have l0 := li_0
  have l8 : (-8 : Int32).toInt = -8 := by decide
  intro n
  induction n with
  | zero =>
    intro j x x4 σ _ _ _
    rw [f_X2_packPlain_61]
    exact QT.none
  | succ n ih =>
    intro j x x4 σ h4 hj hR
    rw [f_X2_packPlain_61]
    refine QT.ilt (fun _ => QT.ret (GRN.rf (by omega))) (fun hle => ?_)
    refine QT.bnd (qa_put _ σ (hR.to (GRN.rf (k := 0) (by omega)) (by omega))) (fun t ht => ?_)
    have e4 := il_addE (x := x4) (y := -8) (by omega) (by omega)
    exact (ih (j - 1) x (x4 + (-8)) t (by omega) (by omega) (hR.to ht (by omega))).mono (fun s hs => ht.trans hs (by omega))
theorem pk_plain61 {rw_ : Int32 → ST → Option ST} (x1 : Int32) {v : Nat} (h1 : x1.toInt = v) : ∀ (n n' j : Nat) (x : Int64) (x4 : Int32) (σ τ : ST), x4.toInt + 8 = 8 * j → j ≤ 8 → τ.2.1 21 v = x → PKR σ τ → RMC j σ → QT (f_X2_packPlain_61 n x x4 σ) (fun s => QT (f_X11_writes_89 rw_ n' x1 x4 τ) (fun t => PKR s t)) := by
  have l0 := li_0
  have l8 : (-8 : Int32).toInt = -8 := by decide
  have n1 : x1.toNatClampNeg = v := nC h1
  intro n
  induction n with
  | zero =>
    intro n' j x x4 σ τ _ _ _ _ _
    rw [f_X2_packPlain_61]
    exact QT.none
  | succ n ih =>
    intro n' j x x4 σ τ h4 hj hx hK hR
    cases n' with
    | zero =>
      rw [f_X11_writes_89]
      exact fun _ _ => QT.none
    | succ n' =>
      rw [f_X2_packPlain_61, f_X11_writes_89]
      have hR1 : RMC 1 σ ∨ j = 0 := by
        rcases Nat.eq_zero_or_pos j with h | h
        · exact .inr h
        · exact .inl (hR.to (GRN.rf (k := 0) (by omega)) (by omega))
      refine QT.ilt (fun h => QT.ret ?_) (fun hle => ?_)
      · refine QT.ilt (fun _ => QT.ret hK) (fun h9 => by omega)
      refine QT.sw ?_
      refine QT.ilt (fun h => by omega) (fun _ => QT.grd (fun _ => ?_))
      refine QT.sw ?_
      rw [n1, hx]
      have hR1 : RMC 1 σ := hR1.resolve_right (by omega)
      refine QT.bnd2 (Q := fun s t => PKR s t ∧ GRN 1 σ s ∧ KWR τ t) ?_ (fun s t hst => ?_)
      · have hb : ((x >>> (x4.toInt64 &&& 63)).toInt32).toInt8 = ((x >>> (x4.toInt64 &&& 63)) &&& 255).toInt32.toInt8 := by
          generalize x >>> (x4.toInt64 &&& 63) = y
          rw [Int64.toInt8_toInt32, Int64.toInt8_toInt32, Int64.toInt8_and]
          have e : (255 : Int64).toInt8 = -1 := by decide
          rw [e]
          refine Int8.toBitVec_inj.mp ?_
          show y.toInt8.toBitVec = y.toInt8.toBitVec &&& (-1 : Int8).toBitVec
          have e2 : (-1 : Int8).toBitVec = BitVec.allOnes 8 := by decide
          rw [e2, BitVec.and_allOnes]
        intro s es t et
        exact ⟨pk_put _ _ σ τ hK hR1 hb s es t et, qa_put _ σ hR1 s es, wk_X11_writesByte (s := τ) KWR.rf t et⟩
      · have e4 := il_addE (x := x4) (y := -8) (by omega) (by omega)
        exact ih n' (j - 1) x (x4 + (-8)) s t (by omega) (by omega) (by rw [hst.2.2.2.2]; exact hx) hst.1 (hR.to hst.2.1 (by omega))
