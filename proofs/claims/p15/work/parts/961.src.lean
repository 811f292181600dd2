/-! where the fields of a record come from, both sides -/
/-- field j of the reader's record r comes from z, one of the writer's record w -/
def SRJ (T : ST) (p q w r mW : Nat) (wi : Int32) (j : Nat) (z : Int32) : Prop := ∀ f : Int32, f.toInt = 8 * (6 * (q : Int) + r) + j → ∃ y : Int32, f_X11_fieldFor wi f T = some (y, T) ∧ (z.toInt = -1 ∧ y.toInt = -1 ∨ ∃ i : Nat, i < mW ∧ z.toInt = i ∧ y.toInt = 8 * (6 * (p : Int) + w) + i)
/-- a pair of records that match -/
def RPR (p q : Nat) (T : ST) (xR yR u uB : Int32) (w r mW mR : Nat) : Prop := (xR.toInt = 6 * (p : Int) + w ∧ yR.toInt = 6 * (q : Int) + r) ∧ ((w : Int) < (T.1 8 p).toInt ∧ (r : Int) < (T.1 8 q).toInt) ∧ ((T.1 3 u.toNatClampNeg).toInt = w ∧ (T.1 3 uB.toNatClampNeg).toInt = r) ∧ ((T.1 11 (6 * p + w)).toInt = mW ∧ (T.1 11 (6 * q + r)).toInt = mR) ∧ ¬ T.1 35 (6 * w + r) = 0
theorem KRB.ff {T τ : ST} (h : KRB T τ) {wi f v : Int32} (k : f_X11_fieldFor wi f τ = some (v, τ)) : f_X11_fieldFor wi f T = some (v, T) := ff_tr (h.2.1 53 (by omega) (by omega) (by omega) (by omega) (by omega) (by omega) (by omega)).symm h.fl.2.1.symm h.ch.2.2.2.1.symm h.ch.2.2.2.2.1.symm wi f v k
theorem KRB.ff' {T τ : ST} (h : KRB T τ) {wi f v : Int32} (k : f_X11_fieldFor wi f T = some (v, T)) : f_X11_fieldFor wi f τ = some (v, τ) := ff_tr (h.2.1 53 (by omega) (by omega) (by omega) (by omega) (by omega) (by omega) (by omega)) h.fl.2.1 h.ch.2.2.2.1 h.ch.2.2.2.2.1 wi f v k
/-- but for the sources of a level -/
def FSA (b L : Nat) (σ s : ST) : Prop := (∀ c, c ≠ b + 2 → s.1 c = σ.1 c) ∧ (∀ i, i < 8 * L → s.1 (b + 2) i = σ.1 (b + 2) i) ∧ s.2 = σ.2
theorem FSA.rf {b L : Nat} {σ : ST} : FSA b L σ σ := ⟨fun _ _ => rfl, fun _ _ => rfl, rfl⟩
theorem FSA.kra {b t L : Nat} {σ s : ST} (hb : BT b t) (h : FSA b L σ s) : KRA b t σ s := by
  have hb' := hb
  unfold BT at hb'
  exact ⟨hb, fun c a _ => h.1 c (by omega), ⟨fun i _ _ _ _ => by rw [h.1 b (by omega)], fun i _ => by rw [h.1 t (by omega)]⟩, fun c _ => by rw [h.2.2], by rw [h.2.2], fun hn => by rw [h.1 b (by omega)]; exact hn⟩
theorem RCX.fs {b t m L : Nat} {S T σ τ s : ST} {x : Nat} (h : RCX b t m S T σ τ x) (hA : FSA b L σ s) : RCX b t m S T s τ x := by
  obtain ⟨⟨h1, h2⟩, hR, h3, h4, h5⟩ := h
  have hb := h1.1
  have hb' := hb
  unfold BT at hb'
  refine ⟨⟨h1.trans (hA.kra hb), h2⟩, ?_, ?_, h4, h5⟩
  · unfold RPS at hR ⊢
    rw [hA.1 b (by omega), hA.1 38 (by omega)]
    exact hR
  · rw [hA.1 t (by omega)]
    exact h3
theorem FSA.tre {b t L : Nat} {σ s τ : ST} (hb : BT b t) (h : FSA b L σ s) : TRE t σ s τ τ := by
  have hb' := hb
  unfold BT at hb'
  exact ⟨fun c _ _ => h.1 c (by omega), by rw [h.2.2], fun c _ _ => rfl, rfl, rfl⟩
theorem a_findSources3 {b t m p q : Nat} {S T τ : ST} (hS : RST p q S T) (hn : (S.1 4 1).toInt ≤ 262) {xR yR u uB lev : Int32} {w r mW mR L x : Nat} (hP : RPR p q T xR yR u uB w r mW mR) (hL : L ≤ 30) (hlev : lev.toInt = L) (σ0 : ST) : ∀ (n j : Nat) (x4 : Int32) (σ : ST), RCX b t m S T σ τ x → x4.toInt = j → j ≤ mR → FSA b L σ0 σ → (∀ i, i < j → SRJ T p q w r mW (T.1 3 u.toNatClampNeg) i (σ.1 (b + 2) (8 * L + i))) → QT (f_X4_findSources_3 b t n xR yR lev x4 σ) (fun s => RCX b t m S T s τ x ∧ FSA b L σ0 s ∧ ∀ i, i < mR → SRJ T p q w r mW (T.1 3 u.toNatClampNeg) i (s.1 (b + 2) (8 * L + i))) := by
  have l0 := li_0
  have l1 := li_1
  have l8 := li_8
  have l31 : (31 : Int32).toInt = 31 := by decide
  obtain ⟨⟨hx, hy⟩, ⟨hw, hr⟩, ⟨hu, huB⟩, ⟨hmW, hmR⟩, _⟩ := hP
  intro n
  induction n with
  | zero =>
    intro j x4 σ _ _ _ _ _
    rw [f_X4_findSources_3]
    exact QT.none
  | succ n ih =>
    intro j x4 σ hC h4 hj hF hz
    obtain ⟨hPQ, _⟩ := hS.at hC.1.1 hC.1.2
    have hp6 := hPQ.1
    have e8 := hC.1.2.fl.1
    have e11 := hC.1.2.fl.2.1
    have hw' : (w : Int) < (τ.1 8 p).toInt := by rw [e8]; exact hw
    have hr' : (r : Int) < (τ.1 8 q).toInt := by rw [e8]; exact hr
    obtain ⟨_, b2, b3, _⟩ := hPQ.2.2.1.2.acc hr'
    obtain ⟨_, _, a3, _⟩ := hPQ.2.2.1.1.acc hw'
    have cQ := hPQ.2.2.1.2.cnt
    have m8 : mR ≤ 8 := by
      have := b3.2
      rw [e11, hmR] at this
      omega
    rw [f_X4_findSources_3, a4_fieldsOf yR σ (r := 6 * q + r) (by omega) (by omega), sbnd]
    dsimp only
    have hm : (σ.1 7 (6 * q + r)).toInt = mR := by rw [b2, e11]; exact hmR
    refine QT.ile (fun hle => QT.ret ⟨hC, hF, fun i hi => hz i (by omega)⟩) (fun hlt => ?_)
    refine QT.ilt (fun h => by omega) (fun _ => ?_)
    refine QT.ile (fun h => by omega) (fun _ => ?_)
    refine QT.ile (fun h => by omega) (fun _ => ?_)
    have hwi : ((T.1 3 u.toNatClampNeg)).toInt = w := hu
    have e9 : ∀ f : Int32, f.toInt = 8 * (6 * (q : Int) + r) + j → OK (f_X5_sourceOf 4 xR yR x4 σ) (RO σ fun z => ∃ y : Int32, f_X11_fieldFor (T.1 3 u.toNatClampNeg) f τ = some (y, τ) ∧ (z.toInt = -1 ∧ y.toInt = -1 ∨ ∃ i : Nat, (i : Int) < (τ.1 11 (6 * p + w)).toInt ∧ z.toInt = i ∧ y.toInt = 8 * (6 * (p : Int) + w) + i)) := fun f hf => ab_source hPQ xR yR x4 _ f w r j hw' hr' (by rw [e11, hmR]; omega) hx hy h4 hwi hf
    obtain ⟨f0, hf0⟩ : ∃ f0 : Int32, f0.toInt = 8 * (6 * (q : Int) + r) + j := ⟨Int32.ofInt (8 * (6 * (q : Int) + r) + j), Int32.toInt_ofInt_of_le (by omega) (by omega)⟩
    refine QT.bndR (e9 f0 hf0) (fun z hz0 => ?_)
    dsimp only
    have hzj : SRJ T p q w r mW (T.1 3 u.toNatClampNeg) j z := fun f hf => by
      have ef : f = f0 := Int32.toInt_inj.mp (by omega)
      rw [ef]
      obtain ⟨y, y1, y2⟩ := hz0
      refine ⟨y, hC.1.2.ff y1, ?_⟩
      rcases y2 with y2 | ⟨i, i1, i2, i3⟩
      · exact .inl y2
      · exact .inr ⟨i, by rw [e11, hmW] at i1; omega, i2, i3⟩
    have em : (lev * 8).toInt = 8 * (L : Int) := by
      rw [Int32.mul_comm]
      have := mlE (k := 8) (y := lev) 8 l8 (by omega) (by omega)
      omega
    have ea := il_addE (x := lev * 8) (y := x4) (by omega) (by omega)
    have na : (lev * 8 + x4).toNatClampNeg = 8 * L + j := nC (by omega)
    refine QT.grd (fun _ => ?_)
    rw [na]
    unfold f_X4_findSources_56
    have e4 := il_addE (x := x4) (y := 1) (by omega) (by omega)
    have g1 : FSA b L σ (stI σ (b + 2) (8 * L + j) z) := ⟨fun c hc => stI_ne hc, fun i hi => by rw [stI_at, upN (by omega)], rfl⟩
    refine ih (j + 1) (x4 + 1) _ (hC.fs g1) (by omega) (by omega) ⟨fun c hc => (g1.1 c hc).trans (hF.1 c hc), fun i hi => (g1.2.1 i hi).trans (hF.2.1 i hi), hF.2.2⟩ (fun i hi => ?_)
    by_cases e : i = j
    · rw [e, stI_at, upA rfl]
      exact hzj
    · rw [stI_at, upN (by omega)]
      exact hz i (by omega)
theorem a_findSources {b t m p q : Nat} {S T τ : ST} (hS : RST p q S T) (hn : (S.1 4 1).toInt ≤ 262) {xR yR u uB lev : Int32} {w r mW mR L x : Nat} (hP : RPR p q T xR yR u uB w r mW mR) (hL : L ≤ 30) (hlev : lev.toInt = L) (σ : ST) (hC : RCX b t m S T σ τ x) : QT (f_X4_findSources b t xR yR lev σ) (fun s => RCX b t m S T s τ x ∧ FSA b L σ s ∧ ∀ i, i < mR → SRJ T p q w r mW (T.1 3 u.toNatClampNeg) i (s.1 (b + 2) (8 * L + i))) := by
  unfold f_X4_findSources
  exact a_findSources3 hS hn hP hL hlev σ FU 0 0 σ hC li_0 (by omega) FSA.rf (fun i hi => by omega)
/-- the source of a field, as it was found -/
theorem a_sourceAt (b t : Nat) {L j : Nat} (lev x8 : Int32) (σ : ST) (hL : L ≤ 30) (hlev : lev.toInt = L) (h8 : x8.toInt = j) (hj : j < 8) : f_X4_sourceAt b t lev x8 σ = some (σ.1 (b + 2) (8 * L + j), σ) := by
  have l0 := li_0
  have l8 := li_8
  have l31 : (31 : Int32).toInt = 31 := by decide
  have em : (lev * 8).toInt = 8 * (L : Int) := by
    rw [Int32.mul_comm]
    have := mlE (k := 8) (y := lev) 8 l8 (by omega) (by omega)
    omega
  have ea := il_addE (x := lev * 8) (y := x8) (by omega) (by omega)
  have na : (lev * 8 + x8).toNatClampNeg = 8 * L + j := nC (by omega)
  unfold f_X4_sourceAt
  rw [if_neg (fun h => by have := il_lt h; omega), if_neg (fun h => by have := il_le h; omega), if_neg (fun h => by have := il_lt h; omega), if_neg (fun h => by have := il_le h; omega), if_pos ⟨by omega, by omega⟩, na]
