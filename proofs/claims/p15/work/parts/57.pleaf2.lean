/-! the class: a field is begun; its else is kept -/
theorem a_fieldsOf (p0 : Int32) (σ : ST) {r : Nat} (h0 : p0.toInt = r) (hr : r < 36) : f_X5_fieldsOf 20 p0 σ = some (σ.1 23 r, σ) := by
  unfold f_X5_fieldsOf f_X5_isRecord
  have l0 := li_0
  have l36 : (36 : Int32).toInt = 36 := by decide
  have nr : p0.toNatClampNeg = r := nC h0
  rw [if_neg (by rw [Int32.lt_iff_toInt_lt]; omega), if_neg (by rw [Int32.le_iff_toInt_le]; omega)]
  show (if (1 : Int32) = 0 then some (0, σ) else if 0 ≤ p0.toInt ∧ p0.toInt < 36 then some (σ.1 (20 + 3) p0.toNatClampNeg, σ) else none) = _
  rw [if_neg (by decide), if_pos ⟨by omega, by omega⟩, nr]
theorem a_addField (p0 : Int32) (p1 : Int64) (σ : ST) {r j : Nat} (h0 : p0.toInt = r) (hj : (σ.1 23 r).toInt = j) (hr : r < 36) (hj8 : j < 8) : OK (f_X5_addField 20 p0 p1 σ) (fun a => (∀ c, c ∉ [23, 29] → a.1 c = σ.1 c) ∧ (∀ c, c ∉ [27, 28, 30] → a.2.1 c = σ.2.1 c) ∧ (a.1 23 r).toInt = j + 1 ∧ (∀ i, i ≠ r → a.1 23 i = σ.1 23 i) ∧ a.2.1 27 (8 * r + j) = p1 ∧ (∀ i, i ≠ 8 * r + j → a.2.1 27 i = σ.2.1 27 i) ∧ (∀ i, i ≠ 8 * r + j → a.1 29 i = σ.1 29 i) ∧ a.2.1 28 (8 * r + j) = 0 ∧ (∀ i, i ≠ 8 * r + j → a.2.1 28 i = σ.2.1 28 i ∧ a.2.1 30 i = σ.2.1 30 i)) := by
  unfold f_X5_addField
  have l1 := li_1
  have nr : p0.toNatClampNeg = r := nC h0
  obtain ⟨v, e, hv⟩ := a_isFieldE p0 (σ.1 23 r) σ h0 hj hr hj8
  obtain ⟨i1, i2⟩ := i88 h0 hj hr hj8
  have e1 := il_addE (x := σ.1 23 r) (y := 1) (by omega) (by omega)
  rw [a_fieldsOf p0 σ h0 hr]
  show OK ((f_X5_isFieldOf p0 (σ.1 23 r) σ).bind _) _
  rw [e]
  refine OK.ite (fun h => absurd h hv) (fun _ => ?_)
  refine OK.grd ⟨by show 0 ≤ (p0 * 8 + σ.1 23 r).toInt; omega, by show (p0 * 8 + σ.1 23 r).toInt < 288; omega⟩ ?_
  dsimp only
  rw [i2, nr]
  refine OK.lt (fun z6 h6 => ?_)
  refine OK.lt (fun z7 h7 => ?_)
  refine OK.grd ⟨by omega, by omega⟩ ?_
  subst h6
  subst h7
  refine OK.ret ⟨fun c hc => ?_, fun c hc => ?_, ?_, fun i hi => ?_, ?_, fun i hi => ?_, fun i hi => ?_, ?_, fun i hi => ⟨?_, ?_⟩⟩
  · simp only [List.mem_cons, List.not_mem_nil, or_false, not_or] at hc
    rw [stI_ne hc.1]
    show (stI σ 29 _ _).1 c = _
    rw [stI_ne hc.2]
  · simp only [List.mem_cons, List.not_mem_nil, or_false, not_or] at hc
    show (stL (stL (stL σ 27 _ _) 28 _ _) 30 _ _).2.1 c = _
    rw [stL_ne hc.2.2, stL_ne hc.2.1, stL_ne hc.1]
  · show (upd (σ.1 23) r (σ.1 23 r + 1) r).toInt = _
    rw [upd_at]
    omega
  · show upd (σ.1 23) r _ i = _
    rw [upd_no hi]
  · show vp_updL (σ.2.1 27) (8 * r + j) p1 (8 * r + j) = _
    rw [updL_at]
  · show vp_updL (σ.2.1 27) (8 * r + j) p1 i = _
    rw [updL_no hi]
  · show upd (σ.1 29) (8 * r + j) _ i = _
    rw [upd_no hi]
  · show vp_updL (σ.2.1 28) (8 * r + j) 0 (8 * r + j) = _
    rw [updL_at]
  · show vp_updL (σ.2.1 28) (8 * r + j) 0 i = _
    rw [updL_no hi]
  · show vp_updL (σ.2.1 30) (8 * r + j) 0 i = _
    rw [updL_no hi]
