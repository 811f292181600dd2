/-! the class: a record is begun -/
theorem a_recordsOf (p0 : Int32) (σ : ST) {p : Nat} (h0 : p0.toInt = p) (hp : p < 6) : f_X5_recordsOf 20 p0 σ = some (σ.1 21 p, σ) := by
  unfold f_X5_recordsOf
  have l0 := li_0
  have l6 := li_6
  have np : p0.toNatClampNeg = p := nC h0
  rw [if_neg (by rw [Int32.lt_iff_toInt_lt]; omega), if_neg (by rw [Int32.le_iff_toInt_le]; omega), if_pos ⟨by omega, by omega⟩, np]
theorem a_addRecord (p0 : Int32) (p1 : Int64) (σ : ST) {p i : Nat} (h0 : p0.toInt = p) (hp : p < 6) (hi : (σ.1 21 p).toInt = i) (hi6 : i < 6) : OK (f_X5_addRecord 20 p0 p1 σ) (fun a => (∀ c, c ∉ [21, 23, 25] → a.1 c = σ.1 c) ∧ (∀ c, c ≠ 24 → a.2.1 c = σ.2.1 c) ∧ (a.1 21 p).toInt = i + 1 ∧ (∀ k, k ≠ p → a.1 21 k = σ.1 21 k) ∧ a.2.1 24 (6 * p + i) = p1 ∧ (∀ k, k ≠ 6 * p + i → a.2.1 24 k = σ.2.1 24 k) ∧ (a.1 23 (6 * p + i)).toInt = 0 ∧ (∀ k, k ≠ 6 * p + i → a.1 23 k = σ.1 23 k) ∧ a.1 25 (6 * p + i) = 0 ∧ (∀ k, k ≠ 6 * p + i → a.1 25 k = σ.1 25 k)) := by
  unfold f_X5_addRecord f_X5_isRecord
  have l0 := li_0
  have l1 := li_1
  have l6 := li_6
  have l36 : (36 : Int32).toInt = 36 := by decide
  have np : p0.toNatClampNeg = p := nC h0
  have e6 : (p0 * 6).toInt = 6 * p0.toInt := by
    rw [Int32.mul_comm]
    exact mlE (k := 6) (y := p0) 6 l6 (by omega) (by omega)
  have e := il_addE (x := p0 * 6) (y := σ.1 21 p) (by omega) (by omega)
  have e1 := il_addE (x := σ.1 21 p) (y := 1) (by omega) (by omega)
  have nq : (p0 * 6 + σ.1 21 p).toNatClampNeg = 6 * p + i := nC (by omega)
  rw [a_recordsOf p0 σ h0 hp]
  refine OK.bndR (s := σ) (Q := fun v => v = σ.1 21 p) (OK.roret rfl) (fun v hv => ?_)
  subst hv
  dsimp only
  refine OK.ilt (fun h => by omega) (fun _ => ?_)
  refine OK.ile (fun h => by omega) (fun _ => ?_)
  refine OK.bndR (s := σ) (Q := fun v => v.toInt = 1) ?_ (fun v3 hv3 => ?_)
  · refine OK.ilt (fun h => by omega) (fun _ => ?_)
    exact OK.ile (fun h => by omega) (fun _ => OK.roret l1)
  dsimp only
  refine OK.ieq (fun h => by omega) (fun _ => ?_)
  refine OK.grd ⟨by omega, by omega⟩ ?_
  rw [nq, np]
  refine OK.lt (fun z6 h6 => ?_)
  refine OK.grd ⟨by omega, by omega⟩ ?_
  refine OK.lt (fun z8 h8 => ?_)
  subst h6
  subst h8
  refine OK.ret ⟨fun c hc => ?_, fun c hc => ?_, ?_, fun k hk => ?_, ?_, fun k hk => ?_, ?_, fun k hk => ?_, ?_, fun k hk => ?_⟩
  · simp only [List.mem_cons, List.not_mem_nil, or_false, not_or] at hc
    rw [stI_ne hc.1, stI_ne hc.2.2, stI_ne hc.2.1]
    rfl
  · show (stL σ 24 _ _).2.1 c = _
    rw [stL_ne hc]
  · show (upd (σ.1 21) p (σ.1 21 p + 1) p).toInt = _
    rw [upd_at]
    omega
  · show upd (σ.1 21) p _ k = _
    rw [upd_no hk]
  · show vp_updL (σ.2.1 24) (6 * p + i) p1 (6 * p + i) = _
    rw [updL_at]
  · show vp_updL (σ.2.1 24) (6 * p + i) p1 k = _
    rw [updL_no hk]
  · show (upd (σ.1 23) (6 * p + i) 0 (6 * p + i)).toInt = _
    rw [upd_at]
    exact l0
  · show upd (σ.1 23) (6 * p + i) 0 k = _
    rw [upd_no hk]
  · show upd (σ.1 25) (6 * p + i) 0 (6 * p + i) = _
    rw [upd_at]
  · show upd (σ.1 25) (6 * p + i) 0 k = _
    rw [upd_no hk]
