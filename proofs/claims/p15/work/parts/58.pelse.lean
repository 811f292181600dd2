/-! the class: what an else is worth, and where it is kept -/
theorem a_worth (p0 : Int32) (σ : ST) : OK (f_X6_worth p0 σ) (RO σ fun _ => True) := by
  unfold f_X6_worth f_X6_whole f_X6_realBits f_X6_isKeyword
  have wh : OK (if (σ.1 2 9) = 0 then (some ((σ.2.1 2 8), σ)) else (some ((-(σ.2.1 2 8)), σ))) (RO σ fun _ => True) := OK.ite (fun _ => OK.roret trivial) (fun _ => OK.roret trivial)
  refine OK.ieq (fun _ => ?_) (fun _ => ?_)
  · refine OK.bndR (s := σ) (Q := fun _ => True) (OK.ite (fun _ => OK.ite (fun _ => OK.roret trivial) (fun _ => OK.roret trivial)) (fun _ => OK.roret trivial)) (fun v _ => ?_)
    exact OK.ite (fun _ => OK.roret trivial) (fun _ => OK.roret trivial)
  refine OK.ieq (fun _ => OK.bndR wh (fun v _ => OK.roret trivial)) (fun _ => ?_)
  refine OK.ieq (fun _ => OK.bndR wh (fun v _ => OK.roret trivial)) (fun _ => ?_)
  refine OK.ieq (fun _ => ?_) (fun _ => ?_)
  · have h1 := FP.Core.ddiv_out (FP.Core.i2d_fin (σ.1 2 11)).notNaN fp10_fin fp10_nz
    have h2 := FP.Core.dadd_out' (FP.Core.l2d_fin (σ.2.1 2 8)) h1
    refine OK.bndR (s := σ) (Q := fun _ => True) ?_ (fun v _ => OK.roret trivial)
    refine OK.grd (fl_num h1) ?_
    refine OK.grd (fl_num h2) ?_
    refine OK.bndR (k_X10_bitsOfPositive _ _ h2) (fun v h3 => ?_)
    dsimp only
    refine OK.ieq (fun h => OK.roret trivial) (fun h => ?_)
    refine OK.ieq (fun h => ?_) (fun h => ?_)
    · exact OK.ieq (fun h => OK.roret trivial) (fun h => OK.roret trivial)
    · exact OK.roret trivial
  · exact OK.ieq (fun _ => OK.roret trivial) (fun _ => OK.roret trivial)
theorem a_setElse (p0 p1 : Int32) (p2 : Int64) (σ : ST) {r j : Nat} (h0 : p0.toInt = r) (h1 : p1.toInt = j) (hr : r < 36) (hj : j < 8) : OK (f_X5_setElse 20 p0 p1 p2 σ) (fun a => (∀ c, c ≠ 25 → a.1 c = σ.1 c) ∧ (∀ c, c ≠ 30 → a.2.1 c = σ.2.1 c) ∧ a.1 25 r = (σ.1 25 r ||| (1 <<< ((Int32.ofNat j) &&& 31))) ∧ (∀ i, i ≠ r → a.1 25 i = σ.1 25 i) ∧ a.2.1 30 (8 * r + j) = p2 ∧ ∀ i, i ≠ 8 * r + j → a.2.1 30 i = σ.2.1 30 i) := by
  unfold f_X5_setElse
  obtain ⟨v, e, hv⟩ := a_isFieldE p0 p1 σ h0 h1 hr hj
  obtain ⟨i1, i2⟩ := i88 h0 h1 hr hj
  rw [e]
  refine OK.ite (fun h => absurd h hv) (fun _ => ?_)
  refine OK.grd ⟨by omega, by omega⟩ ?_
  refine OK.lt (fun z hz => ?_)
  refine OK.grd ⟨by omega, by omega⟩ ?_
  subst hz
  have nr : p0.toNatClampNeg = r := nC h0
  have ej : p1 = Int32.ofNat j := intOf h1 (by omega)
  rw [nr, i2, ej]
  refine OK.ret ⟨fun c hc => ?_, fun c hc => ?_, ?_, fun i hi => ?_, ?_, fun i hi => ?_⟩
  · show (stI σ 25 _ _).1 c = _
    rw [stI_ne hc]
  · rw [stL_ne hc]
    rfl
  · show upd (σ.1 25) r _ r = _
    rw [upd_at]
  · show upd (σ.1 25) r _ i = _
    rw [upd_no hi]
  · show vp_updL (σ.2.1 30) (8 * r + j) p2 (8 * r + j) = _
    rw [updL_at]
  · show vp_updL (σ.2.1 30) (8 * r + j) p2 i = _
    rw [updL_no hi]
