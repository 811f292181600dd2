/-! feed on both sides -/
def FE (σ τ : ST) : Prop := σ.1 0 1 = τ.1 0 2 ∧ σ.1 1 = τ.1 1
/-- what feeding leaves as it is in the reference -/
def FB (τ υ : ST) : Prop := (∀ c, c ≠ 0 → c ≠ 1 → υ.1 c = τ.1 c) ∧ υ.2 = τ.2 ∧ ∀ i, i ≠ 2 → υ.1 0 i = τ.1 0 i
theorem FB.trans {τ υ ω : ST} (h : FB τ υ) (k : FB υ ω) : FB τ ω := ⟨fun c h1 h2 => (k.1 c h1 h2).trans (h.1 c h1 h2), k.2.1.trans h.2.1, fun i hi => (k.2.2 i hi).trans (h.2.2 i hi)⟩
theorem ia_I_1 {σ : ST} {i : Nat} {v : Int32} (h : IA σ) : IA (stI σ 1 i v) := h
theorem feed4 : ∀ (m n : Nat) (x1 x2 : Int32) (σ τ : ST), x2.toInt = 8 * (m : Int) - 8 → m ≤ 4 → m < n → IA σ → FE σ τ → (σ.1 0 1).toInt + m ≤ 1000 → ∃ σ' τ', f_X10_feedFour_3 n x1 x2 σ = some σ' ∧ f_X11_puts_3 n x1 x2 τ = some τ' ∧ IA σ' ∧ FE σ' τ' ∧ (σ'.1 0 1).toInt = (σ.1 0 1).toInt + m ∧ (σ'.1 4 = σ.1 4 ∧ σ'.2.1 3 = σ.2.1 3) ∧ FB τ τ' := by
  intro m
  induction m with
  | zero =>
    intro n x1 x2 σ τ hx hm hn hI hf hs
    obtain ⟨k, rfl⟩ : ∃ k, n = k + 1 := ⟨n - 1, by omega⟩
    have hc : x2 < 0 := Int32.lt_iff_toInt_lt.mpr (by rw [li_0]; omega)
    refine ⟨σ, τ, by rw [f_X10_feedFour_3, if_pos hc], by rw [f_X11_puts_3, if_pos hc], hI, hf, by omega, ⟨rfl, rfl⟩, fun _ _ _ => rfl, rfl, fun _ _ => rfl⟩
  | succ m ih =>
    intro n x1 x2 σ τ hx hm hn hI hf hs
    obtain ⟨k, rfl⟩ : ∃ k, n = k + 1 := ⟨n - 1, by omega⟩
    have g : 0 ≤ (σ.1 0 1).toInt ∧ (σ.1 0 1).toInt ≤ 1000 := hI.tape
    have lt_1 := li_1
    have lm : (-8 : Int32).toInt = -8 := by decide
    have hc : ¬ x2 < 0 := fun h => by have := il_lt h; rw [li_0] at this; omega
    have h1 : ¬ (1000 : Int32) ≤ σ.1 0 1 := fun h => by have := il_le h; rw [li_1000] at this; omega
    have h2 : 0 ≤ (σ.1 0 1).toInt ∧ (σ.1 0 1).toInt < 1000 := ⟨by omega, by omega⟩
    have h3 : 0 ≤ (τ.1 0 2).toInt ∧ (τ.1 0 2).toInt < 1000 := by rw [← hf.1]; exact h2
    obtain ⟨ak, a, al, ar⟩ := i_add (σ.1 0 1) 1
    try (refine k0el (k := ak) ?_ (fun e0 => ?_); (focus omega); subst e0)
    obtain ⟨bk, b, bl, br⟩ := i_add x2 (-8)
    try (refine k0el (k := bk) ?_ (fun e0 => ?_); (focus omega); subst e0)
    obtain ⟨σ', τ', e1, e2, e3, e4, e5, e6, e7⟩ := ih k x1 (x2 + (-8)) (stI (stI σ 1 (σ.1 0 1).toNatClampNeg (vp_nar .byte ((x1 >>> (x2 &&& 31)).toInt8.toInt32))) 0 1 (σ.1 0 1 + 1)) (stI (stI τ 1 (τ.1 0 2).toNatClampNeg (vp_nar .byte ((x1 >>> (x2 &&& 31)).toInt8.toInt32))) 0 2 (τ.1 0 2 + 1)) (by omega) (by omega) (by omega) (ia_J_0_1 (ia_I_1 hI) ⟨by omega, by omega⟩) ⟨(show σ.1 0 1 + 1 = τ.1 0 2 + 1 from by rw [hf.1]), (show upd (σ.1 1) (σ.1 0 1).toNatClampNeg _ = upd (τ.1 1) (τ.1 0 2).toNatClampNeg _ from by rw [hf.1, hf.2])⟩ (show (σ.1 0 1 + 1).toInt + (m : Int) ≤ 1000 from by omega)
    refine ⟨σ', τ', ?_, ?_, e3, e4, ?_, e6, ?_⟩
    · rw [f_X10_feedFour_3, if_neg hc, if_neg h1, if_pos h2]
      exact e1
    · rw [f_X11_puts_3, if_neg hc, if_pos h3]
      exact e2
    · rw [e5]
      show (σ.1 0 1 + 1).toInt + (m : Int) = _
      omega
    · refine FB.trans ?_ e7
      refine ⟨fun c h1 h2 => by rw [stI_ne h1, stI_ne h2], rfl, fun i hi => ?_⟩
      show upd (τ.1 0) 2 _ i = τ.1 0 i
      exact upd_no hi
theorem feed1 (p : Int32) (σ τ : ST) (hI : IA σ) (hf : FE σ τ) (hs : (σ.1 0 1).toInt + 4 ≤ 1000) : ∃ σ' τ', f_X10_feedFour p σ = some σ' ∧ f_X11_puts p τ = some τ' ∧ IA σ' ∧ FE σ' τ' ∧ (σ'.1 0 1).toInt = (σ.1 0 1).toInt + 4 ∧ (σ'.1 4 = σ.1 4 ∧ σ'.2.1 3 = σ.2.1 3) ∧ FB τ τ' := by
  have l24 : (24 : Int32).toInt = 24 := by decide
  exact feed4 4 FU p 24 σ τ (by rw [l24]; decide) (by decide) (by decide) hI hf hs
/-- feed: both sides answer alike -/
theorem feedAB (p0 p1 p2 p3 p4 : Int32) (σ τ : ST) (hI : IA σ) (hf : FE σ τ) : ∃ (v : Int32) (σ' τ' : ST), f_X10_feed p0 p1 p2 p3 p4 σ = some (v, σ') ∧ f_X11_feed p0 p1 p2 p3 p4 τ = some (v, τ') ∧ IA σ' ∧ FE σ' τ' ∧ (σ'.1 4 = σ.1 4 ∧ σ'.2.1 3 = σ.2.1 3) ∧ FB (stI τ 0 0 0) τ' ∧ (σ'.1 0 1).toInt ≤ (σ.1 0 1).toInt + 20 := by
  have g : 0 ≤ (σ.1 0 1).toInt ∧ (σ.1 0 1).toInt ≤ 1000 := hI.tape
  have l20 : (20 : Int32).toInt = 20 := by decide
  have hf0 : FE σ (stI τ 0 0 0) := ⟨hf.1, hf.2⟩
  obtain ⟨ak, a, al, ar⟩ := i_add (σ.1 0 1) 20
  try (refine k0el (k := ak) ?_ (fun e0 => ?_); (focus omega); subst e0)
  unfold f_X10_feed f_X11_feed
  have et : (stI τ 0 0 0).1 0 2 = σ.1 0 1 := hf.1.symm
  rw [et]
  by_cases h : σ.1 0 1 + 20 ≤ 1000
  · have h9 := il_le h
    rw [li_1000] at h9
    rw [if_pos h, if_pos h]
    generalize stI τ 0 0 0 = υ at hf0
    obtain ⟨s1, t1, a1, b1, i1, f1, n1, c1, d1⟩ := feed1 p0 σ υ hI hf0 (by omega)
    obtain ⟨s2, t2, a2, b2, i2, f2, n2, c2, d2⟩ := feed1 p1 s1 t1 i1 f1 (by omega)
    obtain ⟨s3, t3, a3, b3, i3, f3, n3, c3, d3⟩ := feed1 p2 s2 t2 i2 f2 (by omega)
    obtain ⟨s4, t4, a4, b4, i4, f4, n4, c4, d4⟩ := feed1 p3 s3 t3 i3 f3 (by omega)
    obtain ⟨s5, t5, a5, b5, i5, f5, n5, c5, d5⟩ := feed1 p4 s4 t4 i4 f4 (by omega)
    refine ⟨s5.1 0 1, s5, t5, ?_, ?_, i5, f5, ?_, ((((d1.trans d2).trans d3).trans d4).trans d5), by omega⟩
    · simp only [a1, a2, a3, a4, a5, Option.bind_some]
    · simp only [b1, b2, b3, b4, b5, Option.bind_some]
      rw [f5.1]
    · exact ⟨by rw [c5.1, c4.1, c3.1, c2.1, c1.1], by rw [c5.2, c4.2, c3.2, c2.2, c1.2]⟩
  · rw [if_neg h, if_neg h]
    exact ⟨-1, σ, stI τ 0 0 0, rfl, rfl, hI, hf0, ⟨rfl, rfl⟩, ⟨fun _ _ _ => rfl, rfl, fun _ _ => rfl⟩, by omega⟩
