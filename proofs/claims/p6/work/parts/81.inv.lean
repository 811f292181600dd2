/-! p6: fields are told alike -/
theorem inv6_step (n : Nat) (σ τ : ST) (κ : Nat) (h : Inv5 n σ τ κ) (hn : n < 512) (j : Nat) (pr : Nat → Int32) (hj : j < 32) : ∃ (qa : Int32 × ST) (qb : (Int32 × ST) × Nat), fA j pr σ = some qa ∧ fB j pr τ = some qb ∧ (j = 4 → qa.1 = qb.1.1) ∧ Inv5 (n + 1) qa.2 qb.1.2 (κ + qb.2) := by
  obtain ⟨qa, qb, ea, eb, e1⟩ := inv5_call n σ τ κ h hn j pr
  refine ⟨qa, qb, ea, eb, fun h3 => ?_, e1⟩
  subst h3
  obtain ⟨h1, h2⟩ := h
  obtain ⟨ra, er, rb, es, he⟩ := ab_field6 (pr 1) (pr 2) (pr 3) (pr 4) σ τ h1.2.2.2.2.1 h1.2.2.1.1.1 h2
  have ea : f_X10_field (pr 1) (pr 2) (pr 3) (pr 4) σ = some qa := ea
  have eb : ((f_X11_field_ (pr 1) (pr 2) (pr 3) (pr 4) τ).bind fun q => some ((q.1, q.2), 0)) = some qb := eb
  rw [er] at ea
  rw [es, sbnd] at eb
  cases ea
  cases eb
  exact he
