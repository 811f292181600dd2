/-! matches, missStep, readers are told alike -/
theorem inv7_matches (n : Nat) (σ τ : ST) (κ : Nat) (h : Inv7 n σ τ κ) (hn : n < 512) (j : Nat) (pr : Nat → Int32) (hj : j < 32) : ∃ (qa : Int32 × ST) (qb : (Int32 × ST) × Nat), fA j pr σ = some qa ∧ fB j pr τ = some qb ∧ (j = 9 → qa.1 = qb.1.1) ∧ Inv7 (n + 1) qa.2 qb.1.2 (κ + qb.2) := by
  obtain ⟨qa, qb, ea, eb, e1⟩ := inv7_call n σ τ κ h hn j pr
  refine ⟨qa, qb, ea, eb, fun h3 => ?_, e1⟩
  subst h3
  have ea : f_X10_matches (pr 1) (pr 2) σ = some qa := ea
  have eb : ((f_X11_matches (pr 1) (pr 2) τ).bind fun q => some ((q.1, q.2), 0)) = some qb := eb
  obtain ⟨x, ex, e2⟩ := bnd_some eb
  cases e2
  exact ((ab_matches h.2 h.1.2.2.2.2.1 (pr 1) (pr 2) qa ea).2 x ex).symm
theorem inv7_missStep (n : Nat) (σ τ : ST) (κ : Nat) (h : Inv7 n σ τ κ) (hn : n < 512) (j : Nat) (pr : Nat → Int32) (hj : j < 32) : ∃ (qa : Int32 × ST) (qb : (Int32 × ST) × Nat), fA j pr σ = some qa ∧ fB j pr τ = some qb ∧ (j = 11 → qa.1 = qb.1.1) ∧ Inv7 (n + 1) qa.2 qb.1.2 (κ + qb.2) := by
  obtain ⟨qa, qb, ea, eb, e1⟩ := inv7_call n σ τ κ h hn j pr
  refine ⟨qa, qb, ea, eb, fun h3 => ?_, e1⟩
  subst h3
  have ea : f_X10_missStep (pr 1) (pr 2) (pr 3) (pr 4) σ = some qa := ea
  have eb : ((f_X11_missStep (pr 1) (pr 2) (pr 3) (pr 4) τ).bind fun q => some ((q.1, q.2), 0)) = some qb := eb
  obtain ⟨x, ex, e2⟩ := bnd_some eb
  cases e2
  exact ((ab_missStep h.2 h.1.2.2.2.2.1 (pr 1) (pr 2) (pr 3) (pr 4) qa ea).2 x ex).symm
theorem inv7_readers (n : Nat) (σ τ : ST) (κ : Nat) (h : Inv7 n σ τ κ) (hn : n < 512) (j : Nat) (pr : Nat → Int32) (hj : j < 32) : ∃ (qa : Int32 × ST) (qb : (Int32 × ST) × Nat), fA j pr σ = some qa ∧ fB j pr τ = some qb ∧ (j = 12 → qa.1 = qb.1.1) ∧ Inv7 (n + 1) qa.2 qb.1.2 (κ + qb.2) := by
  obtain ⟨qa, qb, ea, eb, e1⟩ := inv7_call n σ τ κ h hn j pr
  refine ⟨qa, qb, ea, eb, fun h3 => ?_, e1⟩
  subst h3
  have ea : f_X10_readers (pr 1) (pr 2) σ = some qa := ea
  have eb : ((f_X11_readers (pr 1) (pr 2) τ).bind fun q => some ((q.1, q.2), 0)) = some qb := eb
  obtain ⟨x, ex, e2⟩ := bnd_some eb
  cases e2
  exact ((ab_readers h.2 h.1.2.2.2.2.1 (pr 1) (pr 2) qa ea).2 x ex).symm
