/-! the helpers' answers: what is thrown, what is told -/
theorem inv9_node (n : Nat) (σ τ : ST) (κ : Nat) (h : Inv9 n σ τ κ) (hn : n < 512) (j : Nat) (pr : Nat → Int32) (hj : j < 32) : ∃ (qa : Int32 × ST) (qb : (Int32 × ST) × Nat), fA j pr σ = some qa ∧ fB j pr τ = some qb ∧ (j = 16 → ∀ q, f_X11_node (pr 1) (pr 2) τ = some q → qa.1 = q.2.1 0 0 ∧ (qa.1 = 0 → qa.2.2.1 95 0 = q.1.toInt64)) ∧ Inv9 (n + 1) qa.2 qb.1.2 (κ + qb.2) := by
  obtain ⟨qa, qb, ea, eb, e1⟩ := inv9_call n σ τ κ h hn j pr
  refine ⟨qa, qb, ea, eb, fun h3 q eq => ?_, e1⟩
  subst h3
  exact ab_node h.2.2 h.1.1.1.2.1.t50.1 (pr 1) (pr 2) qa ea q eq
theorem inv9_value (n : Nat) (σ τ : ST) (κ : Nat) (h : Inv9 n σ τ κ) (hn : n < 512) (j : Nat) (pr : Nat → Int32) (hj : j < 32) : ∃ (qa : Int32 × ST) (qb : (Int32 × ST) × Nat), fA j pr σ = some qa ∧ fB j pr τ = some qb ∧ (j = 17 → ∀ q, f_X11_value_ (pr 1) τ = some q → qa.1 = q.2.1 0 0 ∧ (qa.1 = 0 → qa.2.2.1 95 0 = q.1)) ∧ Inv9 (n + 1) qa.2 qb.1.2 (κ + qb.2) := by
  obtain ⟨qa, qb, ea, eb, e1⟩ := inv9_call n σ τ κ h hn j pr
  refine ⟨qa, qb, ea, eb, fun h3 q eq => ?_, e1⟩
  subst h3
  exact ab_valueL h.2.2 h.1.1.1.2.1.t50.1 (pr 1) qa ea q eq
theorem inv9_letter (n : Nat) (σ τ : ST) (κ : Nat) (h : Inv9 n σ τ κ) (hn : n < 512) (j : Nat) (pr : Nat → Int32) (hj : j < 32) : ∃ (qa : Int32 × ST) (qb : (Int32 × ST) × Nat), fA j pr σ = some qa ∧ fB j pr τ = some qb ∧ (j = 18 → ∀ q, f_X11_letter (pr 1) (pr 2) τ = some q → qa.1 = q.2.1 0 0 ∧ (qa.1 = 0 → qa.2.2.1 95 0 = q.1.toInt64)) ∧ Inv9 (n + 1) qa.2 qb.1.2 (κ + qb.2) := by
  obtain ⟨qa, qb, ea, eb, e1⟩ := inv9_call n σ τ κ h hn j pr
  refine ⟨qa, qb, ea, eb, fun h3 q eq => ?_, e1⟩
  subst h3
  exact ab_letter h.2.2 h.1.1.1.2.1.t50.1 (pr 1) (pr 2) qa ea q eq
theorem inv9_byteAt (n : Nat) (σ τ : ST) (κ : Nat) (h : Inv9 n σ τ κ) (hn : n < 512) (j : Nat) (pr : Nat → Int32) (hj : j < 32) : ∃ (qa : Int32 × ST) (qb : (Int32 × ST) × Nat), fA j pr σ = some qa ∧ fB j pr τ = some qb ∧ (j = 6 → ∀ q, f_X11_byteAt_ (pr 1) (pr 2) τ = some q → qa.1 = q.2.1 0 0 ∧ (qa.1 = 0 → qa.2.2.1 95 0 = q.1.toInt64)) ∧ Inv9 (n + 1) qa.2 qb.1.2 (κ + qb.2) := by
  obtain ⟨qa, qb, ea, eb, e1⟩ := inv9_call n σ τ κ h hn j pr
  refine ⟨qa, qb, ea, eb, fun h3 q eq => ?_, e1⟩
  subst h3
  exact ab_byteAt h.1.1.2 h.1.2.2.1 (pr 1) (pr 2) qa ea q eq
