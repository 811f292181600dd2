theorem k_L_byteAt (p0 p1 : Int32) (σ : ST) (hI : IA σ) : OK (f_L_byteAt p0 p1 σ) (RT σ) := by
  unfold f_L_byteAt
  obtain ⟨⟨v, s⟩, e, h1, h2⟩ := k_X10_byteAt p0 p1 σ hI
  have h1 : s = σ := h1
  subst h1
  rw [e]
  cases v with
  | none => exact OK.rtret hI F0_.rf
  | some v => exact OK.rtret (ia_L hI) ⟨rfl, rfl, rfl, rfl⟩
theorem k_L_node (p0 p1 : Int32) (σ : ST) (hI : IA σ) : OK (f_L_node p0 p1 σ) (RT σ) := by
  unfold f_L_node
  obtain ⟨⟨v, s⟩, e, h1, h2⟩ := k_X10_node p0 p1 σ hI
  have h1 : s = σ := h1
  subst h1
  rw [e]
  cases v with
  | none => exact OK.rtret hI F0_.rf
  | some v => exact OK.rtret (ia_L hI) ⟨rfl, rfl, rfl, rfl⟩
theorem k_L_letter (p0 p1 : Int32) (σ : ST) (hI : IA σ) : OK (f_L_letter p0 p1 σ) (RT σ) := by
  unfold f_L_letter
  obtain ⟨⟨v, s⟩, e, h1, h2⟩ := k_X10_letter p0 p1 σ hI
  have h1 : s = σ := h1
  subst h1
  rw [e]
  cases v with
  | none => exact OK.rtret hI F0_.rf
  | some v => exact OK.rtret (ia_L hI) ⟨rfl, rfl, rfl, rfl⟩
theorem k_L_value (p0 : Int32) (σ : ST) (hI : IA σ) : OK (f_L_value p0 σ) (RT σ) := by
  unfold f_L_value
  obtain ⟨⟨v, s⟩, e, h1, h2⟩ := k_X10_value p0 σ hI
  have h1 : s = σ := h1
  subst h1
  rw [e]
  cases v with
  | none => exact OK.rtret hI F0_.rf
  | some v => exact OK.rtret (ia_L hI) ⟨rfl, rfl, rfl, rfl⟩
/-- every call of the class but feed, plans, write: it answers, and leaves the tape and the plans as they are -/
theorem callsA (j : Nat) (h3 : 3 ≤ j) (pr : Nat → Int32) (σ : ST) (hI : IA σ) : OK (fA j pr σ) (RT σ) := by
  match j, h3 with
  | 3, _ => exact (k_X10_record _ _ _ _ hI).ro2 hI
  | 4, _ => exact (k_X10_field _ _ _ _ _ hI).ro2 hI
  | 5, _ => exact (k_X10_message _ _ _ hI).ro2 hI
  | 6, _ => exact k_L_byteAt _ _ _ hI
  | 7, _ => exact (k_X10_spoil _ _ _ _ hI).rw2
  | 8, _ => exact (k_X10_cut _ _ _ hI).rw2
  | 9, _ => exact (k_X10_matches _ _ _ hI).rw2
  | 10, _ => exact (k_X10_miss _ _ _ _ _ hI).rw2
  | 11, _ => exact (k_X10_missStep _ _ _ _ _ hI).rw2
  | 12, _ => exact (k_X10_readers _ _ _ hI).rw2
  | 13, _ => exact k_X10_read _ _ _ hI
  | 14, _ => exact (k_X10_failure _ _ hI).ro2 hI
  | 15, _ => exact (k_X10_failureStep _ _ hI).ro2 hI
  | 16, _ => exact k_L_node _ _ _ hI
  | 17, _ => exact k_L_value _ _ hI
  | 18, _ => exact k_L_letter _ _ _ hI
  | 19, _ => exact k_X10_convert _ _ _ _ hI
  | 20, _ => exact k_X10_alike _ _ _ _ hI
  | 21, _ => exact (k_X10_kept _ _ hI).ro2 hI
  | 22, _ => exact (k_X10_count _ _ hI).ro2 hI
  | j + 23, _ => exact OK.rtret hI F0_.rf
