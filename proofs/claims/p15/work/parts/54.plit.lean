/-! a literal: both see the same one -/
theorem TK.bw {σ τ : ST} (h : TK σ τ) (h1 : ¬ (σ.1 2 4).toInt = 1) : ((τ.1 0 6).toInt = 2 ↔ (σ.1 2 4).toInt = 4) ∧ ((τ.1 0 6).toInt = 3 ↔ (σ.1 2 4).toInt = 5) ∧ ((σ.1 2 4).toInt = 4 → σ.1 2 10 = τ.1 0 10 ∧ ((σ.1 2 9).toInt = 1 ∧ τ.2.1 0 9 = -(σ.2.1 2 8) ∨ (σ.1 2 9).toInt = 0 ∧ τ.2.1 0 9 = σ.2.1 2 8)) ∧ ((¬ (σ.1 2 4).toInt = 0 ) → σ.1 2 3 = τ.1 0 5) := by
  obtain ⟨_, h | h | h | h | h | h⟩ := h
  · exact ⟨by omega, by omega, fun h9 => by omega, fun h9 => by omega⟩
  · exact absurd h.1 h1
  · have hk : (σ.1 2 4).toInt = 2 ∨ (σ.1 2 4).toInt = 3 := by
      rcases h.2.2.2.2 with ⟨a, _⟩ | ⟨a, _⟩
      · exact .inl a
      · exact .inr a
    have h6 := h.1
    have h3 := h.2.2.1
    clear h
    exact ⟨by omega, by omega, fun h9 => by omega, fun _ => h3⟩
  · obtain ⟨a, b, _, c, d, e⟩ := h
    exact ⟨by omega, by omega, fun _ => ⟨d, e⟩, fun _ => c⟩
  · obtain ⟨a, b, _, c⟩ := h
    exact ⟨by omega, by omega, fun h9 => by omega, fun _ => c⟩
  · obtain ⟨a, b, _, c⟩ := h
    exact ⟨by omega, by omega, fun h9 => by omega, fun _ => c⟩
theorem TK.sg {σ τ : ST} (h : TK σ τ) {c : Int} (hc : c = 123 ∨ c = 125 ∨ c = 91 ∨ c = 93 ∨ c = 44 ∨ c = 59) : (τ.1 0 13).toInt = c ↔ (σ.1 2 4).toInt = c := by
  obtain ⟨_, h | h | h | h | h | h⟩ := h
  · omega
  · have a := h.1
    have b := h.2.1
    clear h
    omega
  · have b := h.2.1
    have hk : (σ.1 2 4).toInt = 2 ∨ (σ.1 2 4).toInt = 3 := by
      rcases h.2.2.2.2 with ⟨a, _⟩ | ⟨a, _⟩
      · exact .inl a
      · exact .inr a
    clear h
    omega
  · have a := h.1
    have b := h.2.2.1
    clear h
    omega
  · have a := h.1
    have b := h.2.2.1
    clear h
    omega
  · have a := h.1
    have b := h.2.2.1
    omega
theorem a_beginsLiteral (σ τ : ST) (h : TK σ τ) : OK (f_X6_beginsLiteral σ) (RO σ fun v => v.toInt = 0 ∧ ((σ.1 2 4).toInt = 1 ∨ ¬ LT_ τ) ∨ v.toInt = 1 ∧ ¬ (σ.1 2 4).toInt = 1 ∧ LT_ τ) := by
  unfold f_X6_beginsLiteral f_X6_beginsLiteral_52
  have l0 := li_0
  have l1 := li_1
  have l4 := li_4
  have l5 := li_5
  have l7 := li_7
  have l13 : (13 : Int32).toInt = 13 := by decide
  have l14 : (14 : Int32).toInt = 14 := by decide
  have l91 : (91 : Int32).toInt = 91 := by decide
  have k7 : W_ τ v_none ↔ _ := h.kw (k := 7) (by omega)
  have k13 : W_ τ v_yes ↔ _ := h.kw (k := 13) (by omega)
  have k14 : W_ τ v_no ↔ _ := h.kw (k := 14) (by omega)
  have s91 := h.sg (c := 91) (by omega)
  refine OK.ieq (fun h4 => OK.roret (.inr ⟨l1, by omega, ?_⟩)) (fun h4 => ?_)
  · exact .inr (.inr (.inr (.inl ((h.bw (by omega)).1.mpr (by omega)))))
  refine OK.ieq (fun h5 => OK.roret (.inr ⟨l1, by omega, ?_⟩)) (fun h5 => ?_)
  · exact .inr (.inr (.inr (.inr (.inl ((h.bw (by omega)).2.1.mpr (by omega))))))
  refine OK.ieq (fun h9 => OK.roret (.inr ⟨l1, by omega, ?_⟩)) (fun h9 => ?_)
  · exact .inr (.inr (.inr (.inr (.inr (s91.mpr (by omega))))))
  refine OK.bndR (a_isKeyword 7 σ τ h (k := 7) (by omega) l7) (fun v hv => ?_)
  dsimp only
  refine OK.ieq (fun hv0 => ?_) (fun hv1 => ?_)
  rotate_left
  · have hw : W_ τ v_none := by
      rcases hv with hv | hv
      · exact absurd hv.1 hv1
      · exact hv.2
    exact OK.roret (.inr ⟨l1, by have := (k7.mp hw).1; omega, .inl hw⟩)
  have n7 : ¬ W_ τ v_none := by
    rcases hv with hv | hv
    · exact hv.2
    · have := hv.1; clear hv; omega
  refine OK.bndR (a_isKeyword 13 σ τ h (k := 13) (by omega) l13) (fun v2 hv2 => ?_)
  dsimp only
  refine OK.ieq (fun hv0' => ?_) (fun hv1 => ?_)
  rotate_left
  · have hw : W_ τ v_yes := by
      rcases hv2 with hv | hv
      · exact absurd hv.1 hv1
      · exact hv.2
    exact OK.roret (.inr ⟨l1, by have := (k13.mp hw).1; omega, .inr (.inl hw)⟩)
  have n13 : ¬ W_ τ v_yes := by
    rcases hv2 with hv | hv
    · exact hv.2
    · have := hv.1; clear hv; omega
  refine OK.bndR (a_isKeyword 14 σ τ h (k := 14) (by omega) l14) (fun v3 hv3 => ?_)
  dsimp only
  refine OK.ieq (fun hv0'' => ?_) (fun hv1 => ?_)
  rotate_left
  · have hw : W_ τ v_no := by
      rcases hv3 with hv | hv
      · exact absurd hv.1 hv1
      · exact hv.2
    exact OK.roret (.inr ⟨l1, by have := (k14.mp hw).1; omega, .inr (.inr (.inl hw))⟩)
  have n14 : ¬ W_ τ v_no := by
    rcases hv3 with hv | hv
    · exact hv.2
    · have := hv.1; clear hv; omega
  refine OK.roret (.inl ⟨l0, ?_⟩)
  by_cases e1 : (σ.1 2 4).toInt = 1
  · exact .inl e1
  · refine .inr (fun hl => ?_)
    have bw := h.bw e1
    rcases hl with hl | hl | hl | hl | hl | hl
    · exact n7 hl
    · exact n13 hl
    · exact n14 hl
    · have := bw.1.mp hl; omega
    · have := bw.2.1.mp hl; omega
    · have := s91.mp hl; omega
