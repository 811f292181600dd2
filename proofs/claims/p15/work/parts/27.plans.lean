/-! plans: by what its text's reading answers -/
theorem k_X10_plans (p0 : Int32) (σ : ST) (hI : IA σ) : OK (f_X10_plans p0 σ) (fun q => IA q.2 ∧ (q.2.1 1 = σ.1 1 ∧ q.2.2.1 3 = σ.2.1 3) ∧ (¬ (0 ≤ p0.toInt ∧ p0.toInt ≤ (σ.1 0 1).toInt) ∧ q.2 = σ ∨ (0 ≤ p0.toInt ∧ p0.toInt ≤ (σ.1 0 1).toInt) ∧ q.2.1 0 1 = 0 ∧ ∃ (s1 : ST) (r : Int32) (s2 : ST), f_X6_begin p0 (stI σ 0 1 0) = some s1 ∧ f_X3_parse s1 = some (r, s2) ∧ (r.toInt = 0 → q.2.1 4 = σ.1 4) ∧ (¬ r.toInt = 0 → q.2.1 4 0 = s2.1 20 0))) := by
  unfold f_X10_plans
  have lt_0 := li_0
  have g : 0 ≤ (σ.1 0 1).toInt ∧ (σ.1 0 1).toInt ≤ 1000 := hI.tape
  refine OK.ilt (fun _ => OK.ret ⟨hI, ⟨rfl, rfl⟩, .inl ⟨by omega, rfl⟩⟩) (fun h0 => ?_)
  refine OK.ile (fun h1 => ?_) (fun _ => OK.ret ⟨hI, ⟨rfl, rfl⟩, .inl ⟨by omega, rfl⟩⟩)
  have iz : IA (stI σ 0 1 0) := ia_J_0_1 hI (bz (by decide) (by decide))
  have z0 : (stI σ 0 1 0).1 0 1 = 0 := rfl
  have z1 : (stI σ 0 1 0).1 1 = σ.1 1 := rfl
  have z4 : (stI σ 0 1 0).1 4 = σ.1 4 := rfl
  have zk : (stI σ 0 1 0).2.1 3 = σ.2.1 3 := rfl
  generalize stI σ 0 1 0 = z at iz z0 z1 z4 zk ⊢
  obtain ⟨s1, e1, i1, f1⟩ := k_X6_begin p0 z iz (by omega)
  rw [e1]
  show OK ((f_X3_parse s1).bind _) _
  obtain ⟨⟨r, s2⟩, e2, ⟨i2, f2⟩, _⟩ := k_X3_parse s1 i1
  have i2 : IA s2 := i2
  have f2 : Fr z s2 := f1.trans f2
  rw [e2]
  show OK (if r = 0 then _ else _) _
  refine OK.ieq (fun hr => ?_) (fun hr => ?_)
  · refine OK.bndR (k_X6_faultAnswer _ i2) (fun v h => ?_)
    rw [lt_0] at hr
    exact OK.ret ⟨i2, ⟨f2.2.1.trans z1, f2.2.2.1.2.trans zk⟩, .inr ⟨⟨by omega, h1⟩, by rw [f2.1]; exact z0, s1, r, s2, rfl, e2, fun _ => f2.2.2.1.1.trans z4, fun h9 => absurd hr h9⟩⟩
  · rw [lt_0] at hr
    refine OK.bnd (k_X5_copyFrom_4 s2 i2) (fun s5 c5 => ?_)
    obtain ⟨i5, c50, c51, c54, c5r, c5k⟩ := c5
    refine OK.bndS0 (k_X5_findEmptyRecords_4 _ i5) F0_.rf (fun s7 i7 f7 => ?_)
    refine OK.bndS0 (k_X1_clear _ i7) f7 (fun s9 i9 f9 => ?_)
    refine OK.bndS0 (k_X0_clear _ i9) f9 (fun s11 i11 f11 => ?_)
    refine OK.bndS0 (k_X9_clear _ i11) f11 (fun s13 i13 f13 => ?_)
    refine OK.bndS0 (k_X7_clear_50 _ i13) f13 (fun s15 i15 f15 => ?_)
    refine OK.ret ⟨i15, ?_, .inr ⟨⟨by omega, h1⟩, ?_, s1, r, s2, rfl, e2, fun h9 => absurd h9 hr, fun _ => ?_⟩⟩
    · refine ⟨?_, ?_⟩
      · show s15.1 1 = σ.1 1
        rw [f15.2.1, c51, f2.2.1]; exact z1
      · show s15.2.1 3 = σ.2.1 3
        rw [f15.2.2.2, c5k, f2.2.2.1.2]; exact zk
    · show s15.1 0 1 = 0
      rw [f15.1, c50, f2.1]; exact z0
    · show s15.1 4 0 = s2.1 20 0
      rw [f15.2.2.1]; exact c54
