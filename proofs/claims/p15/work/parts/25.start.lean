/-! the class's invariant at its beginning -/
theorem bz {a b : Int} (h1 : a ≤ 0) (h2 : 0 ≤ b) : bI 0 a b := ⟨by rw [li_0]; exact h1, by rw [li_0]; exact h2⟩
theorem tr_0 {b : Nat} {n : Int} {σ : ST} (h0 : (σ.1 b 0).toInt = n) (hn : 0 ≤ n) (h1 : σ.1 b 1 = 0) : TR b n σ := by
  refine ⟨h0, by rw [h1]; exact bz (by omega) hn, fun r hr => ?_⟩
  rw [h1, li_0] at hr
  omega
theorem ia_0 : IA s0A :=
  ⟨bz (by decide) (by decide), bz (by decide) (by decide), bz (by decide) (by decide), bz (by decide) (by decide), bz (by decide) (by decide), bz (by decide) (by decide), bz (by decide) (by decide), fun _ => bz (by decide) (by decide), fun _ => bz (by decide) (by decide), fun _ => bz (by decide) (by decide), fun _ => bz (by decide) (by decide), fun _ => (show (-1 : Int) ≤ (0 : Int32).toInt from by decide), bz (by decide) (by decide), fun _ => bz (by decide) (by decide), (show (0 : Int) ≤ (0 : Int32).toInt from by decide), rfl, .inl rfl, tr_0 (show (400 : Int32).toInt = 400 from by decide) (by decide) rfl, tr_0 (show (502 : Int32).toInt = 502 from by decide) (by decide) rfl, tr_0 (show (400 : Int32).toInt = 400 from by decide) (by decide) rfl⟩
