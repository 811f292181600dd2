/-! write: the tape is emptied just where a text is read -/
def WRc (σ : ST) (p0 p1 p2 : Int32) : Prop := (0 ≤ p0.toInt ∧ p0.toInt < 4) ∧ (0 ≤ p1.toInt ∧ p1.toInt < (σ.1 4 0).toInt) ∧ 0 ≤ p2.toInt ∧ p2.toInt ≤ (σ.1 0 1).toInt
def WR (σ : ST) (c : Prop) (q : Int32 × ST) : Prop := IA q.2 ∧ q.2.1 1 = σ.1 1 ∧ (q.2.1 4 = σ.1 4 ∧ q.2.2.1 3 = σ.2.1 3) ∧ (c ∧ q.2.1 0 1 = 0 ∨ ¬ c ∧ q.2.1 0 = σ.1 0)
theorem k2_isNumber (p0 : Int32) (σ : ST) : OK (f_X1_isNumber p0 σ) (RO σ fun v => v.toInt = 0 ∧ ¬ (0 ≤ p0.toInt ∧ p0.toInt < 4) ∨ v.toInt = 1 ∧ 0 ≤ p0.toInt ∧ p0.toInt < 4) := by
  unfold f_X1_isNumber
  have lt_0 := li_0
  have lt_1 := li_1
  have lt_4 := li_4
  refine OK.ilt (fun _ => OK.roret (by omega)) (fun _ => ?_)
  exact OK.ile (fun _ => OK.roret (by omega)) (fun _ => OK.roret (by omega))
theorem k2_isPlan (p0 : Int32) (σ : ST) : OK (f_X10_isPlan p0 σ) (RO σ fun v => v.toInt = 0 ∧ ¬ (0 ≤ p0.toInt ∧ p0.toInt < (σ.1 4 0).toInt) ∨ v.toInt = 1 ∧ 0 ≤ p0.toInt ∧ p0.toInt < (σ.1 4 0).toInt) := by
  unfold f_X10_isPlan
  have lt_0 := li_0
  have lt_1 := li_1
  refine OK.ilt (fun _ => OK.roret (by omega)) (fun _ => ?_)
  exact OK.ile (fun _ => OK.roret (by omega)) (fun _ => OK.roret (by omega))
theorem k_X10_write (p0 p1 p2 : Int32) (σ : ST) (hI : IA σ) : OK (f_X10_write p0 p1 p2 σ) (WR σ (WRc σ p0 p1 p2)) := by
  unfold f_X10_write
  have lt_0 := li_0
  have g : 0 ≤ (σ.1 0 1).toInt ∧ (σ.1 0 1).toInt ≤ 1000 := hI.tape
  have no : ∀ v : Int32, ¬ WRc σ p0 p1 p2 → OK (some (v, σ)) (WR σ (WRc σ p0 p1 p2)) := fun v h => OK.ret ⟨hI, rfl, ⟨rfl, rfl⟩, .inr ⟨h, rfl⟩⟩
  refine OK.bndR (k2_isNumber _ _) (fun v1 h1 => ?_)
  dsimp only
  refine OK.ieq (fun _ => no _ (fun h => by unfold WRc at h; omega)) (fun _ => ?_)
  refine OK.bndR (k2_isPlan _ _) (fun v2 h2 => ?_)
  dsimp only
  refine OK.ieq (fun _ => no _ (fun h => by unfold WRc at h; omega)) (fun _ => ?_)
  refine OK.ilt (fun _ => no _ (fun h => by unfold WRc at h; omega)) (fun _ => ?_)
  refine OK.ile (fun _ => ?_) (fun _ => no _ (fun h => by unfold WRc at h; omega))
  have hc : WRc σ p0 p1 p2 := by unfold WRc; omega
  have iz : IA (stI σ 0 1 0) := ia_J_0_1 hI (bz (by decide) (by decide))
  have z0 : (stI σ 0 1 0).1 0 1 = 0 := rfl
  have z1 : (stI σ 0 1 0).1 1 = σ.1 1 := rfl
  have z4 : (stI σ 0 1 0).1 4 = σ.1 4 := rfl
  have zk : (stI σ 0 1 0).2.1 3 = σ.2.1 3 := rfl
  generalize stI σ 0 1 0 = z at iz z0 z1 z4 zk ⊢
  have yes : ∀ (v : Int32) (t : ST), IA t → F0_ z t → OK (some (v, t)) (WR σ (WRc σ p0 p1 p2)) := fun v t it ft => OK.ret ⟨it, ft.2.1.trans z1, ⟨ft.2.2.1.trans z4, ft.2.2.2.trans zk⟩, .inl ⟨hc, by rw [ft.1]; exact z0⟩⟩
  refine OK.bndS0 (k_X6_begin _ _ iz (by omega)) F0_.rf (fun s5 i5 f5 => ?_)
  try dsimp only
  refine OK.bndR (k_X5_rootType_4 _ _ i5) (fun v7 h7 => ?_)
  dsimp only
  refine OK.bndT (k_X8_parse _ _ i5).rw2 f5 (fun v9 s9 i9 f9 => ?_)
  dsimp only
  refine OK.ieq (fun _ => ?_) (fun _ => ?_)
  · refine OK.bndR (k_X6_faultAnswer _ i9) (fun v h => ?_)
    exact yes _ _ i9 f9
  refine OK.bndR (k_X5_rootType_4 _ _ i9) (fun v11 h11 => ?_)
  dsimp only
  refine OK.bndS0 (k_X2_pack_62 _ _ i9) f9 (fun s13 i13 f13 => ?_)
  try dsimp only
  refine OK.ile (fun _ => ?_) (fun _ => ?_)
  · exact OK.bndS0 (k_X1_store _ _ _ i13) f13 (fun s15 i15 f15 => yes _ _ i15 f15)
  · refine OK.bndT (k_X6_refuse _ _ i13).rw2 f13 (fun v17 s17 i17 f17 => ?_)
    dsimp only
    refine OK.bndR (k_X6_faultAnswer _ i17) (fun v h => ?_)
    exact yes _ _ i17 f17
