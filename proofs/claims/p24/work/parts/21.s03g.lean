theorem k_X4_takeNumber_89_50 (p0 : Int32) (σ : ST) (hI : IA σ) (hT : σ.2.2.2 89 = 50)  : OK (f_X4_takeNumber 89 50 p0 σ) (RW σ fun v => True) := by
  unfold f_X4_takeNumber
  have lt_0 := li_0
  have lt_1 := li_1
  have lFU : ((FU : Nat) : Int) = 100000 := rfl
  exact OK.trW (k_X4_takeNumber_5_89_50 FU _ _ _ _ hI (by first | exact hT | (rw [Fr.rf.2.2.2]; exact hT)) (by omega)) Fr.rf (fun v hv => by first | trivial | omega | exact hI.flds _ | exact hI.dflds _ | exact hI.recs _ | exact hI.drecs _ | exact hI.droot _ | omega)

theorem k_X4_takeNumber_92_62 (p0 : Int32) (σ : ST) (hI : IA σ) (hT : σ.2.2.2 92 = 62)  : OK (f_X4_takeNumber 92 62 p0 σ) (RW σ fun v => True) := by
  unfold f_X4_takeNumber
  have lt_0 := li_0
  have lt_1 := li_1
  have lFU : ((FU : Nat) : Int) = 100000 := rfl
  exact OK.trW (k_X4_takeNumber_5_92_62 FU _ _ _ _ hI (by first | exact hT | (rw [Fr.rf.2.2.2]; exact hT)) (by omega)) Fr.rf (fun v hv => by first | trivial | omega | exact hI.flds _ | exact hI.dflds _ | exact hI.recs _ | exact hI.drecs _ | exact hI.droot _ | omega)

theorem k_X4_takeNumber_92_74 (p0 : Int32) (σ : ST) (hI : IA σ) (hT : σ.2.2.2 92 = 74)  : OK (f_X4_takeNumber 92 74 p0 σ) (RW σ fun v => True) := by
  unfold f_X4_takeNumber
  have lt_0 := li_0
  have lt_1 := li_1
  have lFU : ((FU : Nat) : Int) = 100000 := rfl
  exact OK.trW (k_X4_takeNumber_5_92_74 FU _ _ _ _ hI (by first | exact hT | (rw [Fr.rf.2.2.2]; exact hT)) (by omega)) Fr.rf (fun v hv => by first | trivial | omega | exact hI.flds _ | exact hI.dflds _ | exact hI.recs _ | exact hI.drecs _ | exact hI.droot _ | omega)

theorem lgc_ge {x y : Int64} (h : (0 : Int32).toInt ≤ (lg_cmp x y).toInt) : y.toInt ≤ x.toInt := Int64.le_iff_toInt_le.mp ((lg_cmp_ge x y).mp (Int32.le_iff_toInt_le.mpr h))
theorem lgc_le {x y : Int64} (h : (lg_cmp x y).toInt ≤ (0 : Int32).toInt) : x.toInt ≤ y.toInt := by
  unfold lg_cmp at h
  by_cases hx : x > y
  · rw [if_pos hx] at h
    exact absurd h (by decide)
  · have hx : ¬ y < x := hx
    rw [Int64.lt_iff_toInt_lt] at hx
    omega
theorem k_X4_takeCount_19_89_50 (x1 : Int32) (x3 : Int64) (σ : ST) (hI : IA σ) : OK (f_X4_takeCount_19 89 50 x1 x3 σ) (RW σ fun v => v.toInt = 0) := by
  unfold f_X4_takeCount_19 f_X4_fail
  by_cases h : σ.1 89 7 = 0
  · rw [if_pos h, if_neg (by decide), if_neg (by decide)]
    show OK (f_X4_takeCount_26 89 50 x3 (stI (stI σ 89 7 12) 89 8 x1)) _
    unfold f_X4_takeCount_26
    exact OK.ieq (fun h9 => absurd h9 (show ¬ (12 : Int32).toInt = (0 : Int32).toInt by decide)) (fun _ => OK.wret (ia_I_89 (ia_I_89 hI)) (fr_I_89 (fr_I_89 Fr.rf)) (by decide))
  · rw [if_neg h]
    show OK (f_X4_takeCount_26 89 50 x3 σ) _
    unfold f_X4_takeCount_26
    exact OK.ieq (fun h9 => absurd (Int32.toInt_inj.mp h9) h) (fun _ => OK.wret hI Fr.rf (by decide))
theorem k_X4_takeCount_89_50 (p0 p1 : Int32) (σ : ST) (hI : IA σ) (hT : σ.2.2.2 89 = 50) : OK (f_X4_takeCount 89 50 p0 p1 σ) (RW σ fun v => 0 ≤ v.toInt ∧ (v.toInt ≤ p1.toInt ∨ v.toInt = 0)) := by
  unfold f_X4_takeCount
  refine OK.bndW (k_X4_takeNumber_89_50 _ _ hI hT) Fr.rf (fun v s i f h => ?_)
  dsimp only
  refine OK.ilt (fun _ => OK.trW (k_X4_takeCount_19_89_50 _ _ _ i) f (fun w hw => ⟨by omega, .inr hw⟩)) (fun h1 => ?_)
  refine OK.ile (fun h2 => ?_) (fun _ => OK.trW (k_X4_takeCount_19_89_50 _ _ _ i) f (fun w hw => ⟨by omega, .inr hw⟩))
  have h1 := lgc_ge h1
  have h2 := lgc_le h2
  rw [Int32.toInt_toInt64] at h2
  have z : (0 : Int64).toInt = 0 := by decide
  have r := i_rng p1
  obtain ⟨k, hk⟩ := i_bm v.toInt
  have e : v.toInt32.toInt = v.toInt + 4294967296 * k := by rw [Int64.toInt_toInt32]; exact hk
  have r2 := i_rng v.toInt32
  unfold f_X4_takeCount_26
  exact OK.ieq (fun _ => OK.wret i f ⟨by omega, .inl (by omega)⟩) (fun _ => OK.wret i f ⟨by decide, .inr (by decide)⟩)


theorem k_X4_takeCount_19_92_62 (x1 : Int32) (x3 : Int64) (σ : ST) (hI : IA σ) : OK (f_X4_takeCount_19 92 62 x1 x3 σ) (RW σ fun v => v.toInt = 0) := by
  unfold f_X4_takeCount_19 f_X4_fail
  by_cases h : σ.1 92 7 = 0
  · rw [if_pos h, if_neg (by decide), if_neg (by decide)]
    show OK (f_X4_takeCount_26 92 62 x3 (stI (stI σ 92 7 12) 92 8 x1)) _
    unfold f_X4_takeCount_26
    exact OK.ieq (fun h9 => absurd h9 (show ¬ (12 : Int32).toInt = (0 : Int32).toInt by decide)) (fun _ => OK.wret (ia_I_92 (ia_I_92 hI)) (fr_I_92 (fr_I_92 Fr.rf)) (by decide))
  · rw [if_neg h]
    show OK (f_X4_takeCount_26 92 62 x3 σ) _
    unfold f_X4_takeCount_26
    exact OK.ieq (fun h9 => absurd (Int32.toInt_inj.mp h9) h) (fun _ => OK.wret hI Fr.rf (by decide))
theorem k_X4_takeCount_92_62 (p0 p1 : Int32) (σ : ST) (hI : IA σ) (hT : σ.2.2.2 92 = 62) : OK (f_X4_takeCount 92 62 p0 p1 σ) (RW σ fun v => 0 ≤ v.toInt ∧ (v.toInt ≤ p1.toInt ∨ v.toInt = 0)) := by
  unfold f_X4_takeCount
  refine OK.bndW (k_X4_takeNumber_92_62 _ _ hI hT) Fr.rf (fun v s i f h => ?_)
  dsimp only
  refine OK.ilt (fun _ => OK.trW (k_X4_takeCount_19_92_62 _ _ _ i) f (fun w hw => ⟨by omega, .inr hw⟩)) (fun h1 => ?_)
  refine OK.ile (fun h2 => ?_) (fun _ => OK.trW (k_X4_takeCount_19_92_62 _ _ _ i) f (fun w hw => ⟨by omega, .inr hw⟩))
  have h1 := lgc_ge h1
  have h2 := lgc_le h2
  rw [Int32.toInt_toInt64] at h2
  have z : (0 : Int64).toInt = 0 := by decide
  have r := i_rng p1
  obtain ⟨k, hk⟩ := i_bm v.toInt
  have e : v.toInt32.toInt = v.toInt + 4294967296 * k := by rw [Int64.toInt_toInt32]; exact hk
  have r2 := i_rng v.toInt32
  unfold f_X4_takeCount_26
  exact OK.ieq (fun _ => OK.wret i f ⟨by omega, .inl (by omega)⟩) (fun _ => OK.wret i f ⟨by decide, .inr (by decide)⟩)


theorem k_X4_takeCount_19_92_74 (x1 : Int32) (x3 : Int64) (σ : ST) (hI : IA σ) : OK (f_X4_takeCount_19 92 74 x1 x3 σ) (RW σ fun v => v.toInt = 0) := by
  unfold f_X4_takeCount_19 f_X4_fail
  by_cases h : σ.1 92 7 = 0
  · rw [if_pos h, if_neg (by decide), if_neg (by decide)]
    show OK (f_X4_takeCount_26 92 74 x3 (stI (stI σ 92 7 12) 92 8 x1)) _
    unfold f_X4_takeCount_26
    exact OK.ieq (fun h9 => absurd h9 (show ¬ (12 : Int32).toInt = (0 : Int32).toInt by decide)) (fun _ => OK.wret (ia_I_92 (ia_I_92 hI)) (fr_I_92 (fr_I_92 Fr.rf)) (by decide))
  · rw [if_neg h]
    show OK (f_X4_takeCount_26 92 74 x3 σ) _
    unfold f_X4_takeCount_26
    exact OK.ieq (fun h9 => absurd (Int32.toInt_inj.mp h9) h) (fun _ => OK.wret hI Fr.rf (by decide))
theorem k_X4_takeCount_92_74 (p0 p1 : Int32) (σ : ST) (hI : IA σ) (hT : σ.2.2.2 92 = 74) : OK (f_X4_takeCount 92 74 p0 p1 σ) (RW σ fun v => 0 ≤ v.toInt ∧ (v.toInt ≤ p1.toInt ∨ v.toInt = 0)) := by
  unfold f_X4_takeCount
  refine OK.bndW (k_X4_takeNumber_92_74 _ _ hI hT) Fr.rf (fun v s i f h => ?_)
  dsimp only
  refine OK.ilt (fun _ => OK.trW (k_X4_takeCount_19_92_74 _ _ _ i) f (fun w hw => ⟨by omega, .inr hw⟩)) (fun h1 => ?_)
  refine OK.ile (fun h2 => ?_) (fun _ => OK.trW (k_X4_takeCount_19_92_74 _ _ _ i) f (fun w hw => ⟨by omega, .inr hw⟩))
  have h1 := lgc_ge h1
  have h2 := lgc_le h2
  rw [Int32.toInt_toInt64] at h2
  have z : (0 : Int64).toInt = 0 := by decide
  have r := i_rng p1
  obtain ⟨k, hk⟩ := i_bm v.toInt
  have e : v.toInt32.toInt = v.toInt + 4294967296 * k := by rw [Int64.toInt_toInt32]; exact hk
  have r2 := i_rng v.toInt32
  unfold f_X4_takeCount_26
  exact OK.ieq (fun _ => OK.wret i f ⟨by omega, .inl (by omega)⟩) (fun _ => OK.wret i f ⟨by decide, .inr (by decide)⟩)



theorem k_X7_isRow_50 (p0 : Int32) (σ : ST) (hI : IA σ)  : OK (f_X7_isRow 50 p0 σ) (RO σ fun v => v.toInt = 0 ∧ (p0.toInt < 0 ∨ (σ.1 50 1).toInt ≤ p0.toInt) ∨ v.toInt = 1 ∧ 0 ≤ p0.toInt ∧ p0.toInt < (σ.1 50 1).toInt) := by
  unfold f_X7_isRow
  have lt_0 := li_0
  have lt_1 := li_1
  have lFU : ((FU : Nat) : Int) = 100000 := rfl
  have g50 := (hI.t50).1
  have g50b : 0 ≤ (σ.1 50 1).toInt ∧ (σ.1 50 1).toInt ≤ 400 := (hI.t50).2.1
  have g50n : ((ln7 50 : Nat) : Int) = 400 := rfl
  refine OK.ilt (fun h1 => ?_) (fun h1 => ?_)
  · skip
    exact OK.roret (by first | trivial | omega | exact hI.flds _ | exact hI.dflds _ | exact hI.recs _ | exact hI.drecs _ | exact hI.droot _ | omega)
  · skip
    refine OK.ile (fun h2 => ?_) (fun h2 => ?_)
    · skip
      exact OK.roret (by first | trivial | omega | exact hI.flds _ | exact hI.dflds _ | exact hI.recs _ | exact hI.drecs _ | exact hI.droot _ | omega)
    · skip
      refine OK.ile (fun h3 => ?_) (fun h3 => ?_)
      · skip
        exact OK.roret (by first | trivial | omega | exact hI.flds _ | exact hI.dflds _ | exact hI.recs _ | exact hI.drecs _ | exact hI.droot _ | omega)
      · skip
        exact OK.roret (by first | trivial | omega | exact hI.flds _ | exact hI.dflds _ | exact hI.recs _ | exact hI.drecs _ | exact hI.droot _ | omega)

theorem k_X7_isRow_62 (p0 : Int32) (σ : ST) (hI : IA σ)  : OK (f_X7_isRow 62 p0 σ) (RO σ fun v => v.toInt = 0 ∧ (p0.toInt < 0 ∨ (σ.1 62 1).toInt ≤ p0.toInt) ∨ v.toInt = 1 ∧ 0 ≤ p0.toInt ∧ p0.toInt < (σ.1 62 1).toInt) := by
  unfold f_X7_isRow
  have lt_0 := li_0
  have lt_1 := li_1
  have lFU : ((FU : Nat) : Int) = 100000 := rfl
  have g62 := (hI.t62).1
  have g62b : 0 ≤ (σ.1 62 1).toInt ∧ (σ.1 62 1).toInt ≤ 502 := (hI.t62).2.1
  have g62n : ((ln7 62 : Nat) : Int) = 502 := rfl
  refine OK.ilt (fun h1 => ?_) (fun h1 => ?_)
  · skip
    exact OK.roret (by first | trivial | omega | exact hI.flds _ | exact hI.dflds _ | exact hI.recs _ | exact hI.drecs _ | exact hI.droot _ | omega)
  · skip
    refine OK.ile (fun h2 => ?_) (fun h2 => ?_)
    · skip
      exact OK.roret (by first | trivial | omega | exact hI.flds _ | exact hI.dflds _ | exact hI.recs _ | exact hI.drecs _ | exact hI.droot _ | omega)
    · skip
      refine OK.ile (fun h3 => ?_) (fun h3 => ?_)
      · skip
        exact OK.roret (by first | trivial | omega | exact hI.flds _ | exact hI.dflds _ | exact hI.recs _ | exact hI.drecs _ | exact hI.droot _ | omega)
      · skip
        exact OK.roret (by first | trivial | omega | exact hI.flds _ | exact hI.dflds _ | exact hI.recs _ | exact hI.drecs _ | exact hI.droot _ | omega)

theorem k_X7_isRow_74 (p0 : Int32) (σ : ST) (hI : IA σ)  : OK (f_X7_isRow 74 p0 σ) (RO σ fun v => v.toInt = 0 ∧ (p0.toInt < 0 ∨ (σ.1 74 1).toInt ≤ p0.toInt) ∨ v.toInt = 1 ∧ 0 ≤ p0.toInt ∧ p0.toInt < (σ.1 74 1).toInt) := by
  unfold f_X7_isRow
  have lt_0 := li_0
  have lt_1 := li_1
  have lFU : ((FU : Nat) : Int) = 100000 := rfl
  have g74 := (hI.t74).1
  have g74b : 0 ≤ (σ.1 74 1).toInt ∧ (σ.1 74 1).toInt ≤ 400 := (hI.t74).2.1
  have g74n : ((ln7 74 : Nat) : Int) = 400 := rfl
  refine OK.ilt (fun h1 => ?_) (fun h1 => ?_)
  · skip
    exact OK.roret (by first | trivial | omega | exact hI.flds _ | exact hI.dflds _ | exact hI.recs _ | exact hI.drecs _ | exact hI.droot _ | omega)
  · skip
    refine OK.ile (fun h2 => ?_) (fun h2 => ?_)
    · skip
      exact OK.roret (by first | trivial | omega | exact hI.flds _ | exact hI.dflds _ | exact hI.recs _ | exact hI.drecs _ | exact hI.droot _ | omega)
    · skip
      refine OK.ile (fun h3 => ?_) (fun h3 => ?_)
      · skip
        exact OK.roret (by first | trivial | omega | exact hI.flds _ | exact hI.dflds _ | exact hI.recs _ | exact hI.drecs _ | exact hI.droot _ | omega)
      · skip
        exact OK.roret (by first | trivial | omega | exact hI.flds _ | exact hI.dflds _ | exact hI.recs _ | exact hI.drecs _ | exact hI.droot _ | omega)

theorem stI_ne {σ : ST} {q i c : Nat} {v : Int32} (h : c ≠ q) : (stI σ q i v).1 c = σ.1 c := by
  show (bif Nat.beq c q then upd (σ.1 c) i v else σ.1 c) = σ.1 c
  have hb : Nat.beq c q = false := by
    cases hb : Nat.beq c q with
    | false => rfl
    | true => exact absurd (Nat.eq_of_beq_eq_true hb) h
  rw [hb]; rfl
theorem vw_upd {f : Nat → Int32} {i : Nat} {v : Int32} : (fun r => (upd f i v r).toInt) = updZ (fun r => (f r).toInt) i v.toInt := by
  funext r
  unfold upd updZ
  split <;> rfl
theorem upd_at {f : Nat → Int32} {i : Nat} {v : Int32} : upd f i v i = v := by unfold upd; rw [if_pos rfl]
theorem upd_no {f : Nat → Int32} {i j : Nat} {v : Int32} (h : j ≠ i) : upd f i v j = f j := by unfold upd; rw [if_neg h]
theorem TR.congr {b : Nat} {n : Int} {σ s : ST} (h : TR b n σ) (hc : ∀ c, b ≤ c → c ≤ b + 11 → s.1 c = σ.1 c) : TR b n s := by
  unfold TR at h ⊢
  rw [hc b (by omega) (by omega), hc (b + 2) (by omega) (by omega), hc (b + 3) (by omega) (by omega), hc (b + 7) (by omega) (by omega), hc (b + 8) (by omega) (by omega), hc (b + 9) (by omega) (by omega)]
  exact h
theorem TRf.grow {S : Int} {P C F L N : Nat → Int} (h : TRf S P C F L N) {row : Nat} (hrow : (row : Int) = S) (a c : Int) : TRf (S + 1) (updZ P row a) (updZ C row c) (updZ F row (-1)) (updZ L row (-1)) (updZ N row (-1)) := by
  intro r hr
  by_cases e : r = row
  · have e1 : ∀ f : Nat → Int, updZ f row (-1) r = -1 := fun f => by unfold updZ; rw [if_pos e]
    exact ⟨.inl (e1 F), .inl (e1 L), .inl (e1 N)⟩
  · obtain ⟨hF, hL, hN⟩ := h r (by omega)
    have e1 : ∀ (f : Nat → Int) (v : Int), updZ f row v r = f r := fun f v => by unfold updZ; rw [if_neg e]
    have e2 : ∀ (f : Nat → Int) (v : Int) (j : Nat), (j : Int) < S → updZ f row v j = f j := fun f v j hj => by unfold updZ; rw [if_neg (by omega)]
    rw [e1, e1, e1, e1, e1]
    refine ⟨?_, ?_, ?_⟩
    · rcases hF with hF | ⟨a1, a2, a3⟩
      · exact .inl hF
      · exact .inr ⟨a1, by omega, by rw [e2 _ _ _ (by omega)]; exact a3⟩
    · rcases hL with hL | ⟨a1, a2, a3, a4⟩
      · exact .inl hL
      · exact .inr ⟨a1, by omega, by rw [e2 _ _ _ (by omega)]; exact a3, by rw [e2 _ _ _ (by omega)]; exact a4⟩
    · rcases hN with hN | ⟨a1, a2, a3, a4⟩
      · exact .inl hN
      · exact .inr ⟨a1, by omega, by rw [e2 _ _ _ (by omega)]; exact a3, by rw [e2 _ _ _ (by omega)]; exact a4⟩
/-- the newest row stands nowhere yet -/
def LK (b : Nat) (σ : ST) (x1 x2 : Int32) : Prop := x1.toInt = (σ.1 b 1).toInt - 1 ∧ 0 ≤ x1.toInt ∧ 0 ≤ x2.toInt ∧ x2.toInt < (σ.1 b 1).toInt ∧ (σ.1 (b + 2) x1.toNatClampNeg).toInt = x2.toInt ∧ ∀ r : Nat, (r : Int) < (σ.1 b 1).toInt → (σ.1 (b + 7) r).toInt < x1.toInt ∧ (σ.1 (b + 8) r).toInt < x1.toInt ∧ (σ.1 (b + 9) r).toInt < x1.toInt
theorem nN_ {x : Int32} (h : 0 ≤ x.toInt) : ((x.toNatClampNeg : Nat) : Int) = x.toInt := by
  show ((x.toInt.toNat : Nat) : Int) = x.toInt
  omega
theorem ia_T50 {σ s : ST} (h : IA σ) (hc : ∀ c, c < 50 ∨ 61 < c → s.1 c = σ.1 c) (hr : s.2.2.2 = σ.2.2.2) (t : TR 50 400 s) : IA s := ⟨(by rw [hc 0 (by omega)]; exact h.1), (by rw [hc 2 (by omega)]; exact h.2.1), (by rw [hc 2 (by omega)]; exact h.2.2.1), (by rw [hc 2 (by omega)]; exact h.2.2.2.1), (by rw [hc 4 (by omega)]; exact h.2.2.2.2.1), (by rw [hc 20 (by omega)]; exact h.2.2.2.2.2.1), (by rw [hc 20 (by omega)]; exact h.2.2.2.2.2.2.1), (by rw [hc 5 (by omega)]; exact h.2.2.2.2.2.2.2.1), (by rw [hc 21 (by omega)]; exact h.2.2.2.2.2.2.2.2.1), (by rw [hc 7 (by omega)]; exact h.2.2.2.2.2.2.2.2.2.1), (by rw [hc 23 (by omega)]; exact h.2.2.2.2.2.2.2.2.2.2.1), (by rw [hc 22 (by omega)]; exact h.2.2.2.2.2.2.2.2.2.2.2.1), (by rw [hc 48 (by omega)]; exact h.2.2.2.2.2.2.2.2.2.2.2.2.1), (by rw [hc 88 (by omega)]; exact h.2.2.2.2.2.2.2.2.2.2.2.2.2.1), (by rw [hc 87 (by omega)]; exact h.2.2.2.2.2.2.2.2.2.2.2.2.2.2.1), (by rw [hr]; exact h.r89), (by rw [hr]; exact h.r92), t, (TR.congr h.t62 (fun c h1 h2 => hc c (by omega))), (TR.congr h.t74 (fun c h1 h2 => hc c (by omega)))⟩
theorem fr_T50 {σ s : ST} (hc : ∀ c, c < 50 ∨ 61 < c → s.1 c = σ.1 c) (hr : s.2.2.2 = σ.2.2.2) (hk : s.2.1 3 = σ.2.1 3) : Fr σ s := ⟨hc 0 (by omega), hc 1 (by omega), ⟨hc 4 (by omega), hk⟩, hr⟩
theorem ia_T62 {σ s : ST} (h : IA σ) (hc : ∀ c, c < 62 ∨ 73 < c → s.1 c = σ.1 c) (hr : s.2.2.2 = σ.2.2.2) (t : TR 62 502 s) : IA s := ⟨(by rw [hc 0 (by omega)]; exact h.1), (by rw [hc 2 (by omega)]; exact h.2.1), (by rw [hc 2 (by omega)]; exact h.2.2.1), (by rw [hc 2 (by omega)]; exact h.2.2.2.1), (by rw [hc 4 (by omega)]; exact h.2.2.2.2.1), (by rw [hc 20 (by omega)]; exact h.2.2.2.2.2.1), (by rw [hc 20 (by omega)]; exact h.2.2.2.2.2.2.1), (by rw [hc 5 (by omega)]; exact h.2.2.2.2.2.2.2.1), (by rw [hc 21 (by omega)]; exact h.2.2.2.2.2.2.2.2.1), (by rw [hc 7 (by omega)]; exact h.2.2.2.2.2.2.2.2.2.1), (by rw [hc 23 (by omega)]; exact h.2.2.2.2.2.2.2.2.2.2.1), (by rw [hc 22 (by omega)]; exact h.2.2.2.2.2.2.2.2.2.2.2.1), (by rw [hc 48 (by omega)]; exact h.2.2.2.2.2.2.2.2.2.2.2.2.1), (by rw [hc 88 (by omega)]; exact h.2.2.2.2.2.2.2.2.2.2.2.2.2.1), (by rw [hc 87 (by omega)]; exact h.2.2.2.2.2.2.2.2.2.2.2.2.2.2.1), (by rw [hr]; exact h.r89), (by rw [hr]; exact h.r92), (TR.congr h.t50 (fun c h1 h2 => hc c (by omega))), t, (TR.congr h.t74 (fun c h1 h2 => hc c (by omega)))⟩
theorem fr_T62 {σ s : ST} (hc : ∀ c, c < 62 ∨ 73 < c → s.1 c = σ.1 c) (hr : s.2.2.2 = σ.2.2.2) (hk : s.2.1 3 = σ.2.1 3) : Fr σ s := ⟨hc 0 (by omega), hc 1 (by omega), ⟨hc 4 (by omega), hk⟩, hr⟩
theorem ia_T74 {σ s : ST} (h : IA σ) (hc : ∀ c, c < 74 ∨ 85 < c → s.1 c = σ.1 c) (hr : s.2.2.2 = σ.2.2.2) (t : TR 74 400 s) : IA s := ⟨(by rw [hc 0 (by omega)]; exact h.1), (by rw [hc 2 (by omega)]; exact h.2.1), (by rw [hc 2 (by omega)]; exact h.2.2.1), (by rw [hc 2 (by omega)]; exact h.2.2.2.1), (by rw [hc 4 (by omega)]; exact h.2.2.2.2.1), (by rw [hc 20 (by omega)]; exact h.2.2.2.2.2.1), (by rw [hc 20 (by omega)]; exact h.2.2.2.2.2.2.1), (by rw [hc 5 (by omega)]; exact h.2.2.2.2.2.2.2.1), (by rw [hc 21 (by omega)]; exact h.2.2.2.2.2.2.2.2.1), (by rw [hc 7 (by omega)]; exact h.2.2.2.2.2.2.2.2.2.1), (by rw [hc 23 (by omega)]; exact h.2.2.2.2.2.2.2.2.2.2.1), (by rw [hc 22 (by omega)]; exact h.2.2.2.2.2.2.2.2.2.2.2.1), (by rw [hc 48 (by omega)]; exact h.2.2.2.2.2.2.2.2.2.2.2.2.1), (by rw [hc 88 (by omega)]; exact h.2.2.2.2.2.2.2.2.2.2.2.2.2.1), (by rw [hc 87 (by omega)]; exact h.2.2.2.2.2.2.2.2.2.2.2.2.2.2.1), (by rw [hr]; exact h.r89), (by rw [hr]; exact h.r92), (TR.congr h.t50 (fun c h1 h2 => hc c (by omega))), (TR.congr h.t62 (fun c h1 h2 => hc c (by omega))), t⟩
theorem fr_T74 {σ s : ST} (hc : ∀ c, c < 74 ∨ 85 < c → s.1 c = σ.1 c) (hr : s.2.2.2 = σ.2.2.2) (hk : s.2.1 3 = σ.2.1 3) : Fr σ s := ⟨hc 0 (by omega), hc 1 (by omega), ⟨hc 4 (by omega), hk⟩, hr⟩
theorem k_X7_link_103_50 (x1 x2 x4 : Int32) (σ : ST) (hI : IA σ) (hk : LK 50 σ x1 x2) (hb : x4.toInt = -1 ∧ ((σ.1 57 x2.toNatClampNeg).toInt = -1 ∨ (σ.1 53 x1.toNatClampNeg).toInt ≤ (σ.1 53 (σ.1 57 x2.toNatClampNeg).toNatClampNeg).toInt) ∨ 0 ≤ x4.toInt ∧ x4.toInt < x1.toInt ∧ (σ.1 52 x4.toNatClampNeg).toInt = x2.toInt ∧ (σ.1 53 x4.toNatClampNeg).toInt < (σ.1 53 x1.toNatClampNeg).toInt ∧ ((σ.1 59 x4.toNatClampNeg).toInt = -1 ∨ (σ.1 53 x1.toNatClampNeg).toInt ≤ (σ.1 53 (σ.1 59 x4.toNatClampNeg).toNatClampNeg).toInt)) : OK (f_X7_link_103 50 x1 x2 x4 σ) (RS σ) := by
  obtain ⟨k1, k2, k3, k4, k5, k6⟩ := hk
  have lt_0 := li_0
  have lm : (-1 : Int32).toInt = -1 := by decide
  have g : 0 ≤ (σ.1 50 1).toInt ∧ (σ.1 50 1).toInt ≤ 400 := (hI.t50).2.1
  have gn : ((ln7 50 : Nat) : Int) = 400 := rfl
  have n1 := nN_ k2
  have n2 := nN_ k3
  have T0 := (hI.t50).2.2
  unfold f_X7_link_103
  refine OK.bndR (k_X7_isRow_50 _ _ hI) (fun v hv => ?_)
  dsimp only
  refine OK.ieq (fun h => ?_) (fun h => ?_)
  · have hb1 : (σ.1 57 x2.toNatClampNeg).toInt = -1 ∨ (σ.1 53 x1.toNatClampNeg).toInt ≤ (σ.1 53 (σ.1 57 x2.toNatClampNeg).toNatClampNeg).toInt := by
      rcases hb with hb | hb
      · exact hb.2
      · omega
    have T := T0.first (row := x1.toNatClampNeg) (p := x2.toNatClampNeg) (by omega) (by omega) (by rw [n2]; exact k5) (fun r hr => by rw [n1]; exact k6 r hr) hb1
    rw [n1] at T
    refine OK.grd ⟨by omega, by omega⟩ ?_
    refine OK.grd ⟨by omega, by omega⟩ ?_
    refine OK.lt (fun z hz => ?_)
    subst hz
    unfold f_X7_link_155
    refine OK.grd ⟨by omega, by omega⟩ ?_
    have ez : (stI (stI σ (50 + 9) x1.toNatClampNeg (σ.1 (50 + 7) x2.toNatClampNeg)) (50 + 7) x2.toNatClampNeg x1).1 (50 + 9) x1.toNatClampNeg = σ.1 57 x2.toNatClampNeg := by
      show upd (σ.1 59) x1.toNatClampNeg (σ.1 57 x2.toNatClampNeg) x1.toNatClampNeg = _
      exact upd_at
    rw [ez]
    refine OK.ieq (fun h9 => ?_) (fun h9 => ?_)
    · rw [lm] at h9
      rw [if_pos h9] at T
      refine OK.grd ⟨by omega, by omega⟩ ?_
      have hc : ∀ c, c < 50 ∨ 61 < c → (stI (stI (stI σ (50 + 9) x1.toNatClampNeg (σ.1 (50 + 7) x2.toNatClampNeg)) (50 + 7) x2.toNatClampNeg x1) (50 + 8) x2.toNatClampNeg x1).1 c = σ.1 c := fun c hc => by rw [stI_ne (by omega), stI_ne (by omega), stI_ne (by omega)]
      refine OK.sret (ia_T50 hI hc rfl ⟨(hI.t50).1, g, ?_⟩) (fr_T50 hc rfl rfl)
      show TRf (σ.1 50 1).toInt (fun r => (σ.1 52 r).toInt) (fun r => (σ.1 53 r).toInt) (fun r => (upd (σ.1 57) x2.toNatClampNeg x1 r).toInt) (fun r => (upd (σ.1 58) x2.toNatClampNeg x1 r).toInt) (fun r => (upd (σ.1 59) x1.toNatClampNeg (σ.1 57 x2.toNatClampNeg) r).toInt)
      rw [vw_upd, vw_upd, vw_upd]
      exact T
    · rw [lm] at h9
      rw [if_neg h9] at T
      have hc : ∀ c, c < 50 ∨ 61 < c → (stI (stI σ (50 + 9) x1.toNatClampNeg (σ.1 (50 + 7) x2.toNatClampNeg)) (50 + 7) x2.toNatClampNeg x1).1 c = σ.1 c := fun c hc => by rw [stI_ne (by omega), stI_ne (by omega)]
      refine OK.sret (ia_T50 hI hc rfl ⟨(hI.t50).1, g, ?_⟩) (fr_T50 hc rfl rfl)
      show TRf (σ.1 50 1).toInt (fun r => (σ.1 52 r).toInt) (fun r => (σ.1 53 r).toInt) (fun r => (upd (σ.1 57) x2.toNatClampNeg x1 r).toInt) (fun r => (σ.1 58 r).toInt) (fun r => (upd (σ.1 59) x1.toNatClampNeg (σ.1 57 x2.toNatClampNeg) r).toInt)
      rw [vw_upd, vw_upd]
      exact T
  · obtain ⟨b1, b2, b3, b4, b5⟩ : 0 ≤ x4.toInt ∧ x4.toInt < x1.toInt ∧ (σ.1 52 x4.toNatClampNeg).toInt = x2.toInt ∧ (σ.1 53 x4.toNatClampNeg).toInt < (σ.1 53 x1.toNatClampNeg).toInt ∧ ((σ.1 59 x4.toNatClampNeg).toInt = -1 ∨ (σ.1 53 x1.toNatClampNeg).toInt ≤ (σ.1 53 (σ.1 59 x4.toNatClampNeg).toNatClampNeg).toInt) := by
      rcases hb with hb | hb
      · omega
      · exact hb
    have n4 := nN_ b1
    have T := T0.after (row := x1.toNatClampNeg) (p := x2.toNatClampNeg) (q := x4.toNatClampNeg) (by omega) (by rw [n2]; exact k5) (fun r hr => by rw [n1]; exact k6 r hr) (by omega) (by rw [n2]; exact b3) b4 b5
    rw [n1] at T
    refine OK.grd ⟨by omega, by omega⟩ ?_
    refine OK.grd ⟨by omega, by omega⟩ ?_
    refine OK.lt (fun z hz => ?_)
    subst hz
    unfold f_X7_link_155
    refine OK.grd ⟨by omega, by omega⟩ ?_
    have ez : (stI (stI σ (50 + 9) x1.toNatClampNeg (σ.1 (50 + 9) x4.toNatClampNeg)) (50 + 9) x4.toNatClampNeg x1).1 (50 + 9) x1.toNatClampNeg = σ.1 59 x4.toNatClampNeg := by
      show upd (upd (σ.1 59) x1.toNatClampNeg (σ.1 59 x4.toNatClampNeg)) x4.toNatClampNeg x1 x1.toNatClampNeg = _
      rw [upd_no (by omega), upd_at]
    rw [ez]
    refine OK.ieq (fun h9 => ?_) (fun h9 => ?_)
    · rw [lm] at h9
      rw [if_pos h9] at T
      refine OK.grd ⟨by omega, by omega⟩ ?_
      have hc : ∀ c, c < 50 ∨ 61 < c → (stI (stI (stI σ (50 + 9) x1.toNatClampNeg (σ.1 (50 + 9) x4.toNatClampNeg)) (50 + 9) x4.toNatClampNeg x1) (50 + 8) x2.toNatClampNeg x1).1 c = σ.1 c := fun c hc => by rw [stI_ne (by omega), stI_ne (by omega), stI_ne (by omega)]
      refine OK.sret (ia_T50 hI hc rfl ⟨(hI.t50).1, g, ?_⟩) (fr_T50 hc rfl rfl)
      show TRf (σ.1 50 1).toInt (fun r => (σ.1 52 r).toInt) (fun r => (σ.1 53 r).toInt) (fun r => (σ.1 57 r).toInt) (fun r => (upd (σ.1 58) x2.toNatClampNeg x1 r).toInt) (fun r => (upd (upd (σ.1 59) x1.toNatClampNeg (σ.1 59 x4.toNatClampNeg)) x4.toNatClampNeg x1 r).toInt)
      rw [vw_upd, vw_upd, vw_upd]
      exact T
    · rw [lm] at h9
      rw [if_neg h9] at T
      have hc : ∀ c, c < 50 ∨ 61 < c → (stI (stI σ (50 + 9) x1.toNatClampNeg (σ.1 (50 + 9) x4.toNatClampNeg)) (50 + 9) x4.toNatClampNeg x1).1 c = σ.1 c := fun c hc => by rw [stI_ne (by omega), stI_ne (by omega)]
      refine OK.sret (ia_T50 hI hc rfl ⟨(hI.t50).1, g, ?_⟩) (fr_T50 hc rfl rfl)
      show TRf (σ.1 50 1).toInt (fun r => (σ.1 52 r).toInt) (fun r => (σ.1 53 r).toInt) (fun r => (σ.1 57 r).toInt) (fun r => (σ.1 58 r).toInt) (fun r => (upd (upd (σ.1 59) x1.toNatClampNeg (σ.1 59 x4.toNatClampNeg)) x4.toNatClampNeg x1 r).toInt)
      rw [vw_upd, vw_upd]
      exact T


theorem k_X7_link_103_62 (x1 x2 x4 : Int32) (σ : ST) (hI : IA σ) (hk : LK 62 σ x1 x2) (hb : x4.toInt = -1 ∧ ((σ.1 69 x2.toNatClampNeg).toInt = -1 ∨ (σ.1 65 x1.toNatClampNeg).toInt ≤ (σ.1 65 (σ.1 69 x2.toNatClampNeg).toNatClampNeg).toInt) ∨ 0 ≤ x4.toInt ∧ x4.toInt < x1.toInt ∧ (σ.1 64 x4.toNatClampNeg).toInt = x2.toInt ∧ (σ.1 65 x4.toNatClampNeg).toInt < (σ.1 65 x1.toNatClampNeg).toInt ∧ ((σ.1 71 x4.toNatClampNeg).toInt = -1 ∨ (σ.1 65 x1.toNatClampNeg).toInt ≤ (σ.1 65 (σ.1 71 x4.toNatClampNeg).toNatClampNeg).toInt)) : OK (f_X7_link_103 62 x1 x2 x4 σ) (RS σ) := by
  obtain ⟨k1, k2, k3, k4, k5, k6⟩ := hk
  have lt_0 := li_0
  have lm : (-1 : Int32).toInt = -1 := by decide
  have g : 0 ≤ (σ.1 62 1).toInt ∧ (σ.1 62 1).toInt ≤ 502 := (hI.t62).2.1
  have gn : ((ln7 62 : Nat) : Int) = 502 := rfl
  have n1 := nN_ k2
  have n2 := nN_ k3
  have T0 := (hI.t62).2.2
  unfold f_X7_link_103
  refine OK.bndR (k_X7_isRow_62 _ _ hI) (fun v hv => ?_)
  dsimp only
  refine OK.ieq (fun h => ?_) (fun h => ?_)
  · have hb1 : (σ.1 69 x2.toNatClampNeg).toInt = -1 ∨ (σ.1 65 x1.toNatClampNeg).toInt ≤ (σ.1 65 (σ.1 69 x2.toNatClampNeg).toNatClampNeg).toInt := by
      rcases hb with hb | hb
      · exact hb.2
      · omega
    have T := T0.first (row := x1.toNatClampNeg) (p := x2.toNatClampNeg) (by omega) (by omega) (by rw [n2]; exact k5) (fun r hr => by rw [n1]; exact k6 r hr) hb1
    rw [n1] at T
    refine OK.grd ⟨by omega, by omega⟩ ?_
    refine OK.grd ⟨by omega, by omega⟩ ?_
    refine OK.lt (fun z hz => ?_)
    subst hz
    unfold f_X7_link_155
    refine OK.grd ⟨by omega, by omega⟩ ?_
    have ez : (stI (stI σ (62 + 9) x1.toNatClampNeg (σ.1 (62 + 7) x2.toNatClampNeg)) (62 + 7) x2.toNatClampNeg x1).1 (62 + 9) x1.toNatClampNeg = σ.1 69 x2.toNatClampNeg := by
      show upd (σ.1 71) x1.toNatClampNeg (σ.1 69 x2.toNatClampNeg) x1.toNatClampNeg = _
      exact upd_at
    rw [ez]
    refine OK.ieq (fun h9 => ?_) (fun h9 => ?_)
    · rw [lm] at h9
      rw [if_pos h9] at T
      refine OK.grd ⟨by omega, by omega⟩ ?_
      have hc : ∀ c, c < 62 ∨ 73 < c → (stI (stI (stI σ (62 + 9) x1.toNatClampNeg (σ.1 (62 + 7) x2.toNatClampNeg)) (62 + 7) x2.toNatClampNeg x1) (62 + 8) x2.toNatClampNeg x1).1 c = σ.1 c := fun c hc => by rw [stI_ne (by omega), stI_ne (by omega), stI_ne (by omega)]
      refine OK.sret (ia_T62 hI hc rfl ⟨(hI.t62).1, g, ?_⟩) (fr_T62 hc rfl rfl)
      show TRf (σ.1 62 1).toInt (fun r => (σ.1 64 r).toInt) (fun r => (σ.1 65 r).toInt) (fun r => (upd (σ.1 69) x2.toNatClampNeg x1 r).toInt) (fun r => (upd (σ.1 70) x2.toNatClampNeg x1 r).toInt) (fun r => (upd (σ.1 71) x1.toNatClampNeg (σ.1 69 x2.toNatClampNeg) r).toInt)
      rw [vw_upd, vw_upd, vw_upd]
      exact T
    · rw [lm] at h9
      rw [if_neg h9] at T
      have hc : ∀ c, c < 62 ∨ 73 < c → (stI (stI σ (62 + 9) x1.toNatClampNeg (σ.1 (62 + 7) x2.toNatClampNeg)) (62 + 7) x2.toNatClampNeg x1).1 c = σ.1 c := fun c hc => by rw [stI_ne (by omega), stI_ne (by omega)]
      refine OK.sret (ia_T62 hI hc rfl ⟨(hI.t62).1, g, ?_⟩) (fr_T62 hc rfl rfl)
      show TRf (σ.1 62 1).toInt (fun r => (σ.1 64 r).toInt) (fun r => (σ.1 65 r).toInt) (fun r => (upd (σ.1 69) x2.toNatClampNeg x1 r).toInt) (fun r => (σ.1 70 r).toInt) (fun r => (upd (σ.1 71) x1.toNatClampNeg (σ.1 69 x2.toNatClampNeg) r).toInt)
      rw [vw_upd, vw_upd]
      exact T
  · obtain ⟨b1, b2, b3, b4, b5⟩ : 0 ≤ x4.toInt ∧ x4.toInt < x1.toInt ∧ (σ.1 64 x4.toNatClampNeg).toInt = x2.toInt ∧ (σ.1 65 x4.toNatClampNeg).toInt < (σ.1 65 x1.toNatClampNeg).toInt ∧ ((σ.1 71 x4.toNatClampNeg).toInt = -1 ∨ (σ.1 65 x1.toNatClampNeg).toInt ≤ (σ.1 65 (σ.1 71 x4.toNatClampNeg).toNatClampNeg).toInt) := by
      rcases hb with hb | hb
      · omega
      · exact hb
    have n4 := nN_ b1
    have T := T0.after (row := x1.toNatClampNeg) (p := x2.toNatClampNeg) (q := x4.toNatClampNeg) (by omega) (by rw [n2]; exact k5) (fun r hr => by rw [n1]; exact k6 r hr) (by omega) (by rw [n2]; exact b3) b4 b5
    rw [n1] at T
    refine OK.grd ⟨by omega, by omega⟩ ?_
    refine OK.grd ⟨by omega, by omega⟩ ?_
    refine OK.lt (fun z hz => ?_)
    subst hz
    unfold f_X7_link_155
    refine OK.grd ⟨by omega, by omega⟩ ?_
    have ez : (stI (stI σ (62 + 9) x1.toNatClampNeg (σ.1 (62 + 9) x4.toNatClampNeg)) (62 + 9) x4.toNatClampNeg x1).1 (62 + 9) x1.toNatClampNeg = σ.1 71 x4.toNatClampNeg := by
      show upd (upd (σ.1 71) x1.toNatClampNeg (σ.1 71 x4.toNatClampNeg)) x4.toNatClampNeg x1 x1.toNatClampNeg = _
      rw [upd_no (by omega), upd_at]
    rw [ez]
    refine OK.ieq (fun h9 => ?_) (fun h9 => ?_)
    · rw [lm] at h9
      rw [if_pos h9] at T
      refine OK.grd ⟨by omega, by omega⟩ ?_
      have hc : ∀ c, c < 62 ∨ 73 < c → (stI (stI (stI σ (62 + 9) x1.toNatClampNeg (σ.1 (62 + 9) x4.toNatClampNeg)) (62 + 9) x4.toNatClampNeg x1) (62 + 8) x2.toNatClampNeg x1).1 c = σ.1 c := fun c hc => by rw [stI_ne (by omega), stI_ne (by omega), stI_ne (by omega)]
      refine OK.sret (ia_T62 hI hc rfl ⟨(hI.t62).1, g, ?_⟩) (fr_T62 hc rfl rfl)
      show TRf (σ.1 62 1).toInt (fun r => (σ.1 64 r).toInt) (fun r => (σ.1 65 r).toInt) (fun r => (σ.1 69 r).toInt) (fun r => (upd (σ.1 70) x2.toNatClampNeg x1 r).toInt) (fun r => (upd (upd (σ.1 71) x1.toNatClampNeg (σ.1 71 x4.toNatClampNeg)) x4.toNatClampNeg x1 r).toInt)
      rw [vw_upd, vw_upd, vw_upd]
      exact T
    · rw [lm] at h9
      rw [if_neg h9] at T
      have hc : ∀ c, c < 62 ∨ 73 < c → (stI (stI σ (62 + 9) x1.toNatClampNeg (σ.1 (62 + 9) x4.toNatClampNeg)) (62 + 9) x4.toNatClampNeg x1).1 c = σ.1 c := fun c hc => by rw [stI_ne (by omega), stI_ne (by omega)]
      refine OK.sret (ia_T62 hI hc rfl ⟨(hI.t62).1, g, ?_⟩) (fr_T62 hc rfl rfl)
      show TRf (σ.1 62 1).toInt (fun r => (σ.1 64 r).toInt) (fun r => (σ.1 65 r).toInt) (fun r => (σ.1 69 r).toInt) (fun r => (σ.1 70 r).toInt) (fun r => (upd (upd (σ.1 71) x1.toNatClampNeg (σ.1 71 x4.toNatClampNeg)) x4.toNatClampNeg x1 r).toInt)
      rw [vw_upd, vw_upd]
      exact T


theorem k_X7_link_103_74 (x1 x2 x4 : Int32) (σ : ST) (hI : IA σ) (hk : LK 74 σ x1 x2) (hb : x4.toInt = -1 ∧ ((σ.1 81 x2.toNatClampNeg).toInt = -1 ∨ (σ.1 77 x1.toNatClampNeg).toInt ≤ (σ.1 77 (σ.1 81 x2.toNatClampNeg).toNatClampNeg).toInt) ∨ 0 ≤ x4.toInt ∧ x4.toInt < x1.toInt ∧ (σ.1 76 x4.toNatClampNeg).toInt = x2.toInt ∧ (σ.1 77 x4.toNatClampNeg).toInt < (σ.1 77 x1.toNatClampNeg).toInt ∧ ((σ.1 83 x4.toNatClampNeg).toInt = -1 ∨ (σ.1 77 x1.toNatClampNeg).toInt ≤ (σ.1 77 (σ.1 83 x4.toNatClampNeg).toNatClampNeg).toInt)) : OK (f_X7_link_103 74 x1 x2 x4 σ) (RS σ) := by
  obtain ⟨k1, k2, k3, k4, k5, k6⟩ := hk
  have lt_0 := li_0
  have lm : (-1 : Int32).toInt = -1 := by decide
  have g : 0 ≤ (σ.1 74 1).toInt ∧ (σ.1 74 1).toInt ≤ 400 := (hI.t74).2.1
  have gn : ((ln7 74 : Nat) : Int) = 400 := rfl
  have n1 := nN_ k2
  have n2 := nN_ k3
  have T0 := (hI.t74).2.2
  unfold f_X7_link_103
  refine OK.bndR (k_X7_isRow_74 _ _ hI) (fun v hv => ?_)
  dsimp only
  refine OK.ieq (fun h => ?_) (fun h => ?_)
  · have hb1 : (σ.1 81 x2.toNatClampNeg).toInt = -1 ∨ (σ.1 77 x1.toNatClampNeg).toInt ≤ (σ.1 77 (σ.1 81 x2.toNatClampNeg).toNatClampNeg).toInt := by
      rcases hb with hb | hb
      · exact hb.2
      · omega
    have T := T0.first (row := x1.toNatClampNeg) (p := x2.toNatClampNeg) (by omega) (by omega) (by rw [n2]; exact k5) (fun r hr => by rw [n1]; exact k6 r hr) hb1
    rw [n1] at T
    refine OK.grd ⟨by omega, by omega⟩ ?_
    refine OK.grd ⟨by omega, by omega⟩ ?_
    refine OK.lt (fun z hz => ?_)
    subst hz
    unfold f_X7_link_155
    refine OK.grd ⟨by omega, by omega⟩ ?_
    have ez : (stI (stI σ (74 + 9) x1.toNatClampNeg (σ.1 (74 + 7) x2.toNatClampNeg)) (74 + 7) x2.toNatClampNeg x1).1 (74 + 9) x1.toNatClampNeg = σ.1 81 x2.toNatClampNeg := by
      show upd (σ.1 83) x1.toNatClampNeg (σ.1 81 x2.toNatClampNeg) x1.toNatClampNeg = _
      exact upd_at
    rw [ez]
    refine OK.ieq (fun h9 => ?_) (fun h9 => ?_)
    · rw [lm] at h9
      rw [if_pos h9] at T
      refine OK.grd ⟨by omega, by omega⟩ ?_
      have hc : ∀ c, c < 74 ∨ 85 < c → (stI (stI (stI σ (74 + 9) x1.toNatClampNeg (σ.1 (74 + 7) x2.toNatClampNeg)) (74 + 7) x2.toNatClampNeg x1) (74 + 8) x2.toNatClampNeg x1).1 c = σ.1 c := fun c hc => by rw [stI_ne (by omega), stI_ne (by omega), stI_ne (by omega)]
      refine OK.sret (ia_T74 hI hc rfl ⟨(hI.t74).1, g, ?_⟩) (fr_T74 hc rfl rfl)
      show TRf (σ.1 74 1).toInt (fun r => (σ.1 76 r).toInt) (fun r => (σ.1 77 r).toInt) (fun r => (upd (σ.1 81) x2.toNatClampNeg x1 r).toInt) (fun r => (upd (σ.1 82) x2.toNatClampNeg x1 r).toInt) (fun r => (upd (σ.1 83) x1.toNatClampNeg (σ.1 81 x2.toNatClampNeg) r).toInt)
      rw [vw_upd, vw_upd, vw_upd]
      exact T
    · rw [lm] at h9
      rw [if_neg h9] at T
      have hc : ∀ c, c < 74 ∨ 85 < c → (stI (stI σ (74 + 9) x1.toNatClampNeg (σ.1 (74 + 7) x2.toNatClampNeg)) (74 + 7) x2.toNatClampNeg x1).1 c = σ.1 c := fun c hc => by rw [stI_ne (by omega), stI_ne (by omega)]
      refine OK.sret (ia_T74 hI hc rfl ⟨(hI.t74).1, g, ?_⟩) (fr_T74 hc rfl rfl)
      show TRf (σ.1 74 1).toInt (fun r => (σ.1 76 r).toInt) (fun r => (σ.1 77 r).toInt) (fun r => (upd (σ.1 81) x2.toNatClampNeg x1 r).toInt) (fun r => (σ.1 82 r).toInt) (fun r => (upd (σ.1 83) x1.toNatClampNeg (σ.1 81 x2.toNatClampNeg) r).toInt)
      rw [vw_upd, vw_upd]
      exact T
  · obtain ⟨b1, b2, b3, b4, b5⟩ : 0 ≤ x4.toInt ∧ x4.toInt < x1.toInt ∧ (σ.1 76 x4.toNatClampNeg).toInt = x2.toInt ∧ (σ.1 77 x4.toNatClampNeg).toInt < (σ.1 77 x1.toNatClampNeg).toInt ∧ ((σ.1 83 x4.toNatClampNeg).toInt = -1 ∨ (σ.1 77 x1.toNatClampNeg).toInt ≤ (σ.1 77 (σ.1 83 x4.toNatClampNeg).toNatClampNeg).toInt) := by
      rcases hb with hb | hb
      · omega
      · exact hb
    have n4 := nN_ b1
    have T := T0.after (row := x1.toNatClampNeg) (p := x2.toNatClampNeg) (q := x4.toNatClampNeg) (by omega) (by rw [n2]; exact k5) (fun r hr => by rw [n1]; exact k6 r hr) (by omega) (by rw [n2]; exact b3) b4 b5
    rw [n1] at T
    refine OK.grd ⟨by omega, by omega⟩ ?_
    refine OK.grd ⟨by omega, by omega⟩ ?_
    refine OK.lt (fun z hz => ?_)
    subst hz
    unfold f_X7_link_155
    refine OK.grd ⟨by omega, by omega⟩ ?_
    have ez : (stI (stI σ (74 + 9) x1.toNatClampNeg (σ.1 (74 + 9) x4.toNatClampNeg)) (74 + 9) x4.toNatClampNeg x1).1 (74 + 9) x1.toNatClampNeg = σ.1 83 x4.toNatClampNeg := by
      show upd (upd (σ.1 83) x1.toNatClampNeg (σ.1 83 x4.toNatClampNeg)) x4.toNatClampNeg x1 x1.toNatClampNeg = _
      rw [upd_no (by omega), upd_at]
    rw [ez]
    refine OK.ieq (fun h9 => ?_) (fun h9 => ?_)
    · rw [lm] at h9
      rw [if_pos h9] at T
      refine OK.grd ⟨by omega, by omega⟩ ?_
      have hc : ∀ c, c < 74 ∨ 85 < c → (stI (stI (stI σ (74 + 9) x1.toNatClampNeg (σ.1 (74 + 9) x4.toNatClampNeg)) (74 + 9) x4.toNatClampNeg x1) (74 + 8) x2.toNatClampNeg x1).1 c = σ.1 c := fun c hc => by rw [stI_ne (by omega), stI_ne (by omega), stI_ne (by omega)]
      refine OK.sret (ia_T74 hI hc rfl ⟨(hI.t74).1, g, ?_⟩) (fr_T74 hc rfl rfl)
      show TRf (σ.1 74 1).toInt (fun r => (σ.1 76 r).toInt) (fun r => (σ.1 77 r).toInt) (fun r => (σ.1 81 r).toInt) (fun r => (upd (σ.1 82) x2.toNatClampNeg x1 r).toInt) (fun r => (upd (upd (σ.1 83) x1.toNatClampNeg (σ.1 83 x4.toNatClampNeg)) x4.toNatClampNeg x1 r).toInt)
      rw [vw_upd, vw_upd, vw_upd]
      exact T
    · rw [lm] at h9
      rw [if_neg h9] at T
      have hc : ∀ c, c < 74 ∨ 85 < c → (stI (stI σ (74 + 9) x1.toNatClampNeg (σ.1 (74 + 9) x4.toNatClampNeg)) (74 + 9) x4.toNatClampNeg x1).1 c = σ.1 c := fun c hc => by rw [stI_ne (by omega), stI_ne (by omega)]
      refine OK.sret (ia_T74 hI hc rfl ⟨(hI.t74).1, g, ?_⟩) (fr_T74 hc rfl rfl)
      show TRf (σ.1 74 1).toInt (fun r => (σ.1 76 r).toInt) (fun r => (σ.1 77 r).toInt) (fun r => (σ.1 81 r).toInt) (fun r => (σ.1 82 r).toInt) (fun r => (upd (upd (σ.1 83) x1.toNatClampNeg (σ.1 83 x4.toNatClampNeg)) x4.toNatClampNeg x1 r).toInt)
      rw [vw_upd, vw_upd]
      exact T


theorem k_X7_link_50_50 : ∀ (n : Nat) (x1 x2 x4 x5 x6 : Int32) (σ : ST), IA σ → LK 50 σ x1 x2 → (0 ≤ x6.toInt ∧ x6.toInt ≤ 600 ∧ (600 : Int) - x6.toInt < n) →
    (x5.toInt = -1 ∨ 0 ≤ x5.toInt ∧ x5.toInt < x1.toInt ∧ (σ.1 52 x5.toNatClampNeg).toInt = x2.toInt ∧ x6.toInt ≤ (cntZ (fun r => (σ.1 53 r).toInt < (σ.1 53 x5.toNatClampNeg).toInt ∨ (σ.1 53 r).toInt = (σ.1 53 x5.toNatClampNeg).toInt ∧ x5.toInt < (r : Int)) x1.toNatClampNeg : Nat)) →
    (x4.toInt = -1 ∧ (σ.1 57 x2.toNatClampNeg).toInt = x5.toInt ∨ 0 ≤ x4.toInt ∧ x4.toInt < x1.toInt ∧ (σ.1 52 x4.toNatClampNeg).toInt = x2.toInt ∧ (σ.1 53 x4.toNatClampNeg).toInt < (σ.1 53 x1.toNatClampNeg).toInt ∧ (σ.1 59 x4.toNatClampNeg).toInt = x5.toInt) → OK (f_X7_link_50 50 n x1 x2 x4 x5 x6 σ) (RS σ) := by
  intro n
  induction n with
  | zero => intro x1 x2 x4 x5 x6 σ hI hk hv; omega
  | succ n ih =>
    intro x1 x2 x4 x5 x6 σ hI hk hv h5 h4
    have hk0 := hk
    obtain ⟨k1, k2, k3, k4, k5, k6⟩ := hk
    have lt_1 := li_1
    have lt_0 := li_0
    have g : 0 ≤ (σ.1 50 1).toInt ∧ (σ.1 50 1).toInt ≤ 400 := (hI.t50).2.1
    have gn : ((ln7 50 : Nat) : Int) = 400 := rfl
    have n1 := nN_ k2
    -- every end
    have fin : (x5.toInt = -1 ∨ (σ.1 53 x1.toNatClampNeg).toInt ≤ (σ.1 53 x5.toNatClampNeg).toInt) → OK (f_X7_link_103 50 x1 x2 x4 σ) (RS σ) := by
      intro he
      refine k_X7_link_103_50 _ _ _ _ hI hk0 ?_
      rcases h4 with ⟨a1, a2⟩ | ⟨a1, a2, a3, a4, a5⟩
      · have a2 : σ.1 57 x2.toNatClampNeg = x5 := Int32.toInt_inj.mp a2
        rw [a2]; exact .inl ⟨a1, he⟩
      · have a5 : σ.1 59 x4.toNatClampNeg = x5 := Int32.toInt_inj.mp a5
        rw [a5]; exact .inr ⟨a1, a2, a3, a4, he⟩
    rw [f_X7_link_50]
    refine OK.ile (fun h => fin ?_) (fun h => ?_)
    · rcases h5 with h5 | ⟨_, _, _, h5⟩
      · exact .inl h5
      · have := cntZ_le (p := fun r => (σ.1 53 r).toInt < (σ.1 53 x5.toNatClampNeg).toInt ∨ (σ.1 53 r).toInt = (σ.1 53 x5.toNatClampNeg).toInt ∧ x5.toInt < (r : Int)) x1.toNatClampNeg
        omega
    refine OK.bndR (k_X7_isRow_50 _ _ hI) (fun v hv5 => ?_)
    dsimp only
    refine OK.ieq (fun h0 => fin ?_) (fun h0 => ?_)
    · rcases h5 with h5 | ⟨a1, a2, _, _⟩
      · exact .inl h5
      · omega
    obtain ⟨c1, c2, c3, c4⟩ : 0 ≤ x5.toInt ∧ x5.toInt < x1.toInt ∧ (σ.1 52 x5.toNatClampNeg).toInt = x2.toInt ∧ x6.toInt ≤ (cntZ (fun r => (σ.1 53 r).toInt < (σ.1 53 x5.toNatClampNeg).toInt ∨ (σ.1 53 r).toInt = (σ.1 53 x5.toNatClampNeg).toInt ∧ x5.toInt < (r : Int)) x1.toNatClampNeg : Nat) := by
      rcases h5 with h5 | h5
      · omega
      · exact h5
    have n5 := nN_ c1
    refine OK.grd ⟨by omega, by omega⟩ ?_
    refine OK.grd ⟨by omega, by omega⟩ ?_
    refine OK.ile (fun hl => fin (.inr hl)) (fun hl => ?_)
    obtain ⟨ak, a, al, ar⟩ := i_add x6 1
    have hcb := cntZ_le (p := fun r => (σ.1 53 r).toInt < (σ.1 53 x5.toNatClampNeg).toInt ∨ (σ.1 53 r).toInt = (σ.1 53 x5.toNatClampNeg).toInt ∧ x5.toInt < (r : Int)) x1.toNatClampNeg
    try (refine k0el (k := ak) ?_ (fun e0 => ?_); (focus omega); subst e0)
    have hl : (σ.1 53 x5.toNatClampNeg).toInt < (σ.1 53 x1.toNatClampNeg).toInt := hl
    refine ih x1 x2 x5 (σ.1 59 x5.toNatClampNeg) (x6 + 1) σ hI hk0 (by omega) ?_ (.inr ⟨c1, c2, c3, hl, rfl⟩)
    rcases ((hI.t50).2.2 x5.toNatClampNeg (by omega)).2.2 with hN | ⟨d1, d2, d3, d4⟩
    · exact .inl hN
    · have d1 : 0 ≤ (σ.1 59 x5.toNatClampNeg).toInt := d1
      have f9 : (σ.1 59 x5.toNatClampNeg).toInt < x1.toInt := (k6 x5.toNatClampNeg (by omega)).2.2
      have d3 : (σ.1 52 (σ.1 59 x5.toNatClampNeg).toNatClampNeg).toInt = (σ.1 52 x5.toNatClampNeg).toInt := d3
      have d4 : (σ.1 53 x5.toNatClampNeg).toInt < (σ.1 53 (σ.1 59 x5.toNatClampNeg).toNatClampNeg).toInt ∨ (σ.1 53 x5.toNatClampNeg).toInt = (σ.1 53 (σ.1 59 x5.toNatClampNeg).toNatClampNeg).toInt ∧ (σ.1 59 x5.toNatClampNeg).toInt < ((x5.toNatClampNeg : Nat) : Int) := d4
      have hlt := cntZ_lt (p := fun r => (σ.1 53 r).toInt < (σ.1 53 x5.toNatClampNeg).toInt ∨ (σ.1 53 r).toInt = (σ.1 53 x5.toNatClampNeg).toInt ∧ x5.toInt < (r : Int)) (q := fun r => (σ.1 53 r).toInt < (σ.1 53 (σ.1 59 x5.toNatClampNeg).toNatClampNeg).toInt ∨ (σ.1 53 r).toInt = (σ.1 53 (σ.1 59 x5.toNatClampNeg).toNatClampNeg).toInt ∧ (σ.1 59 x5.toNatClampNeg).toInt < (r : Int)) (fun r hr => by omega) (c := x5.toNatClampNeg) (by omega) (by omega) x1.toNatClampNeg (by omega)
      refine .inr ⟨d1, f9, by rw [d3]; exact c3, ?_⟩
      omega


theorem k_X7_link_50_62 : ∀ (n : Nat) (x1 x2 x4 x5 x6 : Int32) (σ : ST), IA σ → LK 62 σ x1 x2 → (0 ≤ x6.toInt ∧ x6.toInt ≤ 600 ∧ (600 : Int) - x6.toInt < n) →
    (x5.toInt = -1 ∨ 0 ≤ x5.toInt ∧ x5.toInt < x1.toInt ∧ (σ.1 64 x5.toNatClampNeg).toInt = x2.toInt ∧ x6.toInt ≤ (cntZ (fun r => (σ.1 65 r).toInt < (σ.1 65 x5.toNatClampNeg).toInt ∨ (σ.1 65 r).toInt = (σ.1 65 x5.toNatClampNeg).toInt ∧ x5.toInt < (r : Int)) x1.toNatClampNeg : Nat)) →
    (x4.toInt = -1 ∧ (σ.1 69 x2.toNatClampNeg).toInt = x5.toInt ∨ 0 ≤ x4.toInt ∧ x4.toInt < x1.toInt ∧ (σ.1 64 x4.toNatClampNeg).toInt = x2.toInt ∧ (σ.1 65 x4.toNatClampNeg).toInt < (σ.1 65 x1.toNatClampNeg).toInt ∧ (σ.1 71 x4.toNatClampNeg).toInt = x5.toInt) → OK (f_X7_link_50 62 n x1 x2 x4 x5 x6 σ) (RS σ) := by
  intro n
  induction n with
  | zero => intro x1 x2 x4 x5 x6 σ hI hk hv; omega
  | succ n ih =>
    intro x1 x2 x4 x5 x6 σ hI hk hv h5 h4
    have hk0 := hk
    obtain ⟨k1, k2, k3, k4, k5, k6⟩ := hk
    have lt_1 := li_1
    have lt_0 := li_0
    have g : 0 ≤ (σ.1 62 1).toInt ∧ (σ.1 62 1).toInt ≤ 502 := (hI.t62).2.1
    have gn : ((ln7 62 : Nat) : Int) = 502 := rfl
    have n1 := nN_ k2
    -- every end
    have fin : (x5.toInt = -1 ∨ (σ.1 65 x1.toNatClampNeg).toInt ≤ (σ.1 65 x5.toNatClampNeg).toInt) → OK (f_X7_link_103 62 x1 x2 x4 σ) (RS σ) := by
      intro he
      refine k_X7_link_103_62 _ _ _ _ hI hk0 ?_
      rcases h4 with ⟨a1, a2⟩ | ⟨a1, a2, a3, a4, a5⟩
      · have a2 : σ.1 69 x2.toNatClampNeg = x5 := Int32.toInt_inj.mp a2
        rw [a2]; exact .inl ⟨a1, he⟩
      · have a5 : σ.1 71 x4.toNatClampNeg = x5 := Int32.toInt_inj.mp a5
        rw [a5]; exact .inr ⟨a1, a2, a3, a4, he⟩
    rw [f_X7_link_50]
    refine OK.ile (fun h => fin ?_) (fun h => ?_)
    · rcases h5 with h5 | ⟨_, _, _, h5⟩
      · exact .inl h5
      · have := cntZ_le (p := fun r => (σ.1 65 r).toInt < (σ.1 65 x5.toNatClampNeg).toInt ∨ (σ.1 65 r).toInt = (σ.1 65 x5.toNatClampNeg).toInt ∧ x5.toInt < (r : Int)) x1.toNatClampNeg
        omega
    refine OK.bndR (k_X7_isRow_62 _ _ hI) (fun v hv5 => ?_)
    dsimp only
    refine OK.ieq (fun h0 => fin ?_) (fun h0 => ?_)
    · rcases h5 with h5 | ⟨a1, a2, _, _⟩
      · exact .inl h5
      · omega
    obtain ⟨c1, c2, c3, c4⟩ : 0 ≤ x5.toInt ∧ x5.toInt < x1.toInt ∧ (σ.1 64 x5.toNatClampNeg).toInt = x2.toInt ∧ x6.toInt ≤ (cntZ (fun r => (σ.1 65 r).toInt < (σ.1 65 x5.toNatClampNeg).toInt ∨ (σ.1 65 r).toInt = (σ.1 65 x5.toNatClampNeg).toInt ∧ x5.toInt < (r : Int)) x1.toNatClampNeg : Nat) := by
      rcases h5 with h5 | h5
      · omega
      · exact h5
    have n5 := nN_ c1
    refine OK.grd ⟨by omega, by omega⟩ ?_
    refine OK.grd ⟨by omega, by omega⟩ ?_
    refine OK.ile (fun hl => fin (.inr hl)) (fun hl => ?_)
    obtain ⟨ak, a, al, ar⟩ := i_add x6 1
    have hcb := cntZ_le (p := fun r => (σ.1 65 r).toInt < (σ.1 65 x5.toNatClampNeg).toInt ∨ (σ.1 65 r).toInt = (σ.1 65 x5.toNatClampNeg).toInt ∧ x5.toInt < (r : Int)) x1.toNatClampNeg
    try (refine k0el (k := ak) ?_ (fun e0 => ?_); (focus omega); subst e0)
    have hl : (σ.1 65 x5.toNatClampNeg).toInt < (σ.1 65 x1.toNatClampNeg).toInt := hl
    refine ih x1 x2 x5 (σ.1 71 x5.toNatClampNeg) (x6 + 1) σ hI hk0 (by omega) ?_ (.inr ⟨c1, c2, c3, hl, rfl⟩)
    rcases ((hI.t62).2.2 x5.toNatClampNeg (by omega)).2.2 with hN | ⟨d1, d2, d3, d4⟩
    · exact .inl hN
    · have d1 : 0 ≤ (σ.1 71 x5.toNatClampNeg).toInt := d1
      have f9 : (σ.1 71 x5.toNatClampNeg).toInt < x1.toInt := (k6 x5.toNatClampNeg (by omega)).2.2
      have d3 : (σ.1 64 (σ.1 71 x5.toNatClampNeg).toNatClampNeg).toInt = (σ.1 64 x5.toNatClampNeg).toInt := d3
      have d4 : (σ.1 65 x5.toNatClampNeg).toInt < (σ.1 65 (σ.1 71 x5.toNatClampNeg).toNatClampNeg).toInt ∨ (σ.1 65 x5.toNatClampNeg).toInt = (σ.1 65 (σ.1 71 x5.toNatClampNeg).toNatClampNeg).toInt ∧ (σ.1 71 x5.toNatClampNeg).toInt < ((x5.toNatClampNeg : Nat) : Int) := d4
      have hlt := cntZ_lt (p := fun r => (σ.1 65 r).toInt < (σ.1 65 x5.toNatClampNeg).toInt ∨ (σ.1 65 r).toInt = (σ.1 65 x5.toNatClampNeg).toInt ∧ x5.toInt < (r : Int)) (q := fun r => (σ.1 65 r).toInt < (σ.1 65 (σ.1 71 x5.toNatClampNeg).toNatClampNeg).toInt ∨ (σ.1 65 r).toInt = (σ.1 65 (σ.1 71 x5.toNatClampNeg).toNatClampNeg).toInt ∧ (σ.1 71 x5.toNatClampNeg).toInt < (r : Int)) (fun r hr => by omega) (c := x5.toNatClampNeg) (by omega) (by omega) x1.toNatClampNeg (by omega)
      refine .inr ⟨d1, f9, by rw [d3]; exact c3, ?_⟩
      omega


theorem k_X7_link_50_74 : ∀ (n : Nat) (x1 x2 x4 x5 x6 : Int32) (σ : ST), IA σ → LK 74 σ x1 x2 → (0 ≤ x6.toInt ∧ x6.toInt ≤ 600 ∧ (600 : Int) - x6.toInt < n) →
    (x5.toInt = -1 ∨ 0 ≤ x5.toInt ∧ x5.toInt < x1.toInt ∧ (σ.1 76 x5.toNatClampNeg).toInt = x2.toInt ∧ x6.toInt ≤ (cntZ (fun r => (σ.1 77 r).toInt < (σ.1 77 x5.toNatClampNeg).toInt ∨ (σ.1 77 r).toInt = (σ.1 77 x5.toNatClampNeg).toInt ∧ x5.toInt < (r : Int)) x1.toNatClampNeg : Nat)) →
    (x4.toInt = -1 ∧ (σ.1 81 x2.toNatClampNeg).toInt = x5.toInt ∨ 0 ≤ x4.toInt ∧ x4.toInt < x1.toInt ∧ (σ.1 76 x4.toNatClampNeg).toInt = x2.toInt ∧ (σ.1 77 x4.toNatClampNeg).toInt < (σ.1 77 x1.toNatClampNeg).toInt ∧ (σ.1 83 x4.toNatClampNeg).toInt = x5.toInt) → OK (f_X7_link_50 74 n x1 x2 x4 x5 x6 σ) (RS σ) := by
  intro n
  induction n with
  | zero => intro x1 x2 x4 x5 x6 σ hI hk hv; omega
  | succ n ih =>
    intro x1 x2 x4 x5 x6 σ hI hk hv h5 h4
    have hk0 := hk
    obtain ⟨k1, k2, k3, k4, k5, k6⟩ := hk
    have lt_1 := li_1
    have lt_0 := li_0
    have g : 0 ≤ (σ.1 74 1).toInt ∧ (σ.1 74 1).toInt ≤ 400 := (hI.t74).2.1
    have gn : ((ln7 74 : Nat) : Int) = 400 := rfl
    have n1 := nN_ k2
    -- every end
    have fin : (x5.toInt = -1 ∨ (σ.1 77 x1.toNatClampNeg).toInt ≤ (σ.1 77 x5.toNatClampNeg).toInt) → OK (f_X7_link_103 74 x1 x2 x4 σ) (RS σ) := by
      intro he
      refine k_X7_link_103_74 _ _ _ _ hI hk0 ?_
      rcases h4 with ⟨a1, a2⟩ | ⟨a1, a2, a3, a4, a5⟩
      · have a2 : σ.1 81 x2.toNatClampNeg = x5 := Int32.toInt_inj.mp a2
        rw [a2]; exact .inl ⟨a1, he⟩
      · have a5 : σ.1 83 x4.toNatClampNeg = x5 := Int32.toInt_inj.mp a5
        rw [a5]; exact .inr ⟨a1, a2, a3, a4, he⟩
    rw [f_X7_link_50]
    refine OK.ile (fun h => fin ?_) (fun h => ?_)
    · rcases h5 with h5 | ⟨_, _, _, h5⟩
      · exact .inl h5
      · have := cntZ_le (p := fun r => (σ.1 77 r).toInt < (σ.1 77 x5.toNatClampNeg).toInt ∨ (σ.1 77 r).toInt = (σ.1 77 x5.toNatClampNeg).toInt ∧ x5.toInt < (r : Int)) x1.toNatClampNeg
        omega
    refine OK.bndR (k_X7_isRow_74 _ _ hI) (fun v hv5 => ?_)
    dsimp only
    refine OK.ieq (fun h0 => fin ?_) (fun h0 => ?_)
    · rcases h5 with h5 | ⟨a1, a2, _, _⟩
      · exact .inl h5
      · omega
    obtain ⟨c1, c2, c3, c4⟩ : 0 ≤ x5.toInt ∧ x5.toInt < x1.toInt ∧ (σ.1 76 x5.toNatClampNeg).toInt = x2.toInt ∧ x6.toInt ≤ (cntZ (fun r => (σ.1 77 r).toInt < (σ.1 77 x5.toNatClampNeg).toInt ∨ (σ.1 77 r).toInt = (σ.1 77 x5.toNatClampNeg).toInt ∧ x5.toInt < (r : Int)) x1.toNatClampNeg : Nat) := by
      rcases h5 with h5 | h5
      · omega
      · exact h5
    have n5 := nN_ c1
    refine OK.grd ⟨by omega, by omega⟩ ?_
    refine OK.grd ⟨by omega, by omega⟩ ?_
    refine OK.ile (fun hl => fin (.inr hl)) (fun hl => ?_)
    obtain ⟨ak, a, al, ar⟩ := i_add x6 1
    have hcb := cntZ_le (p := fun r => (σ.1 77 r).toInt < (σ.1 77 x5.toNatClampNeg).toInt ∨ (σ.1 77 r).toInt = (σ.1 77 x5.toNatClampNeg).toInt ∧ x5.toInt < (r : Int)) x1.toNatClampNeg
    try (refine k0el (k := ak) ?_ (fun e0 => ?_); (focus omega); subst e0)
    have hl : (σ.1 77 x5.toNatClampNeg).toInt < (σ.1 77 x1.toNatClampNeg).toInt := hl
    refine ih x1 x2 x5 (σ.1 83 x5.toNatClampNeg) (x6 + 1) σ hI hk0 (by omega) ?_ (.inr ⟨c1, c2, c3, hl, rfl⟩)
    rcases ((hI.t74).2.2 x5.toNatClampNeg (by omega)).2.2 with hN | ⟨d1, d2, d3, d4⟩
    · exact .inl hN
    · have d1 : 0 ≤ (σ.1 83 x5.toNatClampNeg).toInt := d1
      have f9 : (σ.1 83 x5.toNatClampNeg).toInt < x1.toInt := (k6 x5.toNatClampNeg (by omega)).2.2
      have d3 : (σ.1 76 (σ.1 83 x5.toNatClampNeg).toNatClampNeg).toInt = (σ.1 76 x5.toNatClampNeg).toInt := d3
      have d4 : (σ.1 77 x5.toNatClampNeg).toInt < (σ.1 77 (σ.1 83 x5.toNatClampNeg).toNatClampNeg).toInt ∨ (σ.1 77 x5.toNatClampNeg).toInt = (σ.1 77 (σ.1 83 x5.toNatClampNeg).toNatClampNeg).toInt ∧ (σ.1 83 x5.toNatClampNeg).toInt < ((x5.toNatClampNeg : Nat) : Int) := d4
      have hlt := cntZ_lt (p := fun r => (σ.1 77 r).toInt < (σ.1 77 x5.toNatClampNeg).toInt ∨ (σ.1 77 r).toInt = (σ.1 77 x5.toNatClampNeg).toInt ∧ x5.toInt < (r : Int)) (q := fun r => (σ.1 77 r).toInt < (σ.1 77 (σ.1 83 x5.toNatClampNeg).toNatClampNeg).toInt ∨ (σ.1 77 r).toInt = (σ.1 77 (σ.1 83 x5.toNatClampNeg).toNatClampNeg).toInt ∧ (σ.1 83 x5.toNatClampNeg).toInt < (r : Int)) (fun r hr => by omega) (c := x5.toNatClampNeg) (by omega) (by omega) x1.toNatClampNeg (by omega)
      refine .inr ⟨d1, f9, by rw [d3]; exact c3, ?_⟩
      omega


theorem k_X7_link_50 (p0 p1 : Int32) (σ : ST) (hI : IA σ) (hk : LK 50 σ p0 p1) : OK (f_X7_link 50 p0 p1 σ) (RS σ) := by
  have hk0 := hk
  obtain ⟨k1, k2, k3, k4, k5, k6⟩ := hk
  have lt_0 := li_0
  have lm : (-1 : Int32).toInt = -1 := by decide
  have lFU : ((FU : Nat) : Int) = 100000 := rfl
  have g : 0 ≤ (σ.1 50 1).toInt ∧ (σ.1 50 1).toInt ≤ 400 := (hI.t50).2.1
  have gn : ((ln7 50 : Nat) : Int) = 400 := rfl
  have n2 := nN_ k3
  have h39 : OK (f_X7_link_39 50 p0 p1 (-1) σ) (RS σ) := by
    unfold f_X7_link_39
    refine OK.grd ⟨by omega, by omega⟩ ?_
    refine k_X7_link_50_50 FU _ _ _ _ _ _ hI hk0 (by omega) ?_ (.inl ⟨lm, rfl⟩)
    rcases ((hI.t50).2.2 p1.toNatClampNeg (by omega)).1 with hF | ⟨d1, d2, d3⟩
    · exact .inl hF
    · have d3 : (σ.1 52 (σ.1 57 p1.toNatClampNeg).toNatClampNeg).toInt = ((p1.toNatClampNeg : Nat) : Int) := d3
      exact .inr ⟨d1, (k6 p1.toNatClampNeg (by omega)).1, by rw [← n2]; exact d3, by omega⟩
  unfold f_X7_link
  refine OK.grd ⟨by omega, by omega⟩ ?_
  refine OK.bndR (k_X7_isRow_50 _ _ hI) (fun v hv => ?_)
  dsimp only
  refine OK.ieq (fun _ => h39) (fun h0 => ?_)
  have hv : 0 ≤ (σ.1 (50 + 8) p1.toNatClampNeg).toInt ∧ (σ.1 (50 + 8) p1.toNatClampNeg).toInt < (σ.1 50 1).toInt := by omega
  refine OK.grd ⟨by omega, by omega⟩ ?_
  refine OK.grd ⟨by omega, by omega⟩ ?_
  refine OK.ile (fun _ => h39) (fun hl => ?_)
  refine k_X7_link_103_50 _ _ _ _ hI hk0 (.inr ?_)
  rcases ((hI.t50).2.2 p1.toNatClampNeg (by omega)).2.1 with hL | ⟨d1, d2, d3, d4⟩
  · have hL : (σ.1 (50 + 8) p1.toNatClampNeg).toInt = -1 := hL
    omega
  · have d3 : (σ.1 52 (σ.1 (50 + 8) p1.toNatClampNeg).toNatClampNeg).toInt = ((p1.toNatClampNeg : Nat) : Int) := d3
    exact ⟨d1, (k6 p1.toNatClampNeg (by omega)).2.1, by rw [← n2]; exact d3, hl, .inl d4⟩


theorem k_X7_link_62 (p0 p1 : Int32) (σ : ST) (hI : IA σ) (hk : LK 62 σ p0 p1) : OK (f_X7_link 62 p0 p1 σ) (RS σ) := by
  have hk0 := hk
  obtain ⟨k1, k2, k3, k4, k5, k6⟩ := hk
  have lt_0 := li_0
  have lm : (-1 : Int32).toInt = -1 := by decide
  have lFU : ((FU : Nat) : Int) = 100000 := rfl
  have g : 0 ≤ (σ.1 62 1).toInt ∧ (σ.1 62 1).toInt ≤ 502 := (hI.t62).2.1
  have gn : ((ln7 62 : Nat) : Int) = 502 := rfl
  have n2 := nN_ k3
  have h39 : OK (f_X7_link_39 62 p0 p1 (-1) σ) (RS σ) := by
    unfold f_X7_link_39
    refine OK.grd ⟨by omega, by omega⟩ ?_
    refine k_X7_link_50_62 FU _ _ _ _ _ _ hI hk0 (by omega) ?_ (.inl ⟨lm, rfl⟩)
    rcases ((hI.t62).2.2 p1.toNatClampNeg (by omega)).1 with hF | ⟨d1, d2, d3⟩
    · exact .inl hF
    · have d3 : (σ.1 64 (σ.1 69 p1.toNatClampNeg).toNatClampNeg).toInt = ((p1.toNatClampNeg : Nat) : Int) := d3
      exact .inr ⟨d1, (k6 p1.toNatClampNeg (by omega)).1, by rw [← n2]; exact d3, by omega⟩
  unfold f_X7_link
  refine OK.grd ⟨by omega, by omega⟩ ?_
  refine OK.bndR (k_X7_isRow_62 _ _ hI) (fun v hv => ?_)
  dsimp only
  refine OK.ieq (fun _ => h39) (fun h0 => ?_)
  have hv : 0 ≤ (σ.1 (62 + 8) p1.toNatClampNeg).toInt ∧ (σ.1 (62 + 8) p1.toNatClampNeg).toInt < (σ.1 62 1).toInt := by omega
  refine OK.grd ⟨by omega, by omega⟩ ?_
  refine OK.grd ⟨by omega, by omega⟩ ?_
  refine OK.ile (fun _ => h39) (fun hl => ?_)
  refine k_X7_link_103_62 _ _ _ _ hI hk0 (.inr ?_)
  rcases ((hI.t62).2.2 p1.toNatClampNeg (by omega)).2.1 with hL | ⟨d1, d2, d3, d4⟩
  · have hL : (σ.1 (62 + 8) p1.toNatClampNeg).toInt = -1 := hL
    omega
  · have d3 : (σ.1 64 (σ.1 (62 + 8) p1.toNatClampNeg).toNatClampNeg).toInt = ((p1.toNatClampNeg : Nat) : Int) := d3
    exact ⟨d1, (k6 p1.toNatClampNeg (by omega)).2.1, by rw [← n2]; exact d3, hl, .inl d4⟩


theorem k_X7_link_74 (p0 p1 : Int32) (σ : ST) (hI : IA σ) (hk : LK 74 σ p0 p1) : OK (f_X7_link 74 p0 p1 σ) (RS σ) := by
  have hk0 := hk
  obtain ⟨k1, k2, k3, k4, k5, k6⟩ := hk
  have lt_0 := li_0
  have lm : (-1 : Int32).toInt = -1 := by decide
  have lFU : ((FU : Nat) : Int) = 100000 := rfl
  have g : 0 ≤ (σ.1 74 1).toInt ∧ (σ.1 74 1).toInt ≤ 400 := (hI.t74).2.1
  have gn : ((ln7 74 : Nat) : Int) = 400 := rfl
  have n2 := nN_ k3
  have h39 : OK (f_X7_link_39 74 p0 p1 (-1) σ) (RS σ) := by
    unfold f_X7_link_39
    refine OK.grd ⟨by omega, by omega⟩ ?_
    refine k_X7_link_50_74 FU _ _ _ _ _ _ hI hk0 (by omega) ?_ (.inl ⟨lm, rfl⟩)
    rcases ((hI.t74).2.2 p1.toNatClampNeg (by omega)).1 with hF | ⟨d1, d2, d3⟩
    · exact .inl hF
    · have d3 : (σ.1 76 (σ.1 81 p1.toNatClampNeg).toNatClampNeg).toInt = ((p1.toNatClampNeg : Nat) : Int) := d3
      exact .inr ⟨d1, (k6 p1.toNatClampNeg (by omega)).1, by rw [← n2]; exact d3, by omega⟩
  unfold f_X7_link
  refine OK.grd ⟨by omega, by omega⟩ ?_
  refine OK.bndR (k_X7_isRow_74 _ _ hI) (fun v hv => ?_)
  dsimp only
  refine OK.ieq (fun _ => h39) (fun h0 => ?_)
  have hv : 0 ≤ (σ.1 (74 + 8) p1.toNatClampNeg).toInt ∧ (σ.1 (74 + 8) p1.toNatClampNeg).toInt < (σ.1 74 1).toInt := by omega
  refine OK.grd ⟨by omega, by omega⟩ ?_
  refine OK.grd ⟨by omega, by omega⟩ ?_
  refine OK.ile (fun _ => h39) (fun hl => ?_)
  refine k_X7_link_103_74 _ _ _ _ hI hk0 (.inr ?_)
  rcases ((hI.t74).2.2 p1.toNatClampNeg (by omega)).2.1 with hL | ⟨d1, d2, d3, d4⟩
  · have hL : (σ.1 (74 + 8) p1.toNatClampNeg).toInt = -1 := hL
    omega
  · have d3 : (σ.1 76 (σ.1 (74 + 8) p1.toNatClampNeg).toNatClampNeg).toInt = ((p1.toNatClampNeg : Nat) : Int) := d3
    exact ⟨d1, (k6 p1.toNatClampNeg (by omega)).2.1, by rw [← n2]; exact d3, hl, .inl d4⟩


theorem k_X7_grow_50 (p0 p1 p2 : Int32) (σ : ST) (hI : IA σ) : OK (f_X7_grow 50 p0 p1 p2 σ) (RW σ fun v => True) := by
  have lt_0 := li_0
  have lt_1 := li_1
  have lm : (-1 : Int32).toInt = -1 := by decide
  have g0 : (σ.1 50 0).toInt = 400 := (hI.t50).1
  have g : 0 ≤ (σ.1 50 1).toInt ∧ (σ.1 50 1).toInt ≤ 400 := (hI.t50).2.1
  have gn : ((ln7 50 : Nat) : Int) = 400 := rfl
  have T0 := (hI.t50).2.2
  have n1 := nN_ g.1
  obtain ⟨ak, a, al, ar⟩ := i_add (σ.1 50 1) 1
  try (refine k0el (k := ak) ?_ (fun e0 => ?_); (focus omega); subst e0)
  unfold f_X7_grow
  refine OK.ilt (fun h => ?_) (fun h => OK.wret hI Fr.rf trivial)
  refine OK.grd ⟨by omega, by omega⟩ ?_
  refine OK.lt (fun z2 e2 => ?_)
  refine OK.lt (fun z3 e3 => ?_)
  refine OK.lt (fun z4 e4 => ?_)
  refine OK.lt (fun z5 e5 => ?_)
  have T := T0.grow (row := (σ.1 50 1).toNatClampNeg) n1 p1.toInt p2.toInt
  have hc : ∀ c, c < 50 ∨ 61 < c → z5.1 c = σ.1 c := fun c hc => by
    rw [e5, stI_ne (by omega), stI_ne (by omega), e4, stI_ne (by omega)]
    show z3.1 c = σ.1 c
    rw [e3, stI_ne (by omega), stI_ne (by omega), stI_ne (by omega), e2, stI_ne (by omega), stI_ne (by omega), stI_ne (by omega)]
  have hr : z5.2.2.2 = σ.2.2.2 := by rw [e5, e4, e3, e2]; rfl
  have hk : z5.2.1 3 = σ.2.1 3 := by rw [e5, e4, e3, e2]; rfl
  have q1 : z5.1 50 1 = σ.1 50 1 + 1 := by rw [e5, e4, e3, e2]; rfl
  have q0 : z5.1 50 0 = σ.1 50 0 := by rw [e5, e4, e3, e2]; rfl
  have q2 : z5.1 (50 + 2) = upd (σ.1 52) (σ.1 50 1).toNatClampNeg p1 := by rw [e5, e4, e3, e2]; rfl
  have q3 : z5.1 (50 + 3) = upd (σ.1 53) (σ.1 50 1).toNatClampNeg p2 := by rw [e5, e4, e3, e2]; rfl
  have q7 : z5.1 (50 + 7) = upd (σ.1 57) (σ.1 50 1).toNatClampNeg (-1) := by rw [e5, e4, e3, e2]; rfl
  have q8 : z5.1 (50 + 8) = upd (σ.1 58) (σ.1 50 1).toNatClampNeg (-1) := by rw [e5, e4, e3, e2]; rfl
  have q9 : z5.1 (50 + 9) = upd (σ.1 59) (σ.1 50 1).toNatClampNeg (-1) := by rw [e5, e4, e3, e2]; rfl
  have t5 : TR 50 400 z5 := by
    refine ⟨by rw [q0]; exact g0, by rw [q1]; exact ⟨by omega, by omega⟩, ?_⟩
    rw [q1, q2, q3, q7, q8, q9, vw_upd, vw_upd, vw_upd, vw_upd, vw_upd, lm]
    rw [show (σ.1 50 1 + 1).toInt = (σ.1 50 1).toInt + 1 from by omega]
    exact T
  have i5 := ia_T50 hI hc hr t5
  have f5 : Fr σ z5 := fr_T50 hc hr hk
  refine OK.bndR (k_X7_isRow_50 _ _ i5) (fun v hv => ?_)
  dsimp only
  refine OK.ieq (fun _ => OK.wret i5 f5 trivial) (fun h0 => ?_)
  have e1 : (z5.1 50 1).toInt = (σ.1 50 1).toInt + 1 := by rw [q1]; omega
  refine OK.bndS (k_X7_link_50 _ _ _ i5 ⟨by omega, by omega, by omega, by omega, by rw [q2, upd_at], ?_⟩) f5 (fun s6 i6 f6 => OK.wret i6 f6 trivial)
  intro r hr9
  rw [e1] at hr9
  rw [q7, q8, q9]
  by_cases er : r = (σ.1 50 1).toNatClampNeg
  · rw [er, upd_at, upd_at, upd_at, lm]
    exact ⟨by omega, by omega, by omega⟩
  · rw [upd_no er, upd_no er, upd_no er]
    obtain ⟨hF, hL, hN⟩ := T0 r (by omega)
    refine ⟨?_, ?_, ?_⟩
    · rcases hF with hF | ⟨_, hF, _⟩
      · have hF : (σ.1 57 r).toInt = -1 := hF
        omega
      · exact hF
    · rcases hL with hL | ⟨_, hL, _⟩
      · have hL : (σ.1 58 r).toInt = -1 := hL
        omega
      · exact hL
    · rcases hN with hN | ⟨_, hN, _⟩
      · have hN : (σ.1 59 r).toInt = -1 := hN
        omega
      · exact hN


theorem k_X7_grow_62 (p0 p1 p2 : Int32) (σ : ST) (hI : IA σ) : OK (f_X7_grow 62 p0 p1 p2 σ) (RW σ fun v => True) := by
  have lt_0 := li_0
  have lt_1 := li_1
  have lm : (-1 : Int32).toInt = -1 := by decide
  have g0 : (σ.1 62 0).toInt = 502 := (hI.t62).1
  have g : 0 ≤ (σ.1 62 1).toInt ∧ (σ.1 62 1).toInt ≤ 502 := (hI.t62).2.1
  have gn : ((ln7 62 : Nat) : Int) = 502 := rfl
  have T0 := (hI.t62).2.2
  have n1 := nN_ g.1
  obtain ⟨ak, a, al, ar⟩ := i_add (σ.1 62 1) 1
  try (refine k0el (k := ak) ?_ (fun e0 => ?_); (focus omega); subst e0)
  unfold f_X7_grow
  refine OK.ilt (fun h => ?_) (fun h => OK.wret hI Fr.rf trivial)
  refine OK.grd ⟨by omega, by omega⟩ ?_
  refine OK.lt (fun z2 e2 => ?_)
  refine OK.lt (fun z3 e3 => ?_)
  refine OK.lt (fun z4 e4 => ?_)
  refine OK.lt (fun z5 e5 => ?_)
  have T := T0.grow (row := (σ.1 62 1).toNatClampNeg) n1 p1.toInt p2.toInt
  have hc : ∀ c, c < 62 ∨ 73 < c → z5.1 c = σ.1 c := fun c hc => by
    rw [e5, stI_ne (by omega), stI_ne (by omega), e4, stI_ne (by omega)]
    show z3.1 c = σ.1 c
    rw [e3, stI_ne (by omega), stI_ne (by omega), stI_ne (by omega), e2, stI_ne (by omega), stI_ne (by omega), stI_ne (by omega)]
  have hr : z5.2.2.2 = σ.2.2.2 := by rw [e5, e4, e3, e2]; rfl
  have hk : z5.2.1 3 = σ.2.1 3 := by rw [e5, e4, e3, e2]; rfl
  have q1 : z5.1 62 1 = σ.1 62 1 + 1 := by rw [e5, e4, e3, e2]; rfl
  have q0 : z5.1 62 0 = σ.1 62 0 := by rw [e5, e4, e3, e2]; rfl
  have q2 : z5.1 (62 + 2) = upd (σ.1 64) (σ.1 62 1).toNatClampNeg p1 := by rw [e5, e4, e3, e2]; rfl
  have q3 : z5.1 (62 + 3) = upd (σ.1 65) (σ.1 62 1).toNatClampNeg p2 := by rw [e5, e4, e3, e2]; rfl
  have q7 : z5.1 (62 + 7) = upd (σ.1 69) (σ.1 62 1).toNatClampNeg (-1) := by rw [e5, e4, e3, e2]; rfl
  have q8 : z5.1 (62 + 8) = upd (σ.1 70) (σ.1 62 1).toNatClampNeg (-1) := by rw [e5, e4, e3, e2]; rfl
  have q9 : z5.1 (62 + 9) = upd (σ.1 71) (σ.1 62 1).toNatClampNeg (-1) := by rw [e5, e4, e3, e2]; rfl
  have t5 : TR 62 502 z5 := by
    refine ⟨by rw [q0]; exact g0, by rw [q1]; exact ⟨by omega, by omega⟩, ?_⟩
    rw [q1, q2, q3, q7, q8, q9, vw_upd, vw_upd, vw_upd, vw_upd, vw_upd, lm]
    rw [show (σ.1 62 1 + 1).toInt = (σ.1 62 1).toInt + 1 from by omega]
    exact T
  have i5 := ia_T62 hI hc hr t5
  have f5 : Fr σ z5 := fr_T62 hc hr hk
  refine OK.bndR (k_X7_isRow_62 _ _ i5) (fun v hv => ?_)
  dsimp only
  refine OK.ieq (fun _ => OK.wret i5 f5 trivial) (fun h0 => ?_)
  have e1 : (z5.1 62 1).toInt = (σ.1 62 1).toInt + 1 := by rw [q1]; omega
  refine OK.bndS (k_X7_link_62 _ _ _ i5 ⟨by omega, by omega, by omega, by omega, by rw [q2, upd_at], ?_⟩) f5 (fun s6 i6 f6 => OK.wret i6 f6 trivial)
  intro r hr9
  rw [e1] at hr9
  rw [q7, q8, q9]
  by_cases er : r = (σ.1 62 1).toNatClampNeg
  · rw [er, upd_at, upd_at, upd_at, lm]
    exact ⟨by omega, by omega, by omega⟩
  · rw [upd_no er, upd_no er, upd_no er]
    obtain ⟨hF, hL, hN⟩ := T0 r (by omega)
    refine ⟨?_, ?_, ?_⟩
    · rcases hF with hF | ⟨_, hF, _⟩
      · have hF : (σ.1 69 r).toInt = -1 := hF
        omega
      · exact hF
    · rcases hL with hL | ⟨_, hL, _⟩
      · have hL : (σ.1 70 r).toInt = -1 := hL
        omega
      · exact hL
    · rcases hN with hN | ⟨_, hN, _⟩
      · have hN : (σ.1 71 r).toInt = -1 := hN
        omega
      · exact hN


theorem k_X7_grow_74 (p0 p1 p2 : Int32) (σ : ST) (hI : IA σ) : OK (f_X7_grow 74 p0 p1 p2 σ) (RW σ fun v => True) := by
  have lt_0 := li_0
  have lt_1 := li_1
  have lm : (-1 : Int32).toInt = -1 := by decide
  have g0 : (σ.1 74 0).toInt = 400 := (hI.t74).1
  have g : 0 ≤ (σ.1 74 1).toInt ∧ (σ.1 74 1).toInt ≤ 400 := (hI.t74).2.1
  have gn : ((ln7 74 : Nat) : Int) = 400 := rfl
  have T0 := (hI.t74).2.2
  have n1 := nN_ g.1
  obtain ⟨ak, a, al, ar⟩ := i_add (σ.1 74 1) 1
  try (refine k0el (k := ak) ?_ (fun e0 => ?_); (focus omega); subst e0)
  unfold f_X7_grow
  refine OK.ilt (fun h => ?_) (fun h => OK.wret hI Fr.rf trivial)
  refine OK.grd ⟨by omega, by omega⟩ ?_
  refine OK.lt (fun z2 e2 => ?_)
  refine OK.lt (fun z3 e3 => ?_)
  refine OK.lt (fun z4 e4 => ?_)
  refine OK.lt (fun z5 e5 => ?_)
  have T := T0.grow (row := (σ.1 74 1).toNatClampNeg) n1 p1.toInt p2.toInt
  have hc : ∀ c, c < 74 ∨ 85 < c → z5.1 c = σ.1 c := fun c hc => by
    rw [e5, stI_ne (by omega), stI_ne (by omega), e4, stI_ne (by omega)]
    show z3.1 c = σ.1 c
    rw [e3, stI_ne (by omega), stI_ne (by omega), stI_ne (by omega), e2, stI_ne (by omega), stI_ne (by omega), stI_ne (by omega)]
  have hr : z5.2.2.2 = σ.2.2.2 := by rw [e5, e4, e3, e2]; rfl
  have hk : z5.2.1 3 = σ.2.1 3 := by rw [e5, e4, e3, e2]; rfl
  have q1 : z5.1 74 1 = σ.1 74 1 + 1 := by rw [e5, e4, e3, e2]; rfl
  have q0 : z5.1 74 0 = σ.1 74 0 := by rw [e5, e4, e3, e2]; rfl
  have q2 : z5.1 (74 + 2) = upd (σ.1 76) (σ.1 74 1).toNatClampNeg p1 := by rw [e5, e4, e3, e2]; rfl
  have q3 : z5.1 (74 + 3) = upd (σ.1 77) (σ.1 74 1).toNatClampNeg p2 := by rw [e5, e4, e3, e2]; rfl
  have q7 : z5.1 (74 + 7) = upd (σ.1 81) (σ.1 74 1).toNatClampNeg (-1) := by rw [e5, e4, e3, e2]; rfl
  have q8 : z5.1 (74 + 8) = upd (σ.1 82) (σ.1 74 1).toNatClampNeg (-1) := by rw [e5, e4, e3, e2]; rfl
  have q9 : z5.1 (74 + 9) = upd (σ.1 83) (σ.1 74 1).toNatClampNeg (-1) := by rw [e5, e4, e3, e2]; rfl
  have t5 : TR 74 400 z5 := by
    refine ⟨by rw [q0]; exact g0, by rw [q1]; exact ⟨by omega, by omega⟩, ?_⟩
    rw [q1, q2, q3, q7, q8, q9, vw_upd, vw_upd, vw_upd, vw_upd, vw_upd, lm]
    rw [show (σ.1 74 1 + 1).toInt = (σ.1 74 1).toInt + 1 from by omega]
    exact T
  have i5 := ia_T74 hI hc hr t5
  have f5 : Fr σ z5 := fr_T74 hc hr hk
  refine OK.bndR (k_X7_isRow_74 _ _ i5) (fun v hv => ?_)
  dsimp only
  refine OK.ieq (fun _ => OK.wret i5 f5 trivial) (fun h0 => ?_)
  have e1 : (z5.1 74 1).toInt = (σ.1 74 1).toInt + 1 := by rw [q1]; omega
  refine OK.bndS (k_X7_link_74 _ _ _ i5 ⟨by omega, by omega, by omega, by omega, by rw [q2, upd_at], ?_⟩) f5 (fun s6 i6 f6 => OK.wret i6 f6 trivial)
  intro r hr9
  rw [e1] at hr9
  rw [q7, q8, q9]
  by_cases er : r = (σ.1 74 1).toNatClampNeg
  · rw [er, upd_at, upd_at, upd_at, lm]
    exact ⟨by omega, by omega, by omega⟩
  · rw [upd_no er, upd_no er, upd_no er]
    obtain ⟨hF, hL, hN⟩ := T0 r (by omega)
    refine ⟨?_, ?_, ?_⟩
    · rcases hF with hF | ⟨_, hF, _⟩
      · have hF : (σ.1 81 r).toInt = -1 := hF
        omega
      · exact hF
    · rcases hL with hL | ⟨_, hL, _⟩
      · have hL : (σ.1 82 r).toInt = -1 := hL
        omega
      · exact hL
    · rcases hN with hN | ⟨_, hN, _⟩
      · have hN : (σ.1 83 r).toInt = -1 := hN
        omega
      · exact hN



theorem k_X7_setWorth_50 (p0 : Int32) (p1 : Int32) (p2 : Int64) (σ : ST) (hI : IA σ)  : OK (f_X7_setWorth 50 p0 p1 p2 σ) (RS σ) := by
  unfold f_X7_setWorth
  have lt_0 := li_0
  have lt_1 := li_1
  have lFU : ((FU : Nat) : Int) = 100000 := rfl
  have g50 := (hI.t50).1
  have g50b : 0 ≤ (σ.1 50 1).toInt ∧ (σ.1 50 1).toInt ≤ 400 := (hI.t50).2.1
  have g50n : ((ln7 50 : Nat) : Int) = 400 := rfl
  refine OK.bndR (k_X7_isRow_50 _ _ hI ) (fun v1 h2 => ?_)
  dsimp only
  refine OK.ieq (fun h3 => ?_) (fun h3 => ?_)
  · skip
    exact OK.sret hI Fr.rf
  · skip
    refine OK.grd ⟨by omega, by omega⟩ ?_
    exact OK.sret (ia_L (ia_I_54 hI)) (fr_L (fr_I_54 Fr.rf))

theorem k_X7_setWorth_62 (p0 : Int32) (p1 : Int32) (p2 : Int64) (σ : ST) (hI : IA σ)  : OK (f_X7_setWorth 62 p0 p1 p2 σ) (RS σ) := by
  unfold f_X7_setWorth
  have lt_0 := li_0
  have lt_1 := li_1
  have lFU : ((FU : Nat) : Int) = 100000 := rfl
  have g62 := (hI.t62).1
  have g62b : 0 ≤ (σ.1 62 1).toInt ∧ (σ.1 62 1).toInt ≤ 502 := (hI.t62).2.1
  have g62n : ((ln7 62 : Nat) : Int) = 502 := rfl
  refine OK.bndR (k_X7_isRow_62 _ _ hI ) (fun v1 h2 => ?_)
  dsimp only
  refine OK.ieq (fun h3 => ?_) (fun h3 => ?_)
  · skip
    exact OK.sret hI Fr.rf
  · skip
    refine OK.grd ⟨by omega, by omega⟩ ?_
    exact OK.sret (ia_L (ia_I_66 hI)) (fr_L (fr_I_66 Fr.rf))

theorem k_X7_setWorth_74 (p0 : Int32) (p1 : Int32) (p2 : Int64) (σ : ST) (hI : IA σ)  : OK (f_X7_setWorth 74 p0 p1 p2 σ) (RS σ) := by
  unfold f_X7_setWorth
  have lt_0 := li_0
  have lt_1 := li_1
  have lFU : ((FU : Nat) : Int) = 100000 := rfl
  have g74 := (hI.t74).1
  have g74b : 0 ≤ (σ.1 74 1).toInt ∧ (σ.1 74 1).toInt ≤ 400 := (hI.t74).2.1
  have g74n : ((ln7 74 : Nat) : Int) = 400 := rfl
  refine OK.bndR (k_X7_isRow_74 _ _ hI ) (fun v1 h2 => ?_)
  dsimp only
  refine OK.ieq (fun h3 => ?_) (fun h3 => ?_)
  · skip
    exact OK.sret hI Fr.rf
  · skip
    refine OK.grd ⟨by omega, by omega⟩ ?_
    exact OK.sret (ia_L (ia_I_78 hI)) (fr_L (fr_I_78 Fr.rf))

theorem k_X4_addNode_89_50 (p0 : Int32) (p1 : Int32) (p2 : Int32) (p3 : Int32) (p4 : Int64) (σ : ST) (hI : IA σ) (hT : σ.2.2.2 89 = 50)  : OK (f_X4_addNode 89 50 p0 p1 p2 p3 p4 σ) (RW σ fun v => True) := by
  unfold f_X4_addNode
  have lt_m1 := li_m1
  have lt_0 := li_0
  have lt_1 := li_1
  have lt_15 := li_15
  have lt_400 := li_400
  have lFU : ((FU : Nat) : Int) = 100000 := rfl
  refine OK.ieq (fun h1 => ?_) (fun h1 => ?_)
  · skip
    exact OK.wret hI Fr.rf (by first | trivial | omega | exact hI.flds _ | exact hI.dflds _ | exact hI.recs _ | exact hI.drecs _ | exact hI.droot _ | omega)
  · skip
    refine OK.ieq (fun h2 => ?_) (fun h2 => ?_)
    · skip
      refine OK.grd (by first | exact hT | (rw [Fr.rf.2.2.2]; exact hT)) ?_
      refine OK.ile (fun h3 => ?_) (fun h3 => ?_)
      · skip
        unfold f_X4_addNode_48
        try dsimp only
        refine OK.ieq (fun h4 => ?_) (fun h4 => ?_)
        · skip
          refine OK.bndS (k_X4_fail_89_50 _ _ _ hI (by first | exact hT | exact hI.r89 | (rw [Fr.rf.2.2.2]; exact hT))) Fr.rf (fun s5 is5 fs5 => ?_)
          try dsimp only
          unfold f_X4_addNode_63
          try dsimp only
          refine OK.grd (by first | exact hT | (rw [fs5.2.2.2]; exact hT)) ?_
          refine OK.bndS (k_X7_setWorth_50 _ _ _ _ is5 ) fs5 (fun s6 is6 fs6 => ?_)
          try dsimp only
          exact OK.wret is6 fs6 (by first | trivial | omega | exact hI.flds _ | exact hI.dflds _ | exact hI.recs _ | exact hI.drecs _ | exact hI.droot _ | omega)
        · skip
          unfold f_X4_addNode_63
          try dsimp only
          refine OK.grd (by first | exact hT | (rw [Fr.rf.2.2.2]; exact hT)) ?_
          refine OK.bndS (k_X7_setWorth_50 _ _ _ _ hI ) Fr.rf (fun s7 is7 fs7 => ?_)
          try dsimp only
          exact OK.wret is7 fs7 (by first | trivial | omega | exact hI.flds _ | exact hI.dflds _ | exact hI.recs _ | exact hI.drecs _ | exact hI.droot _ | omega)
      · skip
        refine OK.bndR (k_X5_sortOf_4 _ _ hI ) (fun v8 h9 => ?_)
        dsimp only
        refine OK.bndW (k_X7_grow_50 _ _ _ _ hI ) Fr.rf (fun v10 s12 is12 fs12 h11 => ?_)
        dsimp only
        unfold f_X4_addNode_48
        try dsimp only
        refine OK.ieq (fun h13 => ?_) (fun h13 => ?_)
        · skip
          refine OK.bndS (k_X4_fail_89_50 _ _ _ is12 (by first | exact hT | exact hI.r89 | (rw [fs12.2.2.2]; exact hT))) fs12 (fun s14 is14 fs14 => ?_)
          try dsimp only
          unfold f_X4_addNode_63
          try dsimp only
          refine OK.grd (by first | exact hT | (rw [fs14.2.2.2]; exact hT)) ?_
          refine OK.bndS (k_X7_setWorth_50 _ _ _ _ is14 ) fs14 (fun s15 is15 fs15 => ?_)
          try dsimp only
          exact OK.wret is15 fs15 (by first | trivial | omega | exact hI.flds _ | exact hI.dflds _ | exact hI.recs _ | exact hI.drecs _ | exact hI.droot _ | omega)
        · skip
          unfold f_X4_addNode_63
          try dsimp only
          refine OK.grd (by first | exact hT | (rw [fs12.2.2.2]; exact hT)) ?_
          refine OK.bndS (k_X7_setWorth_50 _ _ _ _ is12 ) fs12 (fun s16 is16 fs16 => ?_)
          try dsimp only
          exact OK.wret is16 fs16 (by first | trivial | omega | exact hI.flds _ | exact hI.dflds _ | exact hI.recs _ | exact hI.drecs _ | exact hI.droot _ | omega)
    · skip
      exact OK.wret hI Fr.rf (by first | trivial | omega | exact hI.flds _ | exact hI.dflds _ | exact hI.recs _ | exact hI.drecs _ | exact hI.droot _ | omega)

theorem k_X4_addNode_92_62 (p0 : Int32) (p1 : Int32) (p2 : Int32) (p3 : Int32) (p4 : Int64) (σ : ST) (hI : IA σ) (hT : σ.2.2.2 92 = 62)  : OK (f_X4_addNode 92 62 p0 p1 p2 p3 p4 σ) (RW σ fun v => True) := by
  unfold f_X4_addNode
  have lt_m1 := li_m1
  have lt_0 := li_0
  have lt_1 := li_1
  have lt_15 := li_15
  have lt_400 := li_400
  have lFU : ((FU : Nat) : Int) = 100000 := rfl
  refine OK.ieq (fun h1 => ?_) (fun h1 => ?_)
  · skip
    exact OK.wret hI Fr.rf (by first | trivial | omega | exact hI.flds _ | exact hI.dflds _ | exact hI.recs _ | exact hI.drecs _ | exact hI.droot _ | omega)
  · skip
    refine OK.ieq (fun h2 => ?_) (fun h2 => ?_)
    · skip
      refine OK.grd (by first | exact hT | (rw [Fr.rf.2.2.2]; exact hT)) ?_
      refine OK.ile (fun h3 => ?_) (fun h3 => ?_)
      · skip
        unfold f_X4_addNode_48
        try dsimp only
        refine OK.ieq (fun h4 => ?_) (fun h4 => ?_)
        · skip
          refine OK.bndS (k_X4_fail_92_62 _ _ _ hI (by first | exact hT | exact hI.r89 | (rw [Fr.rf.2.2.2]; exact hT))) Fr.rf (fun s5 is5 fs5 => ?_)
          try dsimp only
          unfold f_X4_addNode_63
          try dsimp only
          refine OK.grd (by first | exact hT | (rw [fs5.2.2.2]; exact hT)) ?_
          refine OK.bndS (k_X7_setWorth_62 _ _ _ _ is5 ) fs5 (fun s6 is6 fs6 => ?_)
          try dsimp only
          exact OK.wret is6 fs6 (by first | trivial | omega | exact hI.flds _ | exact hI.dflds _ | exact hI.recs _ | exact hI.drecs _ | exact hI.droot _ | omega)
        · skip
          unfold f_X4_addNode_63
          try dsimp only
          refine OK.grd (by first | exact hT | (rw [Fr.rf.2.2.2]; exact hT)) ?_
          refine OK.bndS (k_X7_setWorth_62 _ _ _ _ hI ) Fr.rf (fun s7 is7 fs7 => ?_)
          try dsimp only
          exact OK.wret is7 fs7 (by first | trivial | omega | exact hI.flds _ | exact hI.dflds _ | exact hI.recs _ | exact hI.drecs _ | exact hI.droot _ | omega)
      · skip
        refine OK.bndR (k_X5_sortOf_4 _ _ hI ) (fun v8 h9 => ?_)
        dsimp only
        refine OK.bndW (k_X7_grow_62 _ _ _ _ hI ) Fr.rf (fun v10 s12 is12 fs12 h11 => ?_)
        dsimp only
        unfold f_X4_addNode_48
        try dsimp only
        refine OK.ieq (fun h13 => ?_) (fun h13 => ?_)
        · skip
          refine OK.bndS (k_X4_fail_92_62 _ _ _ is12 (by first | exact hT | exact hI.r89 | (rw [fs12.2.2.2]; exact hT))) fs12 (fun s14 is14 fs14 => ?_)
          try dsimp only
          unfold f_X4_addNode_63
          try dsimp only
          refine OK.grd (by first | exact hT | (rw [fs14.2.2.2]; exact hT)) ?_
          refine OK.bndS (k_X7_setWorth_62 _ _ _ _ is14 ) fs14 (fun s15 is15 fs15 => ?_)
          try dsimp only
          exact OK.wret is15 fs15 (by first | trivial | omega | exact hI.flds _ | exact hI.dflds _ | exact hI.recs _ | exact hI.drecs _ | exact hI.droot _ | omega)
        · skip
          unfold f_X4_addNode_63
          try dsimp only
          refine OK.grd (by first | exact hT | (rw [fs12.2.2.2]; exact hT)) ?_
          refine OK.bndS (k_X7_setWorth_62 _ _ _ _ is12 ) fs12 (fun s16 is16 fs16 => ?_)
          try dsimp only
          exact OK.wret is16 fs16 (by first | trivial | omega | exact hI.flds _ | exact hI.dflds _ | exact hI.recs _ | exact hI.drecs _ | exact hI.droot _ | omega)
    · skip
      exact OK.wret hI Fr.rf (by first | trivial | omega | exact hI.flds _ | exact hI.dflds _ | exact hI.recs _ | exact hI.drecs _ | exact hI.droot _ | omega)
theorem k_X4_addNode_92_74 (p0 : Int32) (p1 : Int32) (p2 : Int32) (p3 : Int32) (p4 : Int64) (σ : ST) (hI : IA σ) (hT : σ.2.2.2 92 = 74)  : OK (f_X4_addNode 92 74 p0 p1 p2 p3 p4 σ) (RW σ fun v => True) := by
  unfold f_X4_addNode
  have lt_m1 := li_m1
  have lt_0 := li_0
  have lt_1 := li_1
  have lt_15 := li_15
  have lt_400 := li_400
  have lFU : ((FU : Nat) : Int) = 100000 := rfl
  refine OK.ieq (fun h1 => ?_) (fun h1 => ?_)
  · skip
    exact OK.wret hI Fr.rf (by first | trivial | omega | exact hI.flds _ | exact hI.dflds _ | exact hI.recs _ | exact hI.drecs _ | exact hI.droot _ | omega)
  · skip
    refine OK.ieq (fun h2 => ?_) (fun h2 => ?_)
    · skip
      refine OK.grd (by first | exact hT | (rw [Fr.rf.2.2.2]; exact hT)) ?_
      refine OK.ile (fun h3 => ?_) (fun h3 => ?_)
      · skip
        unfold f_X4_addNode_48
        try dsimp only
        refine OK.ieq (fun h4 => ?_) (fun h4 => ?_)
        · skip
          refine OK.bndS (k_X4_fail_92_74 _ _ _ hI (by first | exact hT | exact hI.r89 | (rw [Fr.rf.2.2.2]; exact hT))) Fr.rf (fun s5 is5 fs5 => ?_)
          try dsimp only
          unfold f_X4_addNode_63
          try dsimp only
          refine OK.grd (by first | exact hT | (rw [fs5.2.2.2]; exact hT)) ?_
          refine OK.bndS (k_X7_setWorth_74 _ _ _ _ is5 ) fs5 (fun s6 is6 fs6 => ?_)
          try dsimp only
          exact OK.wret is6 fs6 (by first | trivial | omega | exact hI.flds _ | exact hI.dflds _ | exact hI.recs _ | exact hI.drecs _ | exact hI.droot _ | omega)
        · skip
          unfold f_X4_addNode_63
          try dsimp only
          refine OK.grd (by first | exact hT | (rw [Fr.rf.2.2.2]; exact hT)) ?_
          refine OK.bndS (k_X7_setWorth_74 _ _ _ _ hI ) Fr.rf (fun s7 is7 fs7 => ?_)
          try dsimp only
          exact OK.wret is7 fs7 (by first | trivial | omega | exact hI.flds _ | exact hI.dflds _ | exact hI.recs _ | exact hI.drecs _ | exact hI.droot _ | omega)
      · skip
        refine OK.bndR (k_X5_sortOf_4 _ _ hI ) (fun v8 h9 => ?_)
        dsimp only
        refine OK.bndW (k_X7_grow_74 _ _ _ _ hI ) Fr.rf (fun v10 s12 is12 fs12 h11 => ?_)
        dsimp only
        unfold f_X4_addNode_48
        try dsimp only
        refine OK.ieq (fun h13 => ?_) (fun h13 => ?_)
        · skip
          refine OK.bndS (k_X4_fail_92_74 _ _ _ is12 (by first | exact hT | exact hI.r89 | (rw [fs12.2.2.2]; exact hT))) fs12 (fun s14 is14 fs14 => ?_)
          try dsimp only
          unfold f_X4_addNode_63
          try dsimp only
          refine OK.grd (by first | exact hT | (rw [fs14.2.2.2]; exact hT)) ?_
          refine OK.bndS (k_X7_setWorth_74 _ _ _ _ is14 ) fs14 (fun s15 is15 fs15 => ?_)
          try dsimp only
          exact OK.wret is15 fs15 (by first | trivial | omega | exact hI.flds _ | exact hI.dflds _ | exact hI.recs _ | exact hI.drecs _ | exact hI.droot _ | omega)
        · skip
          unfold f_X4_addNode_63
          try dsimp only
          refine OK.grd (by first | exact hT | (rw [fs12.2.2.2]; exact hT)) ?_
          refine OK.bndS (k_X7_setWorth_74 _ _ _ _ is12 ) fs12 (fun s16 is16 fs16 => ?_)
          try dsimp only
          exact OK.wret is16 fs16 (by first | trivial | omega | exact hI.flds _ | exact hI.dflds _ | exact hI.recs _ | exact hI.drecs _ | exact hI.droot _ | omega)
    · skip
      exact OK.wret hI Fr.rf (by first | trivial | omega | exact hI.flds _ | exact hI.dflds _ | exact hI.recs _ | exact hI.drecs _ | exact hI.droot _ | omega)

theorem k_X10_bitsOfPositive_81 (x2 : UInt64) (x4 : Int32) (σ : ST) (hI : IA σ)  : OK (f_X10_bitsOfPositive_81  x2 x4 σ) (RO σ fun v => True) := by
  unfold f_X10_bitsOfPositive_81
  have lt_0 := li_0
  have lt_1 := li_1
  have lt_52 := li_52
  have lt_63 := li_63
  have lFU : ((FU : Nat) : Int) = 100000 := rfl
  exact OK.roret (by first | trivial | omega | exact hI.flds _ | exact hI.dflds _ | exact hI.recs _ | exact hI.drecs _ | exact hI.droot _ | omega)

theorem fp2_fin : FP.Core.DFin 4611686018427387904 := (FP.Core.fin_bits _).mpr (by decide)
theorem fp2_nz : ¬ FP.Core.DZero 4611686018427387904 := fun h => absurd ((FP.Core.zero_bits2 _).mp h) (by decide)
theorem fp10_fin : FP.Core.DFin 4621819117588971520 := (FP.Core.fin_bits _).mpr (by decide)
theorem fp10_nz : ¬ FP.Core.DZero 4621819117588971520 := fun h => absurd ((FP.Core.zero_bits2 _).mp h) (by decide)
theorem fp0_fin : FP.Core.DFin FP.dconst0 := (FP.Core.fin_bits _).mpr (by decide)
theorem k_X10_bitsOfPositive_51 : ∀ (n : Nat) (x2 : UInt64) (x4 x5 : Int32) (σ : ST), FP.Core.dIsNaN x2 = false → (0 ≤ x5.toInt ∧ x5.toInt ≤ 64 ∧ (64 : Int) - x5.toInt < n) → OK (f_X10_bitsOfPositive_51 n x2 x4 x5 σ) (RO σ fun _ => True) := by
  intro n
  induction n with
  | zero => intro x2 x4 x5 σ hn hv; omega
  | succ n ih =>
    intro x2 x4 x5 σ hn hv
    rw [f_X10_bitsOfPositive_51]
    have lt_1 := li_1
    have lt_64 := li_64
    refine OK.ile (fun h => OK.roret trivial) (fun h => ?_)
    refine OK.ile (fun h => OK.roret trivial) (fun h2 => ?_)
    have hm := FP.Core.dmul_out' hn fp2_fin fp2_nz
    refine OK.grd (fl_num hm) ?_
    obtain ⟨ak, a, al, ar⟩ := i_add x5 1
    try (refine k0el (k := ak) ?_ (fun e0 => ?_); (focus omega); subst e0)
    exact ih _ _ _ _ hm (by omega)


theorem k_X10_bitsOfPositive_48 (x2 : UInt64) (x4 : Int32) (σ : ST) (hn : FP.Core.dIsNaN x2 = false) : OK (f_X10_bitsOfPositive_48 x2 x4 σ) (RO σ fun _ => True) := by
  have lt_0 := li_0
  have lFU : ((FU : Nat) : Int) = 100000 := rfl
  exact k_X10_bitsOfPositive_51 FU _ _ _ _ hn (by omega)


theorem k_X10_bitsOfPositive_18 : ∀ (n : Nat) (x2 : UInt64) (x4 x5 : Int32) (σ : ST), FP.Core.dIsNaN x2 = false → (0 ≤ x5.toInt ∧ x5.toInt ≤ 64 ∧ (64 : Int) - x5.toInt < n) → OK (f_X10_bitsOfPositive_18 n x2 x4 x5 σ) (RO σ fun _ => True) := by
  intro n
  induction n with
  | zero => intro x2 x4 x5 σ hn hv; omega
  | succ n ih =>
    intro x2 x4 x5 σ hn hv
    rw [f_X10_bitsOfPositive_18]
    have lt_1 := li_1
    have lt_64 := li_64
    refine OK.ile (fun h => k_X10_bitsOfPositive_48 _ _ _ hn) (fun h => ?_)
    refine OK.ilt (fun h => k_X10_bitsOfPositive_48 _ _ _ hn) (fun h2 => ?_)
    have hm := FP.Core.ddiv_out hn fp2_fin fp2_nz
    refine OK.grd (fl_num hm) ?_
    obtain ⟨ak, a, al, ar⟩ := i_add x5 1
    try (refine k0el (k := ak) ?_ (fun e0 => ?_); (focus omega); subst e0)
    exact ih _ _ _ _ hm (by omega)


theorem k_X10_bitsOfPositive (p0 : UInt64) (σ : ST) (hn : FP.Core.dIsNaN p0 = false) : OK (f_X10_bitsOfPositive p0 σ) (RO σ fun _ => True) := by
  unfold f_X10_bitsOfPositive
  have lt_0 := li_0
  have lFU : ((FU : Nat) : Int) = 100000 := rfl
  exact OK.ilt (fun h => k_X10_bitsOfPositive_18 FU _ _ _ _ hn (by omega)) (fun h => OK.roret trivial)


theorem k_X10_bitsOfWhole (p0 : Int64) (σ : ST) (hI : IA σ) : OK (f_X10_bitsOfWhole p0 σ) (RO σ fun _ => True) := by
  unfold f_X10_bitsOfWhole
  have hm := FP.Core.dsub_out fp0_fin.notNaN (FP.Core.l2d_fin p0)
  refine OK.ilt (fun h => ?_) (fun h => ?_)
  · refine OK.grd (fl_num hm) ?_
    refine OK.bndR (k_X10_bitsOfPositive _ _ hm) (fun v h1 => ?_)
    exact OK.roret trivial
  · refine OK.bndR (k_X10_bitsOfPositive _ _ (FP.Core.l2d_fin p0).notNaN) (fun v h1 => ?_)
    exact OK.roret trivial


theorem k_X10_isInt (p0 : Int64) (σ : ST) (hI : IA σ)  : OK (f_X10_isInt  p0 σ) (RO σ fun v => v.toInt = 0 ∨ v.toInt = 1) := by
  unfold f_X10_isInt
  have lt_0 := li_0
  have lt_1 := li_1
  have lFU : ((FU : Nat) : Int) = 100000 := rfl
  refine OK.ilt (fun h1 => ?_) (fun h1 => ?_)
  · skip
    exact OK.roret (by first | trivial | omega | exact hI.flds _ | exact hI.dflds _ | exact hI.recs _ | exact hI.drecs _ | exact hI.droot _ | omega)
  · skip
    refine OK.ilt (fun h2 => ?_) (fun h2 => ?_)
    · skip
      exact OK.roret (by first | trivial | omega | exact hI.flds _ | exact hI.dflds _ | exact hI.recs _ | exact hI.drecs _ | exact hI.droot _ | omega)
    · skip
      exact OK.roret (by first | trivial | omega | exact hI.flds _ | exact hI.dflds _ | exact hI.recs _ | exact hI.drecs _ | exact hI.droot _ | omega)

theorem k_X4_takeLetters_5_89_50 : ∀ (n : Nat) (x1 : Int32) (x2 : Int32) (x3 : Int64) (x5 : Int32) (σ : ST), IA σ → σ.2.2.2 89 = 50 → (0 ≤ x5.toInt ∧ x5.toInt ≤ 12 ∧ (x2.toInt ≤ 12) ∧ (12 : Int) - x5.toInt < n) → OK (f_X4_takeLetters_5 89 50 n x1 x2 x3 x5 σ) (RW σ fun v => True) := by
  intro n
  induction n with
  | zero =>
    intro x1 x2 x3 x5 σ hI hT hv
    omega
  | succ n ih =>
    intro x1 x2 x3 x5 σ hI hT hv
    rw [f_X4_takeLetters_5]
    have lt_0 := li_0
    have lt_1 := li_1
    have lt_12 := li_12
    have lt_97 := li_97
    have lt_122 := li_122
    have lFU : ((FU : Nat) : Int) = 100000 := rfl
    refine OK.ile (fun h1 => ?_) (fun h1 => ?_)
    · skip
      exact OK.wret hI Fr.rf (by first | trivial | omega | exact hI.flds _ | exact hI.dflds _ | exact hI.recs _ | exact hI.drecs _ | exact hI.droot _ | omega)
    · skip
      refine OK.ieq (fun h2 => ?_) (fun h2 => ?_)
      · skip
        refine OK.bndW (k_X4_takeByte_89_50 _ hI (by first | exact hT | exact hI.r89 | (rw [Fr.rf.2.2.2]; exact hT))) Fr.rf (fun v3 s5 is5 fs5 h4 => ?_)
        dsimp only
        refine OK.ilt (fun h6 => ?_) (fun h6 => ?_)
        · skip
          unfold f_X4_takeLetters_38
          try dsimp only
          refine OK.bndS (k_X4_fail_89_50 _ _ _ is5 (by first | exact hT | exact hI.r89 | (rw [fs5.2.2.2]; exact hT))) fs5 (fun s7 is7 fs7 => ?_)
          try dsimp only
          unfold f_X4_takeLetters_45
          try dsimp only
          refine OK.lt (fun w8 _ => ?_)
          obtain ⟨a9k, a9, a9l, a9r⟩ := i_add x5 1
          try (refine k0el (k := a9k) ?_ (fun e0 => ?_); (focus omega); subst e0)
          exact OK.trW (ih _ _ _ _ _ is7 (by first | exact hT | (rw [fs7.2.2.2]; exact hT)) (by omega)) fs7 (fun v hv => by first | trivial | omega | exact hI.flds _ | exact hI.dflds _ | exact hI.recs _ | exact hI.drecs _ | exact hI.droot _ | omega)
        · skip
          refine OK.ile (fun h10 => ?_) (fun h10 => ?_)
          · skip
            unfold f_X4_takeLetters_45
            try dsimp only
            refine OK.lt (fun w11 _ => ?_)
            obtain ⟨a12k, a12, a12l, a12r⟩ := i_add x5 1
            try (refine k0el (k := a12k) ?_ (fun e0 => ?_); (focus omega); subst e0)
            exact OK.trW (ih _ _ _ _ _ is5 (by first | exact hT | (rw [fs5.2.2.2]; exact hT)) (by omega)) fs5 (fun v hv => by first | trivial | omega | exact hI.flds _ | exact hI.dflds _ | exact hI.recs _ | exact hI.drecs _ | exact hI.droot _ | omega)
          · skip
            unfold f_X4_takeLetters_38
            try dsimp only
            refine OK.bndS (k_X4_fail_89_50 _ _ _ is5 (by first | exact hT | exact hI.r89 | (rw [fs5.2.2.2]; exact hT))) fs5 (fun s13 is13 fs13 => ?_)
            try dsimp only
            unfold f_X4_takeLetters_45
            try dsimp only
            refine OK.lt (fun w14 _ => ?_)
            obtain ⟨a15k, a15, a15l, a15r⟩ := i_add x5 1
            try (refine k0el (k := a15k) ?_ (fun e0 => ?_); (focus omega); subst e0)
            exact OK.trW (ih _ _ _ _ _ is13 (by first | exact hT | (rw [fs13.2.2.2]; exact hT)) (by omega)) fs13 (fun v hv => by first | trivial | omega | exact hI.flds _ | exact hI.dflds _ | exact hI.recs _ | exact hI.drecs _ | exact hI.droot _ | omega)
      · skip
        exact OK.wret hI Fr.rf (by first | trivial | omega | exact hI.flds _ | exact hI.dflds _ | exact hI.recs _ | exact hI.drecs _ | exact hI.droot _ | omega)

theorem k_X4_takeLetters_5_92_62 : ∀ (n : Nat) (x1 : Int32) (x2 : Int32) (x3 : Int64) (x5 : Int32) (σ : ST), IA σ → σ.2.2.2 92 = 62 → (0 ≤ x5.toInt ∧ x5.toInt ≤ 12 ∧ (x2.toInt ≤ 12) ∧ (12 : Int) - x5.toInt < n) → OK (f_X4_takeLetters_5 92 62 n x1 x2 x3 x5 σ) (RW σ fun v => True) := by
  intro n
  induction n with
  | zero =>
    intro x1 x2 x3 x5 σ hI hT hv
    omega
  | succ n ih =>
    intro x1 x2 x3 x5 σ hI hT hv
    rw [f_X4_takeLetters_5]
    have lt_0 := li_0
    have lt_1 := li_1
    have lt_12 := li_12
    have lt_97 := li_97
    have lt_122 := li_122
    have lFU : ((FU : Nat) : Int) = 100000 := rfl
    refine OK.ile (fun h1 => ?_) (fun h1 => ?_)
    · skip
      exact OK.wret hI Fr.rf (by first | trivial | omega | exact hI.flds _ | exact hI.dflds _ | exact hI.recs _ | exact hI.drecs _ | exact hI.droot _ | omega)
    · skip
      refine OK.ieq (fun h2 => ?_) (fun h2 => ?_)
      · skip
        refine OK.bndW (k_X4_takeByte_92_62 _ hI (by first | exact hT | exact hI.r89 | (rw [Fr.rf.2.2.2]; exact hT))) Fr.rf (fun v3 s5 is5 fs5 h4 => ?_)
        dsimp only
        refine OK.ilt (fun h6 => ?_) (fun h6 => ?_)
        · skip
          unfold f_X4_takeLetters_38
          try dsimp only
          refine OK.bndS (k_X4_fail_92_62 _ _ _ is5 (by first | exact hT | exact hI.r89 | (rw [fs5.2.2.2]; exact hT))) fs5 (fun s7 is7 fs7 => ?_)
          try dsimp only
          unfold f_X4_takeLetters_45
          try dsimp only
          refine OK.lt (fun w8 _ => ?_)
          obtain ⟨a9k, a9, a9l, a9r⟩ := i_add x5 1
          try (refine k0el (k := a9k) ?_ (fun e0 => ?_); (focus omega); subst e0)
          exact OK.trW (ih _ _ _ _ _ is7 (by first | exact hT | (rw [fs7.2.2.2]; exact hT)) (by omega)) fs7 (fun v hv => by first | trivial | omega | exact hI.flds _ | exact hI.dflds _ | exact hI.recs _ | exact hI.drecs _ | exact hI.droot _ | omega)
        · skip
          refine OK.ile (fun h10 => ?_) (fun h10 => ?_)
          · skip
            unfold f_X4_takeLetters_45
            try dsimp only
            refine OK.lt (fun w11 _ => ?_)
            obtain ⟨a12k, a12, a12l, a12r⟩ := i_add x5 1
            try (refine k0el (k := a12k) ?_ (fun e0 => ?_); (focus omega); subst e0)
            exact OK.trW (ih _ _ _ _ _ is5 (by first | exact hT | (rw [fs5.2.2.2]; exact hT)) (by omega)) fs5 (fun v hv => by first | trivial | omega | exact hI.flds _ | exact hI.dflds _ | exact hI.recs _ | exact hI.drecs _ | exact hI.droot _ | omega)
          · skip
            unfold f_X4_takeLetters_38
            try dsimp only
            refine OK.bndS (k_X4_fail_92_62 _ _ _ is5 (by first | exact hT | exact hI.r89 | (rw [fs5.2.2.2]; exact hT))) fs5 (fun s13 is13 fs13 => ?_)
            try dsimp only
            unfold f_X4_takeLetters_45
            try dsimp only
            refine OK.lt (fun w14 _ => ?_)
            obtain ⟨a15k, a15, a15l, a15r⟩ := i_add x5 1
            try (refine k0el (k := a15k) ?_ (fun e0 => ?_); (focus omega); subst e0)
            exact OK.trW (ih _ _ _ _ _ is13 (by first | exact hT | (rw [fs13.2.2.2]; exact hT)) (by omega)) fs13 (fun v hv => by first | trivial | omega | exact hI.flds _ | exact hI.dflds _ | exact hI.recs _ | exact hI.drecs _ | exact hI.droot _ | omega)
      · skip
        exact OK.wret hI Fr.rf (by first | trivial | omega | exact hI.flds _ | exact hI.dflds _ | exact hI.recs _ | exact hI.drecs _ | exact hI.droot _ | omega)

theorem k_X4_takeLetters_5_92_74 : ∀ (n : Nat) (x1 : Int32) (x2 : Int32) (x3 : Int64) (x5 : Int32) (σ : ST), IA σ → σ.2.2.2 92 = 74 → (0 ≤ x5.toInt ∧ x5.toInt ≤ 12 ∧ (x2.toInt ≤ 12) ∧ (12 : Int) - x5.toInt < n) → OK (f_X4_takeLetters_5 92 74 n x1 x2 x3 x5 σ) (RW σ fun v => True) := by
  intro n
  induction n with
  | zero =>
    intro x1 x2 x3 x5 σ hI hT hv
    omega
  | succ n ih =>
    intro x1 x2 x3 x5 σ hI hT hv
    rw [f_X4_takeLetters_5]
    have lt_0 := li_0
    have lt_1 := li_1
    have lt_12 := li_12
    have lt_97 := li_97
    have lt_122 := li_122
    have lFU : ((FU : Nat) : Int) = 100000 := rfl
    refine OK.ile (fun h1 => ?_) (fun h1 => ?_)
    · skip
      exact OK.wret hI Fr.rf (by first | trivial | omega | exact hI.flds _ | exact hI.dflds _ | exact hI.recs _ | exact hI.drecs _ | exact hI.droot _ | omega)
    · skip
      refine OK.ieq (fun h2 => ?_) (fun h2 => ?_)
      · skip
        refine OK.bndW (k_X4_takeByte_92_74 _ hI (by first | exact hT | exact hI.r89 | (rw [Fr.rf.2.2.2]; exact hT))) Fr.rf (fun v3 s5 is5 fs5 h4 => ?_)
        dsimp only
        refine OK.ilt (fun h6 => ?_) (fun h6 => ?_)
        · skip
          unfold f_X4_takeLetters_38
          try dsimp only
          refine OK.bndS (k_X4_fail_92_74 _ _ _ is5 (by first | exact hT | exact hI.r89 | (rw [fs5.2.2.2]; exact hT))) fs5 (fun s7 is7 fs7 => ?_)
          try dsimp only
          unfold f_X4_takeLetters_45
          try dsimp only
          refine OK.lt (fun w8 _ => ?_)
          obtain ⟨a9k, a9, a9l, a9r⟩ := i_add x5 1
          try (refine k0el (k := a9k) ?_ (fun e0 => ?_); (focus omega); subst e0)
          exact OK.trW (ih _ _ _ _ _ is7 (by first | exact hT | (rw [fs7.2.2.2]; exact hT)) (by omega)) fs7 (fun v hv => by first | trivial | omega | exact hI.flds _ | exact hI.dflds _ | exact hI.recs _ | exact hI.drecs _ | exact hI.droot _ | omega)
        · skip
          refine OK.ile (fun h10 => ?_) (fun h10 => ?_)
          · skip
            unfold f_X4_takeLetters_45
            try dsimp only
            refine OK.lt (fun w11 _ => ?_)
            obtain ⟨a12k, a12, a12l, a12r⟩ := i_add x5 1
            try (refine k0el (k := a12k) ?_ (fun e0 => ?_); (focus omega); subst e0)
            exact OK.trW (ih _ _ _ _ _ is5 (by first | exact hT | (rw [fs5.2.2.2]; exact hT)) (by omega)) fs5 (fun v hv => by first | trivial | omega | exact hI.flds _ | exact hI.dflds _ | exact hI.recs _ | exact hI.drecs _ | exact hI.droot _ | omega)
          · skip
            unfold f_X4_takeLetters_38
            try dsimp only
            refine OK.bndS (k_X4_fail_92_74 _ _ _ is5 (by first | exact hT | exact hI.r89 | (rw [fs5.2.2.2]; exact hT))) fs5 (fun s13 is13 fs13 => ?_)
            try dsimp only
            unfold f_X4_takeLetters_45
            try dsimp only
            refine OK.lt (fun w14 _ => ?_)
            obtain ⟨a15k, a15, a15l, a15r⟩ := i_add x5 1
            try (refine k0el (k := a15k) ?_ (fun e0 => ?_); (focus omega); subst e0)
            exact OK.trW (ih _ _ _ _ _ is13 (by first | exact hT | (rw [fs13.2.2.2]; exact hT)) (by omega)) fs13 (fun v hv => by first | trivial | omega | exact hI.flds _ | exact hI.dflds _ | exact hI.recs _ | exact hI.drecs _ | exact hI.droot _ | omega)
      · skip
        exact OK.wret hI Fr.rf (by first | trivial | omega | exact hI.flds _ | exact hI.dflds _ | exact hI.recs _ | exact hI.drecs _ | exact hI.droot _ | omega)

theorem k_X4_takeLetters_89_50 (p0 : Int32) (p1 : Int32) (σ : ST) (hI : IA σ) (hT : σ.2.2.2 89 = 50) (hp0 : p1.toInt ≤ 12)  : OK (f_X4_takeLetters 89 50 p0 p1 σ) (RW σ fun v => True) := by
  unfold f_X4_takeLetters
  have lt_0 := li_0
  have lt_1 := li_1
  have lFU : ((FU : Nat) : Int) = 100000 := rfl
  exact OK.trW (k_X4_takeLetters_5_89_50 FU _ _ _ _ _ hI (by first | exact hT | (rw [Fr.rf.2.2.2]; exact hT)) (by omega)) Fr.rf (fun v hv => by first | trivial | omega | exact hI.flds _ | exact hI.dflds _ | exact hI.recs _ | exact hI.drecs _ | exact hI.droot _ | omega)

theorem k_X4_takeLetters_92_62 (p0 : Int32) (p1 : Int32) (σ : ST) (hI : IA σ) (hT : σ.2.2.2 92 = 62) (hp0 : p1.toInt ≤ 12)  : OK (f_X4_takeLetters 92 62 p0 p1 σ) (RW σ fun v => True) := by
  unfold f_X4_takeLetters
  have lt_0 := li_0
  have lt_1 := li_1
  have lFU : ((FU : Nat) : Int) = 100000 := rfl
  exact OK.trW (k_X4_takeLetters_5_92_62 FU _ _ _ _ _ hI (by first | exact hT | (rw [Fr.rf.2.2.2]; exact hT)) (by omega)) Fr.rf (fun v hv => by first | trivial | omega | exact hI.flds _ | exact hI.dflds _ | exact hI.recs _ | exact hI.drecs _ | exact hI.droot _ | omega)

theorem k_X4_takeLetters_92_74 (p0 : Int32) (p1 : Int32) (σ : ST) (hI : IA σ) (hT : σ.2.2.2 92 = 74) (hp0 : p1.toInt ≤ 12)  : OK (f_X4_takeLetters 92 74 p0 p1 σ) (RW σ fun v => True) := by
  unfold f_X4_takeLetters
  have lt_0 := li_0
  have lt_1 := li_1
  have lFU : ((FU : Nat) : Int) = 100000 := rfl
  exact OK.trW (k_X4_takeLetters_5_92_74 FU _ _ _ _ _ hI (by first | exact hT | (rw [Fr.rf.2.2.2]; exact hT)) (by omega)) Fr.rf (fun v hv => by first | trivial | omega | exact hI.flds _ | exact hI.dflds _ | exact hI.recs _ | exact hI.drecs _ | exact hI.droot _ | omega)

theorem k_X4_takeReal_44_89_50 (x1 : Int64) (y0 : Int32) (σ : ST) (hI : IA σ) (hT : σ.2.2.2 89 = 50)  : OK (f_X4_takeReal_44 89 50 x1 y0 σ) (RO σ fun v => True) := by
  unfold f_X4_takeReal_44
  have lt_0 := li_0
  have lt_1 := li_1
  have lFU : ((FU : Nat) : Int) = 100000 := rfl
  refine OK.ieq (fun h1 => ?_) (fun h1 => ?_)
  · skip
    exact OK.roret (by first | trivial | omega | exact hI.flds _ | exact hI.dflds _ | exact hI.recs _ | exact hI.drecs _ | exact hI.droot _ | omega)
  · skip
    exact OK.roret (by first | trivial | omega | exact hI.flds _ | exact hI.dflds _ | exact hI.recs _ | exact hI.drecs _ | exact hI.droot _ | omega)

theorem k_X4_takeReal_44_92_62 (x1 : Int64) (y0 : Int32) (σ : ST) (hI : IA σ) (hT : σ.2.2.2 92 = 62)  : OK (f_X4_takeReal_44 92 62 x1 y0 σ) (RO σ fun v => True) := by
  unfold f_X4_takeReal_44
  have lt_0 := li_0
  have lt_1 := li_1
  have lFU : ((FU : Nat) : Int) = 100000 := rfl
  refine OK.ieq (fun h1 => ?_) (fun h1 => ?_)
  · skip
    exact OK.roret (by first | trivial | omega | exact hI.flds _ | exact hI.dflds _ | exact hI.recs _ | exact hI.drecs _ | exact hI.droot _ | omega)
  · skip
    exact OK.roret (by first | trivial | omega | exact hI.flds _ | exact hI.dflds _ | exact hI.recs _ | exact hI.drecs _ | exact hI.droot _ | omega)

theorem k_X4_takeReal_44_92_74 (x1 : Int64) (y0 : Int32) (σ : ST) (hI : IA σ) (hT : σ.2.2.2 92 = 74)  : OK (f_X4_takeReal_44 92 74 x1 y0 σ) (RO σ fun v => True) := by
  unfold f_X4_takeReal_44
  have lt_0 := li_0
  have lt_1 := li_1
  have lFU : ((FU : Nat) : Int) = 100000 := rfl
  refine OK.ieq (fun h1 => ?_) (fun h1 => ?_)
  · skip
    exact OK.roret (by first | trivial | omega | exact hI.flds _ | exact hI.dflds _ | exact hI.recs _ | exact hI.drecs _ | exact hI.droot _ | omega)
  · skip
    exact OK.roret (by first | trivial | omega | exact hI.flds _ | exact hI.dflds _ | exact hI.recs _ | exact hI.drecs _ | exact hI.droot _ | omega)

theorem k_X4_takeReal_4_89_50 : ∀ (n : Nat) (x1 : Int64) (x3 : Int32) (σ : ST), IA σ → σ.2.2.2 89 = 50 → (0 ≤ x3.toInt ∧ x3.toInt ≤ 8 ∧ (8 : Int) - x3.toInt < n) → OK (f_X4_takeReal_4 89 50 n x1 x3 σ) (RW σ fun v => True) := by
  intro n
  induction n with
  | zero =>
    intro x1 x3 σ hI hT hv
    omega
  | succ n ih =>
    intro x1 x3 σ hI hT hv
    rw [f_X4_takeReal_4]
    have lt_0 := li_0
    have lt_1 := li_1
    have lt_8 := li_8
    have lFU : ((FU : Nat) : Int) = 100000 := rfl
    refine OK.ile (fun h1 => ?_) (fun h1 => ?_)
    · skip
      refine OK.ile (fun h2 => ?_) (fun h2 => ?_)
      · skip
        exact OK.row (k_X4_takeReal_44_89_50 _ _ _ hI (by first | exact hT | exact hI.r89 | (rw [Fr.rf.2.2.2]; exact hT))) hI Fr.rf (fun v hv => by first | trivial | omega | exact hI.flds _ | exact hI.dflds _ | exact hI.recs _ | exact hI.drecs _ | exact hI.droot _ | omega)
      · skip
        exact OK.row (k_X4_takeReal_44_89_50 _ _ _ hI (by first | exact hT | exact hI.r89 | (rw [Fr.rf.2.2.2]; exact hT))) hI Fr.rf (fun v hv => by first | trivial | omega | exact hI.flds _ | exact hI.dflds _ | exact hI.recs _ | exact hI.drecs _ | exact hI.droot _ | omega)
    · skip
      refine OK.bndW (k_X4_takeByte_89_50 _ hI (by first | exact hT | exact hI.r89 | (rw [Fr.rf.2.2.2]; exact hT))) Fr.rf (fun v3 s5 is5 fs5 h4 => ?_)
      dsimp only
      obtain ⟨a6k, a6, a6l, a6r⟩ := i_add x3 1
      try (refine k0el (k := a6k) ?_ (fun e0 => ?_); (focus omega); subst e0)
      exact OK.trW (ih _ _ _ is5 (by first | exact hT | (rw [fs5.2.2.2]; exact hT)) (by omega)) fs5 (fun v hv => by first | trivial | omega | exact hI.flds _ | exact hI.dflds _ | exact hI.recs _ | exact hI.drecs _ | exact hI.droot _ | omega)

theorem k_X4_takeReal_4_92_62 : ∀ (n : Nat) (x1 : Int64) (x3 : Int32) (σ : ST), IA σ → σ.2.2.2 92 = 62 → (0 ≤ x3.toInt ∧ x3.toInt ≤ 8 ∧ (8 : Int) - x3.toInt < n) → OK (f_X4_takeReal_4 92 62 n x1 x3 σ) (RW σ fun v => True) := by
  intro n
  induction n with
  | zero =>
    intro x1 x3 σ hI hT hv
    omega
  | succ n ih =>
    intro x1 x3 σ hI hT hv
    rw [f_X4_takeReal_4]
    have lt_0 := li_0
    have lt_1 := li_1
    have lt_8 := li_8
    have lFU : ((FU : Nat) : Int) = 100000 := rfl
    refine OK.ile (fun h1 => ?_) (fun h1 => ?_)
    · skip
      refine OK.ile (fun h2 => ?_) (fun h2 => ?_)
      · skip
        exact OK.row (k_X4_takeReal_44_92_62 _ _ _ hI (by first | exact hT | exact hI.r89 | (rw [Fr.rf.2.2.2]; exact hT))) hI Fr.rf (fun v hv => by first | trivial | omega | exact hI.flds _ | exact hI.dflds _ | exact hI.recs _ | exact hI.drecs _ | exact hI.droot _ | omega)
      · skip
        exact OK.row (k_X4_takeReal_44_92_62 _ _ _ hI (by first | exact hT | exact hI.r89 | (rw [Fr.rf.2.2.2]; exact hT))) hI Fr.rf (fun v hv => by first | trivial | omega | exact hI.flds _ | exact hI.dflds _ | exact hI.recs _ | exact hI.drecs _ | exact hI.droot _ | omega)
    · skip
      refine OK.bndW (k_X4_takeByte_92_62 _ hI (by first | exact hT | exact hI.r89 | (rw [Fr.rf.2.2.2]; exact hT))) Fr.rf (fun v3 s5 is5 fs5 h4 => ?_)
      dsimp only
      obtain ⟨a6k, a6, a6l, a6r⟩ := i_add x3 1
      try (refine k0el (k := a6k) ?_ (fun e0 => ?_); (focus omega); subst e0)
      exact OK.trW (ih _ _ _ is5 (by first | exact hT | (rw [fs5.2.2.2]; exact hT)) (by omega)) fs5 (fun v hv => by first | trivial | omega | exact hI.flds _ | exact hI.dflds _ | exact hI.recs _ | exact hI.drecs _ | exact hI.droot _ | omega)

theorem k_X4_takeReal_4_92_74 : ∀ (n : Nat) (x1 : Int64) (x3 : Int32) (σ : ST), IA σ → σ.2.2.2 92 = 74 → (0 ≤ x3.toInt ∧ x3.toInt ≤ 8 ∧ (8 : Int) - x3.toInt < n) → OK (f_X4_takeReal_4 92 74 n x1 x3 σ) (RW σ fun v => True) := by
  intro n
  induction n with
  | zero =>
    intro x1 x3 σ hI hT hv
    omega
  | succ n ih =>
    intro x1 x3 σ hI hT hv
    rw [f_X4_takeReal_4]
    have lt_0 := li_0
    have lt_1 := li_1
    have lt_8 := li_8
    have lFU : ((FU : Nat) : Int) = 100000 := rfl
    refine OK.ile (fun h1 => ?_) (fun h1 => ?_)
    · skip
      refine OK.ile (fun h2 => ?_) (fun h2 => ?_)
      · skip
        exact OK.row (k_X4_takeReal_44_92_74 _ _ _ hI (by first | exact hT | exact hI.r89 | (rw [Fr.rf.2.2.2]; exact hT))) hI Fr.rf (fun v hv => by first | trivial | omega | exact hI.flds _ | exact hI.dflds _ | exact hI.recs _ | exact hI.drecs _ | exact hI.droot _ | omega)
      · skip
        exact OK.row (k_X4_takeReal_44_92_74 _ _ _ hI (by first | exact hT | exact hI.r89 | (rw [Fr.rf.2.2.2]; exact hT))) hI Fr.rf (fun v hv => by first | trivial | omega | exact hI.flds _ | exact hI.dflds _ | exact hI.recs _ | exact hI.drecs _ | exact hI.droot _ | omega)
    · skip
      refine OK.bndW (k_X4_takeByte_92_74 _ hI (by first | exact hT | exact hI.r89 | (rw [Fr.rf.2.2.2]; exact hT))) Fr.rf (fun v3 s5 is5 fs5 h4 => ?_)
      dsimp only
      obtain ⟨a6k, a6, a6l, a6r⟩ := i_add x3 1
      try (refine k0el (k := a6k) ?_ (fun e0 => ?_); (focus omega); subst e0)
      exact OK.trW (ih _ _ _ is5 (by first | exact hT | (rw [fs5.2.2.2]; exact hT)) (by omega)) fs5 (fun v hv => by first | trivial | omega | exact hI.flds _ | exact hI.dflds _ | exact hI.recs _ | exact hI.drecs _ | exact hI.droot _ | omega)

theorem k_X4_takeReal_89_50 (σ : ST) (hI : IA σ) (hT : σ.2.2.2 89 = 50)  : OK (f_X4_takeReal 89 50 σ) (RW σ fun v => True) := by
  unfold f_X4_takeReal
  have lt_0 := li_0
  have lt_1 := li_1
  have lFU : ((FU : Nat) : Int) = 100000 := rfl
  exact OK.trW (k_X4_takeReal_4_89_50 FU _ _ _ hI (by first | exact hT | (rw [Fr.rf.2.2.2]; exact hT)) (by omega)) Fr.rf (fun v hv => by first | trivial | omega | exact hI.flds _ | exact hI.dflds _ | exact hI.recs _ | exact hI.drecs _ | exact hI.droot _ | omega)

theorem k_X4_takeReal_92_62 (σ : ST) (hI : IA σ) (hT : σ.2.2.2 92 = 62)  : OK (f_X4_takeReal 92 62 σ) (RW σ fun v => True) := by
  unfold f_X4_takeReal
  have lt_0 := li_0
  have lt_1 := li_1
  have lFU : ((FU : Nat) : Int) = 100000 := rfl
  exact OK.trW (k_X4_takeReal_4_92_62 FU _ _ _ hI (by first | exact hT | (rw [Fr.rf.2.2.2]; exact hT)) (by omega)) Fr.rf (fun v hv => by first | trivial | omega | exact hI.flds _ | exact hI.dflds _ | exact hI.recs _ | exact hI.drecs _ | exact hI.droot _ | omega)

theorem k_X4_takeReal_92_74 (σ : ST) (hI : IA σ) (hT : σ.2.2.2 92 = 74)  : OK (f_X4_takeReal 92 74 σ) (RW σ fun v => True) := by
  unfold f_X4_takeReal
  have lt_0 := li_0
  have lt_1 := li_1
  have lFU : ((FU : Nat) : Int) = 100000 := rfl
  exact OK.trW (k_X4_takeReal_4_92_74 FU _ _ _ hI (by first | exact hT | (rw [Fr.rf.2.2.2]; exact hT)) (by omega)) Fr.rf (fun v hv => by first | trivial | omega | exact hI.flds _ | exact hI.dflds _ | exact hI.recs _ | exact hI.drecs _ | exact hI.droot _ | omega)

theorem k_X4_takePlain_183_89_50 (y0 : Int64) (y1 : Int32) (y2 : Int32) (y3 : Int32) (y4 : Int32) (σ : ST) (hI : IA σ) (hT : σ.2.2.2 89 = 50)  : OK (f_X4_takePlain_183 89 50 y0 y1 y2 y3 y4 σ) (RS σ) := by
  unfold f_X4_takePlain_183
  have lt_0 := li_0
  have lt_1 := li_1
  have lFU : ((FU : Nat) : Int) = 100000 := rfl
  refine OK.bndW (k_X4_addNode_89_50 _ _ _ _ _ _ hI (by first | exact hT | exact hI.r89 | (rw [Fr.rf.2.2.2]; exact hT))) Fr.rf (fun v1 s3 is3 fs3 h2 => ?_)
  dsimp only
  exact OK.sret is3 fs3

theorem k_X4_takePlain_183_92_62 (y0 : Int64) (y1 : Int32) (y2 : Int32) (y3 : Int32) (y4 : Int32) (σ : ST) (hI : IA σ) (hT : σ.2.2.2 92 = 62)  : OK (f_X4_takePlain_183 92 62 y0 y1 y2 y3 y4 σ) (RS σ) := by
  unfold f_X4_takePlain_183
  have lt_0 := li_0
  have lt_1 := li_1
  have lFU : ((FU : Nat) : Int) = 100000 := rfl
  refine OK.bndW (k_X4_addNode_92_62 _ _ _ _ _ _ hI (by first | exact hT | exact hI.r89 | (rw [Fr.rf.2.2.2]; exact hT))) Fr.rf (fun v1 s3 is3 fs3 h2 => ?_)
  dsimp only
  exact OK.sret is3 fs3

theorem k_X4_takePlain_183_92_74 (y0 : Int64) (y1 : Int32) (y2 : Int32) (y3 : Int32) (y4 : Int32) (σ : ST) (hI : IA σ) (hT : σ.2.2.2 92 = 74)  : OK (f_X4_takePlain_183 92 74 y0 y1 y2 y3 y4 σ) (RS σ) := by
  unfold f_X4_takePlain_183
  have lt_0 := li_0
  have lt_1 := li_1
  have lFU : ((FU : Nat) : Int) = 100000 := rfl
  refine OK.bndW (k_X4_addNode_92_74 _ _ _ _ _ _ hI (by first | exact hT | exact hI.r89 | (rw [Fr.rf.2.2.2]; exact hT))) Fr.rf (fun v1 s3 is3 fs3 h2 => ?_)
  dsimp only
  exact OK.sret is3 fs3

theorem k_X4_takePlain_159_89_50 (x2 : Int32) (x3 : Int32) (x4 : Int32) (x6 : Int32) (x7 : Int64) (y0 : Int32) (σ : ST) (hI : IA σ) (hT : σ.2.2.2 89 = 50)  : OK (f_X4_takePlain_159 89 50 x2 x3 x4 x6 x7 y0 σ) (RS σ) := by
  unfold f_X4_takePlain_159
  have lt_0 := li_0
  have lt_1 := li_1
  have lFU : ((FU : Nat) : Int) = 100000 := rfl
  refine OK.ieq (fun h1 => ?_) (fun h1 => ?_)
  · skip
    exact OK.trS (k_X4_takePlain_183_89_50 _ _ _ _ _ _ hI (by first | exact hT | exact hI.r89 | (rw [Fr.rf.2.2.2]; exact hT))) Fr.rf
  · skip
    refine OK.bndR (k_X10_bitsOfWhole _ _ hI ) (fun v2 h3 => ?_)
    dsimp only
    exact OK.trS (k_X4_takePlain_183_89_50 _ _ _ _ _ _ hI (by first | exact hT | exact hI.r89 | (rw [Fr.rf.2.2.2]; exact hT))) Fr.rf

theorem k_X4_takePlain_159_92_62 (x2 : Int32) (x3 : Int32) (x4 : Int32) (x6 : Int32) (x7 : Int64) (y0 : Int32) (σ : ST) (hI : IA σ) (hT : σ.2.2.2 92 = 62)  : OK (f_X4_takePlain_159 92 62 x2 x3 x4 x6 x7 y0 σ) (RS σ) := by
  unfold f_X4_takePlain_159
  have lt_0 := li_0
  have lt_1 := li_1
  have lFU : ((FU : Nat) : Int) = 100000 := rfl
  refine OK.ieq (fun h1 => ?_) (fun h1 => ?_)
  · skip
    exact OK.trS (k_X4_takePlain_183_92_62 _ _ _ _ _ _ hI (by first | exact hT | exact hI.r89 | (rw [Fr.rf.2.2.2]; exact hT))) Fr.rf
  · skip
    refine OK.bndR (k_X10_bitsOfWhole _ _ hI ) (fun v2 h3 => ?_)
    dsimp only
    exact OK.trS (k_X4_takePlain_183_92_62 _ _ _ _ _ _ hI (by first | exact hT | exact hI.r89 | (rw [Fr.rf.2.2.2]; exact hT))) Fr.rf

theorem k_X4_takePlain_159_92_74 (x2 : Int32) (x3 : Int32) (x4 : Int32) (x6 : Int32) (x7 : Int64) (y0 : Int32) (σ : ST) (hI : IA σ) (hT : σ.2.2.2 92 = 74)  : OK (f_X4_takePlain_159 92 74 x2 x3 x4 x6 x7 y0 σ) (RS σ) := by
  unfold f_X4_takePlain_159
  have lt_0 := li_0
  have lt_1 := li_1
  have lFU : ((FU : Nat) : Int) = 100000 := rfl
  refine OK.ieq (fun h1 => ?_) (fun h1 => ?_)
  · skip
    exact OK.trS (k_X4_takePlain_183_92_74 _ _ _ _ _ _ hI (by first | exact hT | exact hI.r89 | (rw [Fr.rf.2.2.2]; exact hT))) Fr.rf
  · skip
    refine OK.bndR (k_X10_bitsOfWhole _ _ hI ) (fun v2 h3 => ?_)
    dsimp only
    exact OK.trS (k_X4_takePlain_183_92_74 _ _ _ _ _ _ hI (by first | exact hT | exact hI.r89 | (rw [Fr.rf.2.2.2]; exact hT))) Fr.rf

theorem k_X4_takePlain_158_89_50 (x2 : Int32) (x3 : Int32) (x4 : Int32) (x6 : Int32) (x7 : Int64) (σ : ST) (hI : IA σ) (hT : σ.2.2.2 89 = 50)  : OK (f_X4_takePlain_158 89 50 x2 x3 x4 x6 x7 σ) (RS σ) := by
  unfold f_X4_takePlain_158
  have lt_0 := li_0
  have lt_1 := li_1
  have lFU : ((FU : Nat) : Int) = 100000 := rfl
  exact OK.trS (k_X4_takePlain_159_89_50 _ _ _ _ _ _ _ hI (by first | exact hT | exact hI.r89 | (rw [Fr.rf.2.2.2]; exact hT))) Fr.rf

theorem k_X4_takePlain_158_92_62 (x2 : Int32) (x3 : Int32) (x4 : Int32) (x6 : Int32) (x7 : Int64) (σ : ST) (hI : IA σ) (hT : σ.2.2.2 92 = 62)  : OK (f_X4_takePlain_158 92 62 x2 x3 x4 x6 x7 σ) (RS σ) := by
  unfold f_X4_takePlain_158
  have lt_0 := li_0
  have lt_1 := li_1
  have lFU : ((FU : Nat) : Int) = 100000 := rfl
  exact OK.trS (k_X4_takePlain_159_92_62 _ _ _ _ _ _ _ hI (by first | exact hT | exact hI.r89 | (rw [Fr.rf.2.2.2]; exact hT))) Fr.rf

theorem k_X4_takePlain_158_92_74 (x2 : Int32) (x3 : Int32) (x4 : Int32) (x6 : Int32) (x7 : Int64) (σ : ST) (hI : IA σ) (hT : σ.2.2.2 92 = 74)  : OK (f_X4_takePlain_158 92 74 x2 x3 x4 x6 x7 σ) (RS σ) := by
  unfold f_X4_takePlain_158
  have lt_0 := li_0
  have lt_1 := li_1
  have lFU : ((FU : Nat) : Int) = 100000 := rfl
  exact OK.trS (k_X4_takePlain_159_92_74 _ _ _ _ _ _ _ hI (by first | exact hT | exact hI.r89 | (rw [Fr.rf.2.2.2]; exact hT))) Fr.rf

theorem k_X4_takePlain_137_89_50 (x1 : Int32) (x2 : Int32) (x3 : Int32) (x4 : Int32) (x6 : Int32) (x7 : Int64) (σ : ST) (hI : IA σ) (hT : σ.2.2.2 89 = 50)  : OK (f_X4_takePlain_137 89 50 x1 x2 x3 x4 x6 x7 σ) (RS σ) := by
  unfold f_X4_takePlain_137
  have lt_0 := li_0
  have lt_1 := li_1
  have lt_4 := li_4
  have lFU : ((FU : Nat) : Int) = 100000 := rfl
  refine OK.ieq (fun h1 => ?_) (fun h1 => ?_)
  · skip
    exact OK.trS (k_X4_takePlain_158_89_50 _ _ _ _ _ _ hI (by first | exact hT | exact hI.r89 | (rw [Fr.rf.2.2.2]; exact hT))) Fr.rf
  · skip
    refine OK.bndR (k_X5_sortOf_4 _ _ hI ) (fun v2 h3 => ?_)
    dsimp only
    refine OK.ieq (fun h4 => ?_) (fun h4 => ?_)
    · skip
      exact OK.trS (k_X4_takePlain_159_89_50 _ _ _ _ _ _ _ hI (by first | exact hT | exact hI.r89 | (rw [Fr.rf.2.2.2]; exact hT))) Fr.rf
    · skip
      exact OK.trS (k_X4_takePlain_158_89_50 _ _ _ _ _ _ hI (by first | exact hT | exact hI.r89 | (rw [Fr.rf.2.2.2]; exact hT))) Fr.rf

theorem k_X4_takePlain_137_92_62 (x1 : Int32) (x2 : Int32) (x3 : Int32) (x4 : Int32) (x6 : Int32) (x7 : Int64) (σ : ST) (hI : IA σ) (hT : σ.2.2.2 92 = 62)  : OK (f_X4_takePlain_137 92 62 x1 x2 x3 x4 x6 x7 σ) (RS σ) := by
  unfold f_X4_takePlain_137
  have lt_0 := li_0
  have lt_1 := li_1
  have lt_4 := li_4
  have lFU : ((FU : Nat) : Int) = 100000 := rfl
  refine OK.ieq (fun h1 => ?_) (fun h1 => ?_)
  · skip
    exact OK.trS (k_X4_takePlain_158_92_62 _ _ _ _ _ _ hI (by first | exact hT | exact hI.r89 | (rw [Fr.rf.2.2.2]; exact hT))) Fr.rf
  · skip
    refine OK.bndR (k_X5_sortOf_4 _ _ hI ) (fun v2 h3 => ?_)
    dsimp only
    refine OK.ieq (fun h4 => ?_) (fun h4 => ?_)
    · skip
      exact OK.trS (k_X4_takePlain_159_92_62 _ _ _ _ _ _ _ hI (by first | exact hT | exact hI.r89 | (rw [Fr.rf.2.2.2]; exact hT))) Fr.rf
    · skip
      exact OK.trS (k_X4_takePlain_158_92_62 _ _ _ _ _ _ hI (by first | exact hT | exact hI.r89 | (rw [Fr.rf.2.2.2]; exact hT))) Fr.rf

theorem k_X4_takePlain_137_92_74 (x1 : Int32) (x2 : Int32) (x3 : Int32) (x4 : Int32) (x6 : Int32) (x7 : Int64) (σ : ST) (hI : IA σ) (hT : σ.2.2.2 92 = 74)  : OK (f_X4_takePlain_137 92 74 x1 x2 x3 x4 x6 x7 σ) (RS σ) := by
  unfold f_X4_takePlain_137
  have lt_0 := li_0
  have lt_1 := li_1
  have lt_4 := li_4
  have lFU : ((FU : Nat) : Int) = 100000 := rfl
  refine OK.ieq (fun h1 => ?_) (fun h1 => ?_)
  · skip
    exact OK.trS (k_X4_takePlain_158_92_74 _ _ _ _ _ _ hI (by first | exact hT | exact hI.r89 | (rw [Fr.rf.2.2.2]; exact hT))) Fr.rf
  · skip
    refine OK.bndR (k_X5_sortOf_4 _ _ hI ) (fun v2 h3 => ?_)
    dsimp only
    refine OK.ieq (fun h4 => ?_) (fun h4 => ?_)
    · skip
      exact OK.trS (k_X4_takePlain_159_92_74 _ _ _ _ _ _ _ hI (by first | exact hT | exact hI.r89 | (rw [Fr.rf.2.2.2]; exact hT))) Fr.rf
    · skip
      exact OK.trS (k_X4_takePlain_158_92_74 _ _ _ _ _ _ hI (by first | exact hT | exact hI.r89 | (rw [Fr.rf.2.2.2]; exact hT))) Fr.rf

theorem k_X4_takePlain_89_50 (p0 : Int32) (p1 : Int32) (p2 : Int32) (p3 : Int32) (σ : ST) (hI : IA σ) (hT : σ.2.2.2 89 = 50)  : OK (f_X4_takePlain 89 50 p0 p1 p2 p3 σ) (RS σ) := by
  unfold f_X4_takePlain
  have lt_0 := li_0
  have lt_1 := li_1
  have lt_2 := li_2
  have lt_3 := li_3
  have lt_4 := li_4
  have lt_5 := li_5
  have lt_12 := li_12
  have lFU : ((FU : Nat) : Int) = 100000 := rfl
  refine OK.ieq (fun h1 => ?_) (fun h1 => ?_)
  · skip
    refine OK.bndW (k_X4_takeByte_89_50 _ hI (by first | exact hT | exact hI.r89 | (rw [Fr.rf.2.2.2]; exact hT))) Fr.rf (fun v2 s4 is4 fs4 h3 => ?_)
    dsimp only
    refine OK.ile (fun h5 => ?_) (fun h5 => ?_)
    · skip
      exact OK.trS (k_X4_takePlain_137_89_50 _ _ _ _ _ _ _ is4 (by first | exact hT | exact hI.r89 | (rw [fs4.2.2.2]; exact hT))) fs4
    · skip
      refine OK.bndS (k_X4_fail_89_50 _ _ _ is4 (by first | exact hT | exact hI.r89 | (rw [fs4.2.2.2]; exact hT))) fs4 (fun s6 is6 fs6 => ?_)
      try dsimp only
      exact OK.trS (k_X4_takePlain_137_89_50 _ _ _ _ _ _ _ is6 (by first | exact hT | exact hI.r89 | (rw [fs6.2.2.2]; exact hT))) fs6
  · skip
    refine OK.ieq (fun h7 => ?_) (fun h7 => ?_)
    · skip
      refine OK.bndW (k_X4_takeNumber_89_50 _ _ hI (by first | exact hT | exact hI.r89 | (rw [Fr.rf.2.2.2]; exact hT))) Fr.rf (fun v8 s10 is10 fs10 h9 => ?_)
      dsimp only
      refine OK.ieq (fun h11 => ?_) (fun h11 => ?_)
      · skip
        refine OK.bndR (k_X10_isInt _ _ is10 ) (fun v12 h13 => ?_)
        dsimp only
        refine OK.ieq (fun h14 => ?_) (fun h14 => ?_)
        · skip
          refine OK.bndS (k_X4_fail_89_50 _ _ _ is10 (by first | exact hT | exact hI.r89 | (rw [fs10.2.2.2]; exact hT))) fs10 (fun s15 is15 fs15 => ?_)
          try dsimp only
          exact OK.trS (k_X4_takePlain_137_89_50 _ _ _ _ _ _ _ is15 (by first | exact hT | exact hI.r89 | (rw [fs15.2.2.2]; exact hT))) fs15
        · skip
          exact OK.trS (k_X4_takePlain_137_89_50 _ _ _ _ _ _ _ is10 (by first | exact hT | exact hI.r89 | (rw [fs10.2.2.2]; exact hT))) fs10
      · skip
        exact OK.trS (k_X4_takePlain_137_89_50 _ _ _ _ _ _ _ is10 (by first | exact hT | exact hI.r89 | (rw [fs10.2.2.2]; exact hT))) fs10
    · skip
      refine OK.ieq (fun h16 => ?_) (fun h16 => ?_)
      · skip
        refine OK.bndW (k_X4_takeNumber_89_50 _ _ hI (by first | exact hT | exact hI.r89 | (rw [Fr.rf.2.2.2]; exact hT))) Fr.rf (fun v17 s19 is19 fs19 h18 => ?_)
        dsimp only
        refine OK.ieq (fun h20 => ?_) (fun h20 => ?_)
        · skip
          refine OK.bndR (k_X10_isInt _ _ is19 ) (fun v21 h22 => ?_)
          dsimp only
          refine OK.ieq (fun h23 => ?_) (fun h23 => ?_)
          · skip
            refine OK.bndS (k_X4_fail_89_50 _ _ _ is19 (by first | exact hT | exact hI.r89 | (rw [fs19.2.2.2]; exact hT))) fs19 (fun s24 is24 fs24 => ?_)
            try dsimp only
            exact OK.trS (k_X4_takePlain_137_89_50 _ _ _ _ _ _ _ is24 (by first | exact hT | exact hI.r89 | (rw [fs24.2.2.2]; exact hT))) fs24
          · skip
            exact OK.trS (k_X4_takePlain_137_89_50 _ _ _ _ _ _ _ is19 (by first | exact hT | exact hI.r89 | (rw [fs19.2.2.2]; exact hT))) fs19
        · skip
          exact OK.trS (k_X4_takePlain_137_89_50 _ _ _ _ _ _ _ is19 (by first | exact hT | exact hI.r89 | (rw [fs19.2.2.2]; exact hT))) fs19
      · skip
        refine OK.ieq (fun h25 => ?_) (fun h25 => ?_)
        · skip
          refine OK.bndW (k_X4_takeReal_89_50 _ hI (by first | exact hT | exact hI.r89 | (rw [Fr.rf.2.2.2]; exact hT))) Fr.rf (fun v26 s28 is28 fs28 h27 => ?_)
          dsimp only
          exact OK.trS (k_X4_takePlain_137_89_50 _ _ _ _ _ _ _ is28 (by first | exact hT | exact hI.r89 | (rw [fs28.2.2.2]; exact hT))) fs28
        · skip
          refine OK.ieq (fun h29 => ?_) (fun h29 => ?_)
          · skip
            refine OK.bndW (k_X4_takeCount_89_50 _ _ _ hI (by first | exact hT | exact hI.r89 | (rw [Fr.rf.2.2.2]; exact hT))) Fr.rf (fun v30 s32 is32 fs32 h31 => ?_)
            dsimp only
            refine OK.bndW (k_X4_takeLetters_89_50 _ _ _ is32 (by first | exact hT | exact hI.r89 | (rw [fs32.2.2.2]; exact hT)) (show v30.toInt ≤ 12 from by omega)) fs32 (fun v33 s35 is35 fs35 h34 => ?_)
            dsimp only
            exact OK.trS (k_X4_takePlain_137_89_50 _ _ _ _ _ _ _ is35 (by first | exact hT | exact hI.r89 | (rw [fs35.2.2.2]; exact hT))) fs35
          · skip
            exact OK.trS (k_X4_takePlain_137_89_50 _ _ _ _ _ _ _ hI (by first | exact hT | exact hI.r89 | (rw [Fr.rf.2.2.2]; exact hT))) Fr.rf

theorem k_X4_takePlain_92_62 (p0 : Int32) (p1 : Int32) (p2 : Int32) (p3 : Int32) (σ : ST) (hI : IA σ) (hT : σ.2.2.2 92 = 62)  : OK (f_X4_takePlain 92 62 p0 p1 p2 p3 σ) (RS σ) := by
  unfold f_X4_takePlain
  have lt_0 := li_0
  have lt_1 := li_1
  have lt_2 := li_2
  have lt_3 := li_3
  have lt_4 := li_4
  have lt_5 := li_5
  have lt_12 := li_12
  have lFU : ((FU : Nat) : Int) = 100000 := rfl
  refine OK.ieq (fun h1 => ?_) (fun h1 => ?_)
  · skip
    refine OK.bndW (k_X4_takeByte_92_62 _ hI (by first | exact hT | exact hI.r89 | (rw [Fr.rf.2.2.2]; exact hT))) Fr.rf (fun v2 s4 is4 fs4 h3 => ?_)
    dsimp only
    refine OK.ile (fun h5 => ?_) (fun h5 => ?_)
    · skip
      exact OK.trS (k_X4_takePlain_137_92_62 _ _ _ _ _ _ _ is4 (by first | exact hT | exact hI.r89 | (rw [fs4.2.2.2]; exact hT))) fs4
    · skip
      refine OK.bndS (k_X4_fail_92_62 _ _ _ is4 (by first | exact hT | exact hI.r89 | (rw [fs4.2.2.2]; exact hT))) fs4 (fun s6 is6 fs6 => ?_)
      try dsimp only
      exact OK.trS (k_X4_takePlain_137_92_62 _ _ _ _ _ _ _ is6 (by first | exact hT | exact hI.r89 | (rw [fs6.2.2.2]; exact hT))) fs6
  · skip
    refine OK.ieq (fun h7 => ?_) (fun h7 => ?_)
    · skip
      refine OK.bndW (k_X4_takeNumber_92_62 _ _ hI (by first | exact hT | exact hI.r89 | (rw [Fr.rf.2.2.2]; exact hT))) Fr.rf (fun v8 s10 is10 fs10 h9 => ?_)
      dsimp only
      refine OK.ieq (fun h11 => ?_) (fun h11 => ?_)
      · skip
        refine OK.bndR (k_X10_isInt _ _ is10 ) (fun v12 h13 => ?_)
        dsimp only
        refine OK.ieq (fun h14 => ?_) (fun h14 => ?_)
        · skip
          refine OK.bndS (k_X4_fail_92_62 _ _ _ is10 (by first | exact hT | exact hI.r89 | (rw [fs10.2.2.2]; exact hT))) fs10 (fun s15 is15 fs15 => ?_)
          try dsimp only
          exact OK.trS (k_X4_takePlain_137_92_62 _ _ _ _ _ _ _ is15 (by first | exact hT | exact hI.r89 | (rw [fs15.2.2.2]; exact hT))) fs15
        · skip
          exact OK.trS (k_X4_takePlain_137_92_62 _ _ _ _ _ _ _ is10 (by first | exact hT | exact hI.r89 | (rw [fs10.2.2.2]; exact hT))) fs10
      · skip
        exact OK.trS (k_X4_takePlain_137_92_62 _ _ _ _ _ _ _ is10 (by first | exact hT | exact hI.r89 | (rw [fs10.2.2.2]; exact hT))) fs10
    · skip
      refine OK.ieq (fun h16 => ?_) (fun h16 => ?_)
      · skip
        refine OK.bndW (k_X4_takeNumber_92_62 _ _ hI (by first | exact hT | exact hI.r89 | (rw [Fr.rf.2.2.2]; exact hT))) Fr.rf (fun v17 s19 is19 fs19 h18 => ?_)
        dsimp only
        refine OK.ieq (fun h20 => ?_) (fun h20 => ?_)
        · skip
          refine OK.bndR (k_X10_isInt _ _ is19 ) (fun v21 h22 => ?_)
          dsimp only
          refine OK.ieq (fun h23 => ?_) (fun h23 => ?_)
          · skip
            refine OK.bndS (k_X4_fail_92_62 _ _ _ is19 (by first | exact hT | exact hI.r89 | (rw [fs19.2.2.2]; exact hT))) fs19 (fun s24 is24 fs24 => ?_)
            try dsimp only
            exact OK.trS (k_X4_takePlain_137_92_62 _ _ _ _ _ _ _ is24 (by first | exact hT | exact hI.r89 | (rw [fs24.2.2.2]; exact hT))) fs24
          · skip
            exact OK.trS (k_X4_takePlain_137_92_62 _ _ _ _ _ _ _ is19 (by first | exact hT | exact hI.r89 | (rw [fs19.2.2.2]; exact hT))) fs19
        · skip
          exact OK.trS (k_X4_takePlain_137_92_62 _ _ _ _ _ _ _ is19 (by first | exact hT | exact hI.r89 | (rw [fs19.2.2.2]; exact hT))) fs19
      · skip
        refine OK.ieq (fun h25 => ?_) (fun h25 => ?_)
        · skip
          refine OK.bndW (k_X4_takeReal_92_62 _ hI (by first | exact hT | exact hI.r89 | (rw [Fr.rf.2.2.2]; exact hT))) Fr.rf (fun v26 s28 is28 fs28 h27 => ?_)
          dsimp only
          exact OK.trS (k_X4_takePlain_137_92_62 _ _ _ _ _ _ _ is28 (by first | exact hT | exact hI.r89 | (rw [fs28.2.2.2]; exact hT))) fs28
        · skip
          refine OK.ieq (fun h29 => ?_) (fun h29 => ?_)
          · skip
            refine OK.bndW (k_X4_takeCount_92_62 _ _ _ hI (by first | exact hT | exact hI.r89 | (rw [Fr.rf.2.2.2]; exact hT))) Fr.rf (fun v30 s32 is32 fs32 h31 => ?_)
            dsimp only
            refine OK.bndW (k_X4_takeLetters_92_62 _ _ _ is32 (by first | exact hT | exact hI.r89 | (rw [fs32.2.2.2]; exact hT)) (show v30.toInt ≤ 12 from by omega)) fs32 (fun v33 s35 is35 fs35 h34 => ?_)
            dsimp only
            exact OK.trS (k_X4_takePlain_137_92_62 _ _ _ _ _ _ _ is35 (by first | exact hT | exact hI.r89 | (rw [fs35.2.2.2]; exact hT))) fs35
          · skip
            exact OK.trS (k_X4_takePlain_137_92_62 _ _ _ _ _ _ _ hI (by first | exact hT | exact hI.r89 | (rw [Fr.rf.2.2.2]; exact hT))) Fr.rf

theorem k_X4_takePlain_92_74 (p0 : Int32) (p1 : Int32) (p2 : Int32) (p3 : Int32) (σ : ST) (hI : IA σ) (hT : σ.2.2.2 92 = 74)  : OK (f_X4_takePlain 92 74 p0 p1 p2 p3 σ) (RS σ) := by
  unfold f_X4_takePlain
  have lt_0 := li_0
  have lt_1 := li_1
  have lt_2 := li_2
  have lt_3 := li_3
  have lt_4 := li_4
  have lt_5 := li_5
  have lt_12 := li_12
  have lFU : ((FU : Nat) : Int) = 100000 := rfl
  refine OK.ieq (fun h1 => ?_) (fun h1 => ?_)
  · skip
    refine OK.bndW (k_X4_takeByte_92_74 _ hI (by first | exact hT | exact hI.r89 | (rw [Fr.rf.2.2.2]; exact hT))) Fr.rf (fun v2 s4 is4 fs4 h3 => ?_)
    dsimp only
    refine OK.ile (fun h5 => ?_) (fun h5 => ?_)
    · skip
      exact OK.trS (k_X4_takePlain_137_92_74 _ _ _ _ _ _ _ is4 (by first | exact hT | exact hI.r89 | (rw [fs4.2.2.2]; exact hT))) fs4
    · skip
      refine OK.bndS (k_X4_fail_92_74 _ _ _ is4 (by first | exact hT | exact hI.r89 | (rw [fs4.2.2.2]; exact hT))) fs4 (fun s6 is6 fs6 => ?_)
      try dsimp only
      exact OK.trS (k_X4_takePlain_137_92_74 _ _ _ _ _ _ _ is6 (by first | exact hT | exact hI.r89 | (rw [fs6.2.2.2]; exact hT))) fs6
  · skip
    refine OK.ieq (fun h7 => ?_) (fun h7 => ?_)
    · skip
      refine OK.bndW (k_X4_takeNumber_92_74 _ _ hI (by first | exact hT | exact hI.r89 | (rw [Fr.rf.2.2.2]; exact hT))) Fr.rf (fun v8 s10 is10 fs10 h9 => ?_)
      dsimp only
      refine OK.ieq (fun h11 => ?_) (fun h11 => ?_)
      · skip
        refine OK.bndR (k_X10_isInt _ _ is10 ) (fun v12 h13 => ?_)
        dsimp only
        refine OK.ieq (fun h14 => ?_) (fun h14 => ?_)
        · skip
          refine OK.bndS (k_X4_fail_92_74 _ _ _ is10 (by first | exact hT | exact hI.r89 | (rw [fs10.2.2.2]; exact hT))) fs10 (fun s15 is15 fs15 => ?_)
          try dsimp only
          exact OK.trS (k_X4_takePlain_137_92_74 _ _ _ _ _ _ _ is15 (by first | exact hT | exact hI.r89 | (rw [fs15.2.2.2]; exact hT))) fs15
        · skip
          exact OK.trS (k_X4_takePlain_137_92_74 _ _ _ _ _ _ _ is10 (by first | exact hT | exact hI.r89 | (rw [fs10.2.2.2]; exact hT))) fs10
      · skip
        exact OK.trS (k_X4_takePlain_137_92_74 _ _ _ _ _ _ _ is10 (by first | exact hT | exact hI.r89 | (rw [fs10.2.2.2]; exact hT))) fs10
    · skip
      refine OK.ieq (fun h16 => ?_) (fun h16 => ?_)
      · skip
        refine OK.bndW (k_X4_takeNumber_92_74 _ _ hI (by first | exact hT | exact hI.r89 | (rw [Fr.rf.2.2.2]; exact hT))) Fr.rf (fun v17 s19 is19 fs19 h18 => ?_)
        dsimp only
        refine OK.ieq (fun h20 => ?_) (fun h20 => ?_)
        · skip
          refine OK.bndR (k_X10_isInt _ _ is19 ) (fun v21 h22 => ?_)
          dsimp only
          refine OK.ieq (fun h23 => ?_) (fun h23 => ?_)
          · skip
            refine OK.bndS (k_X4_fail_92_74 _ _ _ is19 (by first | exact hT | exact hI.r89 | (rw [fs19.2.2.2]; exact hT))) fs19 (fun s24 is24 fs24 => ?_)
            try dsimp only
            exact OK.trS (k_X4_takePlain_137_92_74 _ _ _ _ _ _ _ is24 (by first | exact hT | exact hI.r89 | (rw [fs24.2.2.2]; exact hT))) fs24
          · skip
            exact OK.trS (k_X4_takePlain_137_92_74 _ _ _ _ _ _ _ is19 (by first | exact hT | exact hI.r89 | (rw [fs19.2.2.2]; exact hT))) fs19
        · skip
          exact OK.trS (k_X4_takePlain_137_92_74 _ _ _ _ _ _ _ is19 (by first | exact hT | exact hI.r89 | (rw [fs19.2.2.2]; exact hT))) fs19
      · skip
        refine OK.ieq (fun h25 => ?_) (fun h25 => ?_)
        · skip
          refine OK.bndW (k_X4_takeReal_92_74 _ hI (by first | exact hT | exact hI.r89 | (rw [Fr.rf.2.2.2]; exact hT))) Fr.rf (fun v26 s28 is28 fs28 h27 => ?_)
          dsimp only
          exact OK.trS (k_X4_takePlain_137_92_74 _ _ _ _ _ _ _ is28 (by first | exact hT | exact hI.r89 | (rw [fs28.2.2.2]; exact hT))) fs28
        · skip
          refine OK.ieq (fun h29 => ?_) (fun h29 => ?_)
          · skip
            refine OK.bndW (k_X4_takeCount_92_74 _ _ _ hI (by first | exact hT | exact hI.r89 | (rw [Fr.rf.2.2.2]; exact hT))) Fr.rf (fun v30 s32 is32 fs32 h31 => ?_)
            dsimp only
            refine OK.bndW (k_X4_takeLetters_92_74 _ _ _ is32 (by first | exact hT | exact hI.r89 | (rw [fs32.2.2.2]; exact hT)) (show v30.toInt ≤ 12 from by omega)) fs32 (fun v33 s35 is35 fs35 h34 => ?_)
            dsimp only
            exact OK.trS (k_X4_takePlain_137_92_74 _ _ _ _ _ _ _ is35 (by first | exact hT | exact hI.r89 | (rw [fs35.2.2.2]; exact hT))) fs35
          · skip
            exact OK.trS (k_X4_takePlain_137_92_74 _ _ _ _ _ _ _ hI (by first | exact hT | exact hI.r89 | (rw [Fr.rf.2.2.2]; exact hT))) Fr.rf

theorem k_X10_letterOf_10 (σ : ST) (hI : IA σ)  : OK (f_X10_letterOf_10  σ) (RO σ fun v => v.toInt = 0 ∨ v.toInt = 1) := by
  unfold f_X10_letterOf_10
  have lt_0 := li_0
  have lt_1 := li_1
  have lFU : ((FU : Nat) : Int) = 100000 := rfl
  exact OK.roret (by first | trivial | omega | exact hI.flds _ | exact hI.dflds _ | exact hI.recs _ | exact hI.drecs _ | exact hI.droot _ | omega)

theorem k_X10_letterOf (p0 : Int64) (p1 : Int32) (σ : ST) (hI : IA σ)  : OK (f_X10_letterOf  p0 p1 σ) (RO σ fun v => True) := by
  unfold f_X10_letterOf
  have lt_0 := li_0
  have lt_1 := li_1
  have lt_5 := li_5
  have lt_12 := li_12
  have lt_31 := li_31
  have lt_63 := li_63
  have lFU : ((FU : Nat) : Int) = 100000 := rfl
  refine OK.ilt (fun h1 => ?_) (fun h1 => ?_)
  · skip
    exact OK.roq (k_X10_letterOf_10 _ hI ) (fun v hv => by first | trivial | omega | exact hI.flds _ | exact hI.dflds _ | exact hI.recs _ | exact hI.drecs _ | exact hI.droot _ | omega)
  · skip
    refine OK.ilt (fun h2 => ?_) (fun h2 => ?_)
    · skip
      exact OK.roret (by first | trivial | omega | exact hI.flds _ | exact hI.dflds _ | exact hI.recs _ | exact hI.drecs _ | exact hI.droot _ | omega)
    · skip
      exact OK.roq (k_X10_letterOf_10 _ hI ) (fun v hv => by first | trivial | omega | exact hI.flds _ | exact hI.dflds _ | exact hI.recs _ | exact hI.drecs _ | exact hI.droot _ | omega)

theorem k_X10_lettersIn_2 : ∀ (n : Nat) (x0 : Int64) (x2 : Int32) (σ : ST), IA σ → (0 ≤ x2.toInt ∧ x2.toInt ≤ 12 ∧ (12 : Int) - x2.toInt < n) → OK (f_X10_lettersIn_2  n x0 x2 σ) (RO σ fun v => 0 ≤ v.toInt ∧ v.toInt ≤ 12) := by
  intro n
  induction n with
  | zero =>
    intro x0 x2 σ hI hv
    omega
  | succ n ih =>
    intro x0 x2 σ hI hv
    rw [f_X10_lettersIn_2]
    have lt_0 := li_0
    have lt_1 := li_1
    have lt_12 := li_12
    have lFU : ((FU : Nat) : Int) = 100000 := rfl
    refine OK.ile (fun h1 => ?_) (fun h1 => ?_)
    · skip
      exact OK.roret (by first | trivial | omega | exact hI.flds _ | exact hI.dflds _ | exact hI.recs _ | exact hI.drecs _ | exact hI.droot _ | omega)
    · skip
      refine OK.bndR (k_X10_letterOf _ _ _ hI ) (fun v2 h3 => ?_)
      dsimp only
      refine OK.ieq (fun h4 => ?_) (fun h4 => ?_)
      · skip
        exact OK.roret (by first | trivial | omega | exact hI.flds _ | exact hI.dflds _ | exact hI.recs _ | exact hI.drecs _ | exact hI.droot _ | omega)
      · skip
        obtain ⟨a5k, a5, a5l, a5r⟩ := i_add x2 1
        try (refine k0el (k := a5k) ?_ (fun e0 => ?_); (focus omega); subst e0)
        exact OK.roq (ih _ _ _ hI (by omega)) (fun v hv => by first | trivial | omega | exact hI.flds _ | exact hI.dflds _ | exact hI.recs _ | exact hI.drecs _ | exact hI.droot _ | omega)

theorem k_X10_lettersIn (p0 : Int64) (σ : ST) (hI : IA σ)  : OK (f_X10_lettersIn  p0 σ) (RO σ fun v => 0 ≤ v.toInt ∧ v.toInt ≤ 12) := by
  unfold f_X10_lettersIn
  have lt_0 := li_0
  have lt_1 := li_1
  have lFU : ((FU : Nat) : Int) = 100000 := rfl
  exact OK.roq (k_X10_lettersIn_2 FU _ _ _ hI (by omega)) (fun v hv => by first | trivial | omega | exact hI.flds _ | exact hI.dflds _ | exact hI.recs _ | exact hI.drecs _ | exact hI.droot _ | omega)

theorem k_X5_elseWorth_4 (p0 : Int32) (p1 : Int32) (σ : ST) (hI : IA σ)  : OK (f_X5_elseWorth 4 p0 p1 σ) (RO σ fun v => True) := by
  unfold f_X5_elseWorth
  have lt_0 := li_0
  have lt_1 := li_1
  have lt_8 := li_8
  have lFU : ((FU : Nat) : Int) = 100000 := rfl
  refine OK.bndR (k_X5_isFieldOf _ _ _ hI ) (fun v1 h2 => ?_)
  dsimp only
  refine OK.ieq (fun h3 => ?_) (fun h3 => ?_)
  · skip
    exact OK.roret (by first | trivial | omega | exact hI.flds _ | exact hI.dflds _ | exact hI.recs _ | exact hI.drecs _ | exact hI.droot _ | omega)
  · skip
    obtain ⟨a4k, a4, a4l, a4r⟩ := i_mul p0 8
    rw [li_8] at a4
    try (refine k0el (k := a4k) ?_ (fun e0 => ?_); (focus omega); subst e0)
    obtain ⟨a5k, a5, a5l, a5r⟩ := i_add (p0 * 8) p1
    try (refine k0el (k := a5k) ?_ (fun e0 => ?_); (focus omega); subst e0)
    refine OK.grd ⟨by omega, by omega⟩ ?_
    exact OK.roret (by first | trivial | omega | exact hI.flds _ | exact hI.dflds _ | exact hI.recs _ | exact hI.drecs _ | exact hI.droot _ | omega)

theorem k_X5_firstChoice_4 (p0 : Int32) (σ : ST) (hI : IA σ)  : OK (f_X5_firstChoice 4 p0 σ) (RO σ fun v => True) := by
  unfold f_X5_firstChoice
  have lt_0 := li_0
  have lt_1 := li_1
  have lt_8 := li_8
  have lFU : ((FU : Nat) : Int) = 100000 := rfl
  refine OK.bndR (k_X5_sortOf_4 _ _ hI ) (fun v1 h2 => ?_)
  dsimp only
  refine OK.ieq (fun h3 => ?_) (fun h3 => ?_)
  · skip
    refine OK.bndR (k_X5_innerOf_4 _ _ hI ) (fun v4 h5 => ?_)
    dsimp only
    exact OK.roret (by first | trivial | omega | exact hI.flds _ | exact hI.dflds _ | exact hI.recs _ | exact hI.drecs _ | exact hI.droot _ | omega)
  · skip
    exact OK.roret (by first | trivial | omega | exact hI.flds _ | exact hI.dflds _ | exact hI.recs _ | exact hI.drecs _ | exact hI.droot _ | omega)

theorem k_X5_firstChoice_20 (p0 : Int32) (σ : ST) (hI : IA σ)  : OK (f_X5_firstChoice 20 p0 σ) (RO σ fun v => True) := by
  unfold f_X5_firstChoice
  have lt_0 := li_0
  have lt_1 := li_1
  have lt_8 := li_8
  have lFU : ((FU : Nat) : Int) = 100000 := rfl
  refine OK.bndR (k_X5_sortOf_20 _ _ hI ) (fun v1 h2 => ?_)
  dsimp only
  refine OK.ieq (fun h3 => ?_) (fun h3 => ?_)
  · skip
    refine OK.bndR (k_X5_innerOf_20 _ _ hI ) (fun v4 h5 => ?_)
    dsimp only
    exact OK.roret (by first | trivial | omega | exact hI.flds _ | exact hI.dflds _ | exact hI.recs _ | exact hI.drecs _ | exact hI.droot _ | omega)
  · skip
    exact OK.roret (by first | trivial | omega | exact hI.flds _ | exact hI.dflds _ | exact hI.recs _ | exact hI.drecs _ | exact hI.droot _ | omega)

theorem k_X7_setFilled_50 (p0 : Int32) (σ : ST) (hI : IA σ)  : OK (f_X7_setFilled 50 p0 σ) (RS σ) := by
  unfold f_X7_setFilled
  have lt_0 := li_0
  have lt_1 := li_1
  have lFU : ((FU : Nat) : Int) = 100000 := rfl
  have g50 := (hI.t50).1
  have g50b : 0 ≤ (σ.1 50 1).toInt ∧ (σ.1 50 1).toInt ≤ 400 := (hI.t50).2.1
  have g50n : ((ln7 50 : Nat) : Int) = 400 := rfl
  refine OK.bndR (k_X7_isRow_50 _ _ hI ) (fun v1 h2 => ?_)
  dsimp only
  refine OK.ieq (fun h3 => ?_) (fun h3 => ?_)
  · skip
    exact OK.sret hI Fr.rf
  · skip
    refine OK.grd ⟨by omega, by omega⟩ ?_
    exact OK.sret (ia_I_55 hI) (fr_I_55 Fr.rf)

theorem k_X7_setFilled_62 (p0 : Int32) (σ : ST) (hI : IA σ)  : OK (f_X7_setFilled 62 p0 σ) (RS σ) := by
  unfold f_X7_setFilled
  have lt_0 := li_0
  have lt_1 := li_1
  have lFU : ((FU : Nat) : Int) = 100000 := rfl
  have g62 := (hI.t62).1
  have g62b : 0 ≤ (σ.1 62 1).toInt ∧ (σ.1 62 1).toInt ≤ 502 := (hI.t62).2.1
  have g62n : ((ln7 62 : Nat) : Int) = 502 := rfl
  refine OK.bndR (k_X7_isRow_62 _ _ hI ) (fun v1 h2 => ?_)
  dsimp only
  refine OK.ieq (fun h3 => ?_) (fun h3 => ?_)
  · skip
    exact OK.sret hI Fr.rf
  · skip
    refine OK.grd ⟨by omega, by omega⟩ ?_
    exact OK.sret (ia_I_67 hI) (fr_I_67 Fr.rf)

theorem k_X7_setFilled_74 (p0 : Int32) (σ : ST) (hI : IA σ)  : OK (f_X7_setFilled 74 p0 σ) (RS σ) := by
  unfold f_X7_setFilled
  have lt_0 := li_0
  have lt_1 := li_1
  have lFU : ((FU : Nat) : Int) = 100000 := rfl
  have g74 := (hI.t74).1
  have g74b : 0 ≤ (σ.1 74 1).toInt ∧ (σ.1 74 1).toInt ≤ 400 := (hI.t74).2.1
  have g74n : ((ln7 74 : Nat) : Int) = 400 := rfl
  refine OK.bndR (k_X7_isRow_74 _ _ hI ) (fun v1 h2 => ?_)
  dsimp only
  refine OK.ieq (fun h3 => ?_) (fun h3 => ?_)
  · skip
    exact OK.sret hI Fr.rf
  · skip
    refine OK.grd ⟨by omega, by omega⟩ ?_
    exact OK.sret (ia_I_79 hI) (fr_I_79 Fr.rf)

theorem k_X4_fillIn_89_50 (p0 : Int32) (p1 : Int32) (p2 : Int32) (σ : ST) (hI : IA σ) (hT : σ.2.2.2 89 = 50)  : OK (f_X4_fillIn 89 50 p0 p1 p2 σ) (RS σ) := by
  unfold f_X4_fillIn
  have lt_0 := li_0
  have lt_1 := li_1
  have lt_5 := li_5
  have lFU : ((FU : Nat) : Int) = 100000 := rfl
  refine OK.bndR (k_X5_typeOf_4 _ _ _ hI ) (fun v1 h2 => ?_)
  dsimp only
  refine OK.bndR (k_X5_firstChoice_4 _ _ hI ) (fun v3 h4 => ?_)
  dsimp only
  refine OK.bndR (k_X5_elseWorth_4 _ _ _ hI ) (fun v5 h6 => ?_)
  dsimp only
  refine OK.bndR (k_X5_sortOf_4 _ _ hI ) (fun v7 h8 => ?_)
  dsimp only
  refine OK.ieq (fun h9 => ?_) (fun h9 => ?_)
  · skip
    refine OK.bndR (k_X10_lettersIn _ _ hI ) (fun v10 h11 => ?_)
    dsimp only
    unfold f_X4_fillIn_51
    try dsimp only
    refine OK.grd (by first | exact hT | (rw [Fr.rf.2.2.2]; exact hT)) ?_
    refine OK.bndW (k_X4_addNode_89_50 _ _ _ _ _ _ hI (by first | exact hT | exact hI.r89 | (rw [Fr.rf.2.2.2]; exact hT))) Fr.rf (fun v12 s14 is14 fs14 h13 => ?_)
    dsimp only
    refine OK.bndS (k_X7_setFilled_50 _ _ is14 ) fs14 (fun s15 is15 fs15 => ?_)
    try dsimp only
    exact OK.sret is15 fs15
  · skip
    unfold f_X4_fillIn_51
    try dsimp only
    refine OK.grd (by first | exact hT | (rw [Fr.rf.2.2.2]; exact hT)) ?_
    refine OK.bndW (k_X4_addNode_89_50 _ _ _ _ _ _ hI (by first | exact hT | exact hI.r89 | (rw [Fr.rf.2.2.2]; exact hT))) Fr.rf (fun v16 s18 is18 fs18 h17 => ?_)
    dsimp only
    refine OK.bndS (k_X7_setFilled_50 _ _ is18 ) fs18 (fun s19 is19 fs19 => ?_)
    try dsimp only
    exact OK.sret is19 fs19

theorem k_X4_fillIn_92_62 (p0 : Int32) (p1 : Int32) (p2 : Int32) (σ : ST) (hI : IA σ) (hT : σ.2.2.2 92 = 62)  : OK (f_X4_fillIn 92 62 p0 p1 p2 σ) (RS σ) := by
  unfold f_X4_fillIn
  have lt_0 := li_0
  have lt_1 := li_1
  have lt_5 := li_5
  have lFU : ((FU : Nat) : Int) = 100000 := rfl
  refine OK.bndR (k_X5_typeOf_4 _ _ _ hI ) (fun v1 h2 => ?_)
  dsimp only
  refine OK.bndR (k_X5_firstChoice_4 _ _ hI ) (fun v3 h4 => ?_)
  dsimp only
  refine OK.bndR (k_X5_elseWorth_4 _ _ _ hI ) (fun v5 h6 => ?_)
  dsimp only
  refine OK.bndR (k_X5_sortOf_4 _ _ hI ) (fun v7 h8 => ?_)
  dsimp only
  refine OK.ieq (fun h9 => ?_) (fun h9 => ?_)
  · skip
    refine OK.bndR (k_X10_lettersIn _ _ hI ) (fun v10 h11 => ?_)
    dsimp only
    unfold f_X4_fillIn_51
    try dsimp only
    refine OK.grd (by first | exact hT | (rw [Fr.rf.2.2.2]; exact hT)) ?_
    refine OK.bndW (k_X4_addNode_92_62 _ _ _ _ _ _ hI (by first | exact hT | exact hI.r89 | (rw [Fr.rf.2.2.2]; exact hT))) Fr.rf (fun v12 s14 is14 fs14 h13 => ?_)
    dsimp only
    refine OK.bndS (k_X7_setFilled_62 _ _ is14 ) fs14 (fun s15 is15 fs15 => ?_)
    try dsimp only
    exact OK.sret is15 fs15
  · skip
    unfold f_X4_fillIn_51
    try dsimp only
    refine OK.grd (by first | exact hT | (rw [Fr.rf.2.2.2]; exact hT)) ?_
    refine OK.bndW (k_X4_addNode_92_62 _ _ _ _ _ _ hI (by first | exact hT | exact hI.r89 | (rw [Fr.rf.2.2.2]; exact hT))) Fr.rf (fun v16 s18 is18 fs18 h17 => ?_)
    dsimp only
    refine OK.bndS (k_X7_setFilled_62 _ _ is18 ) fs18 (fun s19 is19 fs19 => ?_)
    try dsimp only
    exact OK.sret is19 fs19

theorem k_X4_fillIn_92_74 (p0 : Int32) (p1 : Int32) (p2 : Int32) (σ : ST) (hI : IA σ) (hT : σ.2.2.2 92 = 74)  : OK (f_X4_fillIn 92 74 p0 p1 p2 σ) (RS σ) := by
  unfold f_X4_fillIn
  have lt_0 := li_0
  have lt_1 := li_1
  have lt_5 := li_5
  have lFU : ((FU : Nat) : Int) = 100000 := rfl
  refine OK.bndR (k_X5_typeOf_4 _ _ _ hI ) (fun v1 h2 => ?_)
  dsimp only
  refine OK.bndR (k_X5_firstChoice_4 _ _ hI ) (fun v3 h4 => ?_)
  dsimp only
  refine OK.bndR (k_X5_elseWorth_4 _ _ _ hI ) (fun v5 h6 => ?_)
  dsimp only
  refine OK.bndR (k_X5_sortOf_4 _ _ hI ) (fun v7 h8 => ?_)
  dsimp only
  refine OK.ieq (fun h9 => ?_) (fun h9 => ?_)
  · skip
    refine OK.bndR (k_X10_lettersIn _ _ hI ) (fun v10 h11 => ?_)
    dsimp only
    unfold f_X4_fillIn_51
    try dsimp only
    refine OK.grd (by first | exact hT | (rw [Fr.rf.2.2.2]; exact hT)) ?_
    refine OK.bndW (k_X4_addNode_92_74 _ _ _ _ _ _ hI (by first | exact hT | exact hI.r89 | (rw [Fr.rf.2.2.2]; exact hT))) Fr.rf (fun v12 s14 is14 fs14 h13 => ?_)
    dsimp only
    refine OK.bndS (k_X7_setFilled_74 _ _ is14 ) fs14 (fun s15 is15 fs15 => ?_)
    try dsimp only
    exact OK.sret is15 fs15
  · skip
    unfold f_X4_fillIn_51
    try dsimp only
    refine OK.grd (by first | exact hT | (rw [Fr.rf.2.2.2]; exact hT)) ?_
    refine OK.bndW (k_X4_addNode_92_74 _ _ _ _ _ _ hI (by first | exact hT | exact hI.r89 | (rw [Fr.rf.2.2.2]; exact hT))) Fr.rf (fun v16 s18 is18 fs18 h17 => ?_)
    dsimp only
    refine OK.bndS (k_X7_setFilled_74 _ _ is18 ) fs18 (fun s19 is19 fs19 => ?_)
    try dsimp only
    exact OK.sret is19 fs19

theorem k_X4_findSources_3_89_50 : ∀ (n : Nat) (x1 : Int32) (x2 : Int32) (x3 : Int32) (x4 : Int32) (σ : ST), IA σ → σ.2.2.2 89 = 50 → (0 ≤ x4.toInt ∧ x4.toInt ≤ 8 ∧ (8 : Int) - x4.toInt < n) → OK (f_X4_findSources_3 89 50 n x1 x2 x3 x4 σ) (RS σ) := by
  intro n
  induction n with
  | zero =>
    intro x1 x2 x3 x4 σ hI hT hv
    omega
  | succ n ih =>
    intro x1 x2 x3 x4 σ hI hT hv
    rw [f_X4_findSources_3]
    have lt_0 := li_0
    have lt_1 := li_1
    have lt_8 := li_8
    have lt_31 := li_31
    have lFU : ((FU : Nat) : Int) = 100000 := rfl
    refine OK.bndR (k_X5_fieldsOf_4 _ _ hI ) (fun v1 h2 => ?_)
    dsimp only
    refine OK.ile (fun h3 => ?_) (fun h3 => ?_)
    · skip
      exact OK.sret hI Fr.rf
    · skip
      refine OK.ilt (fun h4 => ?_) (fun h4 => ?_)
      · skip
        unfold f_X4_findSources_56
        try dsimp only
        obtain ⟨a5k, a5, a5l, a5r⟩ := i_add x4 1
        try (refine k0el (k := a5k) ?_ (fun e0 => ?_); (focus omega); subst e0)
        exact OK.trS (ih _ _ _ _ _ hI (by first | exact hT | (rw [Fr.rf.2.2.2]; exact hT)) (by omega)) Fr.rf
      · skip
        refine OK.ile (fun h6 => ?_) (fun h6 => ?_)
        · skip
          unfold f_X4_findSources_56
          try dsimp only
          obtain ⟨a7k, a7, a7l, a7r⟩ := i_add x4 1
          try (refine k0el (k := a7k) ?_ (fun e0 => ?_); (focus omega); subst e0)
          exact OK.trS (ih _ _ _ _ _ hI (by first | exact hT | (rw [Fr.rf.2.2.2]; exact hT)) (by omega)) Fr.rf
        · skip
          refine OK.ile (fun h8 => ?_) (fun h8 => ?_)
          · skip
            unfold f_X4_findSources_56
            try dsimp only
            obtain ⟨a9k, a9, a9l, a9r⟩ := i_add x4 1
            try (refine k0el (k := a9k) ?_ (fun e0 => ?_); (focus omega); subst e0)
            exact OK.trS (ih _ _ _ _ _ hI (by first | exact hT | (rw [Fr.rf.2.2.2]; exact hT)) (by omega)) Fr.rf
          · skip
            refine OK.bndR (k_X5_sourceOf_4 _ _ _ _ hI ) (fun v10 h11 => ?_)
            dsimp only
            obtain ⟨a12k, a12, a12l, a12r⟩ := i_mul x3 8
            rw [li_8] at a12
            try (refine k0el (k := a12k) ?_ (fun e0 => ?_); (focus omega); subst e0)
            obtain ⟨a13k, a13, a13l, a13r⟩ := i_add (x3 * 8) x4
            try (refine k0el (k := a13k) ?_ (fun e0 => ?_); (focus omega); subst e0)
            refine OK.grd ⟨by omega, by omega⟩ ?_
            unfold f_X4_findSources_56
            try dsimp only
            obtain ⟨a14k, a14, a14l, a14r⟩ := i_add x4 1
            try (refine k0el (k := a14k) ?_ (fun e0 => ?_); (focus omega); subst e0)
            exact OK.trS (ih _ _ _ _ _ (ia_I_91 hI) (by first | exact hT | (rw [(fr_I_91 Fr.rf).2.2.2]; exact hT)) (by omega)) (fr_I_91 Fr.rf)

theorem k_X4_findSources_3_92_62 : ∀ (n : Nat) (x1 : Int32) (x2 : Int32) (x3 : Int32) (x4 : Int32) (σ : ST), IA σ → σ.2.2.2 92 = 62 → (0 ≤ x4.toInt ∧ x4.toInt ≤ 8 ∧ (8 : Int) - x4.toInt < n) → OK (f_X4_findSources_3 92 62 n x1 x2 x3 x4 σ) (RS σ) := by
  intro n
  induction n with
  | zero =>
    intro x1 x2 x3 x4 σ hI hT hv
    omega
  | succ n ih =>
    intro x1 x2 x3 x4 σ hI hT hv
    rw [f_X4_findSources_3]
    have lt_0 := li_0
    have lt_1 := li_1
    have lt_8 := li_8
    have lt_31 := li_31
    have lFU : ((FU : Nat) : Int) = 100000 := rfl
    refine OK.bndR (k_X5_fieldsOf_4 _ _ hI ) (fun v1 h2 => ?_)
    dsimp only
    refine OK.ile (fun h3 => ?_) (fun h3 => ?_)
    · skip
      exact OK.sret hI Fr.rf
    · skip
      refine OK.ilt (fun h4 => ?_) (fun h4 => ?_)
      · skip
        unfold f_X4_findSources_56
        try dsimp only
        obtain ⟨a5k, a5, a5l, a5r⟩ := i_add x4 1
        try (refine k0el (k := a5k) ?_ (fun e0 => ?_); (focus omega); subst e0)
        exact OK.trS (ih _ _ _ _ _ hI (by first | exact hT | (rw [Fr.rf.2.2.2]; exact hT)) (by omega)) Fr.rf
      · skip
        refine OK.ile (fun h6 => ?_) (fun h6 => ?_)
        · skip
          unfold f_X4_findSources_56
          try dsimp only
          obtain ⟨a7k, a7, a7l, a7r⟩ := i_add x4 1
          try (refine k0el (k := a7k) ?_ (fun e0 => ?_); (focus omega); subst e0)
          exact OK.trS (ih _ _ _ _ _ hI (by first | exact hT | (rw [Fr.rf.2.2.2]; exact hT)) (by omega)) Fr.rf
        · skip
          refine OK.ile (fun h8 => ?_) (fun h8 => ?_)
          · skip
            unfold f_X4_findSources_56
            try dsimp only
            obtain ⟨a9k, a9, a9l, a9r⟩ := i_add x4 1
            try (refine k0el (k := a9k) ?_ (fun e0 => ?_); (focus omega); subst e0)
            exact OK.trS (ih _ _ _ _ _ hI (by first | exact hT | (rw [Fr.rf.2.2.2]; exact hT)) (by omega)) Fr.rf
          · skip
            refine OK.bndR (k_X5_sourceOf_4 _ _ _ _ hI ) (fun v10 h11 => ?_)
            dsimp only
            obtain ⟨a12k, a12, a12l, a12r⟩ := i_mul x3 8
            rw [li_8] at a12
            try (refine k0el (k := a12k) ?_ (fun e0 => ?_); (focus omega); subst e0)
            obtain ⟨a13k, a13, a13l, a13r⟩ := i_add (x3 * 8) x4
            try (refine k0el (k := a13k) ?_ (fun e0 => ?_); (focus omega); subst e0)
            refine OK.grd ⟨by omega, by omega⟩ ?_
            unfold f_X4_findSources_56
            try dsimp only
            obtain ⟨a14k, a14, a14l, a14r⟩ := i_add x4 1
            try (refine k0el (k := a14k) ?_ (fun e0 => ?_); (focus omega); subst e0)
            exact OK.trS (ih _ _ _ _ _ (ia_I_94 hI) (by first | exact hT | (rw [(fr_I_94 Fr.rf).2.2.2]; exact hT)) (by omega)) (fr_I_94 Fr.rf)

theorem k_X4_findSources_3_92_74 : ∀ (n : Nat) (x1 : Int32) (x2 : Int32) (x3 : Int32) (x4 : Int32) (σ : ST), IA σ → σ.2.2.2 92 = 74 → (0 ≤ x4.toInt ∧ x4.toInt ≤ 8 ∧ (8 : Int) - x4.toInt < n) → OK (f_X4_findSources_3 92 74 n x1 x2 x3 x4 σ) (RS σ) := by
  intro n
  induction n with
  | zero =>
    intro x1 x2 x3 x4 σ hI hT hv
    omega
  | succ n ih =>
    intro x1 x2 x3 x4 σ hI hT hv
    rw [f_X4_findSources_3]
    have lt_0 := li_0
    have lt_1 := li_1
    have lt_8 := li_8
    have lt_31 := li_31
    have lFU : ((FU : Nat) : Int) = 100000 := rfl
    refine OK.bndR (k_X5_fieldsOf_4 _ _ hI ) (fun v1 h2 => ?_)
    dsimp only
    refine OK.ile (fun h3 => ?_) (fun h3 => ?_)
    · skip
      exact OK.sret hI Fr.rf
    · skip
      refine OK.ilt (fun h4 => ?_) (fun h4 => ?_)
      · skip
        unfold f_X4_findSources_56
        try dsimp only
        obtain ⟨a5k, a5, a5l, a5r⟩ := i_add x4 1
        try (refine k0el (k := a5k) ?_ (fun e0 => ?_); (focus omega); subst e0)
        exact OK.trS (ih _ _ _ _ _ hI (by first | exact hT | (rw [Fr.rf.2.2.2]; exact hT)) (by omega)) Fr.rf
      · skip
        refine OK.ile (fun h6 => ?_) (fun h6 => ?_)
        · skip
          unfold f_X4_findSources_56
          try dsimp only
          obtain ⟨a7k, a7, a7l, a7r⟩ := i_add x4 1
          try (refine k0el (k := a7k) ?_ (fun e0 => ?_); (focus omega); subst e0)
          exact OK.trS (ih _ _ _ _ _ hI (by first | exact hT | (rw [Fr.rf.2.2.2]; exact hT)) (by omega)) Fr.rf
        · skip
          refine OK.ile (fun h8 => ?_) (fun h8 => ?_)
          · skip
            unfold f_X4_findSources_56
            try dsimp only
            obtain ⟨a9k, a9, a9l, a9r⟩ := i_add x4 1
            try (refine k0el (k := a9k) ?_ (fun e0 => ?_); (focus omega); subst e0)
            exact OK.trS (ih _ _ _ _ _ hI (by first | exact hT | (rw [Fr.rf.2.2.2]; exact hT)) (by omega)) Fr.rf
          · skip
            refine OK.bndR (k_X5_sourceOf_4 _ _ _ _ hI ) (fun v10 h11 => ?_)
            dsimp only
            obtain ⟨a12k, a12, a12l, a12r⟩ := i_mul x3 8
            rw [li_8] at a12
            try (refine k0el (k := a12k) ?_ (fun e0 => ?_); (focus omega); subst e0)
            obtain ⟨a13k, a13, a13l, a13r⟩ := i_add (x3 * 8) x4
            try (refine k0el (k := a13k) ?_ (fun e0 => ?_); (focus omega); subst e0)
            refine OK.grd ⟨by omega, by omega⟩ ?_
            unfold f_X4_findSources_56
            try dsimp only
            obtain ⟨a14k, a14, a14l, a14r⟩ := i_add x4 1
            try (refine k0el (k := a14k) ?_ (fun e0 => ?_); (focus omega); subst e0)
            exact OK.trS (ih _ _ _ _ _ (ia_I_94 hI) (by first | exact hT | (rw [(fr_I_94 Fr.rf).2.2.2]; exact hT)) (by omega)) (fr_I_94 Fr.rf)
