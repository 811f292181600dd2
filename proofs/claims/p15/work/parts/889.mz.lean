/-! each call leaves what the class keeps of its matchings right -/
def KB2 (s σ : ST) : Prop := KTA s σ ∧ KM6 s σ
theorem KB2.rf {s : ST} : KB2 s s := ⟨KTA.rf, KM6.rf⟩
theorem KB2.i {s σ : ST} {c i : Nat} {v : Int32} (hc : c < 4 ∨ 48 ≤ c) (h : KB2 s σ) : KB2 s (stI σ c i v) := ⟨h.1.i (by omega), h.2.i (by omega)⟩
theorem pk1 {α : Type} {s : ST} {o : Option (α × ST)} (h : PF st1 (KTA s) o) (k : PF st1 (KM6 s) o) : PT o (fun q => KB2 s q.2) := fun q e => ⟨h q e, k q e⟩
theorem pk0 {s : ST} {o : Option ST} (h : PF st0 (KTA s) o) (k : PF st0 (KM6 s) o) : PT o (fun q => KB2 s q) := fun q e => ⟨h q e, k q e⟩
theorem MZ.frm {τ σ s : ST} (h : MZ τ σ) (k : KB2 σ s) : MZ τ s := h.to k.1 k.2.1 k.2.2
theorem pt_isNumber (p0 : Int32) (σ : ST) : PT (f_X1_isNumber p0 σ) (fun q => q.2 = σ ∧ (¬ q.1.toInt = 0 → 0 ≤ p0.toInt ∧ p0.toInt < 4)) := by
  unfold f_X1_isNumber
  have l0 := li_0
  have l4 := li_4
  refine PT.ilt (fun _ => PT.ret ⟨rfl, fun h => absurd l0 h⟩) (fun h1 => ?_)
  exact PT.ile (fun _ => PT.ret ⟨rfl, fun h => absurd l0 h⟩) (fun h2 => PT.ret ⟨rfl, fun _ => ⟨by omega, by omega⟩⟩)
theorem pt_isWritten (p0 : Int32) (σ : ST) : PT (f_X1_isWritten p0 σ) (fun q => q.2 = σ ∧ (¬ q.1.toInt = 0 → (0 ≤ p0.toInt ∧ p0.toInt < 4) ∧ ¬ σ.1 40 p0.toNatClampNeg = -1)) := by
  unfold f_X1_isWritten
  have l0 := li_0
  refine PT.bnd (pt_isNumber p0 σ) (fun q hq => ?_)
  obtain ⟨e, h⟩ := hq
  rw [e]
  refine PT.ieq (fun _ => PT.ret ⟨rfl, fun h => absurd l0 h⟩) (fun h1 => ?_)
  refine PT.grd (fun _ => ?_)
  exact PT.ite (fun _ => PT.ret ⟨rfl, fun h => absurd l0 h⟩) (fun h2 => PT.ret ⟨rfl, fun _ => ⟨h (by omega), h2⟩⟩)
theorem pt_planOf (p0 : Int32) (σ : ST) (h : 0 ≤ p0.toInt ∧ p0.toInt < 4) : PT (f_X1_planOf p0 σ) (fun q => q = (σ.1 40 p0.toNatClampNeg, σ)) := by
  unfold f_X1_planOf f_X1_isNumber
  have l0 := li_0
  have l4 := li_4
  rw [if_neg (by rw [Int32.lt_iff_toInt_lt]; omega), if_neg (by rw [Int32.le_iff_toInt_le]; omega), sbnd]
  dsimp only
  rw [if_neg n1_0]
  exact PT.grd (fun _ => PT.ret rfl)
theorem mz_store {τ σ : ST} (h : MZ τ σ) (p0 p1 : Int32) (hp : 0 ≤ p1.toInt ∧ p1.toInt < (τ.1 0 32).toInt) : PT (f_X1_store p0 p1 σ) (fun s => MZ τ s) := by
  unfold f_X1_store
  refine PT.bnd (pt_isNumber p0 σ) (fun q hq => ?_)
  rw [hq.1]
  refine PT.ite (fun _ => PT.ret h) (fun _ => ?_)
  refine PT.ite (fun _ => PT.ret h) (fun _ => ?_)
  refine PT.grd (fun _ => ?_)
  refine PT.lt (fun z hz => ?_)
  refine PT.grd (fun _ => PT.ret ?_)
  have kz : KTA σ z ∧ KM6 σ z := by
    rw [hz]
    exact ⟨KTA.rf.f (by omega), KM6.rf.f (by omega)⟩
  have k1 : KB2 σ (stI z 39 p0.toNatClampNeg (z.1 87 2)) := ⟨kz.1.i (by omega), kz.2.i (by omega)⟩
  have h1 := h.frm k1
  generalize stI z 39 p0.toNatClampNeg (z.1 87 2) = y at h1 ⊢
  obtain ⟨⟨c1, c2, c3⟩, ⟨c4, c5, c6⟩, c7⟩ := h1
  refine ⟨⟨c1, c2, c3⟩, ⟨c4.keep rfl c6.1.1 (KTA.rf.i (by omega)) KR.rf, c5, c6⟩, fun i hi => ?_⟩
  show -1 ≤ (upd (y.1 40) p0.toNatClampNeg p1 i).toInt ∧ (upd (y.1 40) p0.toNatClampNeg p1 i).toInt < _
  by_cases e : i = p0.toNatClampNeg
  · rw [e, upd_at]
    exact ⟨by omega, hp.2⟩
  · rw [upd_no e]
    exact c7 i hi
theorem MZ.pl {τ σ : ST} (h : MZ τ σ) (hc : σ.1 4 0 = τ.1 0 32) (p0 : Int32) : OK (f_X10_isPlan p0 σ) (RO σ fun v => v.toInt = 0 ∨ 0 ≤ p0.toInt ∧ p0.toInt < (τ.1 0 32).toInt) := (k2_isPlan p0 σ).roq (fun v hv => by
  have hci : (σ.1 4 0).toInt = (τ.1 0 32).toInt := by rw [hc]
  rcases hv with hv | hv
  · exact .inl hv.1
  · exact .inr ⟨hv.2.1, by omega⟩)
theorem mz_write {τ σ : ST} (h : MZ τ σ) (hc : σ.1 4 0 = τ.1 0 32) (p0 p1 p2 : Int32) : PT (f_X10_write p0 p1 p2 σ) (fun q => MZ τ q.2) := by
  unfold f_X10_write
  have l0 := li_0
  refine PT.bnd (pt_isNumber p0 σ) (fun q hq => ?_)
  rw [hq.1]
  refine PT.ite (fun _ => PT.ret h) (fun _ => ?_)
  refine PT.bndR (h.pl hc p1) (fun v hv => ?_)
  dsimp only
  refine PT.ieq (fun _ => PT.ret h) (fun hv0 => ?_)
  have hp : 0 ≤ p1.toInt ∧ p1.toInt < (τ.1 0 32).toInt := by
    rcases hv with hv | hv
    · omega
    · exact hv
  refine PT.ite (fun _ => PT.ret h) (fun _ => ?_)
  refine PT.ite (fun _ => ?_) (fun _ => PT.ret h)
  have k0 : KB2 σ (stI σ 0 1 0) := KB2.rf.i (by omega)
  refine PT.bnd (pk0 (w_X6_begin k0.1) (w6_X6_begin k0.2)) (fun s1 k1 => ?_)
  refine PT.bnd (pk1 (w_X5_rootType k1.1) (w6_X5_rootType k1.2)) (fun q7 k7 => ?_)
  refine PT.bnd (pk1 (w_X8_parse k7.1) (w6_X8_parse k7.2)) (fun q9 k9 => ?_)
  refine PT.ite (fun _ => ?_) (fun _ => ?_)
  · exact PT.bnd (pk1 (w_X6_faultAnswer k9.1) (w6_X6_faultAnswer k9.2)) (fun q k => PT.ret (h.frm k))
  refine PT.bnd (pk1 (w_X5_rootType k9.1) (w6_X5_rootType k9.2)) (fun q11 k11 => ?_)
  refine PT.bnd (pk0 (w_X2_pack k11.1) (w6_X2_pack k11.2)) (fun q13 k13 => ?_)
  refine PT.ite (fun _ => ?_) (fun _ => ?_)
  · exact PT.bnd (mz_store (h.frm k13) p0 p1 hp) (fun s hs => PT.ret hs)
  refine PT.bnd (pk1 (w_X6_refuse k13.1) (w6_X6_refuse k13.2)) (fun q17 k17 => ?_)
  exact PT.bnd (pk1 (w_X6_faultAnswer k17.1) (w6_X6_faultAnswer k17.2)) (fun q k => PT.ret (h.frm k))
theorem mz_run {τ σ : ST} (h : MZ τ σ) (b t : Nat) (hb : 48 ≤ b) (ht : 48 ≤ t) (p0 p1 : Int32) (h0 : 0 ≤ p0.toInt ∧ p0.toInt < 4) (hw : ¬ σ.1 40 p0.toNatClampNeg = -1) (h1 : 0 ≤ p1.toInt ∧ p1.toInt < (τ.1 0 32).toInt) : PT (f_X4_run b t p0 p1 σ) (fun q => MZ τ q.2 ∧ KTA σ q.2 ∧ q.2.1 40 = σ.1 40) := by
  unfold f_X4_run
  have lm := li_m1
  have n0 := nN_ h0.1
  have hm := h.2.2 p0.toNatClampNeg (by omega)
  have hm1 : ¬ (σ.1 40 p0.toNatClampNeg).toInt = -1 := fun e => hw (Int32.toInt_inj.mp (e.trans lm.symm))
  refine PT.bnd (pt_planOf p0 σ h0) (fun q1 hq1 => ?_)
  rw [hq1]
  dsimp only
  refine PT.grd (fun _ => ?_)
  have kr : KB2 σ (stR σ b t) := ⟨KTA.rf.r, KM6.rf.r⟩
  refine PT.bnd (pk0 (w_X7_clear (by omega) kr.1) (w6_X7_clear (by omega) kr.2)) (fun q4 k4 => ?_)
  have k4' : KB2 σ (stI (stI q4 b 4 p0) b 5 0) := (k4.i (by omega)).i (by omega)
  refine PT.bnd (pk1 (w_X1_sizeOf k4'.1) (w6_X1_sizeOf k4'.2)) (fun q6 k6 => ?_)
  have k6' : KB2 σ (stI (stI (stI q6.2 b 6 q6.1) b 7 0) b 10 0) := ((k6.i (by omega)).i (by omega)).i (by omega)
  generalize stI (stI (stI q6.2 b 6 q6.1) b 7 0) b 10 0 = y at k6'
  obtain ⟨p, ep⟩ : ∃ p : Nat, (σ.1 40 p0.toNatClampNeg).toInt = p := ⟨_, (Int.toNat_of_nonneg (by omega)).symm⟩
  obtain ⟨q, eq⟩ : ∃ q : Nat, p1.toInt = q := ⟨_, (Int.toNat_of_nonneg h1.1).symm⟩
  refine PT.bnd (at_turnTo (h.frm k6') ep eq (by omega) (by omega)) (fun q8 h8 => ?_)
  obtain ⟨kn, hz, _⟩ := h8
  have e40 : q8.1 40 = σ.1 40 := by
    rw [kn.1]
    exact k6'.2.1 40 (by decide)
  have kt8 : KTA σ q8 := fun c c1 c2 => ⟨(kn.kta c c1 c2).1.trans (k6'.1 c c1 c2).1, (kn.kta c c1 c2).2.trans (k6'.1 c c1 c2).2⟩
  have fin : ∀ s, KB2 q8 s → MZ τ s ∧ KTA σ s ∧ s.1 40 = σ.1 40 := fun s k => ⟨hz.frm k, fun c c1 c2 => ⟨(k.1 c c1 c2).1.trans (kt8 c c1 c2).1, (k.1 c c1 c2).2.trans (kt8 c c1 c2).2⟩, (k.2.1 40 (by decide)).trans e40⟩
  have k8 : KB2 q8 q8 := KB2.rf
  refine PT.bnd (pk1 (w_X0_rootsFit k8.1) (w6_X0_rootsFit k8.2)) (fun q10 k10 => ?_)
  refine PT.ite (fun _ => PT.ret (fin _ k10)) (fun _ => ?_)
  refine PT.bnd (pk1 (w_X5_rootType k10.1) (w6_X5_rootType k10.2)) (fun q12 k12 => ?_)
  refine PT.bnd (pk1 (w_X5_rootType k12.1) (w6_X5_rootType k12.2)) (fun q14 k14 => ?_)
  refine PT.bnd (pk0 (w_T_X4_take (by omega) (by omega) k14.1) (w6_T_X4_take (by omega) (by omega) k14.2)) (fun q16 k16 => ?_)
  have h129 : ∀ s, KB2 q8 s → PT (f_X4_run_129 b t s) (fun q => MZ τ q.2 ∧ KTA σ q.2 ∧ q.2.1 40 = σ.1 40) := fun s k => PT.mono (pk1 (w_X4_run_129 (by omega) k.1) (w6_X4_run_129 (by omega) k.2)) (fun q hq => fin _ hq)
  refine PT.ite (fun _ => ?_) (fun _ => h129 _ k16)
  refine PT.ite (fun _ => h129 _ k16) (fun _ => ?_)
  exact PT.bnd (pk0 (w_X4_fail (by omega) k16.1) (w6_X4_fail (by omega) k16.2)) (fun s k => h129 s k)
theorem mz_read {τ σ : ST} (h : MZ τ σ) (hc : σ.1 4 0 = τ.1 0 32) (p0 p1 : Int32) : PT (f_X10_read p0 p1 σ) (fun q => MZ τ q.2) := by
  unfold f_X10_read
  have l0 := li_0
  refine PT.bnd (pt_isWritten p0 σ) (fun q hq => ?_)
  obtain ⟨e, hw⟩ := hq
  rw [e]
  refine PT.ieq (fun _ => PT.ret h) (fun hq0 => ?_)
  obtain ⟨w1, w2⟩ := hw (by omega)
  refine PT.bndR (h.pl hc p1) (fun v hv => ?_)
  dsimp only
  refine PT.ieq (fun _ => PT.ret h) (fun hv0 => ?_)
  have hp : 0 ≤ p1.toInt ∧ p1.toInt < (τ.1 0 32).toInt := by
    rcases hv with hv | hv
    · omega
    · exact hv
  refine PT.bnd (pt_planOf p0 σ w1) (fun q5 h5 => ?_)
  rw [h5]
  dsimp only
  have k0 : KB2 σ σ := KB2.rf
  refine PT.bnd (pk0 (w_X9_use k0.1) (w6_X9_use k0.2)) (fun s k => ?_)
  exact PT.bnd (mz_run (h.frm k) 89 50 (by omega) (by omega) p0 p1 w1 (by rw [k.2.1 40 (by decide)]; exact w2) hp) (fun q hq => PT.ret hq.1)
theorem mz_convert {τ σ : ST} (h : MZ τ σ) (hc : σ.1 4 0 = τ.1 0 32) (p0 p1 p2 : Int32) : PT (f_X10_convert p0 p1 p2 σ) (fun q => MZ τ q.2) := by
  unfold f_X10_convert
  have l0 := li_0
  refine PT.bnd (pt_isWritten p0 σ) (fun q hq => ?_)
  obtain ⟨e, hw⟩ := hq
  rw [e]
  refine PT.ieq (fun _ => PT.ret h) (fun hq0 => ?_)
  obtain ⟨w1, w2⟩ := hw (by omega)
  refine PT.bndR (h.pl hc p1) (fun v hv => ?_)
  dsimp only
  refine PT.ieq (fun _ => PT.ret h) (fun hv0 => ?_)
  have hp : 0 ≤ p1.toInt ∧ p1.toInt < (τ.1 0 32).toInt := by
    rcases hv with hv | hv
    · omega
    · exact hv
  refine PT.bnd (pt_isNumber p2 σ) (fun q5 hq5 => ?_)
  rw [hq5.1]
  refine PT.ite (fun _ => PT.ret h) (fun _ => ?_)
  refine PT.bnd (pt_planOf p0 σ w1) (fun q7 h7 => ?_)
  rw [h7]
  dsimp only
  have k0 : KB2 σ σ := KB2.rf
  refine PT.bnd (pk0 (w_X9_use k0.1) (w6_X9_use k0.2)) (fun s k => ?_)
  refine PT.bnd (mz_run (h.frm k) 89 50 (by omega) (by omega) p0 p1 w1 (by rw [k.2.1 40 (by decide)]; exact w2) hp) (fun q11 hq11 => ?_)
  have h11 := hq11.1
  have k11 : KB2 q11.2 q11.2 := KB2.rf
  refine PT.ite (fun _ => ?_) (fun _ => PT.ret h11)
  refine PT.bnd (pk1 (w_X5_rootType k11.1) (w6_X5_rootType k11.2)) (fun q13 k13 => ?_)
  refine PT.bnd (pk0 (w_X2_pack k13.1) (w6_X2_pack k13.2)) (fun q15 k15 => ?_)
  refine PT.ite (fun _ => ?_) (fun _ => PT.ret (h11.frm k15))
  exact PT.bnd (mz_store (h11.frm k15) p2 p1 hp) (fun s hs => PT.ret hs)
theorem mz_alike {τ σ : ST} (h : MZ τ σ) (hc : σ.1 4 0 = τ.1 0 32) (p0 p1 p2 : Int32) : PT (f_X10_alike p0 p1 p2 σ) (fun q => MZ τ q.2) := by
  unfold f_X10_alike
  have l0 := li_0
  refine PT.bnd (pt_isWritten p0 σ) (fun q hq => ?_)
  obtain ⟨e, hw⟩ := hq
  rw [e]
  refine PT.ieq (fun _ => PT.ret h) (fun hq0 => ?_)
  obtain ⟨w1, w2⟩ := hw (by omega)
  refine PT.bnd (pt_isWritten p1 σ) (fun q3 hq3 => ?_)
  obtain ⟨e3, hw3⟩ := hq3
  rw [e3]
  refine PT.ieq (fun _ => PT.ret h) (fun hq0 => ?_)
  obtain ⟨w3, w4⟩ := hw3 (by omega)
  refine PT.bndR (h.pl hc p2) (fun v hv => ?_)
  dsimp only
  refine PT.ieq (fun _ => PT.ret h) (fun hv0 => ?_)
  have hp : 0 ≤ p2.toInt ∧ p2.toInt < (τ.1 0 32).toInt := by
    rcases hv with hv | hv
    · omega
    · exact hv
  refine PT.bnd (mz_run h 92 62 (by omega) (by omega) p0 p2 w1 w2 hp) (fun q7 h7 => ?_)
  refine PT.ite (fun _ => ?_) (fun _ => PT.ret h7.1)
  refine PT.bnd (mz_run h7.1 92 74 (by omega) (by omega) p1 p2 w3 (by rw [h7.2.2]; exact w4) hp) (fun q9 h9 => ?_)
  refine PT.ite (fun _ => ?_) (fun _ => PT.ret h9.1)
  have k9 : KB2 q9.2 q9.2 := KB2.rf
  refine PT.bnd (pk1 (w_X7_isLike k9.1) (w6_X7_isLike k9.2)) (fun q11 k11 => ?_)
  exact PT.ite (fun _ => PT.ret (h9.1.frm k11)) (fun _ => PT.ret (h9.1.frm k11))
theorem mz_miss {τ σ : ST} (h : MZ τ σ) (hc : σ.1 4 0 = τ.1 0 32) (p0 p1 p2 p3 : Int32) : PT (f_X10_miss p0 p1 p2 p3 σ) (fun q => MZ τ q.2) := by
  unfold f_X10_miss
  have l0 := li_0
  refine PT.bndR (h.pl hc p0) (fun v hv => ?_)
  dsimp only
  refine PT.ieq (fun _ => PT.ret h) (fun hv0 => ?_)
  refine PT.bndR (h.pl hc p1) (fun v2 hv2 => ?_)
  dsimp only
  refine PT.ieq (fun _ => PT.ret h) (fun hv20 => ?_)
  have hp : 0 ≤ p0.toInt ∧ p0.toInt < (τ.1 0 32).toInt := by
    rcases hv with hv | hv
    · omega
    · exact hv
  have hq : 0 ≤ p1.toInt ∧ p1.toInt < (τ.1 0 32).toInt := by
    rcases hv2 with hv | hv
    · omega
    · exact hv
  obtain ⟨p, ep⟩ : ∃ p : Nat, p0.toInt = p := ⟨_, (Int.toNat_of_nonneg hp.1).symm⟩
  obtain ⟨q, eq⟩ : ∃ q : Nat, p1.toInt = q := ⟨_, (Int.toNat_of_nonneg hq.1).symm⟩
  refine PT.bnd (at_find h ep eq (by omega) (by omega)) (fun s hs => ?_)
  have him : PT (f_X0_isMiss p2 s) (fun q => q.2 = s) := by
    unfold f_X0_isMiss
    refine PT.ite (fun _ => PT.ret rfl) (fun _ => ?_)
    refine PT.ite (fun _ => PT.ret rfl) (fun _ => ?_)
    exact PT.ite (fun _ => PT.ret rfl) (fun _ => PT.ret rfl)
  refine PT.ite (fun _ => PT.ret hs.1) (fun _ => ?_)
  refine PT.ite (fun _ => ?_) (fun _ => ?_)
  · have hk : PT (f_X0_missKind p2 s) (fun q => q.2 = s) := by
      unfold f_X0_missKind
      refine PT.bnd him (fun q hq => ?_)
      rw [hq]
      exact PT.ite (fun _ => PT.ret rfl) (fun _ => PT.grd (fun _ => PT.ret rfl))
    exact PT.bnd hk (fun q hq => PT.ret (by show MZ τ q.2; rw [hq]; exact hs.1))
  refine PT.ite (fun _ => ?_) (fun _ => PT.ret hs.1)
  have hk : PT (f_X0_missSteps p2 s) (fun q => q.2 = s) := by
    unfold f_X0_missSteps
    refine PT.bnd him (fun q hq => ?_)
    rw [hq]
    exact PT.ite (fun _ => PT.ret rfl) (fun _ => PT.grd (fun _ => PT.ret rfl))
  exact PT.bnd hk (fun q hq => PT.ret (by show MZ τ q.2; rw [hq]; exact hs.1))
theorem w6_L_byteAt {s : ST} {p0 p1 : Int32} {σ : ST} (h : KM6 s σ) : PF st1 (KM6 s) (f_L_byteAt p0 p1 σ) := by
  unfold f_L_byteAt
  refine PF.bnd (w6_X10_byteAt h) (fun q hq => ?_)
  cases q.1 with
  | none => exact PF.ret1 hq
  | some r => exact PF.ret1 (KM6.l (by omega) hq)
theorem w6_L_node {s : ST} {p0 p1 : Int32} {σ : ST} (h : KM6 s σ) : PF st1 (KM6 s) (f_L_node p0 p1 σ) := by
  unfold f_L_node
  refine PF.bnd (w6_X10_node h) (fun q hq => ?_)
  cases q.1 with
  | none => exact PF.ret1 hq
  | some r => exact PF.ret1 (KM6.l (by omega) hq)
theorem w6_L_letter {s : ST} {p0 p1 : Int32} {σ : ST} (h : KM6 s σ) : PF st1 (KM6 s) (f_L_letter p0 p1 σ) := by
  unfold f_L_letter
  refine PF.bnd (w6_X10_letter h) (fun q hq => ?_)
  cases q.1 with
  | none => exact PF.ret1 hq
  | some r => exact PF.ret1 (KM6.l (by omega) hq)
theorem w6_L_value {s : ST} {p0 : Int32} {σ : ST} (h : KM6 s σ) : PF st1 (KM6 s) (f_L_value p0 σ) := by
  unfold f_L_value
  refine PF.bnd (w6_X10_value h) (fun q hq => ?_)
  cases q.1 with
  | none => exact PF.ret1 hq
  | some r => exact PF.ret1 (KM6.l (by omega) hq)
theorem mz_fA (j : Nat) (h1 : j ≠ 1) (pr : Nat → Int32) {τ σ : ST} (h : MZ τ σ) (hc : σ.1 4 0 = τ.1 0 32) : PT (fA j pr σ) (fun q => MZ τ q.2) := by
  have k : KB2 σ σ := KB2.rf
  have go : ∀ {o : Option (Int32 × ST)}, PF st1 (KTA σ) o → PF st1 (KM6 σ) o → PT o (fun q => MZ τ q.2) := fun a b => (pk1 a b).mono (fun q hq => h.frm hq)
  match j, h1 with
  | 0, _ => exact go (w_X10_feed KTA.rf) (w6_X10_feed KM6.rf)
  | 2, _ => exact mz_write h hc _ _ _
  | 3, _ => exact go (w_X10_record KTA.rf) (w6_X10_record KM6.rf)
  | 4, _ => exact go (w_X10_field KTA.rf) (w6_X10_field KM6.rf)
  | 5, _ => exact go (w_X10_message KTA.rf) (w6_X10_message KM6.rf)
  | 6, _ => exact go (w_L_byteAt KTA.rf) (w6_L_byteAt KM6.rf)
  | 7, _ => exact go (w_X10_spoil KTA.rf) (w6_X10_spoil KM6.rf)
  | 8, _ => exact go (w_X10_cut KTA.rf) (w6_X10_cut KM6.rf)
  | 9, _ => exact (ab_matches h hc _ _).mono (fun q hq => hq.1)
  | 10, _ => exact mz_miss h hc _ _ _ _
  | 11, _ => exact (ab_missStep h hc _ _ _ _).mono (fun q hq => hq.1)
  | 12, _ => exact (ab_readers h hc _ _).mono (fun q hq => hq.1)
  | 13, _ => exact mz_read h hc _ _
  | 14, _ => exact go (w_X10_failure KTA.rf) (w6_X10_failure KM6.rf)
  | 15, _ => exact go (w_X10_failureStep KTA.rf) (w6_X10_failureStep KM6.rf)
  | 16, _ => exact go (w_L_node KTA.rf) (w6_L_node KM6.rf)
  | 17, _ => exact go (w_L_value KTA.rf) (w6_L_value KM6.rf)
  | 18, _ => exact go (w_L_letter KTA.rf) (w6_L_letter KM6.rf)
  | 19, _ => exact mz_convert h hc _ _ _
  | 20, _ => exact mz_alike h hc _ _ _
  | 21, _ => exact go (w_X10_kept KTA.rf) (w6_X10_kept KM6.rf)
  | 22, _ => exact go (w_X10_count KTA.rf) (w6_X10_count KM6.rf)
  | j + 23, _ => exact PT.ret h
/-! plans -/
theorem pt_fill (u : Nat) (v : Int32) (m : Nat) (hm : m ≤ 1000) : ∀ (f k : Nat) (x2 x3 : Int32) (σ : ST), x2.toInt = k → x3.toInt = m → (∀ i, i < k → σ.1 u i = v) → PT (f_J7_fill_53178_5 u f v x2 x3 σ) (fun t => (∀ i, i < m → t.1 u i = v) ∧ (∀ c, c ≠ u → t.1 c = σ.1 c) ∧ t.2 = σ.2) := by
  intro f
  have l1 := li_1
  induction f with
  | zero => intro k x2 x3 σ _ _ _; exact PT.none
  | succ f ih =>
    intro k x2 x3 σ h2 h3 hI
    rw [f_J7_fill_53178_5]
    refine PT.ile (fun h => PT.ret ⟨fun i hi => hI i (by omega), fun _ _ => rfl, rfl⟩) (fun h => ?_)
    refine PT.grd (fun _ => ?_)
    have n2 : x2.toNatClampNeg = k := nC h2
    have e2 := il_addE (x := x2) (y := 1) (by omega) (by omega)
    rw [n2]
    refine (ih (k + 1) (x2 + 1) x3 (stI σ u k v) (by omega) h3 (fun i hi => ?_)).mono (fun t ht => ⟨ht.1, fun c hc => (ht.2.1 c hc).trans (stI_ne hc), ht.2.2⟩)
    have e : (stI σ u k v).1 u = upd (σ.1 u) k v := by
      show (bif Nat.beq u u then upd (σ.1 u) k v else σ.1 u) = _
      rw [Nat.beq_refl]
      rfl
    rw [e]
    by_cases e9 : i = k
    · rw [e9, upd_at]
    · rw [upd_no e9]
      exact hI i (by omega)
/-- nothing is known of the matchings, nothing is written -/
def CLR (s : ST) : Prop := s.2.1 41 2 = 0 ∧ s.1 41 5 = -1 ∧ (∀ i, i < 36 → s.1 43 i = -1) ∧ ∀ i, i < 4 → s.1 40 i = -1
theorem CLR.to {s t : ST} (h : CLR s) (k : KM6 s t) : CLR t := by
  unfold CLR
  rw [k.2.1, k.1 41 (by decide), k.1 43 (by decide), k.1 40 (by decide)]
  exact h
theorem CLR.mz {τ σ : ST} (h : CLR σ) (h5 : T5 σ τ) (hD : DNs τ) (hI : IB τ) : MZ τ σ := by
  have b1 := hI.1.1.1
  have b2 := hI.1.1.2
  have lm := li_m1
  refine ⟨⟨fun p q hp hq hb => ?_, fun p q hp hq hn => ?_, fun p q hp hq hn => ?_⟩, ⟨h5, hD, hI⟩, fun i hi => ?_⟩
  · rw [h.1, lbt_0] at hb
    cases hb
  · exact absurd (h.2.2.1 _ (by omega)) hn
  · rw [h.2.1] at hn
    omega
  · rw [h.2.2.2 i hi]
    omega
theorem k7_plans (p0 : Int32) (σ : ST) (q : Int32 × ST) (h : f_X10_plans p0 σ = some q) (hr : 0 ≤ p0.toInt ∧ p0.toInt ≤ (σ.1 0 1).toInt) (s1 : ST) (r : Int32) (s2 : ST) (e1 : f_X6_begin p0 (stI σ 0 1 0) = some s1) (e2 : f_X3_parse s1 = some (r, s2)) : (r.toInt = 0 → KM6 σ q.2) ∧ (¬ r.toInt = 0 → CLR q.2) := by
  have l0 := li_0
  unfold f_X10_plans at h
  rw [if_neg (by rw [Int32.lt_iff_toInt_lt]; omega), if_pos (by rw [Int32.le_iff_toInt_le]; omega), e1, sbnd, e2, sbnd] at h
  dsimp only at h
  refine ⟨fun r0 => ?_, fun r1 => ?_⟩
  · rw [if_pos (Int32.toInt_inj.mp (r0.trans l0.symm))] at h
    obtain ⟨x, ex, h⟩ := bnd_some h
    cases h
    have k1 : KM6 σ s1 := w6_X6_begin (KM6.i (by omega) KM6.rf) s1 e1
    have k2 : KM6 σ s2 := w6_X3_parse k1 (r, s2) e2
    exact w6_X6_faultAnswer k2 x ex
  · rw [if_neg (fun e => r1 (by rw [e]; exact l0))] at h
    obtain ⟨c, ec, h⟩ := bnd_some h
    obtain ⟨d, ed, h⟩ := bnd_some h
    obtain ⟨x1, e3, h⟩ := bnd_some h
    obtain ⟨x2, e4, h⟩ := bnd_some h
    obtain ⟨x3, e5, h⟩ := bnd_some h
    obtain ⟨x4, e6, h⟩ := bnd_some h
    cases h
    have k3 : KM6 x2 x3 := w6_X9_clear KM6.rf x3 e5
    have k4 : KM6 x2 x4 := w6_X7_clear (by omega) k3 x4 e6
    refine CLR.to (s := x2) ?_ k4
    have f1 : PT (f_X1_clear d) (fun t => ∀ i, i < 4 → t.1 40 i = -1) := by
      unfold f_X1_clear f_J7_fill_53178
      exact PT.bnd ((pt_fill 40 (-1) 4 (by omega) FU 0 0 _ d li_0 (by decide) (fun i hi => by omega)).mono (fun t ht => ht.1)) (fun t ht => PT.ret ht)
    have g1 := f1 x1 e3
    have f2 : PT (f_X0_clear x1) (fun t => CLR t) := by
      unfold f_X0_clear f_J7_fill_53178
      refine PT.bnd (pt_fill 43 (-1) 36 (by omega) FU 0 0 _ (stL x1 41 2 0) li_0 (by decide) (fun i hi => by omega)) (fun t ht => PT.ret ?_)
      obtain ⟨t1, t2, t3⟩ := ht
      refine ⟨?_, rfl, t1, fun i hi => ?_⟩
      · show t.2.1 41 2 = 0
        rw [t3]
        exact stL_at
      · show t.1 40 i = -1
        rw [t2 40 (by omega)]
        exact g1 i hi
    exact f2 x2 e4
