/-! each call leaves what the class keeps of its matchings right -/
def KB2 (s σ : ST) : Prop := KTA s σ ∧ KM6 s σ
theorem KB2.rf {s : ST} : KB2 s s := ⟨KTA.rf, KM6.rf⟩
theorem KB2.i {s σ : ST} {c i : Nat} {v : Int32} (hc : c < 4 ∨ 48 ≤ c) (h : KB2 s σ) : KB2 s (stI σ c i v) := ⟨h.1.i (by omega), h.2.i (by omega)⟩
theorem pk1 {α : Type} {s : ST} {o : Option (α × ST)} (h : PF st1 (KTA s) o) (k : PF st1 (KM6 s) o) : PT o (fun q => KB2 s q.2) := fun q e => ⟨h q e, k q e⟩
theorem pk0 {s : ST} {o : Option ST} (h : PF st0 (KTA s) o) (k : PF st0 (KM6 s) o) : PT o (fun q => KB2 s q) := fun q e => ⟨h q e, k q e⟩
theorem MZ.frm {τ σ s : ST} (h : MZ τ σ) (k : KB2 σ s) : MZ τ s := h.to k.1 k.2.1 k.2.2
theorem pt_isNumber (p0 : Int32) (σ : ST) : PT (f_X1_isNumber p0 σ) (fun q => q.2 = σ ∧ (¬ q.1.toInt = 0 → 0 ≤ p0.toInt ∧ p0.toInt < 4)) := by
  unfold f_X1_isNumber
  have l0 := li_0
  have l4 := li_4
  refine PT.ilt (fun _ => PT.ret ⟨rfl, fun h => absurd l0 h⟩) (fun h1 => ?_)
  exact PT.ile (fun _ => PT.ret ⟨rfl, fun h => absurd l0 h⟩) (fun h2 => PT.ret ⟨rfl, fun _ => ⟨by omega, by omega⟩⟩)
theorem pt_isWritten (p0 : Int32) (σ : ST) : PT (f_X1_isWritten p0 σ) (fun q => q.2 = σ ∧ (¬ q.1.toInt = 0 → (0 ≤ p0.toInt ∧ p0.toInt < 4) ∧ ¬ σ.1 40 p0.toNatClampNeg = -1)) := by
  unfold f_X1_isWritten
  have l0 := li_0
  refine PT.bnd (pt_isNumber p0 σ) (fun q hq => ?_)
  obtain ⟨e, h⟩ := hq
  rw [e]
  refine PT.ieq (fun _ => PT.ret ⟨rfl, fun h => absurd l0 h⟩) (fun h1 => ?_)
  refine PT.grd (fun _ => ?_)
  exact PT.ite (fun _ => PT.ret ⟨rfl, fun h => absurd l0 h⟩) (fun h2 => PT.ret ⟨rfl, fun _ => ⟨h (by omega), h2⟩⟩)
theorem pt_planOf (p0 : Int32) (σ : ST) (h : 0 ≤ p0.toInt ∧ p0.toInt < 4) : PT (f_X1_planOf p0 σ) (fun q => q = (σ.1 40 p0.toNatClampNeg, σ)) := by
  unfold f_X1_planOf f_X1_isNumber
  have l0 := li_0
  have l4 := li_4
  rw [if_neg (by rw [Int32.lt_iff_toInt_lt]; omega), if_neg (by rw [Int32.le_iff_toInt_le]; omega), sbnd]
  dsimp only
  rw [if_neg n1_0]
  exact PT.grd (fun _ => PT.ret rfl)
theorem mz_store {τ σ : ST} (h : MZ τ σ) (p0 p1 : Int32) (hp : 0 ≤ p1.toInt ∧ p1.toInt < (τ.1 0 32).toInt) : PT (f_X1_store p0 p1 σ) (fun s => MZ τ s) := by
  unfold f_X1_store
  refine PT.bnd (pt_isNumber p0 σ) (fun q hq => ?_)
  rw [hq.1]
  refine PT.ite (fun _ => PT.ret h) (fun _ => ?_)
  refine PT.ite (fun _ => PT.ret h) (fun _ => ?_)
  refine PT.grd (fun _ => ?_)
  refine PT.lt (fun z hz => ?_)
  refine PT.grd (fun _ => PT.ret ?_)
  have kz : KTA σ z ∧ KM6 σ z := by
    rw [hz]
    exact ⟨KTA.rf.f (by omega), KM6.rf.f (by omega)⟩
  have k1 : KB2 σ (stI z 39 p0.toNatClampNeg (z.1 87 2)) := ⟨kz.1.i (by omega), kz.2.i (by omega)⟩
  have h1 := h.frm k1
  generalize stI z 39 p0.toNatClampNeg (z.1 87 2) = y at h1 ⊢
  obtain ⟨⟨c1, c2, c3⟩, ⟨c4, c5, c6⟩, c7⟩ := h1
  refine ⟨⟨c1, c2, c3⟩, ⟨c4.keep rfl c6.1.1 (KTA.rf.i (by omega)) KR.rf, c5, c6⟩, fun i hi => ?_⟩
  show -1 ≤ (upd (y.1 40) p0.toNatClampNeg p1 i).toInt ∧ (upd (y.1 40) p0.toNatClampNeg p1 i).toInt < _
  by_cases e : i = p0.toNatClampNeg
  · rw [e, upd_at]
    exact ⟨by omega, hp.2⟩
  · rw [upd_no e]
    exact c7 i hi
theorem MZ.pl {τ σ : ST} (h : MZ τ σ) (hc : σ.1 4 0 = τ.1 0 32) (p0 : Int32) : OK (f_X10_isPlan p0 σ) (RO σ fun v => v.toInt = 0 ∨ 0 ≤ p0.toInt ∧ p0.toInt < (τ.1 0 32).toInt) := (k2_isPlan p0 σ).roq (fun v hv => by
  have hci : (σ.1 4 0).toInt = (τ.1 0 32).toInt := by rw [hc]
  rcases hv with hv | hv
  · exact .inl hv.1
  · exact .inr ⟨hv.2.1, by omega⟩)
theorem mz_write {τ σ : ST} (h : MZ τ σ) (hc : σ.1 4 0 = τ.1 0 32) (p0 p1 p2 : Int32) : PT (f_X10_write p0 p1 p2 σ) (fun q => MZ τ q.2) := by
  unfold f_X10_write
  have l0 := li_0
  refine PT.bnd (pt_isNumber p0 σ) (fun q hq => ?_)
  rw [hq.1]
  refine PT.ite (fun _ => PT.ret h) (fun _ => ?_)
  refine PT.bndR (h.pl hc p1) (fun v hv => ?_)
  dsimp only
  refine PT.ieq (fun _ => PT.ret h) (fun hv0 => ?_)
  have hp : 0 ≤ p1.toInt ∧ p1.toInt < (τ.1 0 32).toInt := by
    rcases hv with hv | hv
    · omega
    · exact hv
  refine PT.ite (fun _ => PT.ret h) (fun _ => ?_)
  refine PT.ite (fun _ => ?_) (fun _ => PT.ret h)
  have k0 : KB2 σ (stI σ 0 1 0) := KB2.rf.i (by omega)
  refine PT.bnd (pk0 (w_X6_begin k0.1) (w6_X6_begin k0.2)) (fun s1 k1 => ?_)
  refine PT.bnd (pk1 (w_X5_rootType k1.1) (w6_X5_rootType k1.2)) (fun q7 k7 => ?_)
  refine PT.bnd (pk1 (w_X8_parse k7.1) (w6_X8_parse k7.2)) (fun q9 k9 => ?_)
  refine PT.ite (fun _ => ?_) (fun _ => ?_)
  · exact PT.bnd (pk1 (w_X6_faultAnswer k9.1) (w6_X6_faultAnswer k9.2)) (fun q k => PT.ret (h.frm k))
  refine PT.bnd (pk1 (w_X5_rootType k9.1) (w6_X5_rootType k9.2)) (fun q11 k11 => ?_)
  refine PT.bnd (pk0 (w_X2_pack k11.1) (w6_X2_pack k11.2)) (fun q13 k13 => ?_)
  refine PT.ite (fun _ => ?_) (fun _ => ?_)
  · exact PT.bnd (mz_store (h.frm k13) p0 p1 hp) (fun s hs => PT.ret hs)
  refine PT.bnd (pk1 (w_X6_refuse k13.1) (w6_X6_refuse k13.2)) (fun q17 k17 => ?_)
  exact PT.bnd (pk1 (w_X6_faultAnswer k17.1) (w6_X6_faultAnswer k17.2)) (fun q k => PT.ret (h.frm k))
theorem mz_run {τ σ : ST} (h : MZ τ σ) (b t : Nat) (hb : 48 ≤ b) (ht : 48 ≤ t) (p0 p1 : Int32) (h0 : 0 ≤ p0.toInt ∧ p0.toInt < 4) (hw : ¬ σ.1 40 p0.toNatClampNeg = -1) (h1 : 0 ≤ p1.toInt ∧ p1.toInt < (τ.1 0 32).toInt) : PT (f_X4_run b t p0 p1 σ) (fun q => MZ τ q.2 ∧ KTA σ q.2 ∧ q.2.1 40 = σ.1 40) := by
  unfold f_X4_run
  have lm := li_m1
  have n0 := nN_ h0.1
  have hm := h.2.2 p0.toNatClampNeg (by omega)
  have hm1 : ¬ (σ.1 40 p0.toNatClampNeg).toInt = -1 := fun e => hw (Int32.toInt_inj.mp (e.trans lm.symm))
  refine PT.bnd (pt_planOf p0 σ h0) (fun q1 hq1 => ?_)
  rw [hq1]
  dsimp only
  refine PT.grd (fun _ => ?_)
  have kr : KB2 σ (stR σ b t) := ⟨KTA.rf.r, KM6.rf.r⟩
  refine PT.bnd (pk0 (w_X7_clear (by omega) kr.1) (w6_X7_clear (by omega) kr.2)) (fun q4 k4 => ?_)
  have k4' : KB2 σ (stI (stI q4 b 4 p0) b 5 0) := (k4.i (by omega)).i (by omega)
  refine PT.bnd (pk1 (w_X1_sizeOf k4'.1) (w6_X1_sizeOf k4'.2)) (fun q6 k6 => ?_)
  have k6' : KB2 σ (stI (stI (stI q6.2 b 6 q6.1) b 7 0) b 10 0) := ((k6.i (by omega)).i (by omega)).i (by omega)
  generalize stI (stI (stI q6.2 b 6 q6.1) b 7 0) b 10 0 = y at k6'
  obtain ⟨p, ep⟩ : ∃ p : Nat, (σ.1 40 p0.toNatClampNeg).toInt = p := ⟨_, (Int.toNat_of_nonneg (by omega)).symm⟩
  obtain ⟨q, eq⟩ : ∃ q : Nat, p1.toInt = q := ⟨_, (Int.toNat_of_nonneg h1.1).symm⟩
  refine PT.bnd (at_turnTo (h.frm k6') ep eq (by omega) (by omega)) (fun q8 h8 => ?_)
  obtain ⟨kn, hz, _⟩ := h8
  have e40 : q8.1 40 = σ.1 40 := by
    rw [kn.1]
    exact k6'.2.1 40 (by decide)
  have kt8 : KTA σ q8 := fun c c1 c2 => ⟨(kn.kta c c1 c2).1.trans (k6'.1 c c1 c2).1, (kn.kta c c1 c2).2.trans (k6'.1 c c1 c2).2⟩
  have fin : ∀ s, KB2 q8 s → MZ τ s ∧ KTA σ s ∧ s.1 40 = σ.1 40 := fun s k => ⟨hz.frm k, fun c c1 c2 => ⟨(k.1 c c1 c2).1.trans (kt8 c c1 c2).1, (k.1 c c1 c2).2.trans (kt8 c c1 c2).2⟩, (k.2.1 40 (by decide)).trans e40⟩
  have k8 : KB2 q8 q8 := KB2.rf
  refine PT.bnd (pk1 (w_X0_rootsFit k8.1) (w6_X0_rootsFit k8.2)) (fun q10 k10 => ?_)
  refine PT.ite (fun _ => PT.ret (fin _ k10)) (fun _ => ?_)
  refine PT.bnd (pk1 (w_X5_rootType k10.1) (w6_X5_rootType k10.2)) (fun q12 k12 => ?_)
  refine PT.bnd (pk1 (w_X5_rootType k12.1) (w6_X5_rootType k12.2)) (fun q14 k14 => ?_)
  refine PT.bnd (pk0 (w_T_X4_take (by omega) (by omega) k14.1) (w6_T_X4_take (by omega) (by omega) k14.2)) (fun q16 k16 => ?_)
  have h129 : ∀ s, KB2 q8 s → PT (f_X4_run_129 b t s) (fun q => MZ τ q.2 ∧ KTA σ q.2 ∧ q.2.1 40 = σ.1 40) := fun s k => PT.mono (pk1 (w_X4_run_129 (by omega) k.1) (w6_X4_run_129 (by omega) k.2)) (fun q hq => fin _ hq)
  refine PT.ite (fun _ => ?_) (fun _ => h129 _ k16)
  refine PT.ite (fun _ => h129 _ k16) (fun _ => ?_)
  exact PT.bnd (pk0 (w_X4_fail (by omega) k16.1) (w6_X4_fail (by omega) k16.2)) (fun s k => h129 s k)
theorem mz_read {τ σ : ST} (h : MZ τ σ) (hc : σ.1 4 0 = τ.1 0 32) (p0 p1 : Int32) : PT (f_X10_read p0 p1 σ) (fun q => MZ τ q.2) := by
  unfold f_X10_read
  have l0 := li_0
  refine PT.bnd (pt_isWritten p0 σ) (fun q hq => ?_)
  obtain ⟨e, hw⟩ := hq
  rw [e]
  refine PT.ieq (fun _ => PT.ret h) (fun hq0 => ?_)
  obtain ⟨w1, w2⟩ := hw (by omega)
  refine PT.bndR (h.pl hc p1) (fun v hv => ?_)
  dsimp only
  refine PT.ieq (fun _ => PT.ret h) (fun hv0 => ?_)
  have hp : 0 ≤ p1.toInt ∧ p1.toInt < (τ.1 0 32).toInt := by
    rcases hv with hv | hv
    · omega
    · exact hv
  refine PT.bnd (pt_planOf p0 σ w1) (fun q5 h5 => ?_)
  rw [h5]
  dsimp only
  have k0 : KB2 σ σ := KB2.rf
  refine PT.bnd (pk0 (w_X9_use k0.1) (w6_X9_use k0.2)) (fun s k => ?_)
  exact PT.bnd (mz_run (h.frm k) 89 50 (by omega) (by omega) p0 p1 w1 (by rw [k.2.1 40 (by decide)]; exact w2) hp) (fun q hq => PT.ret hq.1)
theorem mz_convert {τ σ : ST} (h : MZ τ σ) (hc : σ.1 4 0 = τ.1 0 32) (p0 p1 p2 : Int32) : PT (f_X10_convert p0 p1 p2 σ) (fun q => MZ τ q.2) := by
  unfold f_X10_convert
  have l0 := li_0
  refine PT.bnd (pt_isWritten p0 σ) (fun q hq => ?_)
  obtain ⟨e, hw⟩ := hq
  rw [e]
  refine PT.ieq (fun _ => PT.ret h) (fun hq0 => ?_)
  obtain ⟨w1, w2⟩ := hw (by omega)
  refine PT.bndR (h.pl hc p1) (fun v hv => ?_)
  dsimp only
  refine PT.ieq (fun _ => PT.ret h) (fun hv0 => ?_)
  have hp : 0 ≤ p1.toInt ∧ p1.toInt < (τ.1 0 32).toInt := by
    rcases hv with hv | hv
    · omega
    · exact hv
  refine PT.bnd (pt_isNumber p2 σ) (fun q5 hq5 => ?_)
  rw [hq5.1]
  refine PT.ite (fun _ => PT.ret h) (fun _ => ?_)
  refine PT.bnd (pt_planOf p0 σ w1) (fun q7 h7 => ?_)
  rw [h7]
  dsimp only
  have k0 : KB2 σ σ := KB2.rf
  refine PT.bnd (pk0 (w_X9_use k0.1) (w6_X9_use k0.2)) (fun s k => ?_)
  refine PT.bnd (mz_run (h.frm k) 89 50 (by omega) (by omega) p0 p1 w1 (by rw [k.2.1 40 (by decide)]; exact w2) hp) (fun q11 hq11 => ?_)
  have h11 := hq11.1
  have k11 : KB2 q11.2 q11.2 := KB2.rf
  refine PT.ite (fun _ => ?_) (fun _ => PT.ret h11)
  refine PT.bnd (pk1 (w_X5_rootType k11.1) (w6_X5_rootType k11.2)) (fun q13 k13 => ?_)
  refine PT.bnd (pk0 (w_X2_pack k13.1) (w6_X2_pack k13.2)) (fun q15 k15 => ?_)
  refine PT.ite (fun _ => ?_) (fun _ => PT.ret (h11.frm k15))
  exact PT.bnd (mz_store (h11.frm k15) p2 p1 hp) (fun s hs => PT.ret hs)
theorem mz_alike {τ σ : ST} (h : MZ τ σ) (hc : σ.1 4 0 = τ.1 0 32) (p0 p1 p2 : Int32) : PT (f_X10_alike p0 p1 p2 σ) (fun q => MZ τ q.2) := by
  unfold f_X10_alike
  have l0 := li_0
  refine PT.bnd (pt_isWritten p0 σ) (fun q hq => ?_)
  obtain ⟨e, hw⟩ := hq
  rw [e]
  refine PT.ieq (fun _ => PT.ret h) (fun hq0 => ?_)
  obtain ⟨w1, w2⟩ := hw (by omega)
  refine PT.bnd (pt_isWritten p1 σ) (fun q3 hq3 => ?_)
  obtain ⟨e3, hw3⟩ := hq3
  rw [e3]
  refine PT.ieq (fun _ => PT.ret h) (fun hq0 => ?_)
  obtain ⟨w3, w4⟩ := hw3 (by omega)
  refine PT.bndR (h.pl hc p2) (fun v hv => ?_)
  dsimp only
  refine PT.ieq (fun _ => PT.ret h) (fun hv0 => ?_)
  have hp : 0 ≤ p2.toInt ∧ p2.toInt < (τ.1 0 32).toInt := by
    rcases hv with hv | hv
    · omega
    · exact hv
  refine PT.bnd (mz_run h 92 62 (by omega) (by omega) p0 p2 w1 w2 hp) (fun q7 h7 => ?_)
  refine PT.ite (fun _ => ?_) (fun _ => PT.ret h7.1)
  refine PT.bnd (mz_run h7.1 92 74 (by omega) (by omega) p1 p2 w3 (by rw [h7.2.2]; exact w4) hp) (fun q9 h9 => ?_)
  refine PT.ite (fun _ => ?_) (fun _ => PT.ret h9.1)
  have k9 : KB2 q9.2 q9.2 := KB2.rf
  refine PT.bnd (pk1 (w_X7_isLike k9.1) (w6_X7_isLike k9.2)) (fun q11 k11 => ?_)
  exact PT.ite (fun _ => PT.ret (h9.1.frm k11)) (fun _ => PT.ret (h9.1.frm k11))
theorem mz_miss {τ σ : ST} (h : MZ τ σ) (hc : σ.1 4 0 = τ.1 0 32) (p0 p1 p2 p3 : Int32) : PT (f_X10_miss p0 p1 p2 p3 σ) (fun q => MZ τ q.2) := by
  unfold f_X10_miss
  have l0 := li_0
  refine PT.bndR (h.pl hc p0) (fun v hv => ?_)
  dsimp only
  refine PT.ieq (fun _ => PT.ret h) (fun hv0 => ?_)
  refine PT.bndR (h.pl hc p1) (fun v2 hv2 => ?_)
  dsimp only
  refine PT.ieq (fun _ => PT.ret h) (fun hv20 => ?_)
  have hp : 0 ≤ p0.toInt ∧ p0.toInt < (τ.1 0 32).toInt := by
    rcases hv with hv | hv
    · omega
    · exact hv
  have hq : 0 ≤ p1.toInt ∧ p1.toInt < (τ.1 0 32).toInt := by
    rcases hv2 with hv | hv
    · omega
    · exact hv
  obtain ⟨p, ep⟩ : ∃ p : Nat, p0.toInt = p := ⟨_, (Int.toNat_of_nonneg hp.1).symm⟩
  obtain ⟨q, eq⟩ : ∃ q : Nat, p1.toInt = q := ⟨_, (Int.toNat_of_nonneg hq.1).symm⟩
  refine PT.bnd (at_find h ep eq (by omega) (by omega)) (fun s hs => ?_)
  have him : PT (f_X0_isMiss p2 s) (fun q => q.2 = s) := by
    unfold f_X0_isMiss
    refine PT.ite (fun _ => PT.ret rfl) (fun _ => ?_)
    refine PT.ite (fun _ => PT.ret rfl) (fun _ => ?_)
    exact PT.ite (fun _ => PT.ret rfl) (fun _ => PT.ret rfl)
  refine PT.ite (fun _ => PT.ret hs.1) (fun _ => ?_)
  refine PT.ite (fun _ => ?_) (fun _ => ?_)
  · have hk : PT (f_X0_missKind p2 s) (fun q => q.2 = s) := by
      unfold f_X0_missKind
      refine PT.bnd him (fun q hq => ?_)
      rw [hq]
      exact PT.ite (fun _ => PT.ret rfl) (fun _ => PT.grd (fun _ => PT.ret rfl))
    exact PT.bnd hk (fun q hq => PT.ret (by show MZ τ q.2; rw [hq]; exact hs.1))
  refine PT.ite (fun _ => ?_) (fun _ => PT.ret hs.1)
  have hk : PT (f_X0_missSteps p2 s) (fun q => q.2 = s) := by
    unfold f_X0_missSteps
    refine PT.bnd him (fun q hq => ?_)
    rw [hq]
    exact PT.ite (fun _ => PT.ret rfl) (fun _ => PT.grd (fun _ => PT.ret rfl))
  exact PT.bnd hk (fun q hq => PT.ret (by show MZ τ q.2; rw [hq]; exact hs.1))
theorem w6_L_byteAt {s : ST} {p0 p1 : Int32} {σ : ST} (h : KM6 s σ) : PF st1 (KM6 s) (f_L_byteAt p0 p1 σ) := by
  unfold f_L_byteAt
  refine PF.bnd (w6_X10_byteAt h) (fun q hq => ?_)
  cases q.1 with
  | none => exact PF.ret1 hq
  | some r => exact PF.ret1 (KM6.l (by omega) hq)
theorem w6_L_node {s : ST} {p0 p1 : Int32} {σ : ST} (h : KM6 s σ) : PF st1 (KM6 s) (f_L_node p0 p1 σ) := by
  unfold f_L_node
  refine PF.bnd (w6_X10_node h) (fun q hq => ?_)
  cases q.1 with
  | none => exact PF.ret1 hq
  | some r => exact PF.ret1 (KM6.l (by omega) hq)
theorem w6_L_letter {s : ST} {p0 p1 : Int32} {σ : ST} (h : KM6 s σ) : PF st1 (KM6 s) (f_L_letter p0 p1 σ) := by
  unfold f_L_letter
  refine PF.bnd (w6_X10_letter h) (fun q hq => ?_)
  cases q.1 with
  | none => exact PF.ret1 hq
  | some r => exact PF.ret1 (KM6.l (by omega) hq)
theorem w6_L_value {s : ST} {p0 : Int32} {σ : ST} (h : KM6 s σ) : PF st1 (KM6 s) (f_L_value p0 σ) := by
  unfold f_L_value
  refine PF.bnd (w6_X10_value h) (fun q hq => ?_)
  cases q.1 with
  | none => exact PF.ret1 hq
  | some r => exact PF.ret1 (KM6.l (by omega) hq)
theorem mz_fA (j : Nat) (h1 : j ≠ 1) (pr : Nat → Int32) {τ σ : ST} (h : MZ τ σ) (hc : σ.1 4 0 = τ.1 0 32) : PT (fA j pr σ) (fun q => MZ τ q.2) := by
  have k : KB2 σ σ := KB2.rf
  have go : ∀ {o : Option (Int32 × ST)}, PF st1 (KTA σ) o → PF st1 (KM6 σ) o → PT o (fun q => MZ τ q.2) := fun a b => (pk1 a b).mono (fun q hq => h.frm hq)
  match j, h1 with
  | 0, _ => exact go (w_X10_feed KTA.rf) (w6_X10_feed KM6.rf)
  | 2, _ => exact mz_write h hc _ _ _
  | 3, _ => exact go (w_X10_record KTA.rf) (w6_X10_record KM6.rf)
  | 4, _ => exact go (w_X10_field KTA.rf) (w6_X10_field KM6.rf)
  | 5, _ => exact go (w_X10_message KTA.rf) (w6_X10_message KM6.rf)
  | 6, _ => exact go (w_L_byteAt KTA.rf) (w6_L_byteAt KM6.rf)
  | 7, _ => exact go (w_X10_spoil KTA.rf) (w6_X10_spoil KM6.rf)
  | 8, _ => exact go (w_X10_cut KTA.rf) (w6_X10_cut KM6.rf)
  | 9, _ => exact (ab_matches h hc _ _).mono (fun q hq => hq.1)
  | 10, _ => exact mz_miss h hc _ _ _ _
  | 11, _ => exact (ab_missStep h hc _ _ _ _).mono (fun q hq => hq.1)
  | 12, _ => exact (ab_readers h hc _ _).mono (fun q hq => hq.1)
  | 13, _ => exact mz_read h hc _ _
  | 14, _ => exact go (w_X10_failure KTA.rf) (w6_X10_failure KM6.rf)
  | 15, _ => exact go (w_X10_failureStep KTA.rf) (w6_X10_failureStep KM6.rf)
  | 16, _ => exact go (w_L_node KTA.rf) (w6_L_node KM6.rf)
  | 17, _ => exact go (w_L_value KTA.rf) (w6_L_value KM6.rf)
  | 18, _ => exact go (w_L_letter KTA.rf) (w6_L_letter KM6.rf)
  | 19, _ => exact mz_convert h hc _ _ _
  | 20, _ => exact mz_alike h hc _ _ _
  | 21, _ => exact go (w_X10_kept KTA.rf) (w6_X10_kept KM6.rf)
  | 22, _ => exact go (w_X10_count KTA.rf) (w6_X10_count KM6.rf)
  | j + 23, _ => exact PT.ret h
/-! plans -/
theorem pt_fill (u : Nat) (v : Int32) (m : Nat) (hm : m ≤ 1000) : ∀ (f k : Nat) (x2 x3 : Int32) (σ : ST), x2.toInt = k → x3.toInt = m → (∀ i, i < k → σ.1 u i = v) → PT (f_J7_fill_53178_5 u f v x2 x3 σ) (fun t => (∀ i, i < m → t.1 u i = v) ∧ (∀ c, c ≠ u → t.1 c = σ.1 c) ∧ t.2 = σ.2) := by
  intro f
  have l1 := li_1
  induction f with
  | zero => intro k x2 x3 σ _ _ _; exact PT.none
  | succ f ih =>
    intro k x2 x3 σ h2 h3 hI
    rw [f_J7_fill_53178_5]
    refine PT.ile (fun h => PT.ret ⟨fun i hi => hI i (by omega), fun _ _ => rfl, rfl⟩) (fun h => ?_)
    refine PT.grd (fun _ => ?_)
    have n2 : x2.toNatClampNeg = k := nC h2
    have e2 := il_addE (x := x2) (y := 1) (by omega) (by omega)
    rw [n2]
    refine (ih (k + 1) (x2 + 1) x3 (stI σ u k v) (by omega) h3 (fun i hi => ?_)).mono (fun t ht => ⟨ht.1, fun c hc => (ht.2.1 c hc).trans (stI_ne hc), ht.2.2⟩)
    have e : (stI σ u k v).1 u = upd (σ.1 u) k v := by
      show (bif Nat.beq u u then upd (σ.1 u) k v else σ.1 u) = _
      rw [Nat.beq_refl]
      rfl
    rw [e]
    by_cases e9 : i = k
    · rw [e9, upd_at]
    · rw [upd_no e9]
      exact hI i (by omega)
/-- nothing is known of the matchings, nothing is written -/
def CLR (s : ST) : Prop := s.2.1 41 2 = 0 ∧ s.1 41 5 = -1 ∧ (∀ i, i < 36 → s.1 43 i = -1) ∧ ∀ i, i < 4 → s.1 40 i = -1
theorem CLR.to {s t : ST} (h : CLR s) (k : KM6 s t) : CLR t := by
  unfold CLR
  rw [k.2.1, k.1 41 (by decide), k.1 43 (by decide), k.1 40 (by decide)]
  exact h
theorem CLR.mz {τ σ : ST} (h : CLR σ) (h5 : T5 σ τ) (hD : DNs τ) (hI : IB τ) : MZ τ σ := by
  have b1 := hI.1.1.1
  have b2 := hI.1.1.2
  have lm := li_m1
  refine ⟨⟨fun p q hp hq hb => ?_, fun p q hp hq hn => ?_, fun p q hp hq hn => ?_⟩, ⟨h5, hD, hI⟩, fun i hi => ?_⟩
  · rw [h.1, lbt_0] at hb
    cases hb
  · exact absurd (h.2.2.1 _ (by omega)) hn
  · rw [h.2.1] at hn
    omega
  · rw [h.2.2.2 i hi]
    omega
theorem k7_plans (p0 : Int32) (σ : ST) (q : Int32 × ST) (h : f_X10_plans p0 σ = some q) (hr : 0 ≤ p0.toInt ∧ p0.toInt ≤ (σ.1 0 1).toInt) (s1 : ST) (r : Int32) (s2 : ST) (e1 : f_X6_begin p0 (stI σ 0 1 0) = some s1) (e2 : f_X3_parse s1 = some (r, s2)) : (r.toInt = 0 → KM6 σ q.2) ∧ (¬ r.toInt = 0 → CLR q.2) := by
  have l0 := li_0
  unfold f_X10_plans at h
  rw [if_neg (by rw [Int32.lt_iff_toInt_lt]; omega), if_pos (by rw [Int32.le_iff_toInt_le]; omega), e1, sbnd, e2, sbnd] at h
  dsimp only at h
  refine ⟨fun r0 => ?_, fun r1 => ?_⟩
  · rw [if_pos (Int32.toInt_inj.mp (r0.trans l0.symm))] at h
    obtain ⟨x, ex, h⟩ := bnd_some h
    cases h
    have k1 : KM6 σ s1 := w6_X6_begin (KM6.i (by omega) KM6.rf) s1 e1
    have k2 : KM6 σ s2 := w6_X3_parse k1 (r, s2) e2
    exact w6_X6_faultAnswer k2 x ex
  · rw [if_neg (fun e => r1 (by rw [e]; exact l0))] at h
    obtain ⟨c, ec, h⟩ := bnd_some h
    obtain ⟨d, ed, h⟩ := bnd_some h
    obtain ⟨x1, e3, h⟩ := bnd_some h
    obtain ⟨x2, e4, h⟩ := bnd_some h
    obtain ⟨x3, e5, h⟩ := bnd_some h
    obtain ⟨x4, e6, h⟩ := bnd_some h
    cases h
    have k3 : KM6 x2 x3 := w6_X9_clear KM6.rf x3 e5
    have k4 : KM6 x2 x4 := w6_X7_clear (by omega) k3 x4 e6
    refine CLR.to (s := x2) ?_ k4
    have f1 : PT (f_X1_clear d) (fun t => ∀ i, i < 4 → t.1 40 i = -1) := by
      unfold f_X1_clear f_J7_fill_53178
      exact PT.bnd ((pt_fill 40 (-1) 4 (by omega) FU 0 0 _ d li_0 (by decide) (fun i hi => by omega)).mono (fun t ht => ht.1)) (fun t ht => PT.ret ht)
    have g1 := f1 x1 e3
    have f2 : PT (f_X0_clear x1) (fun t => CLR t) := by
      unfold f_X0_clear f_J7_fill_53178
      refine PT.bnd (pt_fill 43 (-1) 36 (by omega) FU 0 0 _ (stL x1 41 2 0) li_0 (by decide) (fun i hi => by omega)) (fun t ht => PT.ret ?_)
      obtain ⟨t1, t2, t3⟩ := ht
      refine ⟨?_, rfl, t1, fun i hi => ?_⟩
      · show t.2.1 41 2 = 0
        rw [t3]
        exact stL_at
      · show t.1 40 i = -1
        rw [t2 40 (by omega)]
        exact g1 i hi
    exact f2 x2 e4
/-! what holds after n calls, with the matchings -/
theorem PHB.dnb {p : Nat} {σ τ : ST} (h : PHB 4 p σ τ) : DNB p τ := by
  intro i j hij hj e
  have hi := h.2.2.2 i (by omega)
  have hj' := h.2.2.2 j hj
  have hd := hj'.1.2 i hij
  have hd : ¬ σ.2.1 8 (6 * p + i) = σ.2.1 8 (6 * p + j) := hd
  have wi : WL (σ.2.1 8 (6 * p + i)) (τ.2.1 9 (6 * p + i)) := hi.1.1
  have wj : WL (σ.2.1 8 (6 * p + j)) (τ.2.1 9 (6 * p + j)) := hj'.1.1
  exact hd ((wi.iff wj).mpr e)
theorem T5.dns {σ τ : ST} (h : T5 σ τ) : DNs τ := fun p hp => (h p hp).dnb
theorem inv7_plans {n κ : Nat} {σ τ : ST} (h : Inv n σ τ κ) (hn : n < 512) (p0 : Int32) (hZ : MZ τ σ) : ∃ (qa : Int32 × ST) (qb : (Int32 × ST) × Nat), f_X10_plans p0 σ = some qa ∧ f_X11_plans p0 τ = some qb ∧ Inv (n + 1) qa.2 qb.1.2 (κ + qb.2) ∧ MZ qb.1.2 qa.2 := by
  have hT5 := hZ.2.1.1
  obtain ⟨_, hA, hB, hF, h32, hk, hT, hc⟩ := h
  have ht := hA.tape
  have e2 : (τ.1 0 2).toInt = (σ.1 0 1).toInt := by rw [hF.1]
  have l0 := l64_0
  have i0 := i64 p0
  have l0' := li_0
  obtain ⟨qa, ea, q1, ⟨q2, q3⟩, q4⟩ := k_X10_plans p0 σ hA
  have hs := hB.th 0
  have s1 : (stI τ 0 0 0).1 1 = τ.1 1 := rfl
  have s2 : (stI τ 0 0 0).1 0 2 = τ.1 0 2 := rfl
  have s32 : (stI τ 0 0 0).1 0 32 = τ.1 0 32 := rfl
  have s9 : ∀ c, c ≠ 0 → (stI τ 0 0 0).1 c = τ.1 c := fun c hc => stI_ne hc
  have sL : (stI τ 0 0 0).2.1 = τ.2.1 := rfl
  have hb : ∃ qb : (Int32 × ST) × Nat, f_X11_plans p0 τ = some qb ∧ Inv (n + 1) qa.2 qb.1.2 (κ + qb.2) ∧ MZ qb.1.2 qa.2 := by
    unfold f_X11_plans
    generalize stI τ 0 0 0 = s at hs s1 s2 s32 s9 sL
    have kr : KR τ s := KR.eq (fun c hc => s9 c (fun e => by rw [e] at hc; revert hc; decide)) (fun c _ => by rw [sL])
    have hZs : MZ s σ := hZ.yok ⟨kr, s32, hs⟩
    have i2 := i64 (s.1 0 2)
    have e2' : (s.1 0 2).toInt = (σ.1 0 1).toInt := by rw [s2]; exact e2
    have ok : OK ((f_X11_within (p0.toInt64) 0 ((s.1 0 2).toInt64) s).bind fun q1 => if q1.1 = 0 then (some (((-1), q1.2), 0)) else ((f_X11_begins p0 q1.2).bind fun q3 => (f_X11_plan (stI (stI q3 0 33 0) 0 34 400)).bind fun q5 => ac q5.2 (f_X11_plans_43 FU q5.1.1 q5.1.2))) (fun qb => Inv (n + 1) qa.2 qb.1.2 (κ + qb.2) ∧ MZ qb.1.2 qa.2) := by
      refine OK.bndR (b_within _ _ _ _) (fun v hv => ?_)
      dsimp only
      rcases q4 with ⟨c, q4⟩ | ⟨c, q01, t1, r, t2, e1, e3, q5, q6⟩
      · refine OK.ieq (fun _ => ?_) (fun h => by omega)
        refine OK.ret ⟨⟨by omega, q1, hs, ⟨?_, ?_⟩, ?_, ?_, ?_, ?_⟩, by rw [q4]; exact hZs⟩
        · show qa.2.1 0 1 = s.1 0 2
          rw [q4, s2, hF.1]
        · show qa.2.1 1 = s.1 1
          rw [q4, s1, hF.2]
        · show qa.2.1 4 0 = s.1 0 32
          rw [q4, s32, h32]
        · rw [q4]
          exact hk
        · rw [q4]
          exact hT
        · show ((κ + 0 : Nat) : Int) + 40 * (qa.2.1 0 1).toInt ≤ 950 * ((n + 1 : Nat) : Int)
          rw [q4]
          omega
      · refine OK.ieq (fun h => by omega) (fun _ => ?_)
        have hp1000 : p0.toInt ≤ 1000 := by
          have := ht.2
          omega
        have hb := ab_plans p0 (stI σ 0 1 0) s (by rw [s1]; exact hF.2) (by rw [s1, ← hF.2]; exact hT) hk hs ⟨c.1, hp1000⟩ t1 e1 r t2 e3
        refine hb.mono (fun y hy => ?_)
        obtain ⟨y0, y1, y2, y3, y4⟩ := hy
        have k5 := k6_plans p0 σ qa ea c t1 r t2 e1 e3
        have k7 := k7_plans p0 σ qa ea c t1 r t2 e1 e3
        refine ⟨⟨by omega, q1, y1, ⟨?_, ?_⟩, ?_, ?_, ?_, ?_⟩, ?_⟩
        · rw [q01, y3]
        · rw [q2, y2, s1, hF.2]
        · rcases y4 with ⟨r0, y5, _⟩ | ⟨r0, y5, _⟩
          · rw [q5 r0, y5, s32, h32]
          · rw [q6 r0]
            exact Int32.toInt_inj.mp y5.symm
        · rw [q3]
          exact hk
        · show T8 qa.2
          unfold T8
          rw [q2]
          exact hT
        · rw [q01, l0']
          omega
        · rcases y4 with ⟨r0, y5, yK⟩ | ⟨r0, y5, yT⟩
          · exact (hZs.frm ⟨k5.1 r0, k7.1 r0⟩).yok ⟨yK, y5, y1⟩
          · have hT' : T5 qa.2 y.1.2 := by
              intro p hp
              have h6 := y1.1.1.2
              exact k5.2 r0 p _ (by omega) (yT p (by omega))
            exact (k7.2 r0).mz hT' hT'.dns y1
    obtain ⟨qb, eb, hq⟩ := ok
    exact ⟨qb, eb, hq⟩
  obtain ⟨qb, eb, hq⟩ := hb
  exact ⟨qa, qb, ea, eb, hq⟩
def Inv7 (n : Nat) (σ τ : ST) (κ : Nat) : Prop := Inv n σ τ κ ∧ MZ τ σ
theorem inv7_call (n : Nat) (σ τ : ST) (κ : Nat) (h : Inv7 n σ τ κ) (hn : n < 512) (j : Nat) (pr : Nat → Int32) : ∃ (qa : Int32 × ST) (qb : (Int32 × ST) × Nat), fA j pr σ = some qa ∧ fB j pr τ = some qb ∧ Inv7 (n + 1) qa.2 qb.1.2 (κ + qb.2) := by
  obtain ⟨hI, hZ⟩ := h
  by_cases h1 : j = 1
  · subst h1
    exact inv7_plans hI hn (pr 1) hZ
  have h4 : σ.1 4 0 = τ.1 0 32 := hI.2.2.2.2.1
  obtain ⟨qa, qb, ea, eb, hI', _⟩ := inv_call n σ τ κ hI hn j pr
  have kA : KTA σ qa.2 := w_fA j h1 pr σ qa ea
  have kB : KTB τ qb.1.2 := w_fB j h1 pr τ qb eb
  have h5 : qa.2.1 4 0 = qb.1.2.1 0 32 := hI'.2.2.2.2.1
  have e4 : qa.2.1 4 = σ.1 4 := (kA 4 (by omega) (by omega)).1
  have z : MZ τ qa.2 := mz_fA j h1 pr hZ h4 qa ea
  exact ⟨qa, qb, ea, eb, hI', z.yok ⟨kB.kr, by rw [← h5, e4, h4], hI'.2.2.1⟩⟩
theorem inv7_room (n : Nat) (σ τ : ST) (κ : Nat) (h : Inv7 n σ τ κ) : κ ≤ 500000 := inv_room n σ τ κ h.1
theorem clr_0 : CLR s0A := by
  refine ⟨?_, ?_, ?_, ?_⟩
  · rfl
  · rfl
  · decide
  · decide
theorem inv7_0 : Inv7 0 s0A s0B 0 := ⟨inv_0, clr_0.mz t5_0 t5_0.dns ib_0⟩
/-! matches, missStep, readers are told alike -/
theorem inv7_matches (n : Nat) (σ τ : ST) (κ : Nat) (h : Inv7 n σ τ κ) (hn : n < 512) (j : Nat) (pr : Nat → Int32) (hj : j < 32) : ∃ (qa : Int32 × ST) (qb : (Int32 × ST) × Nat), fA j pr σ = some qa ∧ fB j pr τ = some qb ∧ (j = 9 → qa.1 = qb.1.1) ∧ Inv7 (n + 1) qa.2 qb.1.2 (κ + qb.2) := by
  obtain ⟨qa, qb, ea, eb, e1⟩ := inv7_call n σ τ κ h hn j pr
  refine ⟨qa, qb, ea, eb, fun h3 => ?_, e1⟩
  subst h3
  have ea : f_X10_matches (pr 1) (pr 2) σ = some qa := ea
  have eb : ((f_X11_matches (pr 1) (pr 2) τ).bind fun q => some ((q.1, q.2), 0)) = some qb := eb
  obtain ⟨x, ex, e2⟩ := bnd_some eb
  cases e2
  exact ((ab_matches h.2 h.1.2.2.2.2.1 (pr 1) (pr 2) qa ea).2 x ex).symm
theorem inv7_missStep (n : Nat) (σ τ : ST) (κ : Nat) (h : Inv7 n σ τ κ) (hn : n < 512) (j : Nat) (pr : Nat → Int32) (hj : j < 32) : ∃ (qa : Int32 × ST) (qb : (Int32 × ST) × Nat), fA j pr σ = some qa ∧ fB j pr τ = some qb ∧ (j = 11 → qa.1 = qb.1.1) ∧ Inv7 (n + 1) qa.2 qb.1.2 (κ + qb.2) := by
  obtain ⟨qa, qb, ea, eb, e1⟩ := inv7_call n σ τ κ h hn j pr
  refine ⟨qa, qb, ea, eb, fun h3 => ?_, e1⟩
  subst h3
  have ea : f_X10_missStep (pr 1) (pr 2) (pr 3) (pr 4) σ = some qa := ea
  have eb : ((f_X11_missStep (pr 1) (pr 2) (pr 3) (pr 4) τ).bind fun q => some ((q.1, q.2), 0)) = some qb := eb
  obtain ⟨x, ex, e2⟩ := bnd_some eb
  cases e2
  exact ((ab_missStep h.2 h.1.2.2.2.2.1 (pr 1) (pr 2) (pr 3) (pr 4) qa ea).2 x ex).symm
theorem inv7_readers (n : Nat) (σ τ : ST) (κ : Nat) (h : Inv7 n σ τ κ) (hn : n < 512) (j : Nat) (pr : Nat → Int32) (hj : j < 32) : ∃ (qa : Int32 × ST) (qb : (Int32 × ST) × Nat), fA j pr σ = some qa ∧ fB j pr τ = some qb ∧ (j = 12 → qa.1 = qb.1.1) ∧ Inv7 (n + 1) qa.2 qb.1.2 (κ + qb.2) := by
  obtain ⟨qa, qb, ea, eb, e1⟩ := inv7_call n σ τ κ h hn j pr
  refine ⟨qa, qb, ea, eb, fun h3 => ?_, e1⟩
  subst h3
  have ea : f_X10_readers (pr 1) (pr 2) σ = some qa := ea
  have eb : ((f_X11_readers (pr 1) (pr 2) τ).bind fun q => some ((q.1, q.2), 0)) = some qb := eb
  obtain ⟨x, ex, e2⟩ := bnd_some eb
  cases e2
  exact ((ab_readers h.2 h.1.2.2.2.2.1 (pr 1) (pr 2) qa ea).2 x ex).symm
/-! rows that follow one another -/
/-- the rows of a list, from x on -/
def CN (nx : Nat → Int32) : Int32 → List Nat → Prop
  | x, [] => x.toInt = -1
  | x, r :: l => x.toInt = (r : Int) ∧ CN nx (nx r) l
/-- the last of them -/
def lz : Int → List Nat → Int
  | d, [] => d
  | _, r :: l => lz r l
theorem lz_app (l m : List Nat) : ∀ d : Int, lz d (l ++ m) = lz (lz d l) m := by
  induction l with
  | nil => intro d; rfl
  | cons r l ih => intro d; exact ih _
theorem lz_in (l : List Nat) : ∀ d : Int, (l = [] ∧ lz d l = d) ∨ ∃ q : Nat, q ∈ l ∧ lz d l = q := by
  induction l with
  | nil => intro d; exact .inl ⟨rfl, rfl⟩
  | cons r l ih =>
    intro d
    rcases ih (r : Int) with ⟨e, h⟩ | ⟨q, h1, h2⟩
    · exact .inr ⟨r, List.mem_cons_self, by show lz (r : Int) l = r; exact h⟩
    · exact .inr ⟨q, List.mem_cons_of_mem _ h1, h2⟩
theorem CN.ext {nx ny : Nat → Int32} : ∀ (l : List Nat) (x : Int32), CN nx x l → (∀ r, r ∈ l → ny r = nx r) → CN ny x l := by
  intro l
  induction l with
  | nil => intro x h _; exact h
  | cons r l ih =>
    intro x h e
    obtain ⟨h1, h2⟩ := h
    refine ⟨h1, ?_⟩
    rw [e r List.mem_cons_self]
    exact ih _ h2 (fun r hr => e r (List.mem_cons_of_mem _ hr))
theorem CN.head {nx : Nat → Int32} {x y : Int32} {l : List Nat} (h : CN nx x l) (e : y.toInt = x.toInt) : CN nx y l := by
  cases l with
  | nil => exact e.trans h
  | cons r l => exact ⟨e.trans h.1, h.2⟩
/-- behind a first part -/
theorem CN.mid {nx : Nat → Int32} : ∀ (l m : List Nat) (x : Int32), CN nx x (l ++ m) → ∃ y : Int32, CN nx y m ∧ ((l = [] ∧ y = x) ∨ ∃ q : Nat, lz (-1) l = q ∧ y = nx q) := by
  intro l
  induction l with
  | nil => intro m x h; exact ⟨x, h, .inl ⟨rfl, rfl⟩⟩
  | cons r l ih =>
    intro m x h
    obtain ⟨y, h1, h2⟩ := ih m (nx r) h.2
    refine ⟨y, h1, .inr ?_⟩
    rcases h2 with ⟨e, h2⟩ | ⟨q, e, h2⟩
    · refine ⟨r, ?_, h2⟩
      rw [e]
      rfl
    · refine ⟨q, ?_, h2⟩
      show lz (r : Int) l = q
      cases l with
      | nil => exact absurd e (by show ¬ (-1 : Int) = (q : Int); omega)
      | cons a l => exact e
theorem CN.glue {nx ny : Nat → Int32} {x : Int32} {r : Nat} {m : List Nat} : ∀ (l : List Nat) (z : Int32), CN nx z (l ++ m) → l.Nodup → l ≠ [] → x.toInt = (r : Int) → CN ny (ny r) m → (∀ j, j ∈ l → (j : Int) ≠ lz (-1) l → ny j = nx j) → (∀ q : Nat, (q : Int) = lz (-1) l → ny q = x) → CN ny z (l ++ r :: m) := by
  intro l
  induction l with
  | nil => intro z _ _ h; exact absurd rfl h
  | cons a l ih =>
    intro z h hd _ hx hm h1 h2
    refine ⟨h.1, ?_⟩
    cases l with
    | nil =>
      rw [h2 a rfl]
      exact ⟨hx, hm⟩
    | cons b l =>
      have hd2 := List.nodup_cons.mp hd
      have hab : ¬ (a : Int) = lz (-1) (a :: b :: l) := fun e => by
        have e : (a : Int) = lz b l := e
        rcases lz_in l (b : Int) with ⟨_, h9⟩ | ⟨q, h8, h9⟩
        · have : a = b := by omega
          exact hd2.1 (by rw [this]; exact List.mem_cons_self)
        · have : a = q := by omega
          exact hd2.1 (by rw [this]; exact List.mem_cons_of_mem _ h8)
      rw [h1 a List.mem_cons_self hab]
      exact ih (nx a) h.2 hd2.2 (by simp) hx hm (fun j hj hn => h1 j (List.mem_cons_of_mem _ hj) hn) (fun q hq => h2 q hq)
/-- a row x came below p, behind l and ahead of m -/
def LKG (F L N F' L' N' : Nat → Int32) (x p : Nat) (l m : List Nat) : Prop := (∀ j, j ≠ p → F' j = F j ∧ L' j = L j) ∧ (∀ j, j ≠ x → (j : Int) ≠ lz (-1) l → N' j = N j) ∧ CN N' (F' p) (l ++ x :: m) ∧ (L' p).toInt = lz (-1) (l ++ x :: m)
theorem lkg_0 {F L N F' L' N' : Nat → Int32} {x p : Nat} {m : List Nat} {v : Int32} (hv : v.toInt = (x : Int)) (hx : x ∉ m) (hc : CN N (F p) m) (hl : (L p).toInt = lz (-1) m) (hF : F' p = v ∧ ∀ j, j ≠ p → F' j = F j) (hN : N' x = F p ∧ ∀ j, j ≠ x → N' j = N j) (hL : ((F p).toInt = -1 ∧ L' p = v ∨ ¬ (F p).toInt = -1 ∧ L' p = L p) ∧ ∀ j, j ≠ p → L' j = L j) : LKG F L N F' L' N' x p [] m := by
  refine ⟨fun j hj => ⟨hF.2 j hj, hL.2 j hj⟩, fun j hj _ => hN.2 j hj, ?_, ?_⟩
  · show CN N' (F' p) (x :: m)
    rw [hF.1]
    refine ⟨hv, ?_⟩
    rw [hN.1]
    exact hc.ext _ _ (fun r hr => hN.2 r (fun e => hx (by rw [← e]; exact hr)))
  · show (L' p).toInt = lz (x : Int) m
    cases m with
    | nil =>
      rcases hL.1 with ⟨_, h⟩ | ⟨h, _⟩
      · rw [h]
        exact hv
      · exact absurd hc h
    | cons r m =>
      have h1 := hc.1
      rcases hL.1 with ⟨h, _⟩ | ⟨_, h⟩
      · omega
      · rw [h]
        exact hl
theorem lkg_1 {F L N F' L' N' : Nat → Int32} {x p q : Nat} {l m : List Nat} {v : Int32} (hv : v.toInt = (x : Int)) (hx : x ∉ l ++ m) (hd : (l ++ m).Nodup) (hc : CN N (F p) (l ++ m)) (hq : (q : Int) = lz (-1) l) (hl : (L p).toInt = lz (-1) (l ++ m)) (hF : ∀ j, F' j = F j) (hN : (N' x = N q ∧ N' q = v) ∧ ∀ j, j ≠ x → j ≠ q → N' j = N j) (hL : ((N q).toInt = -1 ∧ L' p = v ∨ ¬ (N q).toInt = -1 ∧ L' p = L p) ∧ ∀ j, j ≠ p → L' j = L j) : LKG F L N F' L' N' x p l m := by
  have hle : l ≠ [] := fun e => by
    rw [e] at hq
    have hq : (q : Int) = -1 := hq
    omega
  obtain ⟨y, hy, hy2⟩ := CN.mid l m (F p) hc
  have ey : y = N q := by
    rcases hy2 with ⟨e, _⟩ | ⟨q', e, h⟩
    · exact absurd e hle
    · have : q' = q := by omega
      rw [this] at h
      exact h
  have hqm : q ∉ m := fun h => by
    rcases lz_in l (-1) with ⟨e, _⟩ | ⟨q', h1, h2⟩
    · exact hle e
    · have : q' = q := by omega
      rw [this] at h1
      exact (List.nodup_append.mp hd).2.2 q h1 q h rfl
  refine ⟨fun j hj => ⟨hF j, hL.2 j hj⟩, fun j hj hn => hN.2 j hj (fun e => hn (by rw [e]; exact hq)), ?_, ?_⟩
  · rw [hF p]
    refine CN.glue l (F p) hc (List.Sublist.nodup (List.sublist_append_left l m) hd) hle hv ?_ (fun j hj hn => hN.2 j (fun e => hx (List.mem_append_left _ (by rw [← e]; exact hj))) (fun e => hn (by rw [e]; exact hq))) (fun j hj => by
      have : j = q := by omega
      rw [this]
      exact hN.1.2)
    rw [hN.1.1, ← ey]
    exact hy.ext _ _ (fun r hr => hN.2 r (fun e => hx (List.mem_append_right _ (by rw [← e]; exact hr))) (fun e => hqm (by rw [← e]; exact hr)))
  · rw [lz_app]
    show (L' p).toInt = lz (x : Int) m
    rw [ey] at hy
    cases m with
    | nil =>
      rcases hL.1 with ⟨_, h⟩ | ⟨h, _⟩
      · rw [h]
        exact hv
      · exact absurd hy h
    | cons r m =>
      have h1 := hy.1
      rcases hL.1 with ⟨h, _⟩ | ⟨_, h⟩
      · omega
      · rw [h, hl, lz_app]
        rfl
/-! both sides' way to put a row below another -/
theorem stI_at {σ : ST} {q i : Nat} {v : Int32} : (stI σ q i v).1 q = upd (σ.1 q) i v := by
  show (bif Nat.beq q q then upd (σ.1 q) i v else σ.1 q) = _
  rw [Nat.beq_refl]
  rfl
theorem upA {f : Nat → Int32} {i j : Nat} {v : Int32} (h : j = i) : upd f i v j = v := by
  unfold upd
  rw [if_pos h]
theorem upN {f : Nat → Int32} {i j : Nat} {v : Int32} (h : j ≠ i) : upd f i v j = f j := by
  unfold upd
  rw [if_neg h]
theorem pt_isRow (b : Nat) (p0 : Int32) (σ : ST) : QT (f_X7_isRow b p0 σ) (fun q => q.2 = σ ∧ (q.1.toInt = 0 ∧ ¬ (0 ≤ p0.toInt ∧ p0.toInt < (σ.1 b 1).toInt ∧ p0.toInt < (σ.1 b 0).toInt) ∨ q.1.toInt = 1 ∧ 0 ≤ p0.toInt ∧ p0.toInt < (σ.1 b 1).toInt ∧ p0.toInt < (σ.1 b 0).toInt)) := by
  have l0 := li_0
  have l1 := li_1
  unfold f_X7_isRow
  refine QT.ilt (fun h => QT.ret ⟨rfl, .inl ⟨l0, by omega⟩⟩) (fun h => ?_)
  refine QT.ile (fun h => QT.ret ⟨rfl, .inl ⟨l0, by omega⟩⟩) (fun h2 => ?_)
  refine QT.ile (fun h => QT.ret ⟨rfl, .inl ⟨l0, by omega⟩⟩) (fun h3 => QT.ret ⟨rfl, .inr ⟨l1, by omega⟩⟩)
/-- the class's rows, when x came below p -/
def LKS (b x p : Nat) (l m : List Nat) (σ s : ST) : Prop := (∀ c, c ≠ b + 7 → c ≠ b + 8 → c ≠ b + 9 → s.1 c = σ.1 c) ∧ s.2 = σ.2 ∧ LKG (σ.1 (b + 7)) (σ.1 (b + 8)) (σ.1 (b + 9)) (s.1 (b + 7)) (s.1 (b + 8)) (s.1 (b + 9)) x p l m
/-- what is there ahead of it -/
def LKP (b x p : Nat) (l m : List Nat) (σ : ST) : Prop := x ∉ l ++ m ∧ (l ++ m).Nodup ∧ CN (σ.1 (b + 9)) (σ.1 (b + 7) p) (l ++ m) ∧ (σ.1 (b + 8) p).toInt = lz (-1) (l ++ m)
theorem a_lk155 (b : Nat) (x1 x2 : Int32) (σ : ST) {x p : Nat} (h1 : x1.toInt = x) (h2 : x2.toInt = p) : QT (f_X7_link_155 b x1 x2 σ) (fun s => (∀ c, c ≠ b + 8 → s.1 c = σ.1 c) ∧ s.2 = σ.2 ∧ ((σ.1 (b + 9) x).toInt = -1 ∧ s.1 (b + 8) p = x1 ∨ ¬ (σ.1 (b + 9) x).toInt = -1 ∧ s.1 (b + 8) p = σ.1 (b + 8) p) ∧ ∀ j, j ≠ p → s.1 (b + 8) j = σ.1 (b + 8) j) := by
  have lm := li_m1
  have n1 : x1.toNatClampNeg = x := by have := nN_ (x := x1) (by omega); omega
  have n2 : x2.toNatClampNeg = p := by have := nN_ (x := x2) (by omega); omega
  unfold f_X7_link_155
  rw [n1, n2]
  refine QT.grd (fun _ => ?_)
  refine QT.ieq (fun e => ?_) (fun e => ?_)
  · refine QT.grd (fun _ => QT.ret ⟨fun c hc => stI_ne hc, rfl, .inl ⟨by omega, by rw [stI_at, upA rfl]⟩, fun j hj => by rw [stI_at, upN hj]⟩)
  · exact QT.ret ⟨fun c hc => rfl, rfl, .inr ⟨by omega, rfl⟩, fun j hj => rfl⟩
theorem a_lk103 (b : Nat) (x1 x2 x4 : Int32) (σ : ST) {x p : Nat} {l m : List Nat} (h1 : x1.toInt = x) (h2 : x2.toInt = p) (h4 : x4.toInt = lz (-1) l) (hP : LKP b x p l m σ) (hr : ∀ r, r ∈ l ++ m → (r : Int) < (σ.1 b 1).toInt ∧ (r : Int) < (σ.1 b 0).toInt) : QT (f_X7_link_103 b x1 x2 x4 σ) (LKS b x p l m σ) := by
  have lm := li_m1
  have l0 := li_0
  have n1 : x1.toNatClampNeg = x := by have := nN_ (x := x1) (by omega); omega
  have n2 : x2.toNatClampNeg = p := by have := nN_ (x := x2) (by omega); omega
  obtain ⟨hx, hd, hc, hl⟩ := hP
  unfold f_X7_link_103
  refine QT.bnd (pt_isRow b x4 σ) (fun q hq => ?_)
  obtain ⟨v, s⟩ := q
  obtain ⟨e, hv⟩ := hq
  have e : s = σ := e
  subst e
  have hv : v.toInt = 0 ∧ ¬ (0 ≤ x4.toInt ∧ x4.toInt < (s.1 b 1).toInt ∧ x4.toInt < (s.1 b 0).toInt) ∨ v.toInt = 1 ∧ 0 ≤ x4.toInt ∧ x4.toInt < (s.1 b 1).toInt ∧ x4.toInt < (s.1 b 0).toInt := hv
  dsimp only
  refine QT.ieq (fun e => ?_) (fun e => ?_)
  · have hle : l = [] := by
      rcases lz_in l (-1) with ⟨e, _⟩ | ⟨q, h8, h9⟩
      · exact e
      · have := hr q (List.mem_append_left _ h8)
        omega
    subst hle
    refine QT.grd (fun _ => QT.grd (fun _ => ?_))
    refine QT.lt (fun z ez => ?_)
    rw [n1, n2] at ez
    have z9 : z.1 (b + 9) = upd (s.1 (b + 9)) x (s.1 (b + 7) p) := by rw [ez, stI_ne (by omega), stI_at]
    have z7 : z.1 (b + 7) = upd (s.1 (b + 7)) p x1 := by rw [ez, stI_at, stI_ne (by omega)]
    have zc : ∀ c, c ≠ b + 7 → c ≠ b + 9 → z.1 c = s.1 c := fun c h7 h9 => by rw [ez, stI_ne h7, stI_ne h9]
    have zL : z.2 = s.2 := by rw [ez]; rfl
    refine (a_lk155 b x1 x2 z h1 h2).mono (fun w hw => ?_)
    obtain ⟨w1, w2, w3, w4⟩ := hw
    refine ⟨fun c c7 c8 c9 => (w1 c c8).trans (zc c c7 c9), w2.trans zL, ?_⟩
    have e7 : w.1 (b + 7) = upd (s.1 (b + 7)) p x1 := (w1 _ (by omega)).trans z7
    have e9 : w.1 (b + 9) = upd (s.1 (b + 9)) x (s.1 (b + 7) p) := (w1 _ (by omega)).trans z9
    have e8 : z.1 (b + 8) = s.1 (b + 8) := zc _ (by omega) (by omega)
    rw [z9, upA rfl, e8] at w3
    rw [e8] at w4
    rw [e7, e9]
    exact lkg_0 h1 hx hc hl ⟨upA rfl, fun j hj => upN hj⟩ ⟨upA rfl, fun j hj => upN hj⟩ ⟨w3, w4⟩
  · have h0 : 0 ≤ x4.toInt := by omega
    have n4 := nN_ h0
    generalize x4.toNatClampNeg = q at n4
    have hqx : q ≠ x := fun e9 => by
      rcases lz_in l (-1) with ⟨_, h9⟩ | ⟨q', h8, h9⟩
      · omega
      · exact hx (List.mem_append_left _ (by rw [show x = q' by omega]; exact h8))
    refine QT.grd (fun _ => QT.grd (fun _ => ?_))
    refine QT.lt (fun z ez => ?_)
    rw [n1] at ez
    have z9 : z.1 (b + 9) = upd (upd (s.1 (b + 9)) x (s.1 (b + 9) q)) q x1 := by rw [ez, stI_at, stI_at]
    have zc : ∀ c, c ≠ b + 9 → z.1 c = s.1 c := fun c h9 => by rw [ez, stI_ne h9, stI_ne h9]
    have zL : z.2 = s.2 := by rw [ez]; rfl
    refine (a_lk155 b x1 x2 z h1 h2).mono (fun w hw => ?_)
    obtain ⟨w1, w2, w3, w4⟩ := hw
    refine ⟨fun c c7 c8 c9 => (w1 c c8).trans (zc c c9), w2.trans zL, ?_⟩
    have e7 : w.1 (b + 7) = s.1 (b + 7) := (w1 _ (by omega)).trans (zc _ (by omega))
    have e9 : w.1 (b + 9) = upd (upd (s.1 (b + 9)) x (s.1 (b + 9) q)) q x1 := (w1 _ (by omega)).trans z9
    have e8 : z.1 (b + 8) = s.1 (b + 8) := zc _ (by omega)
    rw [z9, upN (fun e => hqx e.symm), upA rfl, e8] at w3
    rw [e8] at w4
    rw [e7, e9]
    exact lkg_1 (q := q) h1 hx hd hc (by omega) hl (fun j => rfl) ⟨⟨by rw [upN (fun e => hqx e.symm), upA rfl], upA rfl⟩, fun j h1 h2 => by rw [upN h2, upN h1]⟩ ⟨w3, w4⟩
theorem a_lk50 (b : Nat) (x1 x2 : Int32) (σ : ST) {x p : Nat} {m : List Nat} (h1 : x1.toInt = x) (h2 : x2.toInt = p) : ∀ (l : List Nat) (n : Nat) (l0 : List Nat) (x4 x5 x6 : Int32), LKP b x p (l0 ++ l) m σ → (∀ r, r ∈ l0 ++ l ++ m → (r : Int) < (σ.1 b 1).toInt ∧ (r : Int) < (σ.1 b 0).toInt) → x4.toInt = lz (-1) l0 → CN (σ.1 (b + 9)) x5 (l ++ m) → 0 ≤ x6.toInt → x6.toInt + l.length < (σ.1 b 1).toInt → (∀ r, r ∈ l → (σ.1 (b + 3) r).toInt < (σ.1 (b + 3) x).toInt) → (∀ r, r ∈ m → (σ.1 (b + 3) x).toInt ≤ (σ.1 (b + 3) r).toInt) → QT (f_X7_link_50 b n x1 x2 x4 x5 x6 σ) (LKS b x p (l0 ++ l) m σ) := by
  have l0' := li_0
  have l1' := li_1
  have n1 : x1.toNatClampNeg = x := by have := nN_ (x := x1) (by omega); omega
  intro l
  induction l with
  | nil =>
    intro n l0 x4 x5 x6 hP hr h4 hc _ h7 hl hm
    cases n with
    | zero => exact QT.none
    | succ n =>
      rw [f_X7_link_50]
      rw [List.append_nil] at hP hr ⊢
      have go := a_lk103 b x1 x2 x4 σ h1 h2 h4 hP hr
      refine QT.ile (fun _ => go) (fun _ => ?_)
      refine QT.bnd (pt_isRow b x5 σ) (fun q hq => ?_)
      obtain ⟨v, s⟩ := q
      obtain ⟨e, hv⟩ := hq
      have e : s = σ := e
      subst e
      have hv : v.toInt = 0 ∧ ¬ (0 ≤ x5.toInt ∧ x5.toInt < (s.1 b 1).toInt ∧ x5.toInt < (s.1 b 0).toInt) ∨ v.toInt = 1 ∧ 0 ≤ x5.toInt ∧ x5.toInt < (s.1 b 1).toInt ∧ x5.toInt < (s.1 b 0).toInt := hv
      dsimp only
      refine QT.ieq (fun _ => go) (fun hn => ?_)
      refine QT.grd (fun _ => QT.grd (fun _ => ?_))
      refine QT.ile (fun _ => go) (fun hlt => ?_)
      have h0 : 0 ≤ x5.toInt := by omega
      have n5 := nN_ h0
      rw [n1] at hlt
      cases m with
      | nil =>
        have hc : x5.toInt = -1 := hc
        omega
      | cons r m =>
        have hc1 := hc.1
        have := hm r List.mem_cons_self
        rw [show x5.toNatClampNeg = r by omega] at hlt
        omega
  | cons a l ih =>
    intro n l0 x4 x5 x6 hP hr h4 hc h6 h7 hl hm
    cases n with
    | zero => exact QT.none
    | succ n =>
      rw [f_X7_link_50]
      have h7' : (((a :: l).length : Nat) : Int) = (l.length : Int) + 1 := by simp
      refine QT.ile (fun h => by omega) (fun _ => ?_)
      have hc1 := hc.1
      have ha := hr a (List.mem_append_left _ (List.mem_append_right _ List.mem_cons_self))
      refine QT.bnd (pt_isRow b x5 σ) (fun q hq => ?_)
      obtain ⟨v, s⟩ := q
      obtain ⟨e, hv⟩ := hq
      have e : s = σ := e
      subst e
      have hv : v.toInt = 0 ∧ ¬ (0 ≤ x5.toInt ∧ x5.toInt < (s.1 b 1).toInt ∧ x5.toInt < (s.1 b 0).toInt) ∨ v.toInt = 1 ∧ 0 ≤ x5.toInt ∧ x5.toInt < (s.1 b 1).toInt ∧ x5.toInt < (s.1 b 0).toInt := hv
      dsimp only
      refine QT.ieq (fun _ => by omega) (fun _ => ?_)
      have n5 : x5.toNatClampNeg = a := by have := nN_ (x := x5) (by omega); omega
      have hla := hl a List.mem_cons_self
      rw [n1, n5]
      refine QT.grd (fun _ => QT.grd (fun _ => ?_))
      refine QT.ile (fun h => by omega) (fun _ => ?_)
      have r6 := il_rng (s.1 b 1)
      have e6 : (x6 + 1).toInt = x6.toInt + 1 := by rw [il_addE (by omega) (by omega), l1']
      have eapp : l0 ++ a :: l = (l0 ++ [a]) ++ l := by simp
      rw [eapp] at hP hr ⊢
      refine ih n (l0 ++ [a]) x5 _ _ hP hr ?_ hc.2 (by omega) (by omega) (fun r h => hl r (List.mem_cons_of_mem _ h)) hm
      rw [lz_app]
      show x5.toInt = (a : Int)
      exact hc1
/-- x comes below p, behind those of lesser places -/
theorem a_link (b : Nat) (x1 x2 : Int32) (σ : ST) {x p : Nat} {l m : List Nat} (h1 : x1.toInt = x) (h2 : x2.toInt = p) (hP : LKP b x p l m σ) (hr : ∀ r, r ∈ l ++ m → (r : Int) < (σ.1 b 1).toInt ∧ (r : Int) < (σ.1 b 0).toInt) (hn : (l.length : Int) < (σ.1 b 1).toInt) (hl : ∀ r, r ∈ l → (σ.1 (b + 3) r).toInt < (σ.1 (b + 3) x).toInt) (hm : ∀ r, r ∈ m → (σ.1 (b + 3) x).toInt ≤ (σ.1 (b + 3) r).toInt) : QT (f_X7_link b x1 x2 σ) (LKS b x p l m σ) := by
  have l0' := li_0
  have lm := li_m1
  have n1 : x1.toNatClampNeg = x := by have := nN_ (x := x1) (by omega); omega
  have n2 : x2.toNatClampNeg = p := by have := nN_ (x := x2) (by omega); omega
  have go : QT (f_X7_link_39 b x1 x2 (-1) σ) (LKS b x p l m σ) := by
    unfold f_X7_link_39
    refine QT.grd (fun _ => ?_)
    rw [n2]
    exact a_lk50 b x1 x2 σ h1 h2 l FU [] (-1) _ 0 hP hr (by show (-1 : Int32).toInt = -1; exact lm) hP.2.2.1 (by omega) (by omega) hl hm
  unfold f_X7_link
  refine QT.grd (fun _ => ?_)
  rw [n2]
  refine QT.bnd (pt_isRow b _ σ) (fun q hq => ?_)
  obtain ⟨v, s⟩ := q
  obtain ⟨e, hv⟩ := hq
  have e : s = σ := e
  subst e
  have hv : v.toInt = 0 ∧ ¬ (0 ≤ (s.1 (b + 8) p).toInt ∧ (s.1 (b + 8) p).toInt < (s.1 b 1).toInt ∧ (s.1 (b + 8) p).toInt < (s.1 b 0).toInt) ∨ v.toInt = 1 ∧ 0 ≤ (s.1 (b + 8) p).toInt ∧ (s.1 (b + 8) p).toInt < (s.1 b 1).toInt ∧ (s.1 (b + 8) p).toInt < (s.1 b 0).toInt := hv
  dsimp only
  refine QT.ieq (fun _ => go) (fun hnz => ?_)
  refine QT.grd (fun _ => QT.grd (fun _ => ?_))
  refine QT.ile (fun _ => go) (fun hlt => ?_)
  rw [n1] at hlt
  have h0 : 0 ≤ (s.1 (b + 8) p).toInt := by omega
  have nq := nN_ h0
  generalize (s.1 (b + 8) p).toNatClampNeg = q at nq hlt
  have hL := hP.2.2.2
  have hme : m = [] := by
    cases m with
    | nil => rfl
    | cons r m =>
      exfalso
      rw [lz_app] at hL
      have hL : (s.1 (b + 8) p).toInt = lz (r : Int) m := hL
      rcases lz_in m (r : Int) with ⟨_, h9⟩ | ⟨q', h8, h9⟩
      · have := hm r List.mem_cons_self
        rw [show q = r by omega] at hlt
        omega
      · have := hm q' (List.mem_cons_of_mem _ h8)
        rw [show q = q' by omega] at hlt
        omega
  subst hme
  rw [List.append_nil] at hL
  exact a_lk103 b x1 x2 _ s h1 h2 hL hP hr
/-! a new row -/
theorem stLA {σ : ST} {q i : Nat} {v : Int64} : (stL σ q i v).2.1 q = vp_updL (σ.2.1 q) i v := by
  show (bif Nat.beq q q then vp_updL (σ.2.1 q) i v else σ.2.1 q) = _
  rw [Nat.beq_refl]
  rfl
theorem upLA {f : Nat → Int64} {i j : Nat} {v : Int64} (h : j = i) : vp_updL f i v j = v := by
  unfold vp_updL
  rw [if_pos h]
theorem upLN {f : Nat → Int64} {i j : Nat} {v : Int64} (h : j ≠ i) : vp_updL f i v j = f j := by
  unfold vp_updL
  rw [if_neg h]
theorem nbF : vp_nar .boolean (0 : Int32) = 0 := by decide
theorem nbT : vp_nar .boolean (1 : Int32) = 1 := by decide
/-- the three columns of links, when x came (p: its parent, or none) -/
def GRL (F L N F' L' N' : Nat → Int32) (x : Nat) (p : Int) (l m : List Nat) : Prop := ((F' x).toInt = -1 ∧ (L' x).toInt = -1) ∧ (∀ j : Nat, (j : Int) ≠ p → j ≠ x → F' j = F j ∧ L' j = L j) ∧ (∀ j : Nat, j ≠ x → (j : Int) ≠ lz (-1) l → N' j = N j) ∧ ∀ q : Nat, (q : Int) = p → CN N' (F' q) (l ++ x :: m) ∧ (L' q).toInt = lz (-1) (l ++ x :: m)
theorem GRL.of {F L N F1 L1 N1 F' L' N' : Nat → Int32} {x p : Nat} {l m : List Nat} (h : LKG F1 L1 N1 F' L' N' x p l m) (hp : p ≠ x) (hF : F1 = upd F x (-1)) (hL : L1 = upd L x (-1)) (hN : ∀ j, j ≠ x → N1 j = N j) : GRL F L N F' L' N' x p l m := by
  have lm := li_m1
  obtain ⟨h1, h2, h3, h4⟩ := h
  refine ⟨?_, fun j hj hx => ?_, fun j hx hj => (h2 j hx hj).trans (hN j hx), fun q hq => ?_⟩
  · have := h1 x (fun e => hp e.symm)
    rw [this.1, this.2, hF, hL, upA rfl, upA rfl]
    exact ⟨lm, lm⟩
  · have := h1 j (fun e => hj (by rw [e]))
    rw [this.1, this.2, hF, hL, upN hx, upN hx]
    exact ⟨rfl, rfl⟩
  · rw [show q = p by omega]
    exact ⟨h3, h4⟩
/-- the class's tree, when row x came -/
def GRW (b x : Nat) (so pa pl : Int32) (l m : List Nat) (σ s : ST) : Prop := ((∀ c, c < b ∨ b + 9 < c → s.1 c = σ.1 c) ∧ (∀ c, c ≠ b + 6 → s.2.1 c = σ.2.1 c) ∧ s.2.2 = σ.2.2 ∧ (∀ j, j ≠ 1 → s.1 b j = σ.1 b j)) ∧ (s.1 b 1).toInt = (x : Int) + 1 ∧ (s.1 (b + 1) x = so ∧ s.1 (b + 2) x = pa ∧ s.1 (b + 3) x = pl ∧ s.1 (b + 4) x = 0 ∧ s.1 (b + 5) x = 0 ∧ s.2.1 (b + 6) x = 0) ∧ (∀ j, j ≠ x → (∀ k, 1 ≤ k → k ≤ 5 → s.1 (b + k) j = σ.1 (b + k) j) ∧ s.2.1 (b + 6) j = σ.2.1 (b + 6) j) ∧ GRL (σ.1 (b + 7)) (σ.1 (b + 8)) (σ.1 (b + 9)) (s.1 (b + 7)) (s.1 (b + 8)) (s.1 (b + 9)) x pa.toInt l m
theorem a_grow (b : Nat) (so pa pl : Int32) (σ : ST) {x : Nat} {l m : List Nat} (hx : (σ.1 b 1).toInt = x) (hpa : pa.toInt = -1 ∨ 0 ≤ pa.toInt ∧ pa.toInt < x ∧ ((l ++ m).Nodup ∧ CN (σ.1 (b + 9)) (σ.1 (b + 7) pa.toNatClampNeg) (l ++ m) ∧ (σ.1 (b + 8) pa.toNatClampNeg).toInt = lz (-1) (l ++ m)) ∧ (∀ r, r ∈ l ++ m → r < x) ∧ l.length ≤ x ∧ (∀ r, r ∈ l → (σ.1 (b + 3) r).toInt < pl.toInt) ∧ (∀ r, r ∈ m → pl.toInt ≤ (σ.1 (b + 3) r).toInt)) : QT (f_X7_grow b so pa pl σ) (fun q => (q.1 = -1 ∧ (σ.1 b 0).toInt ≤ x ∧ q.2 = σ) ∨ ((q.1.toInt = x ∧ (x : Int) < (σ.1 b 0).toInt) ∧ GRW b x so pa pl l m σ q.2)) := by
  have lm := li_m1
  have l0 := li_0
  have l1 := li_1
  unfold f_X7_grow
  refine QT.ilt (fun hlt => ?_) (fun h => QT.ret (.inl ⟨rfl, by omega, rfl⟩))
  refine QT.grd (fun _ => ?_)
  have nx := nN_ (x := σ.1 b 1) (by omega)
  have rx := il_rng (σ.1 b 0)
  have ex : (σ.1 b 1 + 1).toInt = x + 1 := by rw [il_addE (by omega) (by omega)]; omega
  generalize hv : σ.1 b 1 = v at hx hlt nx ex
  rw [show v.toNatClampNeg = x by omega]
  refine QT.lt (fun z2 e2 => QT.lt (fun z3 e3 => QT.lt (fun z4 e4 => QT.lt (fun z5 e5 => ?_))))
  have A (k : Nat) (hk : 1 ≤ k) (hk5 : k ≤ 5) : z5.1 (b + k) = z3.1 (b + k) := by
    rw [e5, stI_ne (by omega), stI_ne (by omega), e4, stI_ne (by omega)]
    rfl
  have c1 : z5.1 (b + 1) = upd (σ.1 (b + 1)) x so := by
    rw [A 1 (by omega) (by omega), e3, stI_ne (by omega), stI_ne (by omega), stI_ne (by omega), e2, stI_ne (by omega), stI_at, stI_ne (by omega)]
  have c2 : z5.1 (b + 2) = upd (σ.1 (b + 2)) x pa := by
    rw [A 2 (by omega) (by omega), e3, stI_ne (by omega), stI_ne (by omega), stI_ne (by omega), e2, stI_at, stI_ne (by omega), stI_ne (by omega)]
  have z2c (c : Nat) (h : b + 2 < c) : z2.1 c = σ.1 c := by rw [e2, stI_ne (by omega), stI_ne (by omega), stI_ne (by omega)]
  have c3 : z5.1 (b + 3) = upd (σ.1 (b + 3)) x pl := by
    rw [A 3 (by omega) (by omega), e3, stI_ne (by omega), stI_ne (by omega), stI_at, z2c _ (by omega)]
  have c4 : z5.1 (b + 4) = upd (σ.1 (b + 4)) x 0 := by
    rw [A 4 (by omega) (by omega), e3, stI_ne (by omega), stI_at, stI_ne (by omega), z2c _ (by omega)]
  have c5 : z5.1 (b + 5) = upd (σ.1 (b + 5)) x 0 := by
    rw [A 5 (by omega) (by omega), e3, stI_at, stI_ne (by omega), stI_ne (by omega), z2c _ (by omega), nbF]
  have z3c (c : Nat) (h : b + 5 < c) : z3.1 c = σ.1 c := by rw [e3, stI_ne (by omega), stI_ne (by omega), stI_ne (by omega), z2c c (by omega)]
  have c7 : z5.1 (b + 7) = upd (σ.1 (b + 7)) x (-1) := by
    rw [e5, stI_ne (by omega), stI_ne (by omega), e4, stI_at]
    show upd (z3.1 (b + 7)) x (-1) = _
    rw [z3c _ (by omega)]
  have z4c (c : Nat) (h : b + 7 < c) : z4.1 c = σ.1 c := by
    rw [e4, stI_ne (by omega)]
    exact z3c c (by omega)
  have c8 : z5.1 (b + 8) = upd (σ.1 (b + 8)) x (-1) := by rw [e5, stI_ne (by omega), stI_at, z4c _ (by omega)]
  have c9 : z5.1 (b + 9) = upd (σ.1 (b + 9)) x (-1) := by rw [e5, stI_at, stI_ne (by omega), z4c _ (by omega)]
  have c0 : z5.1 b = upd (σ.1 b) 1 (v + 1) := by
    rw [e5, stI_ne (by omega), stI_ne (by omega), e4, stI_ne (by omega)]
    show z3.1 b = _
    rw [e3, stI_ne (by omega), stI_ne (by omega), stI_ne (by omega), e2, stI_ne (by omega), stI_ne (by omega), stI_at]
  have co (c : Nat) (h : c < b ∨ b + 9 < c) : z5.1 c = σ.1 c := by
    rw [e5, stI_ne (by omega), stI_ne (by omega), e4, stI_ne (by omega)]
    show z3.1 c = _
    rw [e3, stI_ne (by omega), stI_ne (by omega), stI_ne (by omega), e2, stI_ne (by omega), stI_ne (by omega), stI_ne (by omega)]
  have z3L : z3.2 = σ.2 := by
    rw [e3, e2]
    rfl
  have cL : z5.2 = (stL z3 (b + 6) x 0).2 := by
    rw [e5, e4]
    rfl
  have c6 : z5.2.1 (b + 6) = vp_updL (σ.2.1 (b + 6)) x 0 := by
    rw [cL, stLA, z3L]
  have cl (c : Nat) (h : c ≠ b + 6) : z5.2.1 c = σ.2.1 c := by
    rw [cL, stL_ne h, z3L]
  have cE : z5.2.2 = σ.2.2 := by
    rw [cL]
    show z3.2.2 = _
    rw [z3L]
  have n0 : (z5.1 b 0).toInt = (σ.1 b 0).toInt := by rw [c0, upN (by omega)]
  have n1 : (z5.1 b 1).toInt = x + 1 := by rw [c0, upA rfl]; exact ex
  have fin (s : ST) (h1 : ∀ c, c ≠ b + 7 → c ≠ b + 8 → c ≠ b + 9 → s.1 c = z5.1 c) (h2 : s.2 = z5.2) (h3 : GRL (σ.1 (b + 7)) (σ.1 (b + 8)) (σ.1 (b + 9)) (s.1 (b + 7)) (s.1 (b + 8)) (s.1 (b + 9)) x pa.toInt l m) : GRW b x so pa pl l m σ s := by
    refine ⟨⟨fun c h => ?_, fun c h => ?_, ?_, fun j hj => ?_⟩, ?_, ⟨?_, ?_, ?_, ?_, ?_, ?_⟩, fun j hj => ⟨fun k k1 k5 => ?_, ?_⟩, h3⟩
    · rw [h1 c (by omega) (by omega) (by omega), co c h]
    · rw [h2, cl c h]
    · rw [h2, cE]
    · rw [h1 b (by omega) (by omega) (by omega), c0, upN hj]
    · rw [h1 b (by omega) (by omega) (by omega)]
      exact n1
    · rw [h1 _ (by omega) (by omega) (by omega), c1, upA rfl]
    · rw [h1 _ (by omega) (by omega) (by omega), c2, upA rfl]
    · rw [h1 _ (by omega) (by omega) (by omega), c3, upA rfl]
    · rw [h1 _ (by omega) (by omega) (by omega), c4, upA rfl]
    · rw [h1 _ (by omega) (by omega) (by omega), c5, upA rfl]
    · rw [h2, c6, upLA rfl]
    · rw [h1 _ (by omega) (by omega) (by omega)]
      have : k = 1 ∨ k = 2 ∨ k = 3 ∨ k = 4 ∨ k = 5 := by omega
      rcases this with e | e | e | e | e
      · rw [e, c1, upN hj]
      · rw [e, c2, upN hj]
      · rw [e, c3, upN hj]
      · rw [e, c4, upN hj]
      · rw [e, c5, upN hj]
    · rw [h2, c6, upLN hj]
  refine QT.bnd (pt_isRow b pa z5) (fun q hq => ?_)
  obtain ⟨w, s⟩ := q
  obtain ⟨e, hw⟩ := hq
  have e : s = z5 := e
  subst e
  have hw : w.toInt = 0 ∧ ¬ (0 ≤ pa.toInt ∧ pa.toInt < (s.1 b 1).toInt ∧ pa.toInt < (s.1 b 0).toInt) ∨ w.toInt = 1 ∧ 0 ≤ pa.toInt ∧ pa.toInt < (s.1 b 1).toInt ∧ pa.toInt < (s.1 b 0).toInt := hw
  dsimp only
  refine QT.ieq (fun e => QT.ret (.inr ⟨⟨hx, by omega⟩, fin s (fun c _ _ _ => rfl) rfl ?_⟩)) (fun e => ?_)
  · refine ⟨?_, fun j _ hj => ?_, fun j hj _ => ?_, fun q hq => ?_⟩
    · rw [c7, c8, upA rfl, upA rfl]
      exact ⟨lm, lm⟩
    · rw [c7, c8, upN hj, upN hj]
      exact ⟨rfl, rfl⟩
    · rw [c9, upN hj]
    · exfalso
      have hp : pa.toInt = -1 := by
        rcases hpa with h | h
        · exact h
        · have := h.2.1
          omega
      omega
  · rcases hpa with h | ⟨p0, px, ⟨hd, hc, hl⟩, hr, hlen, hpl, hpm⟩
    · exact absurd h (by omega)
    · have np := nN_ p0
      generalize pa.toNatClampNeg = p at np hc hl
      have hxm : x ∉ l ++ m := fun h => by have := hr x h; omega
      have hP : LKP b x p l m s := by
        refine ⟨hxm, hd, ?_, ?_⟩
        · rw [c9, c7, upN (by omega)]
          exact hc.ext _ _ (fun r h => upN (fun e => by have := hr r h; omega))
        · rw [c8, upN (by omega)]
          exact hl
      have g := a_link b v pa s (x := x) (p := p) hx np.symm hP (fun r h => by have := hr r h; omega) (by omega) (fun r h => by
        have := hr r (List.mem_append_left _ h)
        rw [c3, upN (by omega), upA rfl]
        exact hpl r h) (fun r h => by
        have := hr r (List.mem_append_right _ h)
        rw [c3, upA (j := x) rfl, upN (by omega)]
        exact hpm r h)
      refine QT.bnd g (fun t ht => QT.ret (.inr ⟨⟨hx, by omega⟩, fin t ht.1 ht.2.1 ?_⟩))
      have := GRL.of (F := σ.1 (b + 7)) (L := σ.1 (b + 8)) (N := σ.1 (b + 9)) ht.2.2 (by omega) c7 c8 (fun j hj => by rw [c9, upN hj])
      rw [np] at this
      exact this
/-! a new node of the reference -/
/-- the reference's nodes, when x came below p -/
def LJS (x p : Nat) (l m : List Nat) (σ s : ST) : Prop := (∀ c, c ≠ 28 → c ≠ 29 → c ≠ 30 → s.1 c = σ.1 c) ∧ s.2 = σ.2 ∧ LKG (σ.1 28) (σ.1 29) (σ.1 30) (s.1 28) (s.1 29) (s.1 30) x p l m
def LJP (x p : Nat) (l m : List Nat) (σ : ST) : Prop := x ∉ l ++ m ∧ (l ++ m).Nodup ∧ CN (σ.1 30) (σ.1 28 p) (l ++ m) ∧ (σ.1 29 p).toInt = lz (-1) (l ++ m)
theorem b_j147 (x1 x2 : Int32) (σ : ST) {x p : Nat} (h1 : x1.toInt = p) (h2 : x2.toInt = x) : QT (f_X11_joins_147 x1 x2 σ) (fun s => (∀ c, c ≠ 29 → s.1 c = σ.1 c) ∧ s.2 = σ.2 ∧ ((σ.1 30 x).toInt < 0 ∧ s.1 29 p = x2 ∨ 0 ≤ (σ.1 30 x).toInt ∧ s.1 29 p = σ.1 29 p) ∧ ∀ j, j ≠ p → s.1 29 j = σ.1 29 j) := by
  have l0 := li_0
  have n1 : x1.toNatClampNeg = p := by have := nN_ (x := x1) (by omega); omega
  have n2 : x2.toNatClampNeg = x := by have := nN_ (x := x2) (by omega); omega
  unfold f_X11_joins_147
  rw [n1, n2]
  refine QT.grd (fun _ => ?_)
  refine QT.ile (fun e => ?_) (fun e => ?_)
  · exact QT.ret ⟨fun c hc => rfl, rfl, .inr ⟨by omega, rfl⟩, fun j hj => rfl⟩
  · refine QT.grd (fun _ => QT.ret ⟨fun c hc => stI_ne hc, rfl, .inl ⟨by omega, by rw [stI_at, upA rfl]⟩, fun j hj => by rw [stI_at, upN hj]⟩)
theorem b_j101 (x1 x2 x3 : Int32) (σ : ST) {x p : Nat} {l m : List Nat} (h1 : x1.toInt = p) (h2 : x2.toInt = x) (h3 : x3.toInt = lz (-1) l) (hP : LJP x p l m σ) : QT (f_X11_joins_101 x1 x2 x3 σ) (LJS x p l m σ) := by
  have lm := li_m1
  have l0 := li_0
  have n1 : x1.toNatClampNeg = p := by have := nN_ (x := x1) (by omega); omega
  have n2 : x2.toNatClampNeg = x := by have := nN_ (x := x2) (by omega); omega
  obtain ⟨hx, hd, hc, hl⟩ := hP
  unfold f_X11_joins_101
  refine QT.ile (fun h0 => ?_) (fun h0 => ?_)
  · have h0 : 0 ≤ x3.toInt := by omega
    have n3 := nN_ h0
    generalize hq : x3.toNatClampNeg = q at n3
    have hqx : q ≠ x := fun e9 => by
      rcases lz_in l (-1) with ⟨_, h9⟩ | ⟨q', h8, h9⟩
      · omega
      · exact hx (List.mem_append_left _ (by rw [show x = q' by omega]; exact h8))
    refine QT.grd (fun _ => ?_)
    unfold f_X11_joins_125
    rw [hq, n2]
    refine QT.grd (fun _ => QT.ite (fun _ => ?_) (fun h => absurd (Int32.le_iff_toInt_le.mpr (by omega)) h))
    refine QT.grd (fun _ => ?_)
    generalize ez : stI (stI σ 30 x (σ.1 30 q)) 30 q x2 = z
    have z9 : z.1 30 = upd (upd (σ.1 30) x (σ.1 30 q)) q x2 := by rw [← ez, stI_at, stI_at]
    have zc : ∀ c, c ≠ 30 → z.1 c = σ.1 c := fun c h9 => by rw [← ez, stI_ne h9, stI_ne h9]
    have zL : z.2 = σ.2 := by rw [← ez]; rfl
    refine (b_j147 x1 x2 z h1 h2).mono (fun w hw => ?_)
    obtain ⟨w1, w2, w3, w4⟩ := hw
    refine ⟨fun c c7 c8 c9 => (w1 c c8).trans (zc c c9), w2.trans zL, ?_⟩
    have e7 : w.1 28 = σ.1 28 := (w1 _ (by omega)).trans (zc _ (by omega))
    have e9 : w.1 30 = upd (upd (σ.1 30) x (σ.1 30 q)) q x2 := (w1 _ (by omega)).trans z9
    have e8 : z.1 29 = σ.1 29 := zc _ (by omega)
    rw [z9, upN (fun e => hqx e.symm), upA rfl, e8] at w3
    rw [e8] at w4
    obtain ⟨y, hy, hy2⟩ := CN.mid l m (σ.1 28 p) hc
    have ey : y = σ.1 30 q := by
      rcases hy2 with ⟨e, _⟩ | ⟨q', e, h⟩
      · rw [e] at h3
        have h3 : x3.toInt = -1 := h3
        omega
      · rw [h, show q' = q by omega]
    have hm1 : (σ.1 30 q).toInt < 0 → (σ.1 30 q).toInt = -1 := fun h9 => by
      rw [← ey] at h9 ⊢
      cases m with
      | nil => exact hy
      | cons r m =>
        have := hy.1
        omega
    rw [e7, e9]
    refine lkg_1 (q := q) h2 hx hd hc (by omega) hl (fun j => rfl) ⟨⟨by rw [upN (fun e => hqx e.symm), upA rfl], upA rfl⟩, fun j h1 h2 => by rw [upN h2, upN h1]⟩ ⟨?_, w4⟩
    rcases w3 with ⟨a, b⟩ | ⟨a, b⟩
    · exact .inl ⟨hm1 a, b⟩
    · exact .inr ⟨by omega, b⟩
  · have hle : l = [] := by
      rcases lz_in l (-1) with ⟨e, _⟩ | ⟨q, h8, h9⟩
      · exact e
      · omega
    subst hle
    refine QT.grd (fun _ => ?_)
    unfold f_X11_joins_125
    rw [n1, n2]
    refine QT.grd (fun _ => QT.ite (fun h => absurd (Int32.le_iff_toInt_le.mp h) (by omega)) (fun _ => ?_))
    refine QT.grd (fun _ => ?_)
    generalize ez : stI (stI σ 30 x (σ.1 28 p)) 28 p x2 = z
    have z9 : z.1 30 = upd (σ.1 30) x (σ.1 28 p) := by rw [← ez, stI_ne (by omega), stI_at]
    have z7 : z.1 28 = upd (σ.1 28) p x2 := by rw [← ez, stI_at, stI_ne (by omega)]
    have zc : ∀ c, c ≠ 28 → c ≠ 30 → z.1 c = σ.1 c := fun c h7 h9 => by rw [← ez, stI_ne h7, stI_ne h9]
    have zL : z.2 = σ.2 := by rw [← ez]; rfl
    refine (b_j147 x1 x2 z h1 h2).mono (fun w hw => ?_)
    obtain ⟨w1, w2, w3, w4⟩ := hw
    refine ⟨fun c c7 c8 c9 => (w1 c c8).trans (zc c c7 c9), w2.trans zL, ?_⟩
    have e7 : w.1 28 = upd (σ.1 28) p x2 := (w1 _ (by omega)).trans z7
    have e9 : w.1 30 = upd (σ.1 30) x (σ.1 28 p) := (w1 _ (by omega)).trans z9
    have e8 : z.1 29 = σ.1 29 := zc _ (by omega) (by omega)
    rw [z9, upA rfl, e8] at w3
    rw [e8] at w4
    rw [e7, e9]
    have hm1 : (σ.1 28 p).toInt < 0 → (σ.1 28 p).toInt = -1 := fun h9 => by
      have hc : CN (σ.1 30) (σ.1 28 p) m := hc
      cases m with
      | nil => exact hc
      | cons r m =>
        have := hc.1
        omega
    refine lkg_0 h2 hx hc hl ⟨upA rfl, fun j hj => upN hj⟩ ⟨upA rfl, fun j hj => upN hj⟩ ⟨?_, w4⟩
    rcases w3 with ⟨a, b⟩ | ⟨a, b⟩
    · exact .inl ⟨hm1 a, b⟩
    · exact .inr ⟨by omega, b⟩
theorem b_j65 (x1 x2 : Int32) (σ : ST) {x p : Nat} {m : List Nat} (h1 : x1.toInt = p) (h2 : x2.toInt = x) : ∀ (l : List Nat) (n : Nat) (l0 : List Nat) (x3 x4 : Int32), LJP x p (l0 ++ l) m σ → x3.toInt = lz (-1) l0 → CN (σ.1 30) x4 (l ++ m) → (∀ r, r ∈ l → (σ.1 25 r).toInt < (σ.1 25 x).toInt) → (∀ r, r ∈ m → (σ.1 25 x).toInt ≤ (σ.1 25 r).toInt) → QT (f_X11_joins_65 n x1 x2 x3 x4 σ) (LJS x p (l0 ++ l) m σ) := by
  have l0' := li_0
  have n2 : x2.toNatClampNeg = x := by have := nN_ (x := x2) (by omega); omega
  intro l
  induction l with
  | nil =>
    intro n l0 x3 x4 hP h3 hc hl hm
    cases n with
    | zero => exact QT.none
    | succ n =>
      rw [f_X11_joins_65]
      rw [List.append_nil] at hP ⊢
      have go := b_j101 x1 x2 x3 σ h1 h2 h3 hP
      refine QT.ilt (fun _ => go) (fun hge => ?_)
      refine QT.grd (fun _ => QT.grd (fun _ => ?_))
      refine QT.ile (fun _ => go) (fun hlt => ?_)
      have n5 := nN_ (x := x4) (by omega)
      rw [n2] at hlt
      cases m with
      | nil =>
        have hc : x4.toInt = -1 := hc
        omega
      | cons r m =>
        have hc1 := hc.1
        have := hm r List.mem_cons_self
        rw [show x4.toNatClampNeg = r by omega] at hlt
        omega
  | cons a l ih =>
    intro n l0 x3 x4 hP h3 hc hl hm
    cases n with
    | zero => exact QT.none
    | succ n =>
      rw [f_X11_joins_65]
      have hc1 := hc.1
      refine QT.ilt (fun h => by omega) (fun _ => ?_)
      have n5 : x4.toNatClampNeg = a := by have := nN_ (x := x4) (by omega); omega
      have hla := hl a List.mem_cons_self
      rw [n2, n5]
      refine QT.grd (fun _ => QT.grd (fun _ => ?_))
      refine QT.ile (fun h => by omega) (fun _ => ?_)
      have eapp : l0 ++ a :: l = (l0 ++ [a]) ++ l := by simp
      rw [eapp] at hP ⊢
      refine ih n (l0 ++ [a]) x4 _ hP ?_ hc.2 (fun r h => hl r (List.mem_cons_of_mem _ h)) hm
      rw [lz_app]
      show x4.toInt = (a : Int)
      exact hc1
/-- x comes below p, behind those of lesser places -/
theorem bj_joins (x1 x2 : Int32) (τ : ST) {x p : Nat} {l m : List Nat} (h1 : x1.toInt = p) (h2 : x2.toInt = x) (hP : LJP x p l m τ) (hl : ∀ r, r ∈ l → (τ.1 25 r).toInt < (τ.1 25 x).toInt) (hm : ∀ r, r ∈ m → (τ.1 25 x).toInt ≤ (τ.1 25 r).toInt) : QT (f_X11_joins x1 x2 τ) (LJS x p l m (stI τ 23 p (τ.1 23 p + 1))) := by
  have l0' := li_0
  have lm := li_m1
  have n1 : x1.toNatClampNeg = p := by have := nN_ (x := x1) (by omega); omega
  have n2 : x2.toNatClampNeg = x := by have := nN_ (x := x2) (by omega); omega
  unfold f_X11_joins
  rw [n1]
  have k (c : Nat) (h : c ≠ 23) : (stI τ 23 p (τ.1 23 p + 1)).1 c = τ.1 c := stI_ne h
  have hP : LJP x p l m (stI τ 23 p (τ.1 23 p + 1)) := by
    unfold LJP
    rw [k 30 (by omega), k 28 (by omega), k 29 (by omega)]
    exact hP
  rw [← k 25 (by omega)] at hl hm
  generalize stI τ 23 p (τ.1 23 p + 1) = σ at hP hl hm
  have go : QT (f_X11_joins_45 x1 x2 (-1) σ) (LJS x p l m σ) := by
    unfold f_X11_joins_45
    refine QT.grd (fun _ => ?_)
    rw [n1]
    unfold f_X11_joins_51
    refine QT.ile (fun _ => b_j65 x1 x2 σ h1 h2 l FU [] (-1) _ hP (by show (-1 : Int32).toInt = -1; exact lm) hP.2.2.1 hl hm) (fun hneg => ?_)
    refine QT.grd (fun _ => ?_)
    have hle : l ++ m = [] := by
      have hc := hP.2.2.1
      generalize l ++ m = k at hc
      cases k with
      | nil => rfl
      | cons r k =>
        have := hc.1
        omega
    have hl0 : l = [] := (List.append_eq_nil_iff.mp hle).1
    subst hl0
    refine b_j65 x1 x2 σ h1 h2 [] FU [] _ _ hP ?_ hP.2.2.1 hl hm
    rw [n1, hP.2.2.2, hle]
  refine QT.grd (fun _ => ?_)
  refine QT.ilt (fun _ => go) (fun h0 => ?_)
  refine QT.grd (fun _ => QT.grd (fun _ => ?_))
  refine QT.ile (fun _ => go) (fun hlt => ?_)
  rw [n2] at hlt
  have nq := nN_ (x := σ.1 29 p) (by omega)
  generalize (σ.1 29 p).toNatClampNeg = q at nq hlt
  have hL := hP.2.2.2
  have hme : m = [] := by
    cases m with
    | nil => rfl
    | cons r m =>
      exfalso
      rw [lz_app] at hL
      have hL : (σ.1 29 p).toInt = lz (r : Int) m := hL
      rcases lz_in m (r : Int) with ⟨_, h9⟩ | ⟨q', h8, h9⟩
      · have := hm r List.mem_cons_self
        rw [show q = r by omega] at hlt
        omega
      · have := hm q' (List.mem_cons_of_mem _ h8)
        rw [show q = q' by omega] at hlt
        omega
  subst hme
  rw [List.append_nil] at hL
  unfold f_X11_joins_51
  refine QT.ite (fun h => absurd (Int32.le_iff_toInt_le.mp h) (by omega)) (fun _ => ?_)
  refine QT.grd (fun _ => ?_)
  rw [n1]
  generalize FU = n
  cases n with
  | zero => exact QT.none
  | succ n =>
    rw [f_X11_joins_65]
    exact QT.ite (fun _ => b_j101 x1 x2 _ σ h1 h2 hL hP) (fun h => absurd (Int32.lt_iff_toInt_lt.mpr (by omega)) h)
/-- the reference's tree, when node x came -/
def GRB (x : Nat) (so pa pl br : Int32) (l m : List Nat) (τ t : ST) : Prop := ((∀ c, c ≠ 0 → c ≠ 20 → (c < 23 ∨ 30 < c) → t.1 c = τ.1 c) ∧ (∀ c, c ≠ 21 → c ≠ 22 → t.2.1 c = τ.2.1 c) ∧ t.2.2 = τ.2.2 ∧ (∀ j, j ≠ 46 → t.1 0 j = τ.1 0 j)) ∧ (t.1 0 46).toInt = (x : Int) + 1 ∧ ((t.1 20 x = so ∧ t.1 23 x = 0) ∧ (t.1 24 x = pa ∧ t.1 25 x = pl) ∧ (t.1 26 x = br ∧ t.1 27 x = 0) ∧ t.2.1 21 x = 0 ∧ t.2.1 22 x = 0) ∧ (∀ j, j ≠ x → t.1 20 j = τ.1 20 j ∧ ((j : Int) ≠ pa.toInt → t.1 23 j = τ.1 23 j) ∧ ((j : Int) = pa.toInt → t.1 23 j = τ.1 23 j + 1) ∧ (∀ k, 24 ≤ k → k ≤ 27 → t.1 k j = τ.1 k j) ∧ t.2.1 21 j = τ.2.1 21 j ∧ t.2.1 22 j = τ.2.1 22 j) ∧ GRL (τ.1 28) (τ.1 29) (τ.1 30) (t.1 28) (t.1 29) (t.1 30) x pa.toInt l m
theorem b_lays (so pa pl br : Int32) (τ : ST) {x : Nat} {l m : List Nat} (hx : (τ.1 0 46).toInt = x) (hpa : pa.toInt = -1 ∨ 0 ≤ pa.toInt ∧ pa.toInt < x ∧ ((l ++ m).Nodup ∧ CN (τ.1 30) (τ.1 28 pa.toNatClampNeg) (l ++ m) ∧ (τ.1 29 pa.toNatClampNeg).toInt = lz (-1) (l ++ m)) ∧ (∀ r, r ∈ l ++ m → r < x) ∧ (∀ r, r ∈ l → (τ.1 25 r).toInt < pl.toInt) ∧ (∀ r, r ∈ m → pl.toInt ≤ (τ.1 25 r).toInt)) : QT (f_X11_laysNode so pa pl br τ) (fun q => (q.1.toInt = x ∧ x < 4096) ∧ GRB x so pa pl br l m τ q.2) := by
  have lm := li_m1
  have l0 := li_0
  have l1 := li_1
  unfold f_X11_laysNode
  refine QT.grd (fun hg => ?_)
  have nx := nN_ (x := τ.1 0 46) (by omega)
  have ex : (τ.1 0 46 + 1).toInt = x + 1 := by rw [il_addE (by omega) (by omega)]; omega
  generalize hv : τ.1 0 46 = v at hx nx ex hg
  rw [show v.toNatClampNeg = x by omega]
  refine QT.lt (fun z2 e2 => QT.lt (fun z3 e3 => QT.lt (fun z4 e4 => QT.lt (fun z5 e5 => ?_))))
  have z2J (c : Nat) (h0 : c ≠ 0) (h2 : c ≠ 20) : z2.1 c = τ.1 c := by
    rw [e2]
    show (stI (stI τ 0 46 (v + 1)) 20 x so).1 c = _
    rw [stI_ne h2, stI_ne h0]
  have z20 : z2.1 0 = upd (τ.1 0) 46 (v + 1) := by
    rw [e2]
    show (stI (stI τ 0 46 (v + 1)) 20 x so).1 0 = _
    rw [stI_ne (by omega), stI_at]
  have z2S : z2.1 20 = upd (τ.1 20) x so := by
    rw [e2]
    show (stI (stI τ 0 46 (v + 1)) 20 x so).1 20 = _
    rw [stI_at, stI_ne (by omega)]
  have z3J (c : Nat) (h0 : c ≠ 23) (h2 : c ≠ 24) : z3.1 c = z2.1 c := by
    rw [e3, stI_ne h2, stI_ne h0]
    rfl
  have z4J (c : Nat) (h0 : c ≠ 25) (h2 : c ≠ 26) (h3 : c ≠ 27) : z4.1 c = z3.1 c := by
    rw [e4, stI_ne h3, stI_ne h2, stI_ne h0]
  have z5J (c : Nat) (h0 : c ≠ 28) (h2 : c ≠ 29) (h3 : c ≠ 30) : z5.1 c = z4.1 c := by
    rw [e5, stI_ne h3, stI_ne h2, stI_ne h0]
  have lo (c : Nat) (h : c < 23) : z5.1 c = z2.1 c := by
    rw [z5J c (by omega) (by omega) (by omega), z4J c (by omega) (by omega) (by omega), z3J c (by omega) (by omega)]
  have co (c : Nat) (h0 : c ≠ 0) (h2 : c ≠ 20) (h : c < 23 ∨ 30 < c) : z5.1 c = τ.1 c := by
    rw [z5J c (by omega) (by omega) (by omega), z4J c (by omega) (by omega) (by omega), z3J c (by omega) (by omega), z2J c h0 h2]
  have c23 : z5.1 23 = upd (τ.1 23) x 0 := by
    rw [z5J _ (by omega) (by omega) (by omega), z4J _ (by omega) (by omega) (by omega), e3, stI_ne (by omega), stI_at]
    show upd (z2.1 23) x 0 = _
    rw [z2J _ (by omega) (by omega)]
  have c24 : z5.1 24 = upd (τ.1 24) x pa := by
    rw [z5J _ (by omega) (by omega) (by omega), z4J _ (by omega) (by omega) (by omega), e3, stI_at, stI_ne (by omega)]
    show upd (z2.1 24) x pa = _
    rw [z2J _ (by omega) (by omega)]
  have c25 : z5.1 25 = upd (τ.1 25) x pl := by
    rw [z5J _ (by omega) (by omega) (by omega), e4, stI_ne (by omega), stI_ne (by omega), stI_at, z3J _ (by omega) (by omega), z2J _ (by omega) (by omega)]
  have c26 : z5.1 26 = upd (τ.1 26) x br := by
    rw [z5J _ (by omega) (by omega) (by omega), e4, stI_ne (by omega), stI_at, stI_ne (by omega), z3J _ (by omega) (by omega), z2J _ (by omega) (by omega)]
  have c27 : z5.1 27 = upd (τ.1 27) x 0 := by
    rw [z5J _ (by omega) (by omega) (by omega), e4, stI_at, stI_ne (by omega), stI_ne (by omega), z3J _ (by omega) (by omega), z2J _ (by omega) (by omega), nbF]
  have z4t (c : Nat) (h : 28 ≤ c) : z4.1 c = τ.1 c := by rw [z4J c (by omega) (by omega) (by omega), z3J c (by omega) (by omega), z2J c (by omega) (by omega)]
  have c28 : z5.1 28 = upd (τ.1 28) x (-1) := by rw [e5, stI_ne (by omega), stI_ne (by omega), stI_at, z4t _ (by omega)]
  have c29 : z5.1 29 = upd (τ.1 29) x (-1) := by rw [e5, stI_ne (by omega), stI_at, stI_ne (by omega), z4t _ (by omega)]
  have c30 : z5.1 30 = upd (τ.1 30) x (-1) := by rw [e5, stI_at, stI_ne (by omega), stI_ne (by omega), z4t _ (by omega)]
  have cL : z5.2 = (stL z2 22 x 0).2 := by
    rw [e5, e4, e3]
    rfl
  have z2L : z2.2 = (stL τ 21 x 0).2 := by
    rw [e2]
    rfl
  have cl (c : Nat) (h1 : c ≠ 21) (h2 : c ≠ 22) : z5.2.1 c = τ.2.1 c := by
    rw [cL, stL_ne h2, z2L, stL_ne h1]
  have c21 : z5.2.1 21 = vp_updL (τ.2.1 21) x 0 := by rw [cL, stL_ne (by omega), z2L]; rfl
  have c22 : z5.2.1 22 = vp_updL (τ.2.1 22) x 0 := by
    rw [cL]
    show vp_updL (z2.2.1 22) x 0 = _
    rw [z2L, stL_ne (by omega)]
  have cE : z5.2.2 = τ.2.2 := by
    rw [cL]
    show z2.2.2 = _
    rw [z2L]
    rfl
  have fin (t : ST) (h1 : ∀ c, c ≠ 23 → c ≠ 28 → c ≠ 29 → c ≠ 30 → t.1 c = z5.1 c) (h2 : t.2 = z5.2) (h23 : ∀ j : Nat, ((j : Int) ≠ pa.toInt → t.1 23 j = z5.1 23 j) ∧ ((j : Int) = pa.toInt → t.1 23 j = z5.1 23 j + 1)) (hne : (x : Int) ≠ pa.toInt) (h3 : GRL (τ.1 28) (τ.1 29) (τ.1 30) (t.1 28) (t.1 29) (t.1 30) x pa.toInt l m) : GRB x so pa pl br l m τ t := by
    refine ⟨⟨fun c h0 h20 h => ?_, fun c h21 h22 => ?_, ?_, fun j hj => ?_⟩, ?_, ⟨⟨?_, ?_⟩, ⟨?_, ?_⟩, ⟨?_, ?_⟩, ?_, ?_⟩, fun j hj => ⟨?_, fun h => ?_, fun h => ?_, fun k k1 k5 => ?_, ?_, ?_⟩, h3⟩
    · rw [h1 c (by omega) (by omega) (by omega) (by omega), co c h0 h20 h]
    · rw [h2, cl c h21 h22]
    · rw [h2, cE]
    · rw [h1 0 (by omega) (by omega) (by omega) (by omega), lo 0 (by omega), z20, upN hj]
    · rw [h1 0 (by omega) (by omega) (by omega) (by omega), lo 0 (by omega), z20, upA rfl]
      exact ex
    · rw [h1 _ (by omega) (by omega) (by omega) (by omega), lo _ (by omega), z2S, upA rfl]
    · rw [(h23 x).1 hne, c23, upA rfl]
    · rw [h1 _ (by omega) (by omega) (by omega) (by omega), c24, upA rfl]
    · rw [h1 _ (by omega) (by omega) (by omega) (by omega), c25, upA rfl]
    · rw [h1 _ (by omega) (by omega) (by omega) (by omega), c26, upA rfl]
    · rw [h1 _ (by omega) (by omega) (by omega) (by omega), c27, upA rfl]
    · rw [h2, c21, upLA rfl]
    · rw [h2, c22, upLA rfl]
    · rw [h1 _ (by omega) (by omega) (by omega) (by omega), lo _ (by omega), z2S, upN hj]
    · rw [(h23 j).1 h, c23, upN hj]
    · rw [(h23 j).2 h, c23, upN hj]
    · rw [h1 _ (by omega) (by omega) (by omega) (by omega)]
      have : k = 24 ∨ k = 25 ∨ k = 26 ∨ k = 27 := by omega
      rcases this with e | e | e | e
      · rw [e, c24, upN hj]
      · rw [e, c25, upN hj]
      · rw [e, c26, upN hj]
      · rw [e, c27, upN hj]
    · rw [h2, c21, upLN hj]
    · rw [h2, c22, upLN hj]
  refine QT.ilt (fun hneg => QT.ret ⟨⟨hx, by omega⟩, ?_⟩) (fun hnn => ?_)
  · have hp : pa.toInt = -1 := by
      rcases hpa with h | h
      · exact h
      · omega
    refine fin z5 (fun c _ _ _ _ => rfl) rfl (fun j => ⟨fun _ => rfl, fun h => by omega⟩) (by omega) ⟨?_, fun j _ hj => ?_, fun j hj _ => ?_, fun q hq => by omega⟩
    · rw [c28, c29, upA rfl, upA rfl]
      exact ⟨lm, lm⟩
    · rw [c28, c29, upN hj, upN hj]
      exact ⟨rfl, rfl⟩
    · rw [c30, upN hj]
  · rcases hpa with h | ⟨p0, px, ⟨hd, hc, hl⟩, hr, hpl, hpm⟩
    · exact absurd h (by omega)
    · have np := nN_ p0
      generalize pa.toNatClampNeg = p at np hc hl
      have hxm : x ∉ l ++ m := fun h => by have := hr x h; omega
      have hP : LJP x p l m z5 := by
        refine ⟨hxm, hd, ?_, ?_⟩
        · rw [c30, c28, upN (by omega)]
          exact hc.ext _ _ (fun r h => upN (fun e => by have := hr r h; omega))
        · rw [c29, upN (by omega)]
          exact hl
      have g := bj_joins pa v z5 (x := x) (p := p) np.symm hx hP (fun r h => by
        have := hr r (List.mem_append_left _ h)
        rw [c25, upN (by omega), upA rfl]
        exact hpl r h) (fun r h => by
        have := hr r (List.mem_append_right _ h)
        rw [c25, upA (j := x) rfl, upN (by omega)]
        exact hpm r h)
      refine QT.bnd g (fun t ht => QT.ret ⟨⟨hx, by omega⟩, ?_⟩)
      obtain ⟨t1, t2, t3⟩ := ht
      have k (c : Nat) (h : c ≠ 23) : (stI z5 23 p (z5.1 23 p + 1)).1 c = z5.1 c := stI_ne h
      refine fin t (fun c h1 h2 h3 h4 => (t1 c h2 h3 h4).trans (k c h1)) t2 (fun j => ⟨fun h => ?_, fun h => ?_⟩) (by omega) ?_
      · rw [t1 23 (by omega) (by omega) (by omega), stI_at, upN (by omega)]
      · rw [t1 23 (by omega) (by omega) (by omega), stI_at, upA (by omega), show j = p by omega]
      · rw [k 28 (by omega), k 29 (by omega), k 30 (by omega)] at t3
        have := GRL.of (F := τ.1 28) (L := τ.1 29) (N := τ.1 30) t3 (by omega) c28 c29 (fun j hj => by rw [c30, upN hj])
        rw [np] at this
        exact this
/-! a value in both trees -/
/-- a child: its place, the class's rows of it (none: 0, 0), the reference's -/
abbrev EN : Type := Nat × (Nat × Nat) × (Nat × Nat)
def inA (y : EN) : Bool := decide (y.2.1.1 < y.2.1.2)
def rA (l : List EN) : List Nat := (l.filter inA).map (fun y => y.2.1.1)
def rB (l : List EN) : List Nat := l.map (fun y => y.2.2.1)
def SEPE (a c : EN) : Prop := (a.2.1.2 ≤ c.2.1.1 ∨ c.2.1.2 ≤ a.2.1.1) ∧ (a.2.2.2 ≤ c.2.2.1 ∨ c.2.2.2 ≤ a.2.2.1)
theorem mem_rA {l : List EN} {r : Nat} (h : r ∈ rA l) : ∃ y, y ∈ l ∧ inA y = true ∧ r = y.2.1.1 := by
  obtain ⟨y, hy, e⟩ := List.mem_map.mp h
  obtain ⟨h1, h2⟩ := List.mem_filter.mp hy
  exact ⟨y, h1, h2, e.symm⟩
theorem mem_rB {l : List EN} {r : Nat} (h : r ∈ rB l) : ∃ y, y ∈ l ∧ r = y.2.2.1 := by
  obtain ⟨y, hy, e⟩ := List.mem_map.mp h
  exact ⟨y, hy, e.symm⟩
theorem inA_lt {y : EN} (h : inA y = true) : y.2.1.1 < y.2.1.2 := of_decide_eq_true h
theorem rA_app (l m : List EN) : rA (l ++ m) = rA l ++ rA m := by
  unfold rA
  rw [List.filter_append, List.map_append]
theorem rB_app (l m : List EN) : rB (l ++ m) = rB l ++ rB m := by
  unfold rB
  rw [List.map_append]
/-- a row's own columns, of the class and of the reference -/
def CLA (b : Nat) (σ s : ST) (j : Nat) : Prop := (∀ k, 1 ≤ k → k ≤ 5 → s.1 (b + k) j = σ.1 (b + k) j) ∧ s.2.1 (b + 6) j = σ.2.1 (b + 6) j
def CLB (τ t : ST) (j : Nat) : Prop := (t.1 20 j = τ.1 20 j ∧ t.1 23 j = τ.1 23 j) ∧ (∀ k, 24 ≤ k → k ≤ 27 → t.1 k j = τ.1 k j) ∧ t.2.1 21 j = τ.2.1 21 j ∧ t.2.1 22 j = τ.2.1 22 j
/-- so many rows stayed, but for the first one's next -/
def AGA (b : Nat) (σ s : ST) (x e : Nat) : Prop := ∀ j, x ≤ j → j < e → CLA b σ s j ∧ s.1 (b + 7) j = σ.1 (b + 7) j ∧ s.1 (b + 8) j = σ.1 (b + 8) j ∧ (x < j → s.1 (b + 9) j = σ.1 (b + 9) j)
def AGB (τ t : ST) (v f : Nat) : Prop := ∀ j, v ≤ j → j < f → CLB τ t j ∧ t.1 28 j = τ.1 28 j ∧ t.1 29 j = τ.1 29 j ∧ (v < j → t.1 30 j = τ.1 30 j)
/-- a child's place and where it belongs -/
def KID (b : Nat) (σ τ : ST) (x v : Nat) (y : EN) : Prop := ((σ.1 (b + 2) y.2.1.1).toInt = x ∧ (σ.1 (b + 3) y.2.1.1).toInt = y.1) ∧ ((τ.1 24 y.2.2.1).toInt = v ∧ (τ.1 25 y.2.2.1).toInt = y.1) ∧ σ.1 (b + 5) y.2.1.1 = τ.1 27 y.2.2.1
/-- how many rows are told -/
def spA : List EN → Nat
  | [] => 0
  | y :: l => (bif inA y then y.2.1.2 - y.2.1.1 else 0) + spA l
theorem spA_app : ∀ l m : List EN, spA (l ++ m) = spA l + spA m := by
  intro l
  induction l with
  | nil => intro m; exact (Nat.zero_add _).symm
  | cons y l ih =>
    intro m
    show _ + spA (l ++ m) = _ + spA l + spA m
    rw [ih m, Nat.add_assoc]
theorem spA_one {y : EN} (h : inA y = true) (l : List EN) : spA (y :: l) = y.2.1.2 - y.2.1.1 + spA l := by
  show (bif inA y then y.2.1.2 - y.2.1.1 else 0) + spA l = _
  rw [h]
  rfl
theorem spA_none {y : EN} (h : inA y = false) (l : List EN) : spA (y :: l) = spA l := by
  show (bif inA y then y.2.1.2 - y.2.1.1 else 0) + spA l = _
  rw [h]
  exact Nat.zero_add _
/-- the rows of the children are all that lies behind the first -/
def TGH (l : List EN) (x e : Nat) : Prop := (rA l).length + x < e ∧ x + 1 + spA l = e
/-- the children of x and v, of each of which Q is said -/
def KDS (b : Nat) (σ τ : ST) (A B : Nat × Nat) (l : List EN) (Q : EN → Prop) : Prop := ((CN (σ.1 (b + 9)) (σ.1 (b + 7) A.1) (rA l) ∧ (σ.1 (b + 8) A.1).toInt = lz (-1) (rA l)) ∧ CN (τ.1 30) (τ.1 28 B.1) (rB l) ∧ (τ.1 29 B.1).toInt = lz (-1) (rB l)) ∧ (l.Pairwise SEPE ∧ (l.map (fun y => y.1)).Pairwise (fun i j => i < j)) ∧ ((τ.1 23 B.1).toInt = l.length ∧ TGH l A.1 A.2) ∧ ∀ y, y ∈ l → (B.1 < y.2.2.1 ∧ y.2.2.1 < y.2.2.2 ∧ y.2.2.2 ≤ B.2) ∧ ((inA y = true → A.1 < y.2.1.1 ∧ y.2.1.2 ≤ A.2) ∧ y.2.1.2 ≤ A.2) ∧ Q y
/-- the type itself, or the branch that was chosen -/
def OWN (S T : ST) (tA tB br uA uB : Int32) : Prop := (br.toInt = -1 ∧ uA = tA ∧ uB = tB ∧ ¬ (T.1 2 tB.toNatClampNeg).toInt = 8) ∨ ((T.1 2 tB.toNatClampNeg).toInt = 8 ∧ ∃ k : Nat, br.toInt = k ∧ (k : Int) < (T.1 4 tB.toNatClampNeg).toInt ∧ uA = chn (S.1 17) (S.1 16 tA.toNatClampNeg) k ∧ uB = T.1 5 (4 * tB.toNatClampNeg + k))
def LEAF (b : Nat) (σ τ : ST) (x v : Nat) : Prop := ((σ.1 (b + 7) x).toInt = -1 ∧ (τ.1 28 v).toInt = -1) ∧ EWR (τ.1 20 v).toInt (σ.2.1 (b + 6) x) (τ.2.1 21 v) (τ.2.1 22 v) (τ.1 23 v) ∧ (σ.1 (b + 4) x).toInt = (τ.1 23 v).toInt
/-- a field that the reference alone filled in -/
def ELN (T τ : ST) (v N : Nat) (y : EN) : Prop := ((τ.1 24 y.2.2.1).toInt = v ∧ (τ.1 25 y.2.2.1).toInt = y.1 ∧ (τ.1 27 y.2.2.1).toInt = 1) ∧ (¬ (T.1 16 N).toInt = 0 ∧ (τ.1 20 y.2.2.1).toInt = FCS (T.1 2) (T.1 5) (T.1 15 N)) ∧ ((T.1 2 (T.1 15 N).toNatClampNeg).toInt = 8 ∧ (τ.1 26 y.2.2.1).toInt = 0 ∨ ¬ (T.1 2 (T.1 15 N).toNatClampNeg).toInt = 8 ∧ (τ.1 26 y.2.2.1).toInt = -1) ∧ (τ.2.1 21 y.2.2.1 = T.2.1 17 N ∧ τ.2.1 22 y.2.2.1 = T.2.1 18 N ∧ ((τ.1 20 y.2.2.1).toInt = 5 ∧ τ.1 23 y.2.2.1 = T.1 19 N ∨ ¬ (τ.1 20 y.2.2.1).toInt = 5 ∧ (τ.1 23 y.2.2.1).toInt = 0)) ∧ (τ.1 28 y.2.2.1).toInt = -1
/-- rows [A.1, A.2) of the class, [B.1, B.2) of the reference: one value of the types tA, tB (of plan p, of what S and T tell); rd: it was read -/
def VAL (rd : Prop) (b p : Nat) (S T σ τ : ST) : Nat → Int32 → Int32 → (Nat × Nat) → (Nat × Nat) → Prop
  | 0, _, _, _, _ => False
  | n + 1, tA, tB, A, B => (A.1 < A.2 ∧ B.1 < B.2) ∧ ∃ uA uB : Int32, OWN S T tA tB (τ.1 26 B.1) uA uB ∧ ((T.1 2 uB.toNatClampNeg = τ.1 20 B.1 ∧ σ.1 (b + 1) A.1 = τ.1 20 B.1) ∧ 0 ≤ (τ.1 20 B.1).toInt ∧ (τ.1 20 B.1).toInt ≤ 7) ∧
    ((τ.1 20 B.1).toInt ≤ 5 → LEAF b σ τ A.1 B.1 ∧ A.2 = A.1 + 1) ∧
    (6 ≤ (τ.1 20 B.1).toInt → σ.2.1 (b + 6) A.1 = τ.2.1 21 B.1 ∧ τ.2.1 22 B.1 = 0) ∧
    ((τ.1 20 B.1).toInt = 6 → ∃ l : List EN, l.map (fun y => y.1) = List.range l.length ∧ l.length ≤ 200 ∧ (σ.1 (b + 4) A.1).toInt = l.length ∧ KDS b σ τ A B l (fun y => (inA y = true ∧ KID b σ τ A.1 B.1 y) ∧ VAL rd b p S T σ τ n (S.1 16 uA.toNatClampNeg) (T.1 3 uB.toNatClampNeg) y.2.1 y.2.2)) ∧
    ((τ.1 20 B.1).toInt = 7 → ∃ (R m : Nat) (l : List EN), ((T.1 3 uB.toNatClampNeg).toInt + 6 * (p : Int) = R ∧ (S.1 16 uA.toNatClampNeg).toInt = R ∧ (T.1 11 R).toInt = m) ∧ l.map (fun y => y.1) = List.range m ∧ (rd → (σ.1 (b + 4) A.1).toInt = m ∧ ∀ y, y ∈ l → inA y = true) ∧ KDS b σ τ A B l (fun y => ((inA y = true ∧ KID b σ τ A.1 B.1 y) ∧ VAL rd b p S T σ τ n (S.1 13 (8 * R + y.1)) (T.1 15 (8 * R + y.1)) y.2.1 y.2.2) ∨ inA y = false ∧ ELN T τ B.1 (8 * R + y.1) y))
theorem AGA.sub {b : Nat} {σ s : ST} {x e y f : Nat} (h : AGA b σ s x e) (h1 : x ≤ y) (h2 : f ≤ e) : AGA b σ s y f := fun j a c => by
  obtain ⟨h3, h4, h5, h6⟩ := h j (by omega) (by omega)
  exact ⟨h3, h4, h5, fun h => h6 (by omega)⟩
theorem AGB.sub {τ t : ST} {x e y f : Nat} (h : AGB τ t x e) (h1 : x ≤ y) (h2 : f ≤ e) : AGB τ t y f := fun j a c => by
  obtain ⟨h3, h4, h5, h6⟩ := h j (by omega) (by omega)
  exact ⟨h3, h4, h5, fun h => h6 (by omega)⟩
theorem KID.ext {b : Nat} {σ τ s t : ST} {x v : Nat} {y : EN} (h : KID b σ τ x v y) (hA : CLA b σ s y.2.1.1) (hB : CLB τ t y.2.2.1) : KID b s t x v y := by
  unfold KID
  rw [hA.1 2 (by omega) (by omega), hA.1 3 (by omega) (by omega), hA.1 5 (by omega) (by omega), hB.2.1 24 (by omega) (by omega), hB.2.1 25 (by omega) (by omega), hB.2.1 27 (by omega) (by omega)]
  exact h
theorem ELN.ext {T τ t : ST} {v N : Nat} {y : EN} (h : ELN T τ v N y) (hB : CLB τ t y.2.2.1) (h28 : t.1 28 y.2.2.1 = τ.1 28 y.2.2.1) : ELN T t v N y := by
  unfold ELN
  rw [hB.2.1 24 (by omega) (by omega), hB.2.1 25 (by omega) (by omega), hB.2.1 26 (by omega) (by omega), hB.2.1 27 (by omega) (by omega), hB.1.1, hB.1.2, hB.2.2.1, hB.2.2.2, h28]
  exact h
/-- the children of rows that stayed -/
theorem KDS.ext {b : Nat} {σ τ s t : ST} {A B : Nat × Nat} {l : List EN} {Q R : EN → Prop} (h : KDS b σ τ A B l Q) (hA : AGA b σ s A.1 A.2) (hB : AGB τ t B.1 B.2) (hAn : A.1 < A.2) (hBn : B.1 < B.2) (hQ : ∀ y, y ∈ l → (B.1 < y.2.2.1 ∧ y.2.2.1 < y.2.2.2 ∧ y.2.2.2 ≤ B.2) → (inA y = true → A.1 < y.2.1.1 ∧ y.2.1.2 ≤ A.2) → Q y → R y) : KDS b s t A B l R := by
  obtain ⟨⟨⟨h1, h2⟩, h3, h4⟩, h5, ⟨h6, h7⟩, h8⟩ := h
  obtain ⟨a1, a2, a3, _⟩ := hA A.1 (by omega) hAn
  obtain ⟨b1, b2, b3, _⟩ := hB B.1 (by omega) hBn
  refine ⟨⟨⟨?_, ?_⟩, ?_, ?_⟩, h5, ⟨?_, h7⟩, fun y hy => ?_⟩
  · rw [a2]
    refine h1.ext _ _ (fun r hr => ?_)
    obtain ⟨y, y1, y2, y3⟩ := mem_rA hr
    have k := (h8 y y1).2.1.1 y2
    have := inA_lt y2
    exact (hA r (by omega) (by omega)).2.2.2 (by omega)
  · rw [a3]
    exact h2
  · rw [b2]
    refine h3.ext _ _ (fun r hr => ?_)
    obtain ⟨y, y1, y3⟩ := mem_rB hr
    have k := (h8 y y1).1
    exact (hB r (by omega) (by omega)).2.2.2 (by omega)
  · rw [b3]
    exact h4
  · rw [b1.1.2]
    exact h6
  · obtain ⟨k1, k2, k3⟩ := h8 y hy
    exact ⟨k1, k2, hQ y hy k1 k2.1 k3⟩
theorem VAL.ext {rd : Prop} {b p : Nat} {S T σ τ s t : ST} : ∀ (n : Nat) (tA tB : Int32) (A B : Nat × Nat), VAL rd b p S T σ τ n tA tB A B → AGA b σ s A.1 A.2 → AGB τ t B.1 B.2 → VAL rd b p S T s t n tA tB A B := by
  intro n
  induction n with
  | zero => intro tA tB A B h; exact h.elim
  | succ n ih =>
    intro tA tB A B h hA hB
    obtain ⟨⟨hA0, hB0⟩, uA, uB, h1, ⟨⟨h2, h3⟩, h4⟩, h5, h6, h7, h8⟩ := h
    obtain ⟨a1, a2, a3, _⟩ := hA A.1 (by omega) hA0
    obtain ⟨b1, b2, b3, _⟩ := hB B.1 (by omega) hB0
    have kid : ∀ y : EN, (B.1 < y.2.2.1 ∧ y.2.2.1 < y.2.2.2 ∧ y.2.2.2 ≤ B.2) → (inA y = true → A.1 < y.2.1.1 ∧ y.2.1.2 ≤ A.2) → ∀ u w : Int32, (inA y = true ∧ KID b σ τ A.1 B.1 y) ∧ VAL rd b p S T σ τ n u w y.2.1 y.2.2 → (inA y = true ∧ KID b s t A.1 B.1 y) ∧ VAL rd b p S T s t n u w y.2.1 y.2.2 := fun y k1 k2 u w hy => by
      have k3 := k2 hy.1.1
      have k4 := inA_lt hy.1.1
      exact ⟨⟨hy.1.1, hy.1.2.ext (hA _ (by omega) (by omega)).1 (hB _ (by omega) (by omega)).1⟩, ih u w y.2.1 y.2.2 hy.2 (hA.sub (by omega) (by omega)) (hB.sub (by omega) (by omega))⟩
    refine ⟨⟨hA0, hB0⟩, uA, uB, ?_, ⟨⟨?_, ?_⟩, ?_⟩, fun hs => ?_, fun hs => ?_, fun hs => ?_, fun hs => ?_⟩
    · rw [b1.2.1 26 (by omega) (by omega)]
      exact h1
    · rw [b1.1.1]
      exact h2
    · rw [b1.1.1, a1.1 1 (by omega) (by omega)]
      exact h3
    · rw [b1.1.1]
      exact h4
    · rw [b1.1.1] at hs
      obtain ⟨this, h9⟩ := h5 hs
      refine ⟨?_, h9⟩
      unfold LEAF at this ⊢
      rw [a2, b2, b1.1.1, a1.2, b1.2.2.1, b1.2.2.2, b1.1.2, a1.1 4 (by omega) (by omega)]
      exact this
    · rw [b1.1.1] at hs
      rw [a1.2, b1.2.2.1, b1.2.2.2]
      exact h6 hs
    · rw [b1.1.1] at hs
      obtain ⟨l, l1, l2, l3, l4⟩ := h7 hs
      refine ⟨l, l1, l2, ?_, l4.ext hA hB hA0 hB0 (fun y hy k1 k2 k3 => kid y k1 k2 _ _ k3)⟩
      rw [a1.1 4 (by omega) (by omega)]
      exact l3
    · rw [b1.1.1] at hs
      obtain ⟨R, m, l, l1, l2, l3, l4⟩ := h8 hs
      refine ⟨R, m, l, l1, l2, fun h => ?_, l4.ext hA hB hA0 hB0 (fun y hy k1 k2 k3 => ?_)⟩
      · rw [a1.1 4 (by omega) (by omega)]
        exact l3 h
      · rcases k3 with k3 | ⟨k3, k4⟩
        · exact .inl (kid y k1 k2 _ _ k3)
        · have := hB y.2.2.1 (by omega) (by omega)
          exact .inr ⟨k3, k4.ext this.1 this.2.1⟩
/-! one more child -/
theorem SEPE.symm {a c : EN} (h : SEPE a c) : SEPE c a := ⟨h.1.symm, h.2.symm⟩
theorem sep_mem : ∀ {l : List EN}, l.Pairwise SEPE → ∀ {a c : EN}, a ∈ l → c ∈ l → a = c ∨ SEPE a c := by
  intro l
  induction l with
  | nil => intro _ a c ha; cases ha
  | cons y l ih =>
    intro h a c ha hc
    obtain ⟨h1, h2⟩ := List.pairwise_cons.mp h
    rcases List.mem_cons.mp ha with e | ha
    · rcases List.mem_cons.mp hc with e2 | hc
      · exact .inl (e.trans e2.symm)
      · rw [e]
        exact .inr (h1 c hc)
    · rcases List.mem_cons.mp hc with e2 | hc
      · rw [e2]
        exact .inr (h1 a ha).symm
      · exact ih h2 ha hc
theorem rA_nd : ∀ {l : List EN}, l.Pairwise SEPE → (rA l).Nodup := by
  intro l
  induction l with
  | nil => intro _; exact List.nodup_nil
  | cons y l ih =>
    intro h
    obtain ⟨h1, h2⟩ := List.pairwise_cons.mp h
    cases hy : inA y with
    | false =>
      have e : rA (y :: l) = rA l := by
        unfold rA
        rw [List.filter_cons_of_neg (by rw [hy]; decide)]
      rw [e]
      exact ih h2
    | true =>
      have e : rA (y :: l) = y.2.1.1 :: rA l := by
        unfold rA
        rw [List.filter_cons_of_pos hy, List.map_cons]
      rw [e]
      refine List.nodup_cons.mpr ⟨fun hm => ?_, ih h2⟩
      obtain ⟨z, z1, z2, z3⟩ := mem_rA hm
      have k := (h1 z z1).1
      have := inA_lt hy
      have := inA_lt z2
      omega
theorem rB_nd : ∀ {l : List EN}, l.Pairwise SEPE → (∀ y, y ∈ l → y.2.2.1 < y.2.2.2) → (rB l).Nodup := by
  intro l
  induction l with
  | nil => intro _ _; exact List.nodup_nil
  | cons y l ih =>
    intro h hn
    obtain ⟨h1, h2⟩ := List.pairwise_cons.mp h
    have e : rB (y :: l) = y.2.2.1 :: rB l := rfl
    rw [e]
    refine List.nodup_cons.mpr ⟨fun hm => ?_, ih h2 (fun z hz => hn z (List.mem_cons_of_mem _ hz))⟩
    obtain ⟨z, z1, z3⟩ := mem_rB hm
    have k := (h1 z z1).2
    have := hn y List.mem_cons_self
    have := hn z (List.mem_cons_of_mem _ z1)
    omega
theorem rA_one {y : EN} (h : inA y = true) (l : List EN) : rA (y :: l) = y.2.1.1 :: rA l := by
  unfold rA
  rw [List.filter_cons_of_pos h, List.map_cons]
theorem rA_none {y : EN} (h : inA y = false) (l : List EN) : rA (y :: l) = rA l := by
  unfold rA
  rw [List.filter_cons_of_neg (by rw [h]; decide)]
theorem rA_len (l : List EN) : (rA l).length ≤ l.length := by
  unfold rA
  rw [List.length_map]
  exact List.length_filter_le _ _
/-- row e came below p, and what is below it; all else stayed -/
def XTA (b e : Nat) (p : Int) (l m : List Nat) (σ s : ST) : Prop := (∀ i, i < e → CLA b σ s i) ∧ (∀ i : Nat, i < e → (i : Int) ≠ p → s.1 (b + 7) i = σ.1 (b + 7) i ∧ s.1 (b + 8) i = σ.1 (b + 8) i) ∧ (∀ i : Nat, i < e → (i : Int) ≠ lz (-1) l → s.1 (b + 9) i = σ.1 (b + 9) i) ∧ ∀ q : Nat, (q : Int) = p → CN (s.1 (b + 9)) (s.1 (b + 7) q) (l ++ e :: m) ∧ (s.1 (b + 8) q).toInt = lz (-1) (l ++ e :: m)
/-- but for its count of children -/
def CLC (τ t : ST) (j : Nat) : Prop := t.1 20 j = τ.1 20 j ∧ (∀ k, 24 ≤ k → k ≤ 27 → t.1 k j = τ.1 k j) ∧ t.2.1 21 j = τ.2.1 21 j ∧ t.2.1 22 j = τ.2.1 22 j
def XTB (f : Nat) (p : Int) (l m : List Nat) (τ t : ST) : Prop := ((∀ i, i < f → CLC τ t i) ∧ (∀ i : Nat, i < f → (i : Int) ≠ p → t.1 23 i = τ.1 23 i) ∧ ∀ i : Nat, (i : Int) = p → t.1 23 i = τ.1 23 i + 1) ∧ (∀ i : Nat, i < f → (i : Int) ≠ p → t.1 28 i = τ.1 28 i ∧ t.1 29 i = τ.1 29 i) ∧ (∀ i : Nat, i < f → (i : Int) ≠ lz (-1) l → t.1 30 i = τ.1 30 i) ∧ ∀ q : Nat, (q : Int) = p → CN (t.1 30) (t.1 28 q) (l ++ f :: m) ∧ (t.1 29 q).toInt = lz (-1) (l ++ f :: m)
/-- what was there ahead of row e stayed, and of row e what its children don't touch -/
def SUA (b e : Nat) (σ s : ST) : Prop := (∀ i, i < e → CLA b σ s i ∧ s.1 (b + 7) i = σ.1 (b + 7) i ∧ s.1 (b + 8) i = σ.1 (b + 8) i ∧ s.1 (b + 9) i = σ.1 (b + 9) i) ∧ s.1 (b + 9) e = σ.1 (b + 9) e ∧ s.1 (b + 1) e = σ.1 (b + 1) e ∧ s.1 (b + 2) e = σ.1 (b + 2) e ∧ s.1 (b + 3) e = σ.1 (b + 3) e ∧ s.1 (b + 5) e = σ.1 (b + 5) e
def SUB (f : Nat) (τ t : ST) : Prop := (∀ i, i < f → CLB τ t i ∧ t.1 28 i = τ.1 28 i ∧ t.1 29 i = τ.1 29 i ∧ t.1 30 i = τ.1 30 i) ∧ t.1 30 f = τ.1 30 f ∧ t.1 20 f = τ.1 20 f ∧ ∀ k, 24 ≤ k → k ≤ 27 → t.1 k f = τ.1 k f
theorem CLA.trans {b : Nat} {σ s u : ST} {j : Nat} (h : CLA b σ s j) (k : CLA b s u j) : CLA b σ u j := ⟨fun i a c => (k.1 i a c).trans (h.1 i a c), k.2.trans h.2⟩
theorem CLB.trans {σ s u : ST} {j : Nat} (h : CLB σ s j) (k : CLB s u j) : CLB σ u j := ⟨⟨k.1.1.trans h.1.1, k.1.2.trans h.1.2⟩, fun i a c => (k.2.1 i a c).trans (h.2.1 i a c), k.2.2.1.trans h.2.2.1, k.2.2.2.trans h.2.2.2⟩
theorem SUA.rf {b e : Nat} {σ : ST} : SUA b e σ σ := ⟨fun _ _ => ⟨⟨fun _ _ _ => rfl, rfl⟩, rfl, rfl, rfl⟩, rfl, rfl, rfl, rfl, rfl⟩
theorem SUB.rf {f : Nat} {τ : ST} : SUB f τ τ := ⟨fun _ _ => ⟨⟨⟨rfl, rfl⟩, fun _ _ _ => rfl, rfl, rfl⟩, rfl, rfl, rfl⟩, rfl, rfl, fun _ _ _ => rfl⟩
theorem SUA.trans {b e : Nat} {σ s u : ST} (h : SUA b e σ s) (k : SUA b e s u) : SUA b e σ u := by
  obtain ⟨h0, h1, h2, h3, h4, h5⟩ := h
  obtain ⟨k0, k1, k2, k3, k4, k5⟩ := k
  refine ⟨fun i hi => ?_, k1.trans h1, k2.trans h2, k3.trans h3, k4.trans h4, k5.trans h5⟩
  obtain ⟨a, b, c, d⟩ := h0 i hi
  obtain ⟨a', b', c', d'⟩ := k0 i hi
  exact ⟨a.trans a', b'.trans b, c'.trans c, d'.trans d⟩
theorem SUB.trans {f : Nat} {σ s u : ST} (h : SUB f σ s) (k : SUB f s u) : SUB f σ u := by
  obtain ⟨h0, h1, h2, h3⟩ := h
  obtain ⟨k0, k1, k2, k3⟩ := k
  refine ⟨fun i hi => ?_, k1.trans h1, k2.trans h2, fun i a c => (k3 i a c).trans (h3 i a c)⟩
  obtain ⟨a, b, c, d⟩ := h0 i hi
  obtain ⟨a', b', c', d'⟩ := k0 i hi
  exact ⟨a.trans a', b'.trans b, c'.trans c, d'.trans d⟩
/-- a child's coming, seen from its parent's rows -/
theorem XTA.su {b e x : Nat} {l m : List Nat} {σ s : ST} (h : XTA b e x l m σ s) (hx : x < e) (hl : ∀ r, r ∈ l → x < r) : SUA b x σ s := by
  obtain ⟨h1, h2, h3, _⟩ := h
  have hz : ∀ i : Nat, i ≤ x → (i : Int) ≠ lz (-1) l := fun i hi e => by
    rcases lz_in l (-1) with ⟨_, h9⟩ | ⟨q, h8, h9⟩
    · omega
    · have := hl q h8
      omega
  refine ⟨fun i hi => ⟨h1 i (by omega), (h2 i (by omega) (by omega)).1, (h2 i (by omega) (by omega)).2, h3 i (by omega) (hz i (by omega))⟩, h3 x hx (hz x (by omega)), (h1 x hx).1 1 (by omega) (by omega), (h1 x hx).1 2 (by omega) (by omega), (h1 x hx).1 3 (by omega) (by omega), (h1 x hx).1 5 (by omega) (by omega)⟩
theorem XTB.su {f v : Nat} {l m : List Nat} {τ t : ST} (h : XTB f v l m τ t) (hx : v < f) (hl : ∀ r, r ∈ l → v < r) : SUB v τ t := by
  obtain ⟨⟨h1, h1b, _⟩, h2, h3, _⟩ := h
  have hz : ∀ i : Nat, i ≤ v → (i : Int) ≠ lz (-1) l := fun i hi e => by
    rcases lz_in l (-1) with ⟨_, h9⟩ | ⟨q, h8, h9⟩
    · omega
    · have := hl q h8
      omega
  refine ⟨fun i hi => ⟨⟨⟨(h1 i (by omega)).1, h1b i (by omega) (by omega)⟩, (h1 i (by omega)).2⟩, (h2 i (by omega) (by omega)).1, (h2 i (by omega) (by omega)).2, h3 i (by omega) (hz i (by omega))⟩, h3 v hx (hz v (by omega)), (h1 v hx).1, (h1 v hx).2.1⟩
/-- a row's coming and its children's -/
theorem XTA.mk {b e : Nat} {so pa pl : Int32} {l m : List Nat} {σ s u : ST} (g : GRW b e so pa pl l m σ s) (k : SUA b e s u) (hr : ∀ r, r ∈ l ++ m → r < e) (hp : pa.toInt < e) : XTA b e pa.toInt l m σ u := by
  obtain ⟨_, _, _, g4, g5, g6, g7, g8⟩ := g
  obtain ⟨k0, k1, _⟩ := k
  refine ⟨fun i hi => ?_, fun i hi hn => ?_, fun i hi hn => ?_, fun q hq => ?_⟩
  · have a := g4 i (by omega)
    have c := (k0 i hi).1
    exact ⟨fun j j1 j2 => (c.1 j j1 j2).trans (a.1 j j1 j2), c.2.trans a.2⟩
  · have a := g6 i hn (by omega)
    obtain ⟨_, c1, c2, _⟩ := k0 i hi
    exact ⟨c1.trans a.1, c2.trans a.2⟩
  · exact (k0 i hi).2.2.2.trans (g7 i (by omega) hn)
  · obtain ⟨a1, a2⟩ := g8 q hq
    obtain ⟨_, c1, c2, _⟩ := k0 q (by omega)
    rw [c1, c2]
    refine ⟨a1.ext _ _ (fun r h => ?_), a2⟩
    rcases List.mem_append.mp h with h | h
    · exact (k0 r (hr r (List.mem_append_left _ h))).2.2.2
    · rcases List.mem_cons.mp h with h | h
      · rw [h]
        exact k1
      · exact (k0 r (hr r (List.mem_append_right _ h))).2.2.2
theorem XTB.mk {f : Nat} {so pa pl br : Int32} {l m : List Nat} {τ t u : ST} (g : GRB f so pa pl br l m τ t) (k : SUB f t u) (hr : ∀ r, r ∈ l ++ m → r < f) (hp : pa.toInt < f) : XTB f pa.toInt l m τ u := by
  obtain ⟨_, _, _, g4, g5, g6, g7, g8⟩ := g
  obtain ⟨k0, k1, _⟩ := k
  refine ⟨⟨fun i hi => ?_, fun i hi hn => ?_, fun i hi => ?_⟩, fun i hi hn => ?_, fun i hi hn => ?_, fun q hq => ?_⟩
  · obtain ⟨a1, _, _, a4, a5, a6⟩ := g4 i (by omega)
    have c := (k0 i hi).1
    exact ⟨c.1.1.trans a1, fun j j1 j2 => (c.2.1 j j1 j2).trans (a4 j j1 j2), c.2.2.1.trans a5, c.2.2.2.trans a6⟩
  · exact (k0 i hi).1.1.2.trans ((g4 i (by omega)).2.1 hn)
  · exact (k0 i (by omega)).1.1.2.trans ((g4 i (by omega)).2.2.1 hi)
  · have a := g6 i hn (by omega)
    obtain ⟨_, c1, c2, _⟩ := k0 i hi
    exact ⟨c1.trans a.1, c2.trans a.2⟩
  · exact (k0 i hi).2.2.2.trans (g7 i (by omega) hn)
  · obtain ⟨a1, a2⟩ := g8 q hq
    obtain ⟨_, c1, c2, _⟩ := k0 q (by omega)
    rw [c1, c2]
    refine ⟨a1.ext _ _ (fun r h => ?_), a2⟩
    rcases List.mem_append.mp h with h | h
    · exact (k0 r (hr r (List.mem_append_left _ h))).2.2.2
    · rcases List.mem_cons.mp h with h | h
      · rw [h]
        exact k1
      · exact (k0 r (hr r (List.mem_append_right _ h))).2.2.2
/-- the rows of a child stayed, as another came -/
theorem XTA.ag {b e x : Nat} {l m : List EN} {σ s : ST} (h : XTA b e x (rA l) (rA m) σ s) (hS : (l ++ m).Pairwise SEPE) {y : EN} (hy : y ∈ l ++ m) (hb : inA y = true) (hx : x < y.2.1.1) (he : y.2.1.2 ≤ e) : AGA b σ s y.2.1.1 y.2.1.2 := by
  obtain ⟨h1, h2, h3, _⟩ := h
  intro j j1 j2
  refine ⟨h1 j (by omega), (h2 j (by omega) (by omega)).1, (h2 j (by omega) (by omega)).2, fun hj => h3 j (by omega) (fun e9 => ?_)⟩
  rcases lz_in (rA l) (-1) with ⟨_, h9⟩ | ⟨q, h8, h9⟩
  · omega
  · obtain ⟨z, z1, z2, z3⟩ := mem_rA h8
    rcases sep_mem hS hy (List.mem_append_left _ z1) with e | e
    · rw [← e] at z3
      omega
    · have := e.1
      have := inA_lt z2
      omega
theorem XTB.ag {f v : Nat} {l m : List EN} {τ t : ST} (h : XTB f v (rB l) (rB m) τ t) (hS : (l ++ m).Pairwise SEPE) {y : EN} (hy : y ∈ l ++ m) (hn : ∀ z, z ∈ l ++ m → z.2.2.1 < z.2.2.2) (hx : v < y.2.2.1) (he : y.2.2.2 ≤ f) : AGB τ t y.2.2.1 y.2.2.2 := by
  obtain ⟨⟨h1, h1b, _⟩, h2, h3, _⟩ := h
  intro j j1 j2
  refine ⟨⟨⟨(h1 j (by omega)).1, h1b j (by omega) (by omega)⟩, (h1 j (by omega)).2⟩, (h2 j (by omega) (by omega)).1, (h2 j (by omega) (by omega)).2, fun hj => h3 j (by omega) (fun e9 => ?_)⟩
  rcases lz_in (rB l) (-1) with ⟨_, h9⟩ | ⟨q, h8, h9⟩
  · omega
  · obtain ⟨z, z1, z3⟩ := mem_rB h8
    rcases sep_mem hS hy (List.mem_append_left _ z1) with e | e
    · rw [← e] at z3
      omega
    · have := e.2
      have := hn z (List.mem_append_left _ z1)
      omega
/-- one child more: on both sides -/
theorem KDS.add {b e f e' f' x v j : Nat} {σ τ s t : ST} {l m : List EN} {Q R : EN → Prop} (h : KDS b σ τ (x, e) (v, f) (l ++ m) Q) (hA : XTA b e x (rA l) (rA m) σ s) (hB : XTB f v (rB l) (rB m) τ t) (hxe : x < e) (hvf : v < f) (he : e < e') (hf : f < f') (hlen : (l ++ m).length < 1000000) (hl : ∀ y, y ∈ l → y.1 < j) (hm : ∀ y, y ∈ m → j < y.1) (hQ : ∀ y, y ∈ l ++ m → (v < y.2.2.1 ∧ y.2.2.1 < y.2.2.2) → (inA y = true → AGA b σ s y.2.1.1 y.2.1.2) → AGB τ t y.2.2.1 y.2.2.2 → Q y → R y) (hR : R (j, (e, e'), (f, f'))) : KDS b s t (x, e') (v, f') (l ++ (j, (e, e'), (f, f')) :: m) R := by
  obtain ⟨⟨⟨h1, h2⟩, h3, h4⟩, ⟨h5, h5b⟩, ⟨h6, h7⟩, h8⟩ := h
  have hin : inA (j, (e, e'), (f, f')) = true := decide_eq_true he
  obtain ⟨a1, a2⟩ := hA.2.2.2 x rfl
  obtain ⟨b1, b2⟩ := hB.2.2.2 v rfl
  have ap := List.pairwise_append.mp h5
  have eA : rA (l ++ (j, (e, e'), (f, f')) :: m) = rA l ++ e :: rA m := by rw [rA_app, rA_one hin]
  have eB : rB (l ++ (j, (e, e'), (f, f')) :: m) = rB l ++ f :: rB m := by rw [rB_app]; rfl
  have sep : ∀ y, y ∈ l ++ m → SEPE y (j, (e, e'), (f, f')) := fun y hy => by
    obtain ⟨k1, k2, _⟩ := h8 y hy
    exact ⟨.inl k2.2, .inl k1.2.2⟩
  have hmem : ∀ y, y ∈ l ++ (j, (e, e'), (f, f')) :: m → y = (j, (e, e'), (f, f')) ∨ y ∈ l ++ m := fun y hy => by
    rcases List.mem_append.mp hy with hy | hy
    · exact .inr (List.mem_append_left _ hy)
    · rcases List.mem_cons.mp hy with hy | hy
      · exact .inl hy
      · exact .inr (List.mem_append_right _ hy)
  refine ⟨⟨⟨?_, ?_⟩, ?_, ?_⟩, ⟨?_, ?_⟩, ⟨?_, ?_⟩, fun y hy => ?_⟩
  · rw [eA]
    exact a1
  · rw [eA]
    exact a2
  · rw [eB]
    exact b1
  · rw [eB]
    exact b2
  · refine List.pairwise_append.mpr ⟨ap.1, List.pairwise_cons.mpr ⟨fun y hy => (sep y (List.mem_append_right _ hy)).symm, ap.2.1⟩, fun y hy z hz => ?_⟩
    rcases List.mem_cons.mp hz with hz | hz
    · rw [hz]
      exact sep y (List.mem_append_left _ hy)
    · exact ap.2.2 y hy z hz
  · rw [List.map_append, List.map_cons]
    rw [List.map_append] at h5b
    have ap2 := List.pairwise_append.mp h5b
    refine List.pairwise_append.mpr ⟨ap2.1, List.pairwise_cons.mpr ⟨fun i hi => ?_, ap2.2.1⟩, fun i hi k hk => ?_⟩
    · obtain ⟨y, hy, e⟩ := List.mem_map.mp hi
      have := hm y hy
      show j < i
      omega
    · obtain ⟨y, hy, e⟩ := List.mem_map.mp hi
      rcases List.mem_cons.mp hk with hk | hk
      · have := hl y hy
        rw [hk]
        show i < j
        omega
      · exact ap2.2.2 i hi k hk
  · have e3 : (l ++ (j, (e, e'), (f, f')) :: m).length = (l ++ m).length + 1 := by
      simp only [List.length_append, List.length_cons]
      omega
    have l1 := li_1
    rw [e3, hB.1.2.2 v rfl]
    have h6 : (τ.1 23 v).toInt = (l ++ m).length := h6
    rw [il_addE (by omega) (by omega)]
    omega
  · obtain ⟨h7, h7b⟩ := h7
    have h7 : (rA (l ++ m)).length + x < e := h7
    have h7b : x + 1 + spA (l ++ m) = e := h7b
    refine ⟨?_, ?_⟩
    · show (rA (l ++ (j, (e, e'), (f, f')) :: m)).length + x < e'
      rw [eA]
      rw [rA_app] at h7
      simp only [List.length_append, List.length_cons] at h7 ⊢
      omega
    · show x + 1 + spA (l ++ (j, (e, e'), (f, f')) :: m) = e'
      rw [spA_app, spA_one hin]
      rw [spA_app] at h7b
      show x + 1 + (spA l + (e' - e + spA m)) = e'
      omega
  · rcases hmem y hy with e9 | hy
    · rw [e9]
      exact ⟨⟨hvf, hf, Nat.le_refl _⟩, ⟨fun _ => ⟨hxe, Nat.le_refl _⟩, Nat.le_refl _⟩, hR⟩
    · obtain ⟨k1, k2, k3⟩ := h8 y hy
      have k1 : v < y.2.2.1 ∧ y.2.2.1 < y.2.2.2 ∧ y.2.2.2 ≤ f := k1
      have k2 : (inA y = true → x < y.2.1.1 ∧ y.2.1.2 ≤ e) ∧ y.2.1.2 ≤ e := k2
      refine ⟨⟨k1.1, k1.2.1, by show y.2.2.2 ≤ f'; omega⟩, ⟨fun hi => ⟨(k2.1 hi).1, by have := k2.2; show y.2.1.2 ≤ e'; omega⟩, by have := k2.2; show y.2.1.2 ≤ e'; omega⟩, hQ y hy ⟨k1.1, k1.2.1⟩ (fun hi => hA.ag h5 hy hi (k2.1 hi).1 (k2.1 hi).2) (hB.ag h5 hy (fun z hz => (h8 z hz).1.2.1) k1.1 k1.2.2) k3⟩
/-- one child more: the reference's alone -/
theorem KDS.addB {b e f f' x v j : Nat} {σ τ t : ST} {l m : List EN} {Q R : EN → Prop} (h : KDS b σ τ (x, e) (v, f) (l ++ m) Q) (hB : XTB f v (rB l) (rB m) τ t) (hvf : v < f) (hf : f < f') (hlen : (l ++ m).length < 1000000) (hl : ∀ y, y ∈ l → y.1 < j) (hm : ∀ y, y ∈ m → j < y.1) (hQ : ∀ y, y ∈ l ++ m → (v < y.2.2.1 ∧ y.2.2.1 < y.2.2.2) → AGB τ t y.2.2.1 y.2.2.2 → Q y → R y) (hR : R (j, (0, 0), (f, f'))) : KDS b σ t (x, e) (v, f') (l ++ (j, (0, 0), (f, f')) :: m) R := by
  obtain ⟨⟨⟨h1, h2⟩, h3, h4⟩, ⟨h5, h5b⟩, ⟨h6, h7⟩, h8⟩ := h
  have hin : inA (j, (0, 0), (f, f')) = false := rfl
  obtain ⟨b1, b2⟩ := hB.2.2.2 v rfl
  have ap := List.pairwise_append.mp h5
  have eA : rA (l ++ (j, (0, 0), (f, f')) :: m) = rA (l ++ m) := by rw [rA_app, rA_none hin, rA_app]
  have eB : rB (l ++ (j, (0, 0), (f, f')) :: m) = rB l ++ f :: rB m := by rw [rB_app]; rfl
  have sep : ∀ y, y ∈ l ++ m → SEPE y (j, (0, 0), (f, f')) := fun y hy => by
    obtain ⟨k1, k2, _⟩ := h8 y hy
    exact ⟨.inr (Nat.zero_le _), .inl k1.2.2⟩
  have hmem : ∀ y, y ∈ l ++ (j, (0, 0), (f, f')) :: m → y = (j, (0, 0), (f, f')) ∨ y ∈ l ++ m := fun y hy => by
    rcases List.mem_append.mp hy with hy | hy
    · exact .inr (List.mem_append_left _ hy)
    · rcases List.mem_cons.mp hy with hy | hy
      · exact .inl hy
      · exact .inr (List.mem_append_right _ hy)
  refine ⟨⟨⟨?_, ?_⟩, ?_, ?_⟩, ⟨?_, ?_⟩, ⟨?_, ?_⟩, fun y hy => ?_⟩
  · rw [eA]
    exact h1
  · rw [eA]
    exact h2
  · rw [eB]
    exact b1
  · rw [eB]
    exact b2
  · refine List.pairwise_append.mpr ⟨ap.1, List.pairwise_cons.mpr ⟨fun y hy => (sep y (List.mem_append_right _ hy)).symm, ap.2.1⟩, fun y hy z hz => ?_⟩
    rcases List.mem_cons.mp hz with hz | hz
    · rw [hz]
      exact sep y (List.mem_append_left _ hy)
    · exact ap.2.2 y hy z hz
  · rw [List.map_append, List.map_cons]
    rw [List.map_append] at h5b
    have ap2 := List.pairwise_append.mp h5b
    refine List.pairwise_append.mpr ⟨ap2.1, List.pairwise_cons.mpr ⟨fun i hi => ?_, ap2.2.1⟩, fun i hi k hk => ?_⟩
    · obtain ⟨y, hy, e⟩ := List.mem_map.mp hi
      have := hm y hy
      show j < i
      omega
    · obtain ⟨y, hy, e⟩ := List.mem_map.mp hi
      rcases List.mem_cons.mp hk with hk | hk
      · have := hl y hy
        rw [hk]
        show i < j
        omega
      · exact ap2.2.2 i hi k hk
  · have e3 : (l ++ (j, (0, 0), (f, f')) :: m).length = (l ++ m).length + 1 := by
      simp only [List.length_append, List.length_cons]
      omega
    have l1 := li_1
    rw [e3, hB.1.2.2 v rfl]
    have h6 : (τ.1 23 v).toInt = (l ++ m).length := h6
    rw [il_addE (by omega) (by omega)]
    omega
  · obtain ⟨h7, h7b⟩ := h7
    refine ⟨by rw [eA]; exact h7, ?_⟩
    show x + 1 + spA (l ++ (j, (0, 0), (f, f')) :: m) = e
    have h7b : x + 1 + spA (l ++ m) = e := h7b
    rw [spA_app, spA_none hin, ← spA_app]
    exact h7b
  · rcases hmem y hy with e9 | hy
    · rw [e9]
      exact ⟨⟨hvf, hf, Nat.le_refl _⟩, ⟨fun h => (by cases h), Nat.zero_le _⟩, hR⟩
    · obtain ⟨k1, k2, k3⟩ := h8 y hy
      have k1 : v < y.2.2.1 ∧ y.2.2.1 < y.2.2.2 ∧ y.2.2.2 ≤ f := k1
      refine ⟨⟨k1.1, k1.2.1, by show y.2.2.2 ≤ f'; omega⟩, k2, hQ y hy ⟨k1.1, k1.2.1⟩ (hB.ag h5 hy (fun z hz => (h8 z hz).1.2.1) k1.1 k1.2.2) k3⟩
