/-! what holds between two calls: the messages, the pairs kept, the heights -/
theorem k8_plans (p0 : Int32) (σ : ST) (q : Int32 × ST) (h : f_X10_plans p0 σ = some q) (hr : 0 ≤ p0.toInt ∧ p0.toInt ≤ (σ.1 0 1).toInt) (s1 : ST) (r : Int32) (s2 : ST) (e1 : f_X6_begin p0 (stI σ 0 1 0) = some s1) (e2 : f_X3_parse s1 = some (r, s2)) : (r.toInt = 0 → KYA σ q.2) ∧ (¬ r.toInt = 0 → (∀ i, i < 4 → q.2.1 40 i = -1) ∧ (q.2.1 48 1 = 0 ∧ q.2.1 48 2 = 0 ∧ q.2.1 48 3 = 0) ∧ q.2.1 50 1 = 0) := by
  have l0 := li_0
  have k7 := k7_plans p0 σ q h hr s1 r s2 e1 e2
  unfold f_X10_plans at h
  rw [if_neg (by rw [Int32.lt_iff_toInt_lt]; omega), if_pos (by rw [Int32.le_iff_toInt_le]; omega), e1, sbnd, e2, sbnd] at h
  dsimp only at h
  refine ⟨fun r0 => ?_, fun r1 => ?_⟩
  · rw [if_pos (Int32.toInt_inj.mp (r0.trans l0.symm))] at h
    obtain ⟨x, ex, h⟩ := bnd_some h
    cases h
    have k1 : KYA σ s1 := wy_X6_begin (KYA.i (by omega) KYA.rf) s1 e1
    have k2 : KYA σ s2 := wy_X3_parse k1 (r, s2) e2
    exact wy_X6_faultAnswer k2 x ex
  · have hc := k7.2 r1
    rw [if_neg (fun e => r1 (by rw [e]; exact l0))] at h
    obtain ⟨c, ec, h⟩ := bnd_some h
    obtain ⟨d, ed, h⟩ := bnd_some h
    obtain ⟨x1, e3, h⟩ := bnd_some h
    obtain ⟨x2, e4, h⟩ := bnd_some h
    obtain ⟨x3, e5, h⟩ := bnd_some h
    obtain ⟨x4, e6, h⟩ := bnd_some h
    cases h
    unfold f_X9_clear at e5
    cases e5
    unfold f_X7_clear at e6
    cases e6
    refine ⟨hc.2.2.2, ⟨?_, ?_, ?_⟩, ?_⟩
    · show (stI (stI (stI (stI x2 48 1 0) 48 2 0) 48 3 0) 50 1 0).1 48 1 = 0
      rw [stI_ne (by omega), stI_at, upN (by omega), stI_at, upN (by omega), stI_at, upA rfl]
    · show (stI (stI (stI (stI x2 48 1 0) 48 2 0) 48 3 0) 50 1 0).1 48 2 = 0
      rw [stI_ne (by omega), stI_at, upN (by omega), stI_at, upA rfl]
    · show (stI (stI (stI (stI x2 48 1 0) 48 2 0) 48 3 0) 50 1 0).1 48 3 = 0
      rw [stI_ne (by omega), stI_at, upA rfl]
    · show (stI (stI (stI (stI x2 48 1 0) 48 2 0) 48 3 0) 50 1 0).1 50 1 = 0
      rw [stI_at, upA rfl]
/-- behind plans -/
def PLQ (σ τ s w : ST) : Prop := (KYA σ s ∧ KYB τ w) ∨ (((∀ i, i < 4 → s.1 40 i = -1) ∧ (s.1 48 1 = 0 ∧ s.1 48 2 = 0 ∧ s.1 48 3 = 0) ∧ s.1 50 1 = 0) ∧ CLD w)
theorem ab_plansQ {n κ : Nat} {σ τ : ST} (h : Inv n σ τ κ) (p0 : Int32) (qa : Int32 × ST) (ea : f_X10_plans p0 σ = some qa) : QT (f_X11_plans p0 τ) (fun qb => PLQ σ τ qa.2 qb.1.2) := by
  obtain ⟨_, hA, hB, hF, h32, hk, hT, hc⟩ := h
  have ht := hA.tape
  unfold bI at ht
  have e2 : (τ.1 0 2).toInt = (σ.1 0 1).toInt := by rw [hF.1]
  have l0 := l64_0
  have i0 := i64 p0
  have l0' := li_0
  obtain ⟨qa', ea', q1, ⟨q2, q3⟩, q4⟩ := k_X10_plans p0 σ hA
  have eq : qa' = qa := Option.some.inj (ea'.symm.trans ea)
  subst eq
  have hs := hB.th 0
  have s1 : (stI τ 0 0 0).1 1 = τ.1 1 := rfl
  have s2 : (stI τ 0 0 0).1 0 2 = τ.1 0 2 := rfl
  have hY : KYB τ (stI τ 0 0 0) := KYB.rf.i (by omega)
  unfold f_X11_plans
  generalize stI τ 0 0 0 = s at hs s1 s2 hY
  have i2 := i64 (s.1 0 2)
  have e2' : (s.1 0 2).toInt = (σ.1 0 1).toInt := by rw [s2]; exact e2
  refine QT.bndR (b_within _ _ _ _) (fun v hv => ?_)
  dsimp only
  rcases q4 with ⟨c, q4⟩ | ⟨c, q01, t1, r, t2, e1, e3, q5, q6⟩
  · refine QT.ieq (fun _ => QT.ret (.inl ⟨by rw [q4]; exact KYA.rf, hY⟩)) (fun h => by omega)
  · refine QT.ieq (fun h => by omega) (fun _ => ?_)
    have hb := ab_plans2 p0 (stI σ 0 1 0) s (by rw [s1]; exact hF.2) (by rw [s1, ← hF.2]; exact hT) hk hs ⟨c.1, by omega⟩ t1 e1 r t2 e3
    have k8 := k8_plans p0 σ qa' ea c t1 r t2 e1 e3
    refine (QT.ok hb).mono (fun y hy => ?_)
    rcases hy with ⟨r0, hy⟩ | ⟨r0, hy⟩
    · exact .inl ⟨k8.1 r0, hY.trans hy⟩
    · exact .inr ⟨k8.2 r0, hy⟩
def Inv8 (n : Nat) (σ τ : ST) (κ : Nat) : Prop := Inv7 n σ τ κ ∧ EHY σ ∧ MSG σ τ ∧ KPR σ τ
theorem MSG.y {σ τ s t : ST} (h : MSG σ τ) (a : KYA σ s) (b : KYB τ t) : MSG s t := h.eq (a.1 38 (by omega)) (a.1 39 (by omega)) (a.1 40 (by omega)) (b.1 32 (by omega)) (b.1 33 (by omega)) (b.1 34 (by omega))
theorem KPR.y {σ τ s t : ST} (h : KPR σ τ) (a : KYA σ s) (b : KYB τ t) : KPR s t := h.eq (a.1 48 (by omega)) (a.1 49 (by omega)) (fun i i1 i2 => b.2.1 i (by omega)) (b.1 55 (by omega))
theorem KPR.z {σ τ s t : ST} (h : KPR σ τ) (a : KZA σ s) (b : KZB τ t) : KPR s t := h.eq (a.1 48 (by omega) (by omega)) (a.1 49 (by omega) (by omega)) (fun i i1 i2 => b.2.1 i (by omega)) (b.1 55 (by omega))
theorem msg_clr {s w : ST} (h : ∀ i, i < 4 → s.1 40 i = -1) (k : CLD w) : MSG s w := fun m hm => ⟨by rw [h m hm, k.1 m hm], fun h9 => absurd (by rw [k.1 m hm]; exact li_m1) h9⟩
theorem kpr_clr {s w : ST} (h : s.1 48 1 = 0 ∧ s.1 48 2 = 0 ∧ s.1 48 3 = 0) (k : CLD w) : KPR s w := by
  obtain ⟨_, _, k1, k2, k3⟩ := k
  have l0 := li_0
  unfold KPR
  rw [h.1, h.2.1, h.2.2, k1, k2, k3, l0]
  exact ⟨⟨rfl, by omega, by omega⟩, ⟨rfl, rfl⟩, fun i hi => by omega, fun i j _ hj => by omega⟩
/-- the part that is said of both answers' states -/
theorem inv8_st {n κ : Nat} {σ τ : ST} (h : Inv8 n σ τ κ) (j : Nat) (pr : Nat → Int32) (qa : Int32 × ST) (qb : (Int32 × ST) × Nat) (ea : fA j pr σ = some qa) (eb : fB j pr τ = some qb) (hIA : IA qa.2) : EHY qa.2 ∧ MSG qa.2 qb.1.2 ∧ KPR qa.2 qb.1.2 := by
  obtain ⟨⟨hI, hZ⟩, hX, hM, hK⟩ := h
  have hI' := hI
  obtain ⟨_, hA, hB, hF, h32, hk, hT, hc⟩ := hI'
  have hcap : (σ.1 50 0).toInt = 400 := hA.t50.1
  have hX' : EHY qa.2 := by
    by_cases h1 : j = 1
    · subst h1
      exact eh_plans (pr 1) σ qa ea hX hIA
    · exact hX.at (w_fA j h1 pr σ qa ea)
  refine ⟨hX', ?_⟩
  have two : ∀ {o : Option (Int32 × ST)}, (o.bind fun q => some ((q.1, q.2), 0)) = some qb → ∃ x, o = some x ∧ qb.1 = x := fun e => by
    obtain ⟨x, ex, e2⟩ := bnd_some e
    cases e2
    exact ⟨x, ex, rfl⟩
  by_cases h1 : j = 1
  · subst h1
    rcases ab_plansQ hI (pr 1) qa ea qb eb with ⟨a, b⟩ | ⟨⟨a1, a2, _⟩, b⟩
    · exact ⟨hM.y a b, hK.y a b⟩
    · exact ⟨msg_clr a1 b, kpr_clr a2 b⟩
  by_cases h2 : j = 2
  · subst h2
    have a : KZA σ qa.2 := wkz_X10_write KZA.rf qa ea
    have b : KZB τ qb.1.2 := wkz_X11_write KZB.rf qb eb
    exact ⟨ab_write (pr 1) (pr 2) (pr 3) σ τ hA hB hF h32 hk hT hZ.2.1.1 hM qa ea qb eb, hK.z a b⟩
  by_cases h7 : j = 7
  · subst h7
    obtain ⟨x, ex, e2⟩ := two eb
    have a : KZA σ qa.2 := wkz_X10_spoil KZA.rf qa ea
    have b : KZB τ x.2 := wkz_X11_spoil KZB.rf x ex
    rw [e2]
    exact ⟨(ab_spoil (pr 1) (pr 2) (pr 3) hZ hM qa ea x ex).2, hK.z a b⟩
  by_cases h8 : j = 8
  · subst h8
    obtain ⟨x, ex, e2⟩ := two eb
    have a : KZA σ qa.2 := wkz_X10_cut KZA.rf qa ea
    have b : KZB τ x.2 := wkz_X11_cut KZB.rf x ex
    rw [e2]
    exact ⟨(ab_cut (pr 1) (pr 2) hZ hM qa ea x ex).2, hK.z a b⟩
  by_cases h13 : j = 13
  · subst h13
    obtain ⟨x, ex, e2⟩ := two eb
    rw [e2]
    exact (ab_read (pr 1) (pr 2) hZ hX hM hK hcap h32 qa ea x ex).1
  by_cases h19 : j = 19
  · subst h19
    obtain ⟨x, ex, e2⟩ := two eb
    rw [e2]
    exact (ab_convert (pr 1) (pr 2) (pr 3) hZ hX hM hK hcap h32 qa ea x ex).2.1
  have hn : j ≠ 1 ∧ j ≠ 2 ∧ j ≠ 7 ∧ j ≠ 8 ∧ j ≠ 13 ∧ j ≠ 19 := ⟨h1, h2, h7, h8, h13, h19⟩
  have a : KYA σ qa.2 := wy_fA j hn pr σ qa ea
  have b : KYB τ qb.1.2 := wy_fB j hn pr τ qb eb
  exact ⟨hM.y a b, hK.y a b⟩
theorem inv8_call (n : Nat) (σ τ : ST) (κ : Nat) (h : Inv8 n σ τ κ) (hn : n < 512) (j : Nat) (pr : Nat → Int32) : ∃ (qa : Int32 × ST) (qb : (Int32 × ST) × Nat), fA j pr σ = some qa ∧ fB j pr τ = some qb ∧ Inv8 (n + 1) qa.2 qb.1.2 (κ + qb.2) := by
  obtain ⟨qa, qb, ea, eb, e1⟩ := inv7_call n σ τ κ h.1 hn j pr
  exact ⟨qa, qb, ea, eb, e1, inv8_st h j pr qa qb ea eb e1.1.2.1⟩
theorem inv8_room (n : Nat) (σ τ : ST) (κ : Nat) (h : Inv8 n σ τ κ) : κ ≤ 500000 := inv7_room n σ τ κ h.1
theorem inv8_0 : Inv8 0 s0A s0B 0 := by
  have l0 := li_0
  refine ⟨inv7_0, ?_, ?_, ?_⟩
  · exact .inl l0
  · have e40 : ∀ i, i < 4 → s0A.1 40 i = -1 := clr_0.2.2.2
    have e32 : ∀ i, i < 4 → s0B.1 32 i = -1 := by decide
    exact fun m hm => ⟨by rw [e40 m hm, e32 m hm], fun h9 => absurd (by rw [e32 m hm]; exact li_m1) h9⟩
  · have a1 : s0A.1 48 1 = 0 := rfl
    have a2 : s0A.1 48 2 = 0 := rfl
    have a3 : s0A.1 48 3 = 0 := rfl
    have b1 : s0B.1 0 92 = 0 := rfl
    have b2 : s0B.1 0 93 = 0 := rfl
    have b3 : s0B.1 0 94 = 0 := rfl
    unfold KPR
    rw [a1, a2, a3, b1, b2, b3, l0]
    exact ⟨⟨rfl, by omega, by omega⟩, ⟨rfl, rfl⟩, fun i hi => by omega, fun i j _ hj => by omega⟩
/-! message, spoil, cut, convert, kept are told alike -/
theorem inv8_message (n : Nat) (σ τ : ST) (κ : Nat) (h : Inv8 n σ τ κ) (hn : n < 512) (j : Nat) (pr : Nat → Int32) (hj : j < 32) : ∃ (qa : Int32 × ST) (qb : (Int32 × ST) × Nat), fA j pr σ = some qa ∧ fB j pr τ = some qb ∧ (j = 5 → qa.1 = qb.1.1) ∧ Inv8 (n + 1) qa.2 qb.1.2 (κ + qb.2) := by
  obtain ⟨qa, qb, ea, eb, e1⟩ := inv8_call n σ τ κ h hn j pr
  refine ⟨qa, qb, ea, eb, fun h3 => ?_, e1⟩
  subst h3
  have eb : ((f_X11_message (pr 1) (pr 2) τ).bind fun q => some ((q.1, q.2), 0)) = some qb := eb
  obtain ⟨x, ex, e2⟩ := bnd_some eb
  cases e2
  exact ab_message (pr 1) (pr 2) h.1.2 h.2.2.1 qa ea x ex
theorem inv8_spoil (n : Nat) (σ τ : ST) (κ : Nat) (h : Inv8 n σ τ κ) (hn : n < 512) (j : Nat) (pr : Nat → Int32) (hj : j < 32) : ∃ (qa : Int32 × ST) (qb : (Int32 × ST) × Nat), fA j pr σ = some qa ∧ fB j pr τ = some qb ∧ (j = 7 → qa.1 = qb.1.1) ∧ Inv8 (n + 1) qa.2 qb.1.2 (κ + qb.2) := by
  obtain ⟨qa, qb, ea, eb, e1⟩ := inv8_call n σ τ κ h hn j pr
  refine ⟨qa, qb, ea, eb, fun h3 => ?_, e1⟩
  subst h3
  have eb : ((f_X11_spoil (pr 1) (pr 2) (pr 3) τ).bind fun q => some ((q.1, q.2), 0)) = some qb := eb
  obtain ⟨x, ex, e2⟩ := bnd_some eb
  cases e2
  exact (ab_spoil (pr 1) (pr 2) (pr 3) h.1.2 h.2.2.1 qa ea x ex).1
theorem inv8_cut (n : Nat) (σ τ : ST) (κ : Nat) (h : Inv8 n σ τ κ) (hn : n < 512) (j : Nat) (pr : Nat → Int32) (hj : j < 32) : ∃ (qa : Int32 × ST) (qb : (Int32 × ST) × Nat), fA j pr σ = some qa ∧ fB j pr τ = some qb ∧ (j = 8 → qa.1 = qb.1.1) ∧ Inv8 (n + 1) qa.2 qb.1.2 (κ + qb.2) := by
  obtain ⟨qa, qb, ea, eb, e1⟩ := inv8_call n σ τ κ h hn j pr
  refine ⟨qa, qb, ea, eb, fun h3 => ?_, e1⟩
  subst h3
  have eb : ((f_X11_cut (pr 1) (pr 2) τ).bind fun q => some ((q.1, q.2), 0)) = some qb := eb
  obtain ⟨x, ex, e2⟩ := bnd_some eb
  cases e2
  exact (ab_cut (pr 1) (pr 2) h.1.2 h.2.2.1 qa ea x ex).1
theorem inv8_convert (n : Nat) (σ τ : ST) (κ : Nat) (h : Inv8 n σ τ κ) (hn : n < 512) (j : Nat) (pr : Nat → Int32) (hj : j < 32) : ∃ (qa : Int32 × ST) (qb : (Int32 × ST) × Nat), fA j pr σ = some qa ∧ fB j pr τ = some qb ∧ (j = 19 → qa.1 = qb.1.1) ∧ Inv8 (n + 1) qa.2 qb.1.2 (κ + qb.2) := by
  obtain ⟨qa, qb, ea, eb, e1⟩ := inv8_call n σ τ κ h hn j pr
  refine ⟨qa, qb, ea, eb, fun h3 => ?_, e1⟩
  subst h3
  have eb : ((f_X11_convert (pr 1) (pr 2) (pr 3) τ).bind fun q => some ((q.1, q.2), 0)) = some qb := eb
  obtain ⟨x, ex, e2⟩ := bnd_some eb
  cases e2
  exact (ab_convert (pr 1) (pr 2) (pr 3) h.1.2 h.2.1 h.2.2.1 h.2.2.2 h.1.1.2.1.t50.1 h.1.1.2.2.2.2.1 qa ea x ex).1
theorem inv8_kept (n : Nat) (σ τ : ST) (κ : Nat) (h : Inv8 n σ τ κ) (hn : n < 512) (j : Nat) (pr : Nat → Int32) (hj : j < 32) : ∃ (qa : Int32 × ST) (qb : (Int32 × ST) × Nat), fA j pr σ = some qa ∧ fB j pr τ = some qb ∧ (j = 21 → qa.1 = qb.1.1) ∧ Inv8 (n + 1) qa.2 qb.1.2 (κ + qb.2) := by
  obtain ⟨qa, qb, ea, eb, e1⟩ := inv8_call n σ τ κ h hn j pr
  refine ⟨qa, qb, ea, eb, fun h3 => ?_, e1⟩
  subst h3
  have eb : ((f_X11_kept (pr 1) τ).bind fun q => some ((q.1, q.2), 0)) = some qb := eb
  obtain ⟨x, ex, e2⟩ := bnd_some eb
  cases e2
  exact ab_kept (pr 1) h.2.2.2 qa ea x ex
