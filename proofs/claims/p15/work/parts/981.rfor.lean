/-! a message read for what is shown, both sides -/
/-- what telling the nodes leaves of the reference -/
def KTL (s σ : ST) : Prop := (∀ c, c ≠ 0 → (c < 42 ∨ 46 < c) → σ.1 c = s.1 c) ∧ (∀ i, i ≠ 73 → σ.1 0 i = s.1 0 i) ∧ (∀ c, c ≠ 47 → c ≠ 48 → σ.2.1 c = s.2.1 c) ∧ σ.2.2 = s.2.2
theorem KTL.rf {s : ST} : KTL s s := ⟨fun _ _ _ => rfl, fun _ _ => rfl, fun _ _ _ => rfl, rfl⟩
theorem KTL.i {s σ : ST} {c i : Nat} {v : Int32} (hc : c = 0 ∧ i = 73 ∨ 42 ≤ c ∧ c ≤ 46) (h : KTL s σ) : KTL s (stI σ c i v) := by
  refine ⟨fun d a e => (stI_ne (by omega)).trans (h.1 d a e), fun j hj => ?_, h.2.2⟩
  by_cases e : c = 0
  · subst e
    rw [stI_at, upN (by omega)]
    exact h.2.1 j hj
  · rw [stI_ne (fun h => e h.symm)]
    exact h.2.1 j hj
theorem KTL.l {s σ : ST} {c i : Nat} {v : Int64} (hc : c = 47 ∨ c = 48) (h : KTL s σ) : KTL s (stL σ c i v) := ⟨h.1, h.2.1, fun d a e => (stL_ne (by omega)).trans (h.2.2.1 d a e), h.2.2.2⟩
theorem wt_X11_tells_110 {s : ST} {r_X11_tells : Int32 → Int32 → ST → Option (ST)} (h_r_X11_tells : ∀ (x1 : Int32) (x2 : Int32) (σ : ST), KTL s σ → PF st0 (KTL s) (r_X11_tells x1 x2 σ))  : ∀ (n : Nat) (x1 : Int32) (x2 : Int32) (σ : ST), KTL s σ → PF st0 (KTL s) (f_X11_tells_110 r_X11_tells n x1 x2 σ) := by
  intro n
  induction n with
  | zero => intro x1 x2 σ h; rw [f_X11_tells_110]; exact PF.none
  | succ n ih =>
    intro x1 x2 σ h
    rw [f_X11_tells_110]
    exact (PF.ite (fun _ => (PF.ret0 h)) (fun _ => (PF.bnd (h_r_X11_tells _ _ _ h) (fun q1 hq1 => (PF.ite (fun _ => (ih _ _ _ hq1)) (fun _ => PF.none))))))
theorem wt_X11_tells_53 {s : ST} {r_X11_tells : Int32 → Int32 → ST → Option (ST)} {x1 : Int32} {x3 : Int32} {y0 : Int32} {y1 : Int32} {σ : ST} (h_r_X11_tells : ∀ (x1 : Int32) (x2 : Int32) (σ : ST), KTL s σ → PF st0 (KTL s) (r_X11_tells x1 x2 σ))  (h : KTL s σ) : PF st0 (KTL s) (f_X11_tells_53 r_X11_tells x1 x3 y0 y1 σ) := by
  unfold f_X11_tells_53
  exact (PF.ite (fun _ => (PF.ite (fun _ => (PF.ite (fun _ => (PF.bnd (PF.ret0 (KTL.i (by omega) (KTL.i (by omega) h))) (fun z4 hz4 => (PF.bnd (PF.ret0 (KTL.l (by omega) (KTL.i (by omega) hz4))) (fun z5 hz5 => (PF.val (wt_X11_tells_110 h_r_X11_tells _ _ _ _ (KTL.l (by omega) hz5)))))))) (fun _ => PF.none))) (fun _ => PF.none))) (fun _ => PF.none))
theorem wt_X11_tells {s : ST} {r_X11_tells : Int32 → Int32 → ST → Option (ST)} {p0 : Int32} {p1 : Int32} {σ : ST} (h_r_X11_tells : ∀ (x1 : Int32) (x2 : Int32) (σ : ST), KTL s σ → PF st0 (KTL s) (r_X11_tells x1 x2 σ))  (h : KTL s σ) : PF st0 (KTL s) (f_X11_tells r_X11_tells p0 p1 σ) := by
  unfold f_X11_tells
  exact (PF.ite (fun _ => (PF.ite (fun _ => (PF.bnd (PF.ret0 (KTL.i (by omega) (KTL.i (by omega) h))) (fun z3 hz3 => (PF.ite (fun _ => (wt_X11_tells_53 h_r_X11_tells (KTL.i (by omega) hz3))) (fun _ => (wt_X11_tells_53 h_r_X11_tells (KTL.i (by omega) hz3))))))) (fun _ => PF.none))) (fun _ => PF.none))
theorem wtR_X11_tells {s : ST} : ∀ n : Nat, (∀ (p0 : Int32) (p1 : Int32) (σ : ST), KTL s σ → PF st0 (KTL s) ((R_X11_tells n) p0 p1 σ)) := by
  intro n
  induction n with
  | zero => exact fun _ _ _ _ => PF.none
  | succ n ih => exact fun _ _ _ h => wt_X11_tells ih  h
theorem wt_T_X11_tells {s : ST} {p0 : Int32} {p1 : Int32} {σ : ST} (h : KTL s σ) : PF st0 (KTL s) (f_T_X11_tells p0 p1 σ) := (wtR_X11_tells FRB) _ _ _  h
/-- what is told of a failure -/
def KTF (s σ : ST) : Prop := (∀ c, c ≠ 0 → c ≠ 49 → σ.1 c = s.1 c) ∧ (∀ i, i ≠ 73 → (i < 81 ∨ 83 < i) → σ.1 0 i = s.1 0 i) ∧ σ.2 = s.2
/-- one tree read, and told -/
def RFT (t q : Nat) (qa qb : Int32 × ST) : Prop := qb.1 = 0 ∧ ∃ w1 w2 : ST, RDT 89 t q qa (0, w1) ∧ KTF w1 w2 ∧ (w2.1 0 73).toInt = 0 ∧ f_T_X11_tells 0 (-1) w2 = some qb.2 ∧ KTL w2 qb.2
/-- a message read to be shown: what stays, and what it is -/
def RFN (t q : Nat) (qa qb : Int32 × ST) : Prop := (qa.1 = qb.1 ∧ (qa.1.toInt = -2 ∨ qa.1.toInt = -3) ∧ (qa.2.1 t 1).toInt = 0 ∧ (qb.2.1 0 73).toInt = 0) ∨ RFT t q qa qb
theorem q_readsFor54 (x3 : Int32) (τ : ST) : ∀ (n : Nat) (x4 : Int32) (z : ST), KTF τ z ∧ z.1 0 73 = τ.1 0 73 → QT (f_X11_readsFor_54 n x3 x4 z) (fun qb => qb.1 = x3 ∧ ((x3 = 0 ∧ ∃ w2, (KTF τ w2 ∧ w2.1 0 73 = τ.1 0 73) ∧ f_T_X11_tells 0 (-1) w2 = some qb.2 ∧ KTL w2 qb.2) ∨ ¬ x3 = 0 ∧ KTF τ qb.2 ∧ qb.2.1 0 73 = τ.1 0 73)) := by
  intro n
  induction n with
  | zero =>
    intro x4 z _
    rw [f_X11_readsFor_54]
    exact QT.none
  | succ n ih =>
    intro x4 z hz
    rw [f_X11_readsFor_54]
    refine QT.ite (fun _ => ?_) (fun _ => ?_)
    · refine QT.ite (fun h3 => ?_) (fun h3 => QT.ret ⟨rfl, .inr ⟨h3, hz⟩⟩)
      exact QT.bnd (Q := fun w => f_T_X11_tells 0 (-1) z = some w ∧ KTL z w) (fun w e => ⟨e, wt_T_X11_tells KTL.rf w e⟩) (fun w hw => QT.ret ⟨rfl, .inl ⟨h3, z, hz, hw.1, hw.2⟩⟩)
    · refine QT.grd (fun _ => ih _ _ ⟨⟨fun c c0 c49 => (stI_ne c49).trans (hz.1.1 c c0 c49), fun i i1 i2 => ?_, hz.1.2.2⟩, ?_⟩)
      · rw [stI_ne (by omega)]
        exact hz.1.2.1 i i1 i2
      · rw [stI_ne (by omega)]
        exact hz.2
/-- read for what is shown: the class's latest reading -/
theorem ab_readsFor {σ τ : ST} (hZ : MZ τ σ) (hX : EHX σ) (hM : MSG σ τ) (hK : KPR σ τ) (hcap : (σ.1 50 0).toInt = 400) (p0 p1 : Int32) {m q : Nat} (h0 : p0.toInt = m) (hm : m < 4) (hw : ¬ (σ.1 40 m).toInt = -1) (h1 : p1.toInt = q) (hq : (q : Int) < (τ.1 0 32).toInt) : QT ((f_X9_use (σ.1 40 m) p1 σ).bind fun s => f_X4_run 89 50 p0 p1 s) (fun qa => QT (f_X11_readsFor p0 p1 τ) (fun qb => (MSG qa.2 qb.2 ∧ KPR qa.2 qb.2) ∧ KTA σ qa.2 ∧ (qa.2.1 50 0).toInt = 400 ∧ RFN 50 q qa qb)) := by
  have l0 := li_0
  have nm : p0.toNatClampNeg = m := nC h0
  obtain ⟨hm1, _⟩ := hM m hm
  have hIB := hZ.2.1.2.2
  unfold f_X11_readsFor
  refine QT.sw ?_
  refine QT.grd (fun _ => ?_)
  rw [nm, ← hm1]
  refine QT.bnd (q_uses _ τ hK.1.2) (fun u hu => ?_)
  refine QT.sw ?_
  refine QT.bnd (a_use _ p1 σ (by rw [hK.1.1]; exact hK.1.2)) (fun s hs => ?_)
  have hK2 := hK.use hs hu
  obtain ⟨s1, s2, s3, _⟩ := hs
  obtain ⟨u1, u2, u3, _⟩ := hu
  have kTA : KTA σ s := fun c c1 c2 => ⟨s1 c (by omega) (by omega), by rw [s2]⟩
  have kTB : KTB τ u := ⟨fun c hc => u1 c (fun e => by rw [e] at hc; revert hc; decide) (fun e => by rw [e] at hc; revert hc; decide), fun i _ => by rw [u1 2 (by omega) (by omega), u1 3 (by omega) (by omega)]; exact ⟨rfl, rfl⟩, fun c _ => by rw [u2]⟩
  have u32 : u.1 0 32 = τ.1 0 32 := u3 32 (by omega) (by omega) (by omega)
  have hMs : MSG s u := hM.eq (s1 38 (by omega) (by omega)) (s1 39 (by omega) (by omega)) (s1 40 (by omega) (by omega)) (u1 32 (by omega) (by omega)) (u1 33 (by omega) (by omega)) (u1 34 (by omega) (by omega))
  have hIBu : IB u := by
    have hk := hK2.1
    have c9 : CH [55] [92, 93, 94] τ u := ⟨fun c c0 c55 => u1 c c0 (fun e => c55 (by rw [e]; decide)), fun i hi => by
      simp only [List.mem_cons, List.not_mem_nil, or_false, not_or] at hi
      exact u3 i hi.1 hi.2.1 hi.2.2, by rw [u2], by rw [u2], by rw [u2], by rw [u2], by rw [u2]⟩
    obtain ⟨i1, i2, i3, i4, i5, i6, i7, i8, i9, i10⟩ := hIB
    have e0 : ∀ i, i ≠ 92 → i ≠ 93 → i ≠ 94 → u.1 0 i = τ.1 0 i := u3
    have ec : ∀ c, c ≠ 0 → c ≠ 55 → u.1 c = τ.1 c := u1
    refine ⟨?_, ?_, ?_, ?_, ?_, ?_, ?_, ?_, ?_, ?_⟩
    · unfold PLs at i1 ⊢
      rw [e0 32 (by omega) (by omega) (by omega), ec 2 (by omega) (by omega), ec 3 (by omega) (by omega), ec 4 (by omega) (by omega), ec 5 (by omega) (by omega), ec 8 (by omega) (by omega), ec 11 (by omega) (by omega), ec 15 (by omega) (by omega), ec 19 (by omega) (by omega)]
      exact i1
    · unfold PB at i2 ⊢
      rw [ec 35 (by omega) (by omega)]
      exact i2
    · rw [ec 32 (by omega) (by omega), e0 32 (by omega) (by omega) (by omega)]
      exact i3
    · rw [ec 33 (by omega) (by omega)]
      exact i4
    · rw [ec 38 (by omega) (by omega)]
      exact i5
    · rw [e0 68 (by omega) (by omega) (by omega)]
      exact i6
    · rw [e0 73 (by omega) (by omega) (by omega)]
      exact i7
    · rw [e0 83 (by omega) (by omega) (by omega)]
      exact i8
    · exact hk.2
    · unfold TH at i10 ⊢
      rw [ec 45 (by omega) (by omega)]
      exact i10
  have hZs : MZ τ s := hZ.to kTA (fun c hc => s1 c (fun e => by rw [e] at hc; revert hc; decide) (fun e => by rw [e] at hc; revert hc; decide)) ⟨by rw [s2], by rw [s2]⟩
  have hZu : MZ u s := hZs.yok ⟨kTB.kr, u32, hIBu⟩
  have e40 : s.1 40 = σ.1 40 := s1 40 (by omega) (by omega)
  have hrun := ab_run (b := 89) (t := 50) (.inl ⟨rfl, rfl⟩) hZu (EHB.at hX kTA) hMs (by rw [s1 50 (by omega) (by omega), hcap]; omega) p0 p1 h0 hm (by rw [e40]; exact hw) h1 (by rw [u32]; exact hq)
  refine QT.bndB hrun (fun qa q4 h4 => ?_)
  obtain ⟨⟨kN, kM⟩, hR⟩ := h4
  obtain ⟨v4, w1⟩ := q4
  dsimp only at kM ⊢
  refine QT.lt (fun z6 hz6 => ?_)
  have z0 : (stI z6 0 83 (z6.1 0 68)).1 0 = upd (upd (upd (upd (w1.1 0) 73 0) 81 ((stI w1 0 73 0).1 0 66)) 82 ((stI (stI w1 0 73 0) 0 81 ((stI w1 0 73 0).1 0 66)).1 0 67)) 83 (z6.1 0 68) := by
    rw [stI_at, hz6, stI_at, stI_at, stI_at]
  have kF : KTF w1 (stI z6 0 83 (z6.1 0 68)) := by
    refine ⟨fun c c0 _ => ?_, fun i i1 i2 => ?_, ?_⟩
    · rw [stI_ne c0, hz6, stI_ne c0, stI_ne c0, stI_ne c0]
    · rw [z0, upN (by omega), upN (by omega), upN (by omega), upN (by omega)]
    · rw [hz6]
      rfl
  have z73 : ((stI z6 0 83 (z6.1 0 68)).1 0 73).toInt = 0 := by
    rw [z0, upN (by omega), upN (by omega), upN (by omega), upA rfl]
    exact l0
  clear z0 hz6
  generalize stI z6 0 83 (z6.1 0 68) = z at kF z73
  have kMz : ∀ z2, KTF z z2 → KTF w1 z2 := fun z2 k => ⟨fun c a d => (k.1 c a d).trans (kF.1 c a d), fun i a d => (k.2.1 i a d).trans (kF.2.1 i a d), k.2.2.trans kF.2.2⟩
  have fr : ∀ w2, (∀ c, c ≠ 0 → (c < 42 ∨ 49 < c) → w2.1 c = w1.1 c) → (∀ i, i ≠ 73 → (i < 81 ∨ 83 < i) → w2.1 0 i = w1.1 0 i) → (MSG qa.2 w2 ∧ KPR qa.2 w2) := fun w2 f1 f2 => by
    obtain ⟨n1, n2, n3, _⟩ := kN
    obtain ⟨m1, m2⟩ := kM
    have cM : ∀ c, c ≠ 0 → 30 < c → (c < 42 ∨ 49 < c) → c ≠ 35 → c ≠ 36 → c ≠ 41 → w2.1 c = u.1 c := fun c c0 c30 c42 c35 c36 c41 => (f1 c c0 c42).trans (m1 c c0 (by omega) (by omega) (by omega) (by omega) c35 c36 c41)
    refine ⟨hMs.eq (n1 38 (by omega) (by omega)) (n1 39 (by omega) (by omega)) (n1 40 (by omega) (by omega)) (cM 32 (by omega) (by omega) (by omega) (by omega) (by omega) (by omega)) (cM 33 (by omega) (by omega) (by omega) (by omega) (by omega) (by omega)) (cM 34 (by omega) (by omega) (by omega) (by omega) (by omega) (by omega)), ?_⟩
    have e0 : ∀ i, 90 < i → w2.1 0 i = u.1 0 i := fun i hi => (f2 i (by omega) (by omega)).trans (m2 i (by
      simp only [List.mem_cons, List.not_mem_nil, or_false, not_or]
      omega))
    unfold KPR at hK2 ⊢
    rw [n1 48 (by omega) (by omega), n1 49 (by omega) (by omega), cM 55 (by omega) (by omega) (by omega) (by omega) (by omega) (by omega), e0 92 (by omega), e0 93 (by omega), e0 94 (by omega)]
    exact hK2
  have kTq : KTA σ qa.2 := fun c c1 c2 => ⟨(kN.1 c (by omega) (by omega)).trans (kTA c c1 c2).1, (kN.2.2.1 c (by omega) (by omega) (by omega)).trans (kTA c c1 c2).2⟩
  have hcq : (qa.2.1 50 0).toInt = 400 := by
    rw [kN.2.1 0 (by omega), s1 50 (by omega) (by omega)]
    exact hcap
  refine (q_readsFor54 v4 z FU 0 z ⟨⟨fun _ _ _ => rfl, fun _ _ _ => rfl, rfl⟩, rfl⟩).mono (fun qb hqb => ?_)
  obtain ⟨b1, hqb⟩ := hqb
  rcases hqb with ⟨v0, w2, ⟨k1, k2⟩, k3, k4⟩ | ⟨v0, k1, k2⟩
  · have hR : RDT 89 50 q qa (v4, w1) := by
      rcases hR with ⟨e1, e2, _⟩ | hR
      · have e1 : qa.1 = v4 := e1
        rw [e1, v0] at e2
        omega
      · exact hR
    have k9 := kMz w2 k1
    refine ⟨fr qb.2 (fun c c0 c1 => (k4.1 c c0 (by omega)).trans (k9.1 c c0 (by omega))) (fun i i1 i2 => (k4.2.1 i i1).trans (k9.2.1 i i1 i2)), kTq, hcq, .inr ⟨by rw [b1]; exact v0, w1, w2, ⟨rfl, hR.2⟩, k9, by rw [k2]; exact z73, k3, k4⟩⟩
  · have k9 := kMz qb.2 k1
    refine ⟨fr qb.2 (fun c c0 c1 => k9.1 c c0 (by omega)) (fun i i1 i2 => k9.2.1 i i1 i2), kTq, hcq, .inl ?_⟩
    rcases hR with ⟨e1, e2, e3⟩ | hR
    · exact ⟨by rw [b1]; exact e1, e2, e3, by rw [k2]; exact z73⟩
    · exact absurd hR.1 v0
