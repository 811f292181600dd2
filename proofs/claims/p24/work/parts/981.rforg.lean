/-! a message read for what is shown, both sides -/
/-- what telling the nodes leaves of the reference -/
def KTL (s σ : ST) : Prop := (∀ c, c ≠ 0 → (c < 42 ∨ 46 < c) → σ.1 c = s.1 c) ∧ (∀ i, i ≠ 73 → σ.1 0 i = s.1 0 i) ∧ (∀ c, c ≠ 47 → c ≠ 48 → σ.2.1 c = s.2.1 c) ∧ σ.2.2 = s.2.2
theorem KTL.rf {s : ST} : KTL s s := ⟨fun _ _ _ => rfl, fun _ _ => rfl, fun _ _ _ => rfl, rfl⟩
theorem KTL.i {s σ : ST} {c i : Nat} {v : Int32} (hc : c = 0 ∧ i = 73 ∨ 42 ≤ c ∧ c ≤ 46) (h : KTL s σ) : KTL s (stI σ c i v) := by
  refine ⟨fun d a e => (stI_ne (by omega)).trans (h.1 d a e), fun j hj => ?_, h.2.2⟩
  by_cases e : c = 0
  · subst e
    rw [stI_at, upN (by omega)]
    exact h.2.1 j hj
  · rw [stI_ne (fun h => e h.symm)]
    exact h.2.1 j hj
theorem KTL.l {s σ : ST} {c i : Nat} {v : Int64} (hc : c = 47 ∨ c = 48) (h : KTL s σ) : KTL s (stL σ c i v) := ⟨h.1, h.2.1, fun d a e => (stL_ne (by omega)).trans (h.2.2.1 d a e), h.2.2.2⟩
theorem wt_X11_tells_110 {s : ST} {r_X11_tells : Int32 → Int32 → ST → Option (ST)} (h_r_X11_tells : ∀ (x1 : Int32) (x2 : Int32) (σ : ST), KTL s σ → PF st0 (KTL s) (r_X11_tells x1 x2 σ))  : ∀ (n : Nat) (x1 : Int32) (x2 : Int32) (σ : ST), KTL s σ → PF st0 (KTL s) (f_X11_tells_110 r_X11_tells n x1 x2 σ) := by
  intro n
  induction n with
  | zero => intro x1 x2 σ h; rw [f_X11_tells_110]; exact PF.none
  | succ n ih =>
    intro x1 x2 σ h
    rw [f_X11_tells_110]
    exact (PF.ite (fun _ => (PF.ret0 h)) (fun _ => (PF.bnd (h_r_X11_tells _ _ _ h) (fun q1 hq1 => (PF.ite (fun _ => (ih _ _ _ hq1)) (fun _ => PF.none))))))
theorem wt_X11_tells_53 {s : ST} {r_X11_tells : Int32 → Int32 → ST → Option (ST)} {x1 : Int32} {x3 : Int32} {y0 : Int32} {y1 : Int32} {σ : ST} (h_r_X11_tells : ∀ (x1 : Int32) (x2 : Int32) (σ : ST), KTL s σ → PF st0 (KTL s) (r_X11_tells x1 x2 σ))  (h : KTL s σ) : PF st0 (KTL s) (f_X11_tells_53 r_X11_tells x1 x3 y0 y1 σ) := by
  unfold f_X11_tells_53
  exact (PF.ite (fun _ => (PF.ite (fun _ => (PF.ite (fun _ => (PF.bnd (PF.ret0 (KTL.i (by omega) (KTL.i (by omega) h))) (fun z4 hz4 => (PF.bnd (PF.ret0 (KTL.l (by omega) (KTL.i (by omega) hz4))) (fun z5 hz5 => (PF.val (wt_X11_tells_110 h_r_X11_tells _ _ _ _ (KTL.l (by omega) hz5)))))))) (fun _ => PF.none))) (fun _ => PF.none))) (fun _ => PF.none))
theorem wt_X11_tells {s : ST} {r_X11_tells : Int32 → Int32 → ST → Option (ST)} {p0 : Int32} {p1 : Int32} {σ : ST} (h_r_X11_tells : ∀ (x1 : Int32) (x2 : Int32) (σ : ST), KTL s σ → PF st0 (KTL s) (r_X11_tells x1 x2 σ))  (h : KTL s σ) : PF st0 (KTL s) (f_X11_tells r_X11_tells p0 p1 σ) := by
  unfold f_X11_tells
  exact (PF.ite (fun _ => (PF.ite (fun _ => (PF.bnd (PF.ret0 (KTL.i (by omega) (KTL.i (by omega) h))) (fun z3 hz3 => (PF.ite (fun _ => (wt_X11_tells_53 h_r_X11_tells (KTL.i (by omega) hz3))) (fun _ => (wt_X11_tells_53 h_r_X11_tells (KTL.i (by omega) hz3))))))) (fun _ => PF.none))) (fun _ => PF.none))
theorem wtR_X11_tells {s : ST} : ∀ n : Nat, (∀ (p0 : Int32) (p1 : Int32) (σ : ST), KTL s σ → PF st0 (KTL s) ((R_X11_tells n) p0 p1 σ)) := by
  intro n
  induction n with
  | zero => exact fun _ _ _ _ => PF.none
  | succ n ih => exact fun _ _ _ h => wt_X11_tells ih  h
theorem wt_T_X11_tells {s : ST} {p0 : Int32} {p1 : Int32} {σ : ST} (h : KTL s σ) : PF st0 (KTL s) (f_T_X11_tells p0 p1 σ) := (wtR_X11_tells FRB) _ _ _  h
/-- what is told of a failure -/
def KTF (s σ : ST) : Prop := (∀ c, c ≠ 0 → c ≠ 49 → σ.1 c = s.1 c) ∧ (∀ i, i ≠ 73 → (i < 81 ∨ 83 < i) → σ.1 0 i = s.1 0 i) ∧ σ.2 = s.2
/-- one tree read, and told -/
def RFT (t q : Nat) (qa qb : Int32 × ST) : Prop := qb.1 = 0 ∧ ∃ w1 w2 : ST, RDT 89 t q qa (0, w1) ∧ KTF w1 w2 ∧ (w2.1 0 73).toInt = 0 ∧ f_T_X11_tells 0 (-1) w2 = some qb.2 ∧ KTL w2 qb.2
/-- a message read to be shown: what stays, and what it is -/
def RFN (t q : Nat) (qa qb : Int32 × ST) : Prop := (qa.1 = qb.1 ∧ (qa.1.toInt = -2 ∨ qa.1.toInt = -3) ∧ (qa.2.1 t 1).toInt = 0 ∧ (qb.2.1 0 73).toInt = 0) ∨ RFT t q qa qb
theorem q_readsFor54 (x3 : Int32) (τ : ST) : ∀ (n : Nat) (x4 : Int32) (z : ST), KTF τ z ∧ z.1 0 73 = τ.1 0 73 → QT (f_X11_readsFor_54 n x3 x4 z) (fun qb => qb.1 = x3 ∧ ((x3 = 0 ∧ ∃ w2, (KTF τ w2 ∧ w2.1 0 73 = τ.1 0 73) ∧ f_T_X11_tells 0 (-1) w2 = some qb.2 ∧ KTL w2 qb.2) ∨ ¬ x3 = 0 ∧ KTF τ qb.2 ∧ qb.2.1 0 73 = τ.1 0 73)) := by
  intro n
  induction n with
  | zero =>
    intro x4 z _
    rw [f_X11_readsFor_54]
    exact QT.none
  | succ n ih =>
    intro x4 z hz
    rw [f_X11_readsFor_54]
    refine QT.ite (fun _ => ?_) (fun _ => ?_)
    · refine QT.ite (fun h3 => ?_) (fun h3 => QT.ret ⟨rfl, .inr ⟨h3, hz⟩⟩)
      exact QT.bnd (Q := fun w => f_T_X11_tells 0 (-1) z = some w ∧ KTL z w) (fun w e => ⟨e, wt_T_X11_tells KTL.rf w e⟩) (fun w hw => QT.ret ⟨rfl, .inl ⟨h3, z, hz, hw.1, hw.2⟩⟩)
    · refine QT.grd (fun _ => ih _ _ ⟨⟨fun c c0 c49 => (stI_ne c49).trans (hz.1.1 c c0 c49), fun i i1 i2 => ?_, hz.1.2.2⟩, ?_⟩)
      · rw [stI_ne (by omega)]
        exact hz.1.2.1 i i1 i2
      · rw [stI_ne (by omega)]
        exact hz.2
/-- read for what is shown: the class's latest reading -/
theorem ab_readsFor {σ τ : ST} (hZ : MZ τ σ) (hX : EHX σ) (hM : MSG σ τ) (hK : KPR σ τ) (hcap : (σ.1 50 0).toInt = 400) (p0 p1 : Int32) {m q : Nat} (h0 : p0.toInt = m) (hm : m < 4) (hw : ¬ (σ.1 40 m).toInt = -1) (h1 : p1.toInt = q) (hq : (q : Int) < (τ.1 0 32).toInt) : QT ((f_X9_use (σ.1 40 m) p1 σ).bind fun s => f_X4_run 89 50 p0 p1 s) (fun qa => QT (f_X11_readsFor p0 p1 τ) (fun qb => (MSG qa.2 qb.2 ∧ KPR qa.2 qb.2) ∧ KTA σ qa.2 ∧ (qa.2.1 50 0).toInt = 400 ∧ RFN 50 q qa qb)) := by
  have l0 := li_0
  have nm : p0.toNatClampNeg = m := nC h0
  obtain ⟨hm1, _⟩ := hM m hm
  have hIB := hZ.2.1.2.2
  unfold f_X11_readsFor
  refine QT.sw ?_
  refine QT.grd (fun _ => ?_)
  rw [nm, ← hm1]
  refine QT.bnd (q_uses _ τ hK.1.2) (fun u hu => ?_)
  refine QT.sw ?_
  refine QT.bnd (a_use _ p1 σ (by rw [hK.1.1]; exact hK.1.2)) (fun s hs => ?_)
  have hK2 := hK.use hs hu
  obtain ⟨s1, s2, s3, _⟩ := hs
  obtain ⟨u1, u2, u3, _⟩ := hu
  have kTA : KTA σ s := fun c c1 c2 => ⟨s1 c (by omega) (by omega), by rw [s2]⟩
  have kTB : KTB τ u := ⟨fun c hc => u1 c (fun e => by rw [e] at hc; revert hc; decide) (fun e => by rw [e] at hc; revert hc; decide), fun i _ => by rw [u1 2 (by omega) (by omega), u1 3 (by omega) (by omega)]; exact ⟨rfl, rfl⟩, fun c _ => by rw [u2]⟩
  have u32 : u.1 0 32 = τ.1 0 32 := u3 32 (by omega) (by omega) (by omega)
  have hMs : MSG s u := hM.eq (s1 38 (by omega) (by omega)) (s1 39 (by omega) (by omega)) (s1 40 (by omega) (by omega)) (u1 32 (by omega) (by omega)) (u1 33 (by omega) (by omega)) (u1 34 (by omega) (by omega))
  have hIBu : IB u := by
    have hk := hK2.1
    have c9 : CH [55] [92, 93, 94] τ u := ⟨fun c c0 c55 => u1 c c0 (fun e => c55 (by rw [e]; decide)), fun i hi => by
      simp only [List.mem_cons, List.not_mem_nil, or_false, not_or] at hi
      exact u3 i hi.1 hi.2.1 hi.2.2, by rw [u2], by rw [u2], by rw [u2], by rw [u2], by rw [u2]⟩
    obtain ⟨i1, i2, i3, i4, i5, i6, i7, i8, i9, i10⟩ := hIB
    have e0 : ∀ i, i ≠ 92 → i ≠ 93 → i ≠ 94 → u.1 0 i = τ.1 0 i := u3
    have ec : ∀ c, c ≠ 0 → c ≠ 55 → u.1 c = τ.1 c := u1
    refine ⟨?_, ?_, ?_, ?_, ?_, ?_, ?_, ?_, ?_, ?_⟩
    · unfold PLs at i1 ⊢
      rw [e0 32 (by omega) (by omega) (by omega), ec 2 (by omega) (by omega), ec 3 (by omega) (by omega), ec 4 (by omega) (by omega), ec 5 (by omega) (by omega), ec 8 (by omega) (by omega), ec 11 (by omega) (by omega), ec 15 (by omega) (by omega), ec 19 (by omega) (by omega)]
      exact i1
    · unfold PB at i2 ⊢
      rw [ec 35 (by omega) (by omega)]
      exact i2
    · rw [ec 32 (by omega) (by omega), e0 32 (by omega) (by omega) (by omega)]
      exact i3
    · rw [ec 33 (by omega) (by omega)]
      exact i4
    · rw [ec 38 (by omega) (by omega)]
      exact i5
    · rw [e0 68 (by omega) (by omega) (by omega)]
      exact i6
    · rw [e0 73 (by omega) (by omega) (by omega)]
      exact i7
    · rw [e0 83 (by omega) (by omega) (by omega)]
      exact i8
    · exact hk.2
    · unfold TH at i10 ⊢
      rw [ec 45 (by omega) (by omega)]
      exact i10
  have hZs : MZ τ s := hZ.to kTA (fun c hc => s1 c (fun e => by rw [e] at hc; revert hc; decide) (fun e => by rw [e] at hc; revert hc; decide)) ⟨by rw [s2], by rw [s2]⟩
  have hZu : MZ u s := hZs.yok ⟨kTB.kr, u32, hIBu⟩
  have e40 : s.1 40 = σ.1 40 := s1 40 (by omega) (by omega)
  have hrun := ab_run (b := 89) (t := 50) (.inl ⟨rfl, rfl⟩) hZu (EHB.at hX kTA) hMs (by rw [s1 50 (by omega) (by omega), hcap]; omega) p0 p1 h0 hm (by rw [e40]; exact hw) h1 (by rw [u32]; exact hq)
  refine QT.bndB hrun (fun qa q4 h4 => ?_)
  obtain ⟨⟨kN, kM⟩, hR⟩ := h4
  obtain ⟨v4, w1⟩ := q4
  dsimp only at kM ⊢
  refine QT.lt (fun z6 hz6 => ?_)
  have z0 : (stI z6 0 83 (z6.1 0 68)).1 0 = upd (upd (upd (upd (w1.1 0) 73 0) 81 ((stI w1 0 73 0).1 0 66)) 82 ((stI (stI w1 0 73 0) 0 81 ((stI w1 0 73 0).1 0 66)).1 0 67)) 83 (z6.1 0 68) := by
    rw [stI_at, hz6, stI_at, stI_at, stI_at]
  have kF : KTF w1 (stI z6 0 83 (z6.1 0 68)) := by
    refine ⟨fun c c0 _ => ?_, fun i i1 i2 => ?_, ?_⟩
    · rw [stI_ne c0, hz6, stI_ne c0, stI_ne c0, stI_ne c0]
    · rw [z0, upN (by omega), upN (by omega), upN (by omega), upN (by omega)]
    · rw [hz6]
      rfl
  have z73 : ((stI z6 0 83 (z6.1 0 68)).1 0 73).toInt = 0 := by
    rw [z0, upN (by omega), upN (by omega), upN (by omega), upA rfl]
    exact l0
  clear z0 hz6
  generalize stI z6 0 83 (z6.1 0 68) = z at kF z73
  have kMz : ∀ z2, KTF z z2 → KTF w1 z2 := fun z2 k => ⟨fun c a d => (k.1 c a d).trans (kF.1 c a d), fun i a d => (k.2.1 i a d).trans (kF.2.1 i a d), k.2.2.trans kF.2.2⟩
  have fr : ∀ w2, (∀ c, c ≠ 0 → (c < 42 ∨ 49 < c) → w2.1 c = w1.1 c) → (∀ i, i ≠ 73 → (i < 81 ∨ 83 < i) → w2.1 0 i = w1.1 0 i) → (MSG qa.2 w2 ∧ KPR qa.2 w2) := fun w2 f1 f2 => by
    obtain ⟨n1, n2, n3, _⟩ := kN
    obtain ⟨m1, m2⟩ := kM
    have cM : ∀ c, c ≠ 0 → 30 < c → (c < 42 ∨ 49 < c) → c ≠ 35 → c ≠ 36 → c ≠ 41 → w2.1 c = u.1 c := fun c c0 c30 c42 c35 c36 c41 => (f1 c c0 c42).trans (m1 c c0 (by omega) (by omega) (by omega) (by omega) c35 c36 c41)
    refine ⟨hMs.eq (n1 38 (by omega) (by omega)) (n1 39 (by omega) (by omega)) (n1 40 (by omega) (by omega)) (cM 32 (by omega) (by omega) (by omega) (by omega) (by omega) (by omega)) (cM 33 (by omega) (by omega) (by omega) (by omega) (by omega) (by omega)) (cM 34 (by omega) (by omega) (by omega) (by omega) (by omega) (by omega)), ?_⟩
    have e0 : ∀ i, 90 < i → w2.1 0 i = u.1 0 i := fun i hi => (f2 i (by omega) (by omega)).trans (m2 i (by
      simp only [List.mem_cons, List.not_mem_nil, or_false, not_or]
      omega))
    unfold KPR at hK2 ⊢
    rw [n1 48 (by omega) (by omega), n1 49 (by omega) (by omega), cM 55 (by omega) (by omega) (by omega) (by omega) (by omega) (by omega), e0 92 (by omega), e0 93 (by omega), e0 94 (by omega)]
    exact hK2
  have kTq : KTA σ qa.2 := fun c c1 c2 => ⟨(kN.1 c (by omega) (by omega)).trans (kTA c c1 c2).1, (kN.2.2.1 c (by omega) (by omega) (by omega)).trans (kTA c c1 c2).2⟩
  have hcq : (qa.2.1 50 0).toInt = 400 := by
    rw [kN.2.1 0 (by omega), s1 50 (by omega) (by omega)]
    exact hcap
  refine (q_readsFor54 v4 z FU 0 z ⟨⟨fun _ _ _ => rfl, fun _ _ _ => rfl, rfl⟩, rfl⟩).mono (fun qb hqb => ?_)
  obtain ⟨b1, hqb⟩ := hqb
  rcases hqb with ⟨v0, w2, ⟨k1, k2⟩, k3, k4⟩ | ⟨v0, k1, k2⟩
  · have hR : RDT 89 50 q qa (v4, w1) := by
      rcases hR with ⟨e1, e2, _⟩ | hR
      · have e1 : qa.1 = v4 := e1
        rw [e1, v0] at e2
        omega
      · exact hR
    have k9 := kMz w2 k1
    refine ⟨fr qb.2 (fun c c0 c1 => (k4.1 c c0 (by omega)).trans (k9.1 c c0 (by omega))) (fun i i1 i2 => (k4.2.1 i i1).trans (k9.2.1 i i1 i2)), kTq, hcq, .inr ⟨by rw [b1]; exact v0, w1, w2, ⟨rfl, hR.2⟩, k9, by rw [k2]; exact z73, k3, k4⟩⟩
  · have k9 := kMz qb.2 k1
    refine ⟨fr qb.2 (fun c c0 c1 => k9.1 c c0 (by omega)) (fun i i1 i2 => k9.2.1 i i1 i2), kTq, hcq, .inl ?_⟩
    rcases hR with ⟨e1, e2, e3⟩ | hR
    · exact ⟨by rw [b1]; exact e1, e2, e3, by rw [k2]; exact z73⟩
    · exact absurd hR.1 v0
/-! a message converted, both sides -/
theorem QT.assoc {α β γ : Type} {a : Option α} {f : α → Option β} {g : β → Option γ} {P : γ → Prop} (h : QT ((a.bind f).bind g) P) : QT (a.bind fun x => (f x).bind g) P := by
  intro q e
  refine h q ?_
  rw [← e]
  cases a <;> rfl
theorem qa_isWritten (p0 : Int32) (σ : ST) : QT (f_X1_isWritten p0 σ) (fun q => q.2 = σ ∧ ((q.1 = 0 ∧ ¬ ((0 ≤ p0.toInt ∧ p0.toInt < 4) ∧ ¬ σ.1 40 p0.toNatClampNeg = -1)) ∨ q.1 = 1 ∧ (0 ≤ p0.toInt ∧ p0.toInt < 4) ∧ ¬ σ.1 40 p0.toNatClampNeg = -1)) := by
  have l0 := li_0
  have l1 := li_1
  unfold f_X1_isWritten
  refine QT.bndR (k2_isNumber p0 σ) (fun v hv => ?_)
  dsimp only
  refine QT.ieq (fun _ => QT.ret ⟨rfl, .inl ⟨rfl, fun h => by omega⟩⟩) (fun _ => ?_)
  refine QT.grd (fun _ => ?_)
  refine QT.ite (fun h => QT.ret ⟨rfl, .inl ⟨rfl, fun h2 => h2.2 h⟩⟩) (fun h => QT.ret ⟨rfl, .inr ⟨rfl, by omega, h⟩⟩)
theorem qb_isMessage (p0 : Int32) (σ : ST) : QT (f_X11_isMessage p0 σ) (fun q => q.2 = σ ∧ ((q.1 = 0 ∧ ¬ ((0 ≤ p0.toInt ∧ p0.toInt < 4) ∧ 0 ≤ (σ.1 32 p0.toNatClampNeg).toInt)) ∨ q.1 = 1 ∧ (0 ≤ p0.toInt ∧ p0.toInt < 4) ∧ 0 ≤ (σ.1 32 p0.toNatClampNeg).toInt)) := by
  have l0 := li_0
  have l1 := li_1
  have e := i64 p0
  have l0' := l64_0
  have l3' := l64_3
  unfold f_X11_isMessage
  refine QT.bndR (b_within _ _ _ _) (fun v hv => ?_)
  dsimp only
  refine QT.ieq (fun _ => QT.ret ⟨rfl, .inl ⟨rfl, fun h => by omega⟩⟩) (fun _ => ?_)
  refine QT.grd (fun _ => ?_)
  refine QT.ilt (fun h => QT.ret ⟨rfl, .inl ⟨rfl, fun h2 => by omega⟩⟩) (fun h => QT.ret ⟨rfl, .inr ⟨rfl, by omega, by omega⟩⟩)
/-- the two know the same messages -/
theorem MSG.wr {σ τ : ST} (h : MSG σ τ) (hZ : MZ τ σ) {p0 : Int32} (h0 : 0 ≤ p0.toInt ∧ p0.toInt < 4) : ¬ σ.1 40 p0.toNatClampNeg = -1 ↔ 0 ≤ (τ.1 32 p0.toNatClampNeg).toInt := by
  have lm := li_m1
  have n0 := nN_ h0.1
  obtain ⟨e, _⟩ := h p0.toNatClampNeg (by omega)
  have hM := hZ.2.2 p0.toNatClampNeg (by omega)
  rw [e] at hM ⊢
  constructor
  · intro h9
    have : ¬ (τ.1 32 p0.toNatClampNeg).toInt = -1 := fun h8 => h9 (Int32.toInt_inj.mp (h8.trans lm.symm))
    omega
  · intro h9 h8
    rw [h8] at h9
    omega
/-- both ask whether a message is there -/
theorem ab_isWritten {σ τ u : ST} (hM : MSG σ τ) (hZ : MZ τ σ) (e32 : u.1 32 = τ.1 32) (p0 : Int32) : QT (f_X1_isWritten p0 σ) (fun qa => QT (f_X11_isMessage p0 u) (fun qb => (qa.2 = σ ∧ qb.2 = u ∧ qa.1 = qb.1) ∧ (qa.1 = 0 ∨ qa.1 = 1 ∧ (0 ≤ p0.toInt ∧ p0.toInt < 4) ∧ ¬ σ.1 40 p0.toNatClampNeg = -1))) := by
  refine (qa_isWritten p0 σ).mono (fun qa ha => (qb_isMessage p0 u).mono (fun qb hb => ?_))
  obtain ⟨a1, a2⟩ := ha
  obtain ⟨b1, b2⟩ := hb
  rw [e32] at b2
  rcases a2 with ⟨a2, a3⟩ | ⟨a2, a3, a4⟩
  · rcases b2 with ⟨b2, b3⟩ | ⟨b2, b3, b4⟩
    · exact ⟨⟨a1, b1, by rw [a2, b2]⟩, .inl a2⟩
    · exact absurd ⟨b3, (hM.wr hZ b3).mpr b4⟩ a3
  · rcases b2 with ⟨b2, b3⟩ | ⟨b2, b3, b4⟩
    · exact absurd ⟨a3, (hM.wr hZ a3).mp a4⟩ b3
    · exact ⟨⟨a1, b1, by rw [a2, b2]⟩, .inr ⟨a2, a3, a4⟩⟩
/-- both ask whether a plan is there -/
theorem ab_isPlan {σ u : ST} (hc : σ.1 4 0 = u.1 0 32) (hpl : bI (u.1 0 32) 0 6) (p1 : Int32) : QT (f_X10_isPlan p1 σ) (fun qa => QT (f_X11_isPlanAt p1 u) (fun qb => (qa.2 = σ ∧ qb.2 = u ∧ qa.1 = qb.1) ∧ (qa.1 = 0 ∨ qa.1 = 1 ∧ 0 ≤ p1.toInt ∧ p1.toInt < (u.1 0 32).toInt))) := by
  have l0 := li_0
  have l1 := li_1
  have hci : (σ.1 4 0).toInt = (u.1 0 32).toInt := by rw [hc]
  have ka := k2_isPlan p1 σ
  have kb := b_isPlanAt p1 u hpl
  obtain ⟨⟨v, s⟩, ea, e1, e2⟩ := ka
  obtain ⟨⟨w, t⟩, eb, e3, e4⟩ := kb
  have e1 : s = σ := e1
  have e3 : t = u := e3
  have e2 : v.toInt = 0 ∧ ¬ (0 ≤ p1.toInt ∧ p1.toInt < (σ.1 4 0).toInt) ∨ v.toInt = 1 ∧ 0 ≤ p1.toInt ∧ p1.toInt < (σ.1 4 0).toInt := e2
  have e4 : w.toInt = 0 ∧ ¬ (0 ≤ p1.toInt ∧ p1.toInt < (u.1 0 32).toInt) ∨ w.toInt = 1 ∧ 0 ≤ p1.toInt ∧ p1.toInt < (u.1 0 32).toInt := e4
  intro qa ha qb hb
  rw [ea] at ha
  rw [eb] at hb
  cases ha
  cases hb
  refine ⟨⟨e1, e3, Int32.toInt_inj.mp ?_⟩, ?_⟩
  · show v.toInt = w.toInt
    omega
  · show v = 0 ∨ v = 1 ∧ _
    rcases e2 with e2 | e2
    · exact .inl (Int32.toInt_inj.mp (e2.1.trans l0.symm))
    · exact .inr ⟨Int32.toInt_inj.mp (e2.1.trans l1.symm), by omega, by omega⟩
/-- both ask whether it is a message's number -/
theorem ab_isNumber (p2 : Int32) (σ u : ST) : QT (f_X1_isNumber p2 σ) (fun qa => QT (f_X11_within (p2.toInt64) 0 3 u) (fun qb => (qa.2 = σ ∧ qb.2 = u ∧ qa.1 = qb.1) ∧ (qa.1 = 0 ∨ qa.1 = 1 ∧ 0 ≤ p2.toInt ∧ p2.toInt < 4))) := by
  have l0 := li_0
  have l1 := li_1
  have e := i64 p2
  have l0' := l64_0
  have l3' := l64_3
  obtain ⟨⟨v, s⟩, ea, e1, e2⟩ := k2_isNumber p2 σ
  obtain ⟨⟨w, t⟩, eb, e3, e4⟩ := b_within (p2.toInt64) 0 3 u
  have e1 : s = σ := e1
  have e3 : t = u := e3
  have e2 : v.toInt = 0 ∧ ¬ (0 ≤ p2.toInt ∧ p2.toInt < 4) ∨ v.toInt = 1 ∧ 0 ≤ p2.toInt ∧ p2.toInt < 4 := e2
  have e4 : w.toInt = 0 ∧ ¬ ((0 : Int64).toInt ≤ p2.toInt64.toInt ∧ p2.toInt64.toInt ≤ (3 : Int64).toInt) ∨ w.toInt = 1 ∧ (0 : Int64).toInt ≤ p2.toInt64.toInt ∧ p2.toInt64.toInt ≤ (3 : Int64).toInt := e4
  intro qa ha qb hb
  rw [ea] at ha
  rw [eb] at hb
  cases ha
  cases hb
  refine ⟨⟨e1, e3, Int32.toInt_inj.mp ?_⟩, ?_⟩
  · show v.toInt = w.toInt
    omega
  · show v = 0 ∨ v = 1 ∧ _
    rcases e2 with e2 | e2
    · exact .inl (Int32.toInt_inj.mp (e2.1.trans l0.symm))
    · exact .inr ⟨Int32.toInt_inj.mp (e2.1.trans l1.symm), e2.2⟩
/-- what storing a message leaves -/
theorem a_storeF (p0 p1 : Int32) (σ : ST) : QT (f_X1_store p0 p1 σ) (fun s => (∀ c, (c < 38 ∨ 40 < c) → s.1 c = σ.1 c) ∧ s.2 = σ.2) := by
  unfold f_X1_store
  refine QT.bndR (k2_isNumber p0 σ) (fun v _ => ?_)
  dsimp only
  refine QT.ite (fun _ => QT.ret ⟨fun _ _ => rfl, rfl⟩) (fun _ => ?_)
  refine QT.ite (fun _ => QT.ret ⟨fun _ _ => rfl, rfl⟩) (fun _ => ?_)
  refine QT.grd (fun _ => QT.lt (fun z hz => QT.grd (fun _ => QT.ret ?_)))
  have zc : ∀ c, c ≠ 38 → z.1 c = σ.1 c := fun c hc => by rw [hz]; exact stF_ne5 hc
  have zL : z.2 = σ.2 := by rw [hz]; rfl
  exact ⟨fun c hc => by rw [stI_ne (by omega), stI_ne (by omega)]; exact zc c (by omega), zL⟩
theorem q_becomesF (p0 p1 : Int32) (τ : ST) : QT (f_X11_becomes p0 p1 τ) (fun t => (∀ c, (c < 32 ∨ 34 < c) → t.1 c = τ.1 c) ∧ t.2 = τ.2) := by
  unfold f_X11_becomes
  refine QT.grd (fun _ => QT.lt (fun z hz => ?_))
  have zc : ∀ c, c ≠ 32 → c ≠ 33 → z.1 c = τ.1 c := fun c h1 h2 => by rw [hz, stI_ne h2, stI_ne h1]
  have zL : z.2 = τ.2 := by rw [hz]; rfl
  have key : ∀ (n : Nat) (x3 : Int32) (y : ST), (∀ c, (c < 32 ∨ 34 < c) → y.1 c = τ.1 c) ∧ y.2 = τ.2 → QT (f_X11_becomes_19 n p0 x3 y) (fun t => (∀ c, (c < 32 ∨ 34 < c) → t.1 c = τ.1 c) ∧ t.2 = τ.2) := by
    intro n
    induction n with
    | zero =>
      intro x3 y _
      rw [f_X11_becomes_19]
      exact QT.none
    | succ n ih =>
      intro x3 y hy
      rw [f_X11_becomes_19]
      refine QT.ite (fun _ => QT.ret hy) (fun _ => QT.grd (fun _ => QT.grd (fun _ => ih _ _ ⟨fun c hc => ?_, hy.2⟩)))
      rw [stI_ne (by omega)]
      exact hy.1 c hc
  exact key FU 0 z ⟨fun c hc => zc c (by omega) (by omega), zL⟩
/-- the tree that is shown stays: the class's, the reference's -/
def SHE (s z : ST) : Prop := (∀ c, 50 ≤ c → c ≤ 61 → z.1 c = s.1 c) ∧ z.2.1 56 = s.2.1 56
def SHB (w z : ST) : Prop := ((∀ c, 42 ≤ c → c ≤ 46 → z.1 c = w.1 c) ∧ z.1 0 73 = w.1 0 73) ∧ z.2.1 47 = w.2.1 47 ∧ z.2.1 48 = w.2.1 48
/-- what is shown: as it was, or as it was read -/
def SHO (σ τ s w : ST) : Prop := (SHE σ s ∧ SHB τ w) ∨ ∃ (q : Nat) (ra rb : Int32 × ST), q < 6 ∧ RFN 50 q ra rb ∧ SHE ra.2 s ∧ SHB rb.2 w ∧ w.1 27 = rb.2.1 27
theorem SHE.rf {s : ST} : SHE s s := ⟨fun _ _ _ => rfl, rfl⟩
theorem SHB.rf {s : ST} : SHB s s := ⟨⟨fun _ _ _ => rfl, rfl⟩, rfl, rfl⟩
theorem KPK.she {s z : ST} (h : KPK s z) : SHE s z := ⟨fun c _ _ => h.1 c (by omega) (by omega), by rw [h.2.2]⟩
theorem KWR.shb {s z : ST} (h : KWR s z) : SHB s z := ⟨⟨fun c _ _ => h.1 c (by omega) (by omega), h.2.1 73 (by omega) (by omega)⟩, by rw [h.2.2], by rw [h.2.2]⟩
theorem SHE.trans {a b c : ST} (h : SHE a b) (k : SHE b c) : SHE a c := ⟨fun d e f => (k.1 d e f).trans (h.1 d e f), k.2.trans h.2⟩
theorem SHB.trans {a b c : ST} (h : SHB a b) (k : SHB b c) : SHB a c := ⟨⟨fun d e f => (k.1.1 d e f).trans (h.1.1 d e f), k.1.2.trans h.1.2⟩, k.2.1.trans h.2.1, k.2.2.trans h.2.2⟩
theorem KPR.eq {σ τ s t : ST} (h : KPR σ τ) (a1 : s.1 48 = σ.1 48) (a2 : s.1 49 = σ.1 49) (b1 : ∀ i, 92 ≤ i → i ≤ 94 → t.1 0 i = τ.1 0 i) (b2 : t.1 55 = τ.1 55) : KPR s t := by
  unfold KPR at h ⊢
  rw [a1, a2, b2, b1 92 (by omega) (by omega), b1 93 (by omega) (by omega), b1 94 (by omega) (by omega)]
  exact h
/-- the tree read, where it is shown -/
theorem RFT.val {q : Nat} {qa qb : Int32 × ST} (h : RFT 50 q qa qb) : ∃ (S T : ST) (e : Nat), (PHB 4 q S T ∧ q < 6 ∧ TG q (T.1 8 q).toInt S T 0 (S.1 6 q) 799) ∧ KTA S qa.2 ∧ VAL True 50 q S T qa.2 qb.2 32 (S.1 6 q) 799 (0, e) (0, e) ∧ (0 < e ∧ e ≤ 400) ∧ (qa.2.1 50 1).toInt = e ∧ qa.1.toInt = e := by
  obtain ⟨_, w1, w2, ⟨_, S, T, s, e, h1, ⟨k1, _, _⟩, ⟨_, k2, k3⟩, hV, ⟨he, c1, _, c2⟩, _⟩, kF, _, _, kL⟩ := h
  refine ⟨S, T, e, h1, ?_, ?_, he, ?_, c2⟩
  · exact k1.trans (fun c c1 c2 => ⟨k2 c (by omega) (by omega), by rw [k3]⟩)
  · have eA : ∀ c, 51 ≤ c → c ≤ 59 → qa.2.1 c = s.1 c := fun c _ _ => k2 c (by omega) (by omega)
    have eL : qa.2.2.1 56 = s.2.1 56 := by rw [k3]
    have eB : ∀ c, 20 ≤ c → c ≤ 30 → qb.2.1 c = w1.1 c := fun c _ _ => (kL.1 c (by omega) (by omega)).trans (kF.1 c (by omega) (by omega))
    have eB1 : qb.2.2.1 21 = w1.2.1 21 := (kL.2.2.1 21 (by omega) (by omega)).trans (by rw [kF.2.2])
    have eB2 : qb.2.2.1 22 = w1.2.1 22 := (kL.2.2.1 22 (by omega) (by omega)).trans (by rw [kF.2.2])
    refine hV.ext 32 _ _ _ _ (fun j _ _ => ⟨⟨fun k k1 k5 => ?_, ?_⟩, ?_, ?_, fun _ => ?_⟩) (fun j _ _ => ⟨⟨⟨?_, ?_⟩, fun k k1 k5 => ?_, ?_, ?_⟩, ?_, ?_, fun _ => ?_⟩)
    · rw [eA (50 + k) (by omega) (by omega)]
    · rw [eL]
    · rw [eA 57 (by omega) (by omega)]
    · rw [eA 58 (by omega) (by omega)]
    · rw [eA 59 (by omega) (by omega)]
    · rw [eB 20 (by omega) (by omega)]
    · rw [eB 23 (by omega) (by omega)]
    · rw [eB k (by omega) (by omega)]
    · rw [eB1]
    · rw [eB2]
    · rw [eB 28 (by omega) (by omega)]
    · rw [eB 29 (by omega) (by omega)]
    · rw [eB 30 (by omega) (by omega)]
  · rw [k2 50 (by omega) (by omega)]
    exact c1
theorem ab_convert (p0 p1 p2 : Int32) {σ τ : ST} (hZ : MZ τ σ) (hX : EHY σ) (hM : MSG σ τ) (hK : KPR σ τ) (hcap : (σ.1 50 0).toInt = 400) (hc : σ.1 4 0 = τ.1 0 32) : QT (f_X10_convert p0 p1 p2 σ) (fun qa => QT (f_X11_convert p0 p1 p2 τ) (fun qb => qa.1 = qb.1 ∧ (MSG qa.2 qb.2 ∧ KPR qa.2 qb.2) ∧ SHO σ τ qa.2 qb.2)) := by
  have l0 := li_0
  have l1 := li_1
  have l6 := li_6
  have l400 := li_400
  have hpl := hZ.2.1.2.2.1.1
  have hM0 : MSG σ (stI τ 0 0 0) := hM.eq rfl rfl rfl (stI_ne (by omega)) (stI_ne (by omega)) (stI_ne (by omega))
  have hK0 : KPR σ (stI τ 0 0 0) := hK.eq rfl rfl (fun i _ _ => by rw [stI_at, upN (by omega)]) (stI_ne (by omega))
  have hZ0 : MZ (stI τ 0 0 0) σ := hZ.yok (YOK.st0 hZ.2.1.2.2 0)
  have g32 : (stI τ 0 0 0).1 0 32 = τ.1 0 32 := rfl
  have hB0 : SHB τ (stI τ 0 0 0) := ⟨⟨fun c c1 c2 => stI_ne (by omega), by rw [stI_at, upN (by omega)]⟩, rfl, rfl⟩
  unfold f_X10_convert f_X11_convert
  generalize stI τ 0 0 0 = u at hM0 hK0 hZ0 g32 hB0
  have stay : ∀ v : Int32, QT (some (v, σ)) (fun qa => QT (some (v, u)) (fun qb => qa.1 = qb.1 ∧ (MSG qa.2 qb.2 ∧ KPR qa.2 qb.2) ∧ SHO σ τ qa.2 qb.2)) := fun v => QT.ret (QT.ret ⟨rfl, ⟨hM0, hK0⟩, .inl ⟨SHE.rf, hB0⟩⟩)
  refine QT.bnd2 (ab_isWritten hM0 hZ0 rfl p0) (fun x y hxy => ?_)
  obtain ⟨xv, xs⟩ := x
  obtain ⟨yv, ys⟩ := y
  obtain ⟨⟨e1, e2, e3⟩, hx⟩ := hxy
  have e1 : xs = σ := e1
  have e2 : ys = u := e2
  have e3 : xv = yv := e3
  have hx : xv = 0 ∨ xv = 1 ∧ (0 ≤ p0.toInt ∧ p0.toInt < 4) ∧ ¬ σ.1 40 p0.toNatClampNeg = -1 := hx
  rw [e1, e2, ← e3]
  dsimp only
  by_cases x0 : xv = 0
  · rw [if_pos x0, if_pos x0]
    exact stay (-1)
  rw [if_neg x0, if_neg x0]
  obtain ⟨_, hp0, hw⟩ := hx.resolve_left x0
  refine QT.bnd2 (ab_isPlan (by rw [hc, g32]) (by rw [g32]; exact hpl) p1) (fun x y hxy => ?_)
  obtain ⟨av, as⟩ := x
  obtain ⟨bv, bs⟩ := y
  obtain ⟨⟨a1, a2, a3⟩, ha⟩ := hxy
  have a1 : as = σ := a1
  have a2 : bs = u := a2
  have a3 : av = bv := a3
  have ha : av = 0 ∨ av = 1 ∧ 0 ≤ p1.toInt ∧ p1.toInt < (u.1 0 32).toInt := ha
  rw [a1, a2, ← a3]
  dsimp only
  by_cases a0 : av = 0
  · rw [if_pos a0, if_pos a0]
    exact stay (-1)
  rw [if_neg a0, if_neg a0]
  obtain ⟨_, hp1, hp1'⟩ := ha.resolve_left a0
  refine QT.bnd2 (ab_isNumber p2 σ u) (fun x y hxy => ?_)
  obtain ⟨cv, cs⟩ := x
  obtain ⟨dv, ds⟩ := y
  obtain ⟨⟨c1, c2, c3⟩, hcv⟩ := hxy
  have c1 : cs = σ := c1
  have c2 : ds = u := c2
  have c3 : cv = dv := c3
  rw [c1, c2, ← c3]
  dsimp only
  by_cases c0 : cv = 0
  · rw [if_pos c0, if_pos c0]
    exact stay (-1)
  rw [if_neg c0, if_neg c0]
  refine QT.bnd (fun q e => pt_planOf p0 σ hp0 q e) (fun q7 hq7 => ?_)
  rw [hq7]
  dsimp only
  obtain ⟨m, hm⟩ : ∃ m : Nat, p0.toInt = m := ⟨p0.toInt.toNat, by omega⟩
  obtain ⟨q, hq⟩ : ∃ q : Nat, p1.toInt = q := ⟨p1.toInt.toNat, by omega⟩
  have nm : p0.toNatClampNeg = m := nC hm
  rw [nm] at hw ⊢
  have hw' : ¬ (σ.1 40 m).toInt = -1 := fun h => hw (Int32.toInt_inj.mp (h.trans li_m1.symm))
  unfold bI at hpl
  rw [g32] at hp1'
  have hq6 : q < 6 := by omega
  have hX' : EHX σ := hX.resolve_left (by rw [hc]; omega)
  refine QT.assoc (QT.bnd2 (ab_readsFor hZ0 hX' hM0 hK0 hcap p0 p1 hm (by omega) hw' hq (by rw [g32]; omega)) (fun x y hxy => ?_))
  obtain ⟨⟨hMr, hKr⟩, hTr, hcr, hR⟩ := hxy
  rcases hR with ⟨r1, r2, r3, r4⟩ | hR
  · -- it wasn't read
    have r2' : (y.1).toInt = -2 ∨ (y.1).toInt = -3 := by rw [← r1]; exact r2
    refine QT.ile (fun h => by omega) (fun _ => QT.ret ?_)
    refine QT.ile (fun h => by omega) (fun _ => QT.ret ?_)
    exact ⟨r1, ⟨hMr, hKr⟩, .inr ⟨q, x, y, hq6, .inl ⟨r1, r2, r3, r4⟩, SHE.rf, SHB.rf, rfl⟩⟩
  · have hRn : RFN 50 q x y := .inr hR
    obtain ⟨S, T, e, ⟨hP, _, hG⟩, kS, hV, he, h1, hx1⟩ := hR.val
    have y1 : y.1 = 0 := hR.1
    refine QT.ile (fun _ => ?_) (fun h => by omega)
    have e6 : f_X5_rootType 4 p1 x.2 = some (S.1 6 q, x.2) := by
      unfold f_X5_rootType
      rw [if_neg (fun h => by have := Int32.lt_iff_toInt_lt.mp h; omega), if_neg (fun h => by have := Int32.le_iff_toInt_le.mp h; omega), if_pos (by omega), show p1.toNatClampNeg = q from nC hq]
      show some (x.2.1 6 q, x.2) = _
      rw [(kS 6 (by omega) (by omega)).1]
    rw [e6, sbnd]
    dsimp only
    refine QT.sw ?_
    refine QT.ile (fun _ => ?_) (fun h => by rw [y1] at h; omega)
    refine QT.sw ?_
    have hPK : PKC 50 q (T.1 8 q).toInt S T x.2 y.2 := ⟨⟨by omega, by omega⟩, ⟨kS, hP.cnt.2.2⟩, fun i hi => hP.rec hq6 hi⟩
    refine QT.bnd2 (ab_pack hPK hG hV ⟨by omega, by omega⟩ (by omega)) (fun s t hst => ?_)
    obtain ⟨g1, g2, g3, g4⟩ := hst
    have hMst : MSG s t := g3.msg (g2.msg hMr)
    have hKst : KPR s t := hKr.eq (g2.1 48 (by omega) (by omega)) (g2.1 49 (by omega) (by omega)) (fun i i1 _ => g3.2.1 i (by omega) (by omega)) (g3.1 55 (by omega) (by omega))
    refine QT.ile (fun hle => ?_) (fun hgt => ?_)
    · have h49 : t.1 0 49 = 0 := by
        rcases g1.2 with h9 | h9
        · exact h9.1
        · have := h9.2.2
          omega
      have hsz : s.1 87 2 = t.1 0 48 := by
        rcases g1.2 with h9 | h9
        · exact Int32.toInt_inj.mp h9.2.1
        · exact absurd h49 h9.1
      refine QT.sw ?_
      refine QT.ite (fun _ => ?_) (fun h => absurd h49 h)
      refine QT.sw ?_
      have hst2 : QT (f_X1_store p2 p1 s) (fun s' => QT (f_X11_becomes p2 p1 t) (fun t' => MSG s' t' ∧ ((∀ c, (c < 38 ∨ 40 < c) → s'.1 c = s.1 c) ∧ s'.2 = s.2) ∧ (∀ c, (c < 32 ∨ 34 < c) → t'.1 c = t.1 c) ∧ t'.2 = t.2)) := fun s' es t' et => ⟨ab_store p2 p1 s t hMst g1 h49 s' es t' et, a_storeF p2 p1 s s' es, q_becomesF p2 p1 t t' et⟩
      refine QT.bnd2 hst2 (fun s' t' h' => QT.ret (QT.ret ?_))
      obtain ⟨f1, ⟨f2, f3⟩, f4, f5⟩ := h'
      refine ⟨?_, ⟨f1, hKst.eq (f2 48 (by omega)) (f2 49 (by omega)) (fun i _ _ => by rw [f4 0 (by omega)]) (f4 55 (by omega))⟩, .inr ⟨q, x, y, hq6, hRn, g2.she.trans ⟨fun c _ _ => f2 c (by omega), by rw [f3]⟩, g3.shb.trans ⟨⟨fun c _ _ => f4 c (by omega), by rw [f4 0 (by omega)]⟩, by rw [f5], by rw [f5]⟩, (by rw [f4 27 (by omega)]; exact g3.1 27 (by omega) (by omega))⟩⟩
      show s'.1 87 2 = t'.1 0 48
      rw [f2 87 (by omega), f4 0 (by omega)]
      exact hsz
    · have h49 : ¬ t.1 0 49 = 0 := by
        rcases g1.2 with h9 | h9
        · have := h9.2.1
          have := g1.1.2
          omega
        · exact h9.1
      refine QT.ret (QT.ite (fun h => absurd h h49) (fun _ => QT.ret ?_))
      exact ⟨rfl, ⟨hMst, hKst⟩, .inr ⟨q, x, y, hq6, hRn, g2.she, g3.shb, g3.1 27 (by omega) (by omega)⟩⟩
