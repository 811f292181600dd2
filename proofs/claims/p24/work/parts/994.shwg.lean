/-! the tree that is shown, both sides -/
/-- one node: the class's row r, the reference's place i -/
def SHR (b n : Nat) (σ τ : ST) (i r : Nat) : Prop := (σ.1 (b + 1) r = τ.1 42 i ∧ (0 ≤ (τ.1 42 i).toInt ∧ (τ.1 42 i).toInt ≤ 7)) ∧ (((σ.1 (b + 2) r).toInt = -1 ∧ (τ.1 43 i).toInt = -1) ∨ ∃ k : Nat, k < n ∧ (σ.1 (b + 2) r).toInt = k ∧ σ.1 (b + 11) k = τ.1 43 i) ∧ (σ.1 (b + 3) r).toInt = (τ.1 44 i).toInt ∧ (σ.1 (b + 4) r).toInt = (τ.1 45 i).toInt ∧ (σ.1 (b + 5) r = 0 ↔ τ.1 46 i = 0) ∧ ((τ.1 42 i).toInt ≤ 5 → EWR (τ.1 42 i).toInt (σ.2.1 (b + 6) r) (τ.2.1 47 i) (τ.2.1 48 i) (τ.1 45 i)) ∧ (6 ≤ (τ.1 42 i).toInt → σ.2.1 (b + 6) r = τ.2.1 47 i)
/-- all nodes -/
def SHW (b : Nat) (σ τ : ST) : Prop := ∃ n : Nat, n ≤ 400 ∧ (σ.1 b 1).toInt = n ∧ (τ.1 0 73).toInt = n ∧ ∀ i, i < n → ∃ r : Nat, r < n ∧ (σ.1 (b + 10) i).toInt = r ∧ SHR b n σ τ i r
theorem SHW.eq {σ τ s w : ST} (h : SHW 50 σ τ) (a : SHE σ s) (b : SHB τ w) : SHW 50 s w := by
  obtain ⟨n, h1, h2, h3, h4⟩ := h
  obtain ⟨⟨b1, b2⟩, b3, b4⟩ := b
  refine ⟨n, h1, by rw [a.1 50 (by omega) (by omega)]; exact h2, by rw [b2]; exact h3, fun i hi => ?_⟩
  obtain ⟨r, r1, r2, r3⟩ := h4 i hi
  refine ⟨r, r1, ?_, ?_⟩
  · show (s.1 60 i).toInt = r
    rw [a.1 60 (by omega) (by omega)]
    exact r2
  · unfold SHR at r3 ⊢
    have e51 : s.1 (50 + 1) = σ.1 (50 + 1) := a.1 51 (by omega) (by omega)
    have e52 : s.1 (50 + 2) = σ.1 (50 + 2) := a.1 52 (by omega) (by omega)
    have e53 : s.1 (50 + 3) = σ.1 (50 + 3) := a.1 53 (by omega) (by omega)
    have e54 : s.1 (50 + 4) = σ.1 (50 + 4) := a.1 54 (by omega) (by omega)
    have e55 : s.1 (50 + 5) = σ.1 (50 + 5) := a.1 55 (by omega) (by omega)
    have e61 : s.1 (50 + 11) = σ.1 (50 + 11) := a.1 61 (by omega) (by omega)
    have e56 : s.2.1 (50 + 6) = σ.2.1 (50 + 6) := a.2
    rw [e51, e52, e53, e54, e55, e61, e56, b1 42 (by omega) (by omega), b1 43 (by omega) (by omega), b1 44 (by omega) (by omega), b1 45 (by omega) (by omega), b1 46 (by omega) (by omega), b3, b4]
    exact r3
theorem shw_0 {s w : ST} (h : (s.1 50 1).toInt = 0) (k : (w.1 0 73).toInt = 0) : SHW 50 s w := ⟨0, by omega, h, k, fun i hi => by omega⟩
theorem nar01 {v : Int32} (h : v = 0 ∨ v = 1) : vp_nar .boolean v = 0 ↔ v = 0 := by
  rcases h with h | h
  · rw [h]
    decide
  · rw [h]
    decide
/-- a tree read is shown alike -/
theorem shw_read {q : Nat} {qa qb : Int32 × ST} (h : RFT 50 q qa qb) (hf : F27 qb.2) (h400 : (qa.2.1 50 0).toInt = 400) : SHW 50 qa.2 qb.2 ∧ qa.1 = qb.2.1 0 73 := by
  have l0 := li_0
  have lm := li_m1
  obtain ⟨_, w1, w2, ⟨_, S, T, s, e, _, ⟨_, kA, _⟩, ⟨po, ko⟩, hV, ⟨⟨he, he4⟩, c1, _, c2⟩, g1, g2, _, _, g5⟩, kF, h73, ht, kL⟩ := h
  have eB : ∀ c, 20 ≤ c → c ≤ 30 → w2.1 c = w1.1 c := fun c _ _ => kF.1 c (by omega) (by omega)
  have hV2 : VAL True 50 q S T s w2 32 (S.1 6 q) 799 (0, e) (0, e) := by
    refine hV.ext 32 _ _ _ _ (fun j _ _ => ⟨⟨fun k k1 k5 => rfl, rfl⟩, rfl, rfl, fun _ => rfl⟩) (fun j _ _ => ⟨⟨⟨?_, ?_⟩, fun k k1 k5 => ?_, ?_, ?_⟩, ?_, ?_, fun _ => ?_⟩)
    · rw [eB 20 (by omega) (by omega)]
    · rw [eB 23 (by omega) (by omega)]
    · rw [eB k (by omega) (by omega)]
    · rw [kF.2.2]
    · rw [kF.2.2]
    · rw [eB 28 (by omega) (by omega)]
    · rw [eB 29 (by omega) (by omega)]
    · rw [eB 30 (by omega) (by omega)]
  obtain ⟨LL, p1, p2, p3⟩ := val_pre 32 _ _ _ _ hV2 0 (-1)
  have ez : 0 + ((0, e).2 - (0, e).1) = e := by
    show 0 + (e - 0) = e
    omega
  rw [ez] at p1 p2 p3
  have p1 : PRZ 50 s w2 LL 32 0 e (-1) 0 0 := p1
  have L0 : LL 0 = (0, 0, -1) := p1.1
  have hcap : (e : Int) ≤ (s.1 50 0).toInt := by
    rw [← ko.1 50 (by omega) (by omega), h400]
    omega
  have hr : ∀ i, 0 ≤ i → i < e → ((LL i).1 : Int) < (s.1 50 1).toInt ∧ ((LL i).1 : Int) < (s.1 50 0).toInt := fun i h6 h7 => by
    have : (LL i).1 < e := (p2 i h6 h7).1.2
    omega
  obtain ⟨w, hw⟩ : ∃ w : Int, UPR 50 s 0 0 w := by
    by_cases hn : (s.1 59 0).toInt = -1
    · exact ⟨-1, ⟨by omega, by omega⟩, .inr ⟨hn, g1, rfl⟩⟩
    · exact ⟨_, ⟨by omega, by omega⟩, .inl ⟨hn, rfl⟩⟩
  obtain ⟨r1, r2⟩ := pre_rb 32 0 e (-1) 0 0 p1 hr 0 w hw (by omega)
  have ho := a_order (b := 50) (LL := LL) ⟨he, by omega⟩ ⟨c1, hcap⟩ (by rw [L0]) (fun i hi => (p2 i (by omega) hi).1.2) (fun i hi => r1 i (by omega) hi) r2 (fun i j h6 h7 => (p3 i j (by omega) h6 h7).1) qa.2 po
  obtain ⟨_, t2, _, t4⟩ := q_tells 32 0 e (-1) 0 0 p1 he4 (.inl rfl) FRB 0 (-1) w2 l0 lm KTL.rf h73 qb.2 ht
  have kc : ∀ c, c ≠ 60 → c ≠ 61 → qa.2.1 c = s.1 c := fun c h6 h7 => ko.1 c h6 h7
  have f27 : ∀ i, w2.1 27 i = 0 ∨ w2.1 27 i = 1 := fun i => by
    rw [← kL.1 27 (by omega) (by omega)]
    exact hf i
  refine ⟨⟨e, he4, by rw [kc 50 (by omega) (by omega)]; exact c1, t2, fun i hi => ⟨(LL i).1, (p2 i (by omega) hi).1.2, (ho i hi).1, ?_⟩⟩, Int32.toInt_inj.mp (c2.trans t2.symm)⟩
  obtain ⟨⟨⟨n1, n2⟩, n3, n4, n5⟩, n6⟩ := PRZ.par 32 0 e (-1) 0 0 p1 i (by omega) hi
  obtain ⟨⟨d1, d2⟩, d3, ⟨d4, d5⟩, d6, d7⟩ := t4 i (by omega) hi
  have hfill : qa.2.1 55 (LL i).1 = w2.1 27 (LL i).2.1 := by
    rw [kc 55 (by omega) (by omega)]
    rcases n6 with n6 | ⟨k, _, _, n7⟩
    · rw [n6, L0]
      show s.1 55 0 = w2.1 27 0
      rw [eB 27 (by omega) (by omega)]
      exact g5
    · exact n7.2.2
  have e51 : qa.2.1 (50 + 1) = s.1 (50 + 1) := kc 51 (by omega) (by omega)
  have e54 : qa.2.1 (50 + 4) = s.1 (50 + 4) := kc 54 (by omega) (by omega)
  have e56 : qa.2.2.1 (50 + 6) = s.2.1 (50 + 6) := by rw [ko.2]
  unfold SHR
  rw [e51, e54, e56, d1, d6, d7, d4, d5]
  refine ⟨⟨n1, n2⟩, ?_, ?_, n3, ?_, n4, fun h => (n5 h).1⟩
  · rcases n6 with n6 | ⟨k, k1, k2, k3⟩
    · refine .inl ⟨?_, ?_⟩
      · show (qa.2.1 52 (LL i).1).toInt = -1
        rw [kc 52 (by omega) (by omega), n6, L0]
        exact g1
      · rw [d2, n6, L0]
    · have hk : k < e := by omega
      refine .inr ⟨(LL k).1, (p2 k (by omega) hk).1.2, ?_, ?_⟩
      · show (qa.2.1 52 (LL i).1).toInt = _
        rw [kc 52 (by omega) (by omega)]
        exact k3.1.1
      · refine Int32.toInt_inj.mp ?_
        rw [d2, k2]
        exact (ho k hk).2
  · show (qa.2.1 53 (LL i).1).toInt = _
    rw [kc 53 (by omega) (by omega), d3]
    rcases n6 with n6 | ⟨k, k1, k2, k3⟩
    · rw [n6, L0]
      show (s.1 53 0).toInt = (if 0 ≤ (-1 : Int) then w2.1 25 0 else 0).toInt
      rw [if_neg (by omega), l0]
      exact g2
    · rw [k2, if_pos (by omega)]
      exact k3.2.1
  · show qa.2.1 55 (LL i).1 = 0 ↔ _
    rw [hfill]
    exact (nar01 (f27 _)).symm
/-! what holds between two calls: what is shown, too -/
def Inv9 (n : Nat) (σ τ : ST) (κ : Nat) : Prop := Inv8 n σ τ κ ∧ F27 τ ∧ SHW 50 σ τ
theorem KYA.she {σ s : ST} (h : KYA σ s) : SHE σ s := ⟨fun c _ _ => h.1 c (by omega), h.2⟩
theorem KYB.shb {τ w : ST} (h : KYB τ w) : SHB τ w := ⟨⟨fun c _ _ => h.1 c (by omega), h.2.1 73 (by omega)⟩, h.2.2.1, h.2.2.2⟩
theorem KZA.she {σ s : ST} (h : KZA σ s) : SHE σ s := ⟨fun c _ _ => h.1 c (by omega) (by omega), h.2⟩
theorem KZB.shb {τ w : ST} (h : KZB τ w) : SHB τ w := ⟨⟨fun c _ _ => h.1 c (by omega), h.2.1 73 (by omega)⟩, h.2.2.1, h.2.2.2⟩
theorem rfn_shw {q : Nat} {qa qb : Int32 × ST} (h : RFN 50 q qa qb) (hf : F27 qb.2) (h400 : (qa.2.1 50 0).toInt = 400) : SHW 50 qa.2 qb.2 := by
  rcases h with ⟨_, _, h1, h2⟩ | h
  · exact shw_0 h1 h2
  · exact (shw_read h hf h400).1
theorem SHB.f27 {a b : ST} (h : a.1 27 = b.1 27) (k : F27 b) : F27 a := fun i => by
  rw [h]
  exact k i
theorem inv9_st {n κ : Nat} {σ τ : ST} (h : Inv9 n σ τ κ) (j : Nat) (pr : Nat → Int32) (qa : Int32 × ST) (qb : (Int32 × ST) × Nat) (ea : fA j pr σ = some qa) (eb : fB j pr τ = some qb) (hIA : IA qa.2) : F27 qb.1.2 ∧ SHW 50 qa.2 qb.1.2 := by
  obtain ⟨⟨⟨hI, hZ⟩, hX, hM, hK⟩, hf, hS⟩ := h
  have hI' := hI
  obtain ⟨_, hA, hB, hF, h32, hk, hT, hc⟩ := hI'
  have hcap : (σ.1 50 0).toInt = 400 := hA.t50.1
  have hcap' : (qa.2.1 50 0).toInt = 400 := hIA.t50.1
  have hf' : F27 qb.1.2 := wf_fB j pr τ qb eb hf
  refine ⟨hf', ?_⟩
  have two : ∀ {o : Option (Int32 × ST)}, (o.bind fun q => some ((q.1, q.2), 0)) = some qb → ∃ x, o = some x ∧ qb.1 = x := fun e => by
    obtain ⟨x, ex, e2⟩ := bnd_some e
    cases e2
    exact ⟨x, ex, rfl⟩
  by_cases h1 : j = 1
  · subst h1
    rcases ab_plansQ hI (pr 1) qa ea qb eb with ⟨a, b⟩ | ⟨⟨_, _, a⟩, b⟩
    · exact hS.eq a.she b.shb
    · exact shw_0 (by rw [a]; exact li_0) (by rw [b.2.1]; exact li_0)
  by_cases h2 : j = 2
  · subst h2
    have a : KZA σ qa.2 := wkz_X10_write KZA.rf qa ea
    have b : KZB τ qb.1.2 := wkz_X11_write KZB.rf qb eb
    exact hS.eq a.she b.shb
  by_cases h7 : j = 7
  · subst h7
    obtain ⟨x, ex, e2⟩ := two eb
    have a : KZA σ qa.2 := wkz_X10_spoil KZA.rf qa ea
    have b : KZB τ x.2 := wkz_X11_spoil KZB.rf x ex
    rw [e2]
    exact hS.eq a.she b.shb
  by_cases h8 : j = 8
  · subst h8
    obtain ⟨x, ex, e2⟩ := two eb
    have a : KZA σ qa.2 := wkz_X10_cut KZA.rf qa ea
    have b : KZB τ x.2 := wkz_X11_cut KZB.rf x ex
    rw [e2]
    exact hS.eq a.she b.shb
  by_cases h13 : j = 13
  · subst h13
    obtain ⟨x, ex, e2⟩ := two eb
    rw [e2] at hf' ⊢
    rcases (ab_read (pr 1) (pr 2) hZ hX hM hK hcap h32 qa ea x ex).2 with ⟨_, a, b⟩ | ⟨q, rb, _, hR, e3, _⟩
    · exact hS.eq a b
    · rw [e3] at hf' ⊢
      exact rfn_shw hR hf' hcap'
  by_cases h19 : j = 19
  · subst h19
    obtain ⟨x, ex, e2⟩ := two eb
    rw [e2] at hf' ⊢
    have hcv := ab_convert (pr 1) (pr 2) (pr 3) hZ hX hM hK hcap h32 qa ea x ex
    rcases hcv.2.2 with ⟨a, b⟩ | ⟨q, ra, rb, _, hR, a, b, e27⟩
    · exact hS.eq a b
    · exact (rfn_shw hR (SHB.f27 e27.symm hf') (by rw [← a.1 50 (by omega) (by omega)]; exact hcap')).eq a b
  have hn : j ≠ 1 ∧ j ≠ 2 ∧ j ≠ 7 ∧ j ≠ 8 ∧ j ≠ 13 ∧ j ≠ 19 := ⟨h1, h2, h7, h8, h13, h19⟩
  have a : KYA σ qa.2 := wy_fA j hn pr σ qa ea
  have b : KYB τ qb.1.2 := wy_fB j hn pr τ qb eb
  exact hS.eq a.she b.shb
theorem inv9_call (n : Nat) (σ τ : ST) (κ : Nat) (h : Inv9 n σ τ κ) (hn : n < 512) (j : Nat) (pr : Nat → Int32) : ∃ (qa : Int32 × ST) (qb : (Int32 × ST) × Nat), fA j pr σ = some qa ∧ fB j pr τ = some qb ∧ Inv9 (n + 1) qa.2 qb.1.2 (κ + qb.2) := by
  obtain ⟨qa, qb, ea, eb, e1⟩ := inv8_call n σ τ κ h.1 hn j pr
  exact ⟨qa, qb, ea, eb, e1, inv9_st h j pr qa qb ea eb e1.1.1.2.1⟩
theorem inv9_room (n : Nat) (σ τ : ST) (κ : Nat) (h : Inv9 n σ τ κ) : κ ≤ 500000 := inv8_room n σ τ κ h.1
theorem inv9_0 : Inv9 0 s0A s0B 0 := by
  have l0 := li_0
  have e27 : ∀ i, s0B.1 27 i = 0 := fun i => rfl
  have a1 : s0A.1 50 1 = 0 := rfl
  have b1 : s0B.1 0 73 = 0 := rfl
  exact ⟨inv8_0, fun i => .inl (e27 i), shw_0 (by rw [a1]; exact l0) (by rw [b1]; exact l0)⟩
/-! read and count are told alike -/
theorem inv9_read (n : Nat) (σ τ : ST) (κ : Nat) (h : Inv9 n σ τ κ) (hn : n < 512) (j : Nat) (pr : Nat → Int32) (hj : j < 32) : ∃ (qa : Int32 × ST) (qb : (Int32 × ST) × Nat), fA j pr σ = some qa ∧ fB j pr τ = some qb ∧ (j = 13 → qa.1 = qb.1.1) ∧ Inv9 (n + 1) qa.2 qb.1.2 (κ + qb.2) := by
  obtain ⟨qa, qb, ea, eb, e1⟩ := inv9_call n σ τ κ h hn j pr
  refine ⟨qa, qb, ea, eb, fun h3 => ?_, e1⟩
  subst h3
  have l0 := li_0
  have hf' := e1.2.1
  have hcap' : (qa.2.1 50 0).toInt = 400 := e1.1.1.1.2.1.t50.1
  have eb : ((f_X11_read (pr 1) (pr 2) τ).bind fun q => some ((q.1, q.2), 0)) = some qb := eb
  obtain ⟨x, ex, e2⟩ := bnd_some eb
  cases e2
  have hf' : F27 x.2 := hf'
  show qa.1 = x.1
  rcases (ab_read (pr 1) (pr 2) h.1.1.2 h.1.2.1 h.1.2.2.1 h.1.2.2.2 h.1.1.1.2.1.t50.1 h.1.1.1.2.2.2.2.1 qa ea x ex).2 with ⟨e3, _⟩ | ⟨q, rb, _, hR, e3, e4⟩
  · exact e3
  · rw [e3] at hf'
    rw [e4]
    rcases hR with ⟨r1, r2, _⟩ | hR
    · have : ¬ 0 ≤ rb.1 := fun h9 => by
        have := il_le h9
        rw [← r1] at this
        omega
      rw [if_neg this]
      exact r1
    · have hb : rb.1 = 0 := hR.1
      rw [if_pos (by rw [hb, Int32.le_iff_toInt_le]; exact Int.le_refl _)]
      exact (shw_read hR hf' hcap').2
/-- which messages are there -/
theorem ab_bits {σ u : ST} (hM : MSG σ u) (hZ : MZ u σ) : ∀ (n m k : Nat) (x1 x2 : Int32), x2.toInt = k → QT (f_X1_writtenBits_4 n x1 x2 σ) (fun qa => QT (f_X11_messageSet_4 m x1 x2 u) (fun qb => qa.1 = qb.1)) := by
  have l0 := li_0
  have l1 := li_1
  have l4 := li_4
  intro n
  induction n with
  | zero =>
    intro m k x1 x2 _
    rw [f_X1_writtenBits_4]
    exact QT.none
  | succ n ih =>
    intro m k x1 x2 h2
    cases m with
    | zero =>
      refine fun s _ => ?_
      rw [f_X11_messageSet_4]
      exact QT.none
    | succ m =>
      rw [f_X1_writtenBits_4, f_X11_messageSet_4]
      refine QT.ile (fun h => QT.ret ?_) (fun hlt => ?_)
      · exact QT.ile (fun _ => QT.ret rfl) (fun h9 => by omega)
      · have hr : 0 ≤ x2.toInt ∧ x2.toInt < 4 := ⟨by omega, by omega⟩
        have ea := il_addE (x := x2) (y := 1) (by omega) (by omega)
        refine QT.bnd (qa_isWritten x2 σ) (fun q hq => ?_)
        obtain ⟨xv, xs⟩ := q
        obtain ⟨e1, hx⟩ := hq
        have e1 : xs = σ := e1
        have hx : (xv = 0 ∧ ¬ ((0 ≤ x2.toInt ∧ x2.toInt < 4) ∧ ¬ σ.1 40 x2.toNatClampNeg = -1)) ∨ xv = 1 ∧ (0 ≤ x2.toInt ∧ x2.toInt < 4) ∧ ¬ σ.1 40 x2.toNatClampNeg = -1 := hx
        rw [e1]
        dsimp only
        unfold f_X1_writtenBits_23 f_X11_messageSet_26
        refine QT.sw ?_
        refine QT.ile (fun h9 => by omega) (fun _ => QT.grd (fun _ => ?_))
        have hw := hM.wr hZ hr
        refine QT.ilt (fun hneg => ?_) (fun hpos => ?_)
        · have x0 : xv = 0 := by
            rcases hx with ⟨h9, _⟩ | ⟨_, _, h9⟩
            · exact h9
            · have := hw.mp h9
              omega
          rw [if_pos x0, Int32.or_zero]
          exact QT.sw (ih m (k + 1) x1 (x2 + 1) (by omega))
        · have x0 : ¬ xv = 0 := by
            rcases hx with ⟨_, h9⟩ | ⟨h9, _⟩
            · exact absurd ⟨hr, hw.mpr (by omega)⟩ h9
            · rw [h9]
              exact one_ne
          rw [if_neg x0]
          exact QT.sw (ih m (k + 1) (x1 ||| (1 <<< (x2 &&& 31))) (x2 + 1) (by omega))
theorem inv9_count (n : Nat) (σ τ : ST) (κ : Nat) (h : Inv9 n σ τ κ) (hn : n < 512) (j : Nat) (pr : Nat → Int32) (hj : j < 32) : ∃ (qa : Int32 × ST) (qb : (Int32 × ST) × Nat), fA j pr σ = some qa ∧ fB j pr τ = some qb ∧ (j = 22 → qa.1 = qb.1.1) ∧ Inv9 (n + 1) qa.2 qb.1.2 (κ + qb.2) := by
  obtain ⟨qa, qb, ea, eb, e1⟩ := inv9_call n σ τ κ h hn j pr
  refine ⟨qa, qb, ea, eb, fun h3 => ?_, e1⟩
  subst h3
  have ea : f_X10_count (pr 1) σ = some qa := ea
  have eb : ((f_X11_count (pr 1) τ).bind fun q => some ((q.1, q.2), 0)) = some qb := eb
  obtain ⟨x, ex, e2⟩ := bnd_some eb
  cases e2
  show qa.1 = x.1
  obtain ⟨⟨⟨hI, hZ⟩, hX, hM, hK⟩, hf, m, _, s1, s2, _⟩ := h
  obtain ⟨_, hA, hB, hF, h32, hk, hT, hc⟩ := hI
  have key : QT (f_X10_count (pr 1) σ) (fun qa => QT (f_X11_count (pr 1) τ) (fun qb => qa.1 = qb.1)) := by
    have g0 : ∀ i, i ≠ 0 → (stI τ 0 0 0).1 0 i = τ.1 0 i := fun i hi => by rw [stI_at, upN hi]
    have hM0 : MSG σ (stI τ 0 0 0) := hM.eq rfl rfl rfl (stI_ne (by omega)) (stI_ne (by omega)) (stI_ne (by omega))
    have hZ0 : MZ (stI τ 0 0 0) σ := hZ.yok (YOK.st0 hZ.2.1.2.2 0)
    unfold f_X10_count f_X11_count
    rw [g0 32 (by omega), g0 73 (by omega), g0 93 (by omega), g0 94 (by omega), g0 2 (by omega)]
    generalize stI τ 0 0 0 = u at hM0 hZ0
    by_cases c0 : pr 1 = 0
    · rw [if_pos c0, if_pos c0]
      exact QT.ret (QT.ret h32)
    rw [if_neg c0, if_neg c0]
    by_cases c1 : pr 1 = 1
    · rw [if_pos c1, if_pos c1]
      unfold f_X1_writtenBits f_X11_messageSet
      exact QT.bnd2 (ab_bits hM0 hZ0 FU FU 0 0 0 li_0) (fun x y h => QT.ret (QT.ret h))
    rw [if_neg c1, if_neg c1]
    by_cases c2 : pr 1 = 2
    · rw [if_pos c2, if_pos c2]
      exact QT.ret (QT.ret (Int32.toInt_inj.mp (s1.trans s2.symm)))
    rw [if_neg c2, if_neg c2]
    by_cases c3 : pr 1 = 3
    · rw [if_pos c3, if_pos c3]
      exact QT.ret (QT.ret hK.2.1.1)
    rw [if_neg c3, if_neg c3]
    by_cases c4 : pr 1 = 4
    · rw [if_pos c4, if_pos c4]
      exact QT.ret (QT.ret hK.2.1.2)
    rw [if_neg c4, if_neg c4]
    by_cases c5 : pr 1 = 5
    · rw [if_pos c5, if_pos c5]
      exact QT.ret (QT.ret hF.1)
    rw [if_neg c5, if_neg c5]
    exact QT.ret (QT.ret rfl)
  exact key qa ea x ex
/-! what is asked of what is shown, and of a message's bytes: both sides -/
theorem a_rowAt (p0 : Int32) (σ : ST) {n : Nat} (h1 : (σ.1 50 1).toInt = n) (h0 : (n : Int) ≤ (σ.1 50 0).toInt) : QT (f_X7_rowAt 50 p0 σ) (fun q => q.2 = σ ∧ ((q.1 = -1 ∧ ¬ (0 ≤ p0.toInt ∧ p0.toInt < n)) ∨ (0 ≤ p0.toInt ∧ p0.toInt < n) ∧ q.1 = σ.1 60 p0.toNatClampNeg)) := by
  have l0 := li_0
  unfold f_X7_rowAt
  refine QT.ilt (fun h => QT.ret ⟨rfl, .inl ⟨rfl, by omega⟩⟩) (fun h => ?_)
  refine QT.ile (fun h => QT.ret ⟨rfl, .inl ⟨rfl, by omega⟩⟩) (fun h2 => ?_)
  refine QT.ile (fun h => QT.ret ⟨rfl, .inl ⟨rfl, by omega⟩⟩) (fun h3 => ?_)
  exact QT.grd (fun _ => QT.ret ⟨rfl, .inr ⟨⟨by omega, by omega⟩, rfl⟩⟩)
/-- what of a node is told -/
def TVN (τ : ST) (i : Nat) (p1 : Int32) : Int32 := if p1 = 0 then τ.1 42 i else if p1 = 1 then τ.1 43 i else if p1 = 2 then τ.1 44 i else if p1 = 3 then τ.1 45 i else if τ.1 46 i = 0 then 0 else 1
theorem q_isFilledRow {b : Nat} {x : Int32} {σ : ST} {r : Nat} (h : x.toInt = r) (h1 : (r : Int) < (σ.1 b 1).toInt) (h0 : (r : Int) < (σ.1 b 0).toInt) : QT (f_X7_isFilled b x σ) (fun q => q = (if σ.1 (b + 5) r = 0 then 0 else 1, σ)) := by
  have l0 := li_0
  have n := nC h
  unfold f_X7_isFilled
  rw [n]
  refine QT.bnd (q_isRow b x σ h h1 h0) (fun q hq => ?_)
  obtain ⟨w, s⟩ := q
  obtain ⟨e, hw⟩ := hq
  have e : s = σ := e
  subst e
  have hw : w.toInt = 1 := hw
  refine QT.ieq (fun h => by omega) (fun _ => QT.grd (fun _ => ?_))
  refine QT.ite (fun h9 => QT.ret ?_) (fun h9 => QT.ret ?_)
  · rw [if_pos h9]
  · rw [if_neg h9]
theorem q_numberRow {b : Nat} {x : Int32} {σ : ST} {r : Nat} (h : x.toInt = r) (h1 : (r : Int) < (σ.1 b 1).toInt) (h0 : (r : Int) < (σ.1 b 0).toInt) : QT (f_X7_numberOf b x σ) (fun q => q = (σ.1 (b + 11) r, σ)) := by
  have l0 := li_0
  have n := nC h
  unfold f_X7_numberOf
  rw [n]
  refine QT.bnd (q_isRow b x σ h h1 h0) (fun q hq => ?_)
  obtain ⟨w, s⟩ := q
  obtain ⟨e, hw⟩ := hq
  have e : s = σ := e
  subst e
  have hw : w.toInt = 1 := hw
  exact QT.ieq (fun h => by omega) (fun _ => QT.grd (fun _ => QT.ret rfl))
theorem q_number_m1 (b : Nat) (x : Int32) (σ : ST) (h : x.toInt = -1) : QT (f_X7_numberOf b x σ) (fun q => q = (-1, σ)) := by
  have l0 := li_0
  unfold f_X7_numberOf f_X7_isRow
  rw [if_pos (by rw [Int32.lt_iff_toInt_lt]; omega), sbnd]
  dsimp only
  refine QT.ite (fun _ => QT.ret rfl) (fun h => absurd rfl h)
theorem a_node {σ τ : ST} (hS : SHW 50 σ τ) (hcap : (σ.1 50 0).toInt = 400) (p0 p1 : Int32) : QT (f_X10_node p0 p1 σ) (fun q => (((0 ≤ p0.toInt ∧ p0.toInt < (τ.1 0 73).toInt) ∧ 0 ≤ p1.toInt ∧ p1.toInt ≤ 4) ∧ q.1 = some (TVN τ p0.toNatClampNeg p1)) ∨ ¬ ((0 ≤ p0.toInt ∧ p0.toInt < (τ.1 0 73).toInt) ∧ 0 ≤ p1.toInt ∧ p1.toInt ≤ 4) ∧ q.1 = none) := by
  have l0 := li_0
  have l4 := li_4
  have lm := li_m1
  obtain ⟨n, n4, h1, h2, h3⟩ := hS
  unfold f_X10_node f_X10_node_23
  refine QT.bnd (a_rowAt p0 σ h1 (by omega)) (fun q hq => ?_)
  obtain ⟨v, s⟩ := q
  obtain ⟨e, hv⟩ := hq
  have e : s = σ := e
  have hv : (v = -1 ∧ ¬ (0 ≤ p0.toInt ∧ p0.toInt < n)) ∨ (0 ≤ p0.toInt ∧ p0.toInt < n) ∧ v = σ.1 60 p0.toNatClampNeg := hv
  rw [e, h2]
  dsimp only
  rcases hv with ⟨hv, hno⟩ | ⟨hp, hv⟩
  · refine QT.ite (fun _ => QT.ret (.inr ⟨fun h => hno h.1, rfl⟩)) (fun h => absurd hv h)
  have np := nN_ hp.1
  obtain ⟨r, r1, r2, r3⟩ := h3 p0.toNatClampNeg (by omega)
  have hvr : v.toInt = r := by rw [hv]; exact r2
  refine QT.ieq (fun h => by omega) (fun _ => ?_)
  refine QT.ilt (fun h => QT.ret (.inr ⟨fun h9 => by omega, rfl⟩)) (fun hp1 => ?_)
  refine QT.ile (fun hp4 => ?_) (fun h => QT.ret (.inr ⟨fun h9 => by omega, rfl⟩))
  have hin : (0 ≤ p0.toInt ∧ p0.toInt < n) ∧ 0 ≤ p1.toInt ∧ p1.toInt ≤ 4 := ⟨hp, by omega, by omega⟩
  have g1 : (r : Int) < (σ.1 50 1).toInt := by omega
  have g0 : (r : Int) < (σ.1 50 0).toInt := by omega
  obtain ⟨⟨s1, _⟩, s2, s3, s4, s5, _⟩ := r3
  unfold TVN
  by_cases c0 : p1 = 0
  · rw [if_pos c0]
    refine QT.bnd (q_sortAt hvr g1 g0) (fun q hq => QT.ret (.inl ⟨hin, ?_⟩))
    rw [hq, if_pos c0]
    show some (σ.1 (50 + 1) r) = _
    rw [s1]
  rw [if_neg c0]
  by_cases c1 : p1 = 1
  · rw [if_pos c1]
    refine QT.bnd (q_parentRow hvr g1 g0) (fun q hq => ?_)
    rw [hq]
    dsimp only
    rcases s2 with ⟨s2, s6⟩ | ⟨k, k1, k2, k3⟩
    · refine QT.bnd (q_number_m1 50 _ σ s2) (fun z hz => QT.ret (.inl ⟨hin, ?_⟩))
      rw [hz, if_neg c0, if_pos c1]
      show some (-1 : Int32) = _
      rw [Int32.toInt_inj.mp (s6.trans lm.symm)]
    · refine QT.bnd (q_numberRow k2 (by omega) (by omega)) (fun z hz => QT.ret (.inl ⟨hin, ?_⟩))
      rw [hz, if_neg c0, if_pos c1]
      show some (σ.1 (50 + 11) k) = _
      rw [k3]
  rw [if_neg c1]
  by_cases c2 : p1 = 2
  · rw [if_pos c2]
    refine QT.bnd (q_placeOf hvr g1 g0) (fun q hq => QT.ret (.inl ⟨hin, ?_⟩))
    rw [hq, if_neg c0, if_neg c1, if_pos c2]
    show some (σ.1 (50 + 3) r) = _
    rw [Int32.toInt_inj.mp s3]
  rw [if_neg c2]
  by_cases c3 : p1 = 3
  · rw [if_pos c3]
    refine QT.bnd (q_sizeOf hvr g1 g0) (fun q hq => QT.ret (.inl ⟨hin, ?_⟩))
    rw [hq, if_neg c0, if_neg c1, if_neg c2, if_pos c3]
    show some (σ.1 (50 + 4) r) = _
    rw [Int32.toInt_inj.mp s4]
  rw [if_neg c3]
  refine QT.bnd (q_isFilledRow hvr g1 g0) (fun q hq => ?_)
  rw [hq]
  dsimp only
  by_cases hf : σ.1 (50 + 5) r = 0
  · rw [if_pos hf]
    refine QT.ite (fun _ => QT.ret (.inl ⟨hin, ?_⟩)) (fun h => absurd rfl h)
    rw [if_neg c0, if_neg c1, if_neg c2, if_neg c3, if_pos (s5.mp hf)]
  · rw [if_neg hf]
    refine QT.ite (fun h => absurd h one_ne) (fun _ => QT.ret (.inl ⟨hin, ?_⟩))
    rw [if_neg c0, if_neg c1, if_neg c2, if_neg c3, if_neg (fun h => hf (s5.mpr h))]
theorem q_node {τ : ST} (hn : (τ.1 0 73).toInt ≤ 400) (h0 : 0 ≤ (τ.1 0 73).toInt) (p0 p1 : Int32) : QT (f_X11_node p0 p1 τ) (fun q => (((0 ≤ p0.toInt ∧ p0.toInt < (τ.1 0 73).toInt) ∧ 0 ≤ p1.toInt ∧ p1.toInt ≤ 4) ∧ q.1 = TVN τ p0.toNatClampNeg p1 ∧ q.2.1 0 0 = 0) ∨ ¬ ((0 ≤ p0.toInt ∧ p0.toInt < (τ.1 0 73).toInt) ∧ 0 ≤ p1.toInt ∧ p1.toInt ≤ 4) ∧ q.2.1 0 0 = 1) := by
  have l0 := li_0
  have l1 := li_1
  have l0' := l64_0
  have l4' : (4 : Int64).toInt = 4 := by decide
  have i0 := i64 p0
  have i1 := i64 p1
  have es := il_subE (x := τ.1 0 73) (y := 1) (by omega) (by omega)
  have i2 := i64 (τ.1 0 73 - 1)
  have z00 : ∀ y : Int32, (stI τ 0 0 y).1 0 0 = y := fun y => by rw [stI_at, upA rfl]
  have zc : ∀ y c, c ≠ 0 → (stI τ 0 0 y).1 c = τ.1 c := fun y c h => stI_ne h
  unfold f_X11_node f_X11_node_33 f_X11_node_34
  have none_ : ∀ {P : Int32 × ST → Prop}, P (0, stI τ 0 0 1) → QT (if (stI τ 0 0 1).1 0 0 ≤ 0 then (if p1 = 0 then (if 0 ≤ p0.toInt ∧ p0.toInt < 400 then some ((stI τ 0 0 1).1 42 p0.toNatClampNeg, stI τ 0 0 1) else none) else if p1 = 1 then (if 0 ≤ p0.toInt ∧ p0.toInt < 400 then some ((stI τ 0 0 1).1 43 p0.toNatClampNeg, stI τ 0 0 1) else none) else if p1 = 2 then (if 0 ≤ p0.toInt ∧ p0.toInt < 400 then some ((stI τ 0 0 1).1 44 p0.toNatClampNeg, stI τ 0 0 1) else none) else if p1 = 3 then (if 0 ≤ p0.toInt ∧ p0.toInt < 400 then some ((stI τ 0 0 1).1 45 p0.toNatClampNeg, stI τ 0 0 1) else none) else if 0 ≤ p0.toInt ∧ p0.toInt < 400 then (if (stI τ 0 0 1).1 46 p0.toNatClampNeg = 0 then some (0, stI τ 0 0 1) else some (1, stI τ 0 0 1)) else none) else some (0, stI τ 0 0 1)) P := fun h => by
    rw [z00]
    exact QT.ile (fun h9 => by omega) (fun _ => QT.ret h)
  refine QT.bndR (b_within _ _ _ _) (fun v hv => ?_)
  dsimp only
  refine QT.ieq (fun hv0 => none_ (.inr ⟨fun h => by omega, z00 1⟩)) (fun hv0 => ?_)
  refine QT.bndR (b_within _ _ _ _) (fun w hw => ?_)
  dsimp only
  refine QT.ieq (fun hw0 => none_ (.inr ⟨fun h => by omega, z00 1⟩)) (fun hw0 => ?_)
  have hin : (0 ≤ p0.toInt ∧ p0.toInt < (τ.1 0 73).toInt) ∧ 0 ≤ p1.toInt ∧ p1.toInt ≤ 4 := ⟨⟨by omega, by omega⟩, by omega, by omega⟩
  rw [z00, zc 0 42 (by omega), zc 0 43 (by omega), zc 0 44 (by omega), zc 0 45 (by omega), zc 0 46 (by omega)]
  refine QT.ile (fun _ => ?_) (fun h => by omega)
  unfold TVN
  by_cases c0 : p1 = 0
  · rw [if_pos c0]
    exact QT.grd (fun _ => QT.ret (.inl ⟨hin, (if_pos c0).symm, z00 0⟩))
  rw [if_neg c0]
  by_cases c1 : p1 = 1
  · rw [if_pos c1]
    exact QT.grd (fun _ => QT.ret (.inl ⟨hin, by rw [if_neg c0, if_pos c1], z00 0⟩))
  rw [if_neg c1]
  by_cases c2 : p1 = 2
  · rw [if_pos c2]
    exact QT.grd (fun _ => QT.ret (.inl ⟨hin, by rw [if_neg c0, if_neg c1, if_pos c2], z00 0⟩))
  rw [if_neg c2]
  by_cases c3 : p1 = 3
  · rw [if_pos c3]
    exact QT.grd (fun _ => QT.ret (.inl ⟨hin, by rw [if_neg c0, if_neg c1, if_neg c2, if_pos c3], z00 0⟩))
  rw [if_neg c3]
  refine QT.grd (fun _ => QT.ite (fun h9 => QT.ret (.inl ⟨hin, ?_, z00 0⟩)) (fun h9 => QT.ret (.inl ⟨hin, ?_, z00 0⟩)))
  · rw [if_neg c0, if_neg c1, if_neg c2, if_neg c3, if_pos h9]
  · rw [if_neg c0, if_neg c1, if_neg c2, if_neg c3, if_neg h9]
/-- both answer, or both throw -/
theorem ab_node {σ τ : ST} (hS : SHW 50 σ τ) (hcap : (σ.1 50 0).toInt = 400) (p0 p1 : Int32) : QT (f_L_node p0 p1 σ) (fun qa => QT (f_X11_node p0 p1 τ) (fun qb => qa.1 = qb.2.1 0 0 ∧ (qa.1 = 0 → qa.2.2.1 95 0 = qb.1.toInt64))) := by
  have hn : (τ.1 0 73).toInt ≤ 400 ∧ 0 ≤ (τ.1 0 73).toInt := by
    obtain ⟨n, n4, _, h2, _⟩ := hS
    omega
  unfold f_L_node
  refine QT.bnd (a_node hS hcap p0 p1) (fun q hq => ?_)
  obtain ⟨o, s⟩ := q
  rcases hq with ⟨h1, h2⟩ | ⟨h1, h2⟩
  · have h2 : o = some (TVN τ p0.toNatClampNeg p1) := h2
    subst h2
    refine QT.ret ((q_node hn.1 hn.2 p0 p1).mono (fun z hz => ?_))
    rcases hz with ⟨_, z1, z2⟩ | ⟨z1, _⟩
    · refine ⟨z2.symm, fun _ => ?_⟩
      show (stL s 95 (0 : Int32).toNatClampNeg (TVN τ p0.toNatClampNeg p1).toInt64).2.1 95 0 = _
      rw [stL_cell, updLA (by decide), z1]
    · exact absurd h1 z1
  · have h2 : o = none := h2
    subst h2
    refine QT.ret ((q_node hn.1 hn.2 p0 p1).mono (fun z hz => ?_))
    rcases hz with ⟨z1, _⟩ | ⟨_, z2⟩
    · exact absurd z1 h1
    · exact ⟨z2.symm, fun h => absurd h one_ne⟩
theorem ab_valueL {σ τ : ST} (hS : SHW 50 σ τ) (hcap : (σ.1 50 0).toInt = 400) (p0 : Int32) : QT (f_L_value p0 σ) (fun qa => QT (f_X11_value_ p0 τ) (fun qb => qa.1 = qb.2.1 0 0 ∧ (qa.1 = 0 → qa.2.2.1 95 0 = qb.1))) := by
  have l0 := li_0
  have l1 := li_1
  have l5 := li_5
  have lm := li_m1
  have l0' := l64_0
  obtain ⟨n, n4, h1, h2, h3⟩ := hS
  have i0 := i64 p0
  have es := il_subE (x := τ.1 0 73) (y := 1) (by omega) (by omega)
  have i2 := i64 (τ.1 0 73 - 1)
  have z00 : ∀ y : Int32, (stI τ 0 0 y).1 0 0 = y := fun y => by rw [stI_at, upA rfl]
  have hB : QT (f_X11_value_ p0 τ) (fun q => ((0 ≤ p0.toInt ∧ p0.toInt < n) ∧ q.1 = τ.2.1 47 p0.toNatClampNeg ∧ q.2.1 0 0 = 0) ∨ ¬ (0 ≤ p0.toInt ∧ p0.toInt < n) ∧ q.2.1 0 0 = 1) := by
    unfold f_X11_value_ f_X11_value__22
    refine QT.bndR (b_within _ _ _ _) (fun v hv => ?_)
    dsimp only
    refine QT.ieq (fun hv0 => ?_) (fun hv0 => ?_)
    · rw [z00]
      exact QT.ile (fun h9 => by omega) (fun _ => QT.ret (.inr ⟨fun h => by omega, z00 1⟩))
    · rw [z00]
      exact QT.ile (fun h9 => QT.grd (fun _ => QT.ret (.inl ⟨⟨by omega, by omega⟩, rfl, z00 0⟩))) (fun h => by omega)
  have hA : QT (f_X10_value p0 σ) (fun q => ((0 ≤ p0.toInt ∧ p0.toInt < n) ∧ q.1 = some (τ.2.1 47 p0.toNatClampNeg)) ∨ ¬ (0 ≤ p0.toInt ∧ p0.toInt < n) ∧ q.1 = none) := by
    unfold f_X10_value
    refine QT.bnd (a_rowAt p0 σ h1 (by omega)) (fun q hq => ?_)
    obtain ⟨v, s⟩ := q
    obtain ⟨e, hv⟩ := hq
    have e : s = σ := e
    have hv : (v = -1 ∧ ¬ (0 ≤ p0.toInt ∧ p0.toInt < n)) ∨ (0 ≤ p0.toInt ∧ p0.toInt < n) ∧ v = σ.1 60 p0.toNatClampNeg := hv
    rw [e]
    dsimp only
    rcases hv with ⟨hv, hno⟩ | ⟨hp, hv⟩
    · exact QT.ite (fun _ => QT.ret (.inr ⟨hno, rfl⟩)) (fun h => absurd hv h)
    have np := nN_ hp.1
    obtain ⟨r, r1, r2, r3⟩ := h3 p0.toNatClampNeg (by omega)
    have hvr : v.toInt = r := by rw [hv]; exact r2
    have g1 : (r : Int) < (σ.1 50 1).toInt := by omega
    have g0 : (r : Int) < (σ.1 50 0).toInt := by omega
    obtain ⟨⟨s1, s1b⟩, -, -, -, -, s6, s7⟩ := r3
    refine QT.ieq (fun h => by omega) (fun _ => ?_)
    refine QT.bnd (q_sortAt hvr g1 g0) (fun q hq => ?_)
    rw [hq, s1]
    dsimp only
    refine QT.ieq (fun h5 => QT.ret (.inl ⟨hp, ?_⟩)) (fun h5 => ?_)
    · have hE := s6 (by omega)
      unfold EWR at hE
      rw [if_pos (by omega)] at hE
      rw [hE.1]
    · refine QT.bnd (q_worthOf hvr g1 g0) (fun z hz => QT.ret (.inl ⟨hp, ?_⟩))
      rw [hz]
      show some (σ.2.1 (50 + 6) r) = _
      by_cases c : (τ.1 42 p0.toNatClampNeg).toInt ≤ 5
      · have hE := s6 c
        unfold EWR at hE
        rw [if_neg (by omega)] at hE
        rw [hE.1]
      · rw [s7 (by omega)]
  unfold f_L_value
  refine QT.bnd hA (fun q hq => ?_)
  obtain ⟨o, s⟩ := q
  rcases hq with ⟨h4, h5⟩ | ⟨h4, h5⟩
  · have h5 : o = some (τ.2.1 47 p0.toNatClampNeg) := h5
    subst h5
    refine QT.ret (hB.mono (fun z hz => ?_))
    rcases hz with ⟨_, z1, z2⟩ | ⟨z1, _⟩
    · refine ⟨z2.symm, fun _ => ?_⟩
      show (stL s 95 (0 : Int32).toNatClampNeg (τ.2.1 47 p0.toNatClampNeg)).2.1 95 0 = _
      rw [stL_cell, updLA (by decide), z1]
    · exact absurd h4 z1
  · have h5 : o = none := h5
    subst h5
    refine QT.ret (hB.mono (fun z hz => ?_))
    rcases hz with ⟨z1, _⟩ | ⟨_, z2⟩
    · exact absurd z1 h4
    · exact ⟨z2.symm, fun h => absurd h one_ne⟩
/-- the reference's letter k of m -/
theorem q_let75 {m k : Nat} {g : Nat → Nat} (hm : m ≤ 12) (hg : GL g m) (hk : k < m) (x2 : Int32) (h2 : x2.toInt = k) (σ : ST) : ∀ (n i : Nat) (x3 : Int64) (x5 : Int32), x5.toInt = i → k ≤ i → i < m → x3.toInt = ((n27 g m / 27 ^ (m - 1 - i) : Nat) : Int) → QT (f_X11_letter_75 n x2 x3 x5 σ) (fun q => q.1.toInt = (g k : Int) ∧ q.2 = σ) := by
  have lm := li_m1
  have l27 : (27 : Int64).toInt = 27 := by decide
  have hN : n27 g m < 150094635296999121 + 1 := by
    have := n27_lt m g hg
    have := p27 m hm
    omega
  intro n
  induction n with
  | zero =>
    intro i x3 x5 _ _ _ _
    rw [f_X11_letter_75]
    exact QT.none
  | succ n ih =>
    intro i x3 x5 h5 hki him h3
    rw [f_X11_letter_75]
    have hDl : n27 g m / 27 ^ (m - 1 - i) ≤ n27 g m := Nat.div_le_self _ _
    refine QT.ile (fun hle => QT.ret ⟨?_, rfl⟩) (fun hlt => ?_)
    · have eik : i = k := by omega
      subst eik
      have hdig := n27_get m g hg i hk
      have hgk := hg i hk
      generalize n27 g m / 27 ^ (m - 1 - i) = D at h3 hdig hDl
      have hD27 : (x3 / 27).toInt = ((D / 27 : Nat) : Int) := by
        rw [Int64.toInt_div_of_ne_right _ _ (by decide), h3, l27]
        rfl
      have hDm : (x3 / 27 * 27).toInt = ((D / 27 * 27 : Nat) : Int) := by
        rw [Int64.toInt_mul, hD27, l27]
        have e : ((D / 27 : Nat) : Int) * 27 = ((D / 27 * 27 : Nat) : Int) := by omega
        rw [e]
        exact Int.bmod_eq_of_le (by omega) (by omega)
      have hy : (x3 - x3 / 27 * 27).toInt = (g i : Int) := by
        rw [Int64.toInt_sub, h3, hDm]
        have e : (D : Int) - ((D / 27 * 27 : Nat) : Int) = (g i : Int) := by omega
        rw [e]
        exact Int.bmod_eq_of_le (by omega) (by omega)
      show ((x3 - x3 / 27 * 27).toInt32).toInt = _
      rw [Int64.toInt_toInt32, hy]
      exact Int.bmod_eq_of_le (by omega) (by omega)
    · have hki2 : k < i := by
        clear h3 hDl hN ih
        omega
      obtain ⟨j, rfl⟩ : ∃ j, i = j + 1 := ⟨i - 1, by
        clear h3 hDl hN ih
        omega⟩
      have e5 := il_addE (x := x5) (y := -1) (by
        clear h3 hDl hN ih
        omega) (by
        clear h3 hDl hN ih
        omega)
      have e5b : (x5 + -1).toInt = (j : Int) := by
        clear h3 hDl hN ih
        omega
      have e9 : m - 1 - j = (m - 1 - (j + 1)) + 1 := by
        clear h3 hDl hN ih
        omega
      have hx : (x3 / 27).toInt = ((n27 g m / 27 ^ (m - 1 - j) : Nat) : Int) := by
        rw [e9, Nat.pow_succ, ← Nat.div_div_eq_div_mul]
        generalize n27 g m / 27 ^ (m - 1 - (j + 1)) = D at h3 ⊢
        rw [Int64.toInt_div_of_ne_right _ _ (by decide), h3, l27]
        rfl
      exact ih j (x3 / 27) (x5 + -1) e5b (Nat.le_of_lt_succ hki2) (Nat.lt_of_succ_lt him) hx
theorem ab_letter {σ τ : ST} (hS : SHW 50 σ τ) (hcap : (σ.1 50 0).toInt = 400) (p0 p1 : Int32) : QT (f_L_letter p0 p1 σ) (fun qa => QT (f_X11_letter p0 p1 τ) (fun qb => qa.1 = qb.2.1 0 0 ∧ (qa.1 = 0 → qa.2.2.1 95 0 = qb.1.toInt64))) := by
  have l0 := li_0
  have l1 := li_1
  have l5 := li_5
  have lm := li_m1
  have l0' := l64_0
  obtain ⟨n, n4, h1, h2, h3⟩ := hS
  have i0 := i64 p0
  have es := il_subE (x := τ.1 0 73) (y := 1) (by omega) (by omega)
  have i2 := i64 (τ.1 0 73 - 1)
  have z00 : ∀ y : Int32, (stI τ 0 0 y).1 0 0 = y := fun y => by rw [stI_at, upA rfl]
  have zc : ∀ y c, c ≠ 0 → (stI τ 0 0 y).1 c = τ.1 c := fun y c h => stI_ne h
  have hA : QT (f_X10_letter p0 p1 σ) (fun q => QT (f_X11_letter p0 p1 τ) (fun z => (q.1 = none ∧ z.2.1 0 0 = 1) ∨ z.2.1 0 0 = 0 ∧ q.1 = some z.1)) := by
    unfold f_X10_letter f_X10_letter_30 f_X11_letter f_X11_letter_35 f_X11_letter_36
    refine QT.bnd (a_rowAt p0 σ h1 (by omega)) (fun q hq => ?_)
    obtain ⟨v, s⟩ := q
    obtain ⟨e, hv⟩ := hq
    have e : s = σ := e
    have hv : (v = -1 ∧ ¬ (0 ≤ p0.toInt ∧ p0.toInt < n)) ∨ (0 ≤ p0.toInt ∧ p0.toInt < n) ∧ v = σ.1 60 p0.toNatClampNeg := hv
    rw [e]
    dsimp only
    have l1p : (0 : Int32) < 1 := by decide
    refine QT.sw ?_
    refine QT.bndR (b_within _ _ _ _) (fun y hy => ?_)
    dsimp only
    rcases hv with ⟨hv, hno⟩ | ⟨hp, hv⟩
    · refine QT.ieq (fun _ => ?_) (fun h => by omega)
      rw [z00, if_pos l1p]
      exact QT.ret (QT.ite (fun _ => QT.ret (.inl ⟨rfl, z00 1⟩)) (fun h => absurd hv h))
    have np := nN_ hp.1
    have hy1 : ¬ y.toInt = (0 : Int32).toInt := fun h => by omega
    obtain ⟨r, r1, r2, r3⟩ := h3 p0.toNatClampNeg (by omega)
    have hvr : v.toInt = r := by rw [hv]; exact r2
    have g1 : (r : Int) < (σ.1 50 1).toInt := by omega
    have g0 : (r : Int) < (σ.1 50 0).toInt := by omega
    have hv1 : ¬ v.toInt = (-1 : Int32).toInt := fun h => by omega
    obtain ⟨⟨s1, s1b⟩, -, -, s4, -, s6, -⟩ := r3
    refine QT.ieq (fun h => absurd h hy1) (fun _ => QT.grd (fun _ => ?_))
    refine QT.sw ?_
    refine QT.ieq (fun h => absurd h hv1) (fun _ => ?_)
    refine QT.bnd (q_sortAt hvr g1 g0) (fun q hq => ?_)
    rw [hq, s1]
    dsimp only
    by_cases c5 : τ.1 42 p0.toNatClampNeg = 5
    rotate_left
    · rw [if_neg c5, if_neg c5, z00, if_pos l1p]
      exact QT.ret (QT.ret (.inl ⟨rfl, z00 1⟩))
    rw [if_pos c5, if_pos c5]
    have s42 : (τ.1 42 p0.toNatClampNeg).toInt = 5 := by rw [c5]; exact l5
    have hE := s6 (by omega)
    unfold EWR at hE
    rw [if_pos s42] at hE
    obtain ⟨_, m, g, m12, hg, hw, ht, hm⟩ := hE
    have l0p : ¬ (0 : Int32) < 0 := by decide
    refine QT.ile (fun hp1 => ?_) (fun hp1 => ?_)
    rotate_left
    · rw [if_pos (show p1 < 0 by rw [Int32.lt_iff_toInt_lt]; omega), z00, if_pos l1p]
      exact QT.ret (QT.ret (.inl ⟨rfl, z00 1⟩))
    rw [if_neg (show ¬ p1 < 0 by rw [Int32.lt_iff_toInt_lt]; omega), z00, if_neg l0p, zc 0 45 (by omega)]
    refine QT.bnd (q_sizeOf hvr g1 g0) (fun q hq => ?_)
    rw [hq]
    dsimp only
    refine QT.ile (fun hle => ?_) (fun hgt => ?_)
    · refine QT.ret (QT.grd (fun _ => ?_))
      refine QT.ilt (fun h => by omega) (fun _ => QT.ret (.inr ⟨z00 0, rfl⟩))
    · obtain ⟨k, hk⟩ : ∃ k : Nat, p1.toInt = k := ⟨p1.toInt.toNat, by omega⟩
      have hkm : k < m := by omega
      refine QT.bnd (q_worthOf hvr g1 g0) (fun q hq => ?_)
      rw [hq]
      dsimp only
      refine QT.bndR (a_letterOf12 (σ.2.1 (50 + 6) r) p1 σ hw hk (by omega)) (fun l hl => ?_)
      rw [n5_get m g hg k, if_pos hkm] at hl
      dsimp only
      refine QT.ret (QT.grd (fun _ => ?_))
      refine QT.ilt (fun _ => ?_) (fun h => by omega)
      have e45 := il_subE (x := τ.1 45 p0.toNatClampNeg) (y := 1) (by omega) (by omega)
      have z48 : (stI τ 0 0 0).2.1 48 p0.toNatClampNeg = τ.2.1 48 p0.toNatClampNeg := rfl
      rw [z48]
      refine (q_let75 m12 hg hkm p1 hk (stI τ 0 0 0) FU (m - 1) _ _ (by omega) (by omega) (by omega) ?_).mono (fun z hz => .inr ⟨by rw [hz.2]; exact z00 0, ?_⟩)
      · rw [show m - 1 - (m - 1) = 0 by omega, Nat.pow_zero, Nat.div_one]
        exact ht
      · show some l = some z.1
        rw [Int32.toInt_inj.mp (hl.trans hz.1.symm)]
  unfold f_L_letter
  refine QT.bnd hA (fun q hq => ?_)
  obtain ⟨o, s⟩ := q
  cases o with
  | none =>
    refine QT.ret (hq.mono (fun z hz => ?_))
    rcases hz with ⟨_, z2⟩ | ⟨_, z2⟩
    · exact ⟨z2.symm, fun h => absurd h one_ne⟩
    · cases z2
  | some v =>
    refine QT.ret (hq.mono (fun z hz => ?_))
    rcases hz with ⟨z1, _⟩ | ⟨z1, z2⟩
    · cases z1
    · refine ⟨z1.symm, fun _ => ?_⟩
      have z2 : some v = some z.1 := z2
      show (stL s 95 (0 : Int32).toNatClampNeg v.toInt64).2.1 95 0 = _
      rw [stL_cell, updLA (by decide), Option.some.inj z2]
theorem ab_byteAt {σ τ : ST} (hZ : MZ τ σ) (hM : MSG σ τ) (p0 p1 : Int32) : QT (f_L_byteAt p0 p1 σ) (fun qa => QT (f_X11_byteAt_ p0 p1 τ) (fun qb => qa.1 = qb.2.1 0 0 ∧ (qa.1 = 0 → qa.2.2.1 95 0 = qb.1.toInt64))) := by
  have l0 := li_0
  have l1 := li_1
  have l1600 : (1600 : Int32).toInt = 1600 := by decide
  have z00 : ∀ y : Int32, (stI τ 0 0 y).1 0 0 = y := fun y => by rw [stI_at, upA rfl]
  have hA : QT (f_X10_byteAt p0 p1 σ) (fun q => QT (f_X11_byteAt_ p0 p1 τ) (fun z => (q.1 = none ∧ z.2.1 0 0 = 1) ∨ z.2.1 0 0 = 0 ∧ q.1 = some z.1)) := by
    unfold f_X10_byteAt f_X11_byteAt_ f_X11_byteAt__15
    refine QT.bnd2 (ab_hasByte p0 p1 hZ hM) (fun x y hxy => ?_)
    obtain ⟨xv, xs⟩ := x
    obtain ⟨yv, ys⟩ := y
    obtain ⟨⟨e1, e2, e3⟩, hx⟩ := hxy
    have e1 : xs = σ := e1
    have e2 : ys = τ := e2
    have e3 : xv = yv := e3
    have hx : xv = 0 ∨ xv = 1 ∧ ∃ m i : Nat, (p0.toInt = m ∧ m < 4) ∧ ¬ (τ.1 32 m).toInt = -1 ∧ p1.toInt = i ∧ (i : Int) < (τ.1 33 m).toInt ∧ (τ.1 33 m).toInt ≤ 400 := hx
    rw [e1, e2, ← e3]
    dsimp only
    by_cases x0 : xv = 0
    · rw [if_pos x0, if_pos x0, z00]
      exact QT.ret (QT.ile (fun h => by omega) (fun _ => QT.ret (.inl ⟨rfl, z00 1⟩)))
    rw [if_neg x0, if_neg x0, z00]
    obtain ⟨_, m, i, ⟨h0, hm4⟩, hu, h1, hi, hi4⟩ := hx.resolve_left x0
    obtain ⟨a1, a2, a3⟩ := at400 h0 hm4 h1 (by omega)
    obtain ⟨m1, m2⟩ := hM m hm4
    obtain ⟨m3, _, m5⟩ := m2 hu
    unfold f_X1_byteOf
    rw [a3, a2, if_neg (fun h => by have := il_lt h; omega), if_neg (fun h => by have := il_le h; omega), if_pos (by omega), sbnd]
    dsimp only
    have z34 : (stI τ 0 0 0).1 34 = τ.1 34 := stI_ne (by omega)
    refine QT.ret (QT.ile (fun _ => QT.grd (fun _ => QT.ret (.inr ⟨z00 0, ?_⟩))) (fun h => by omega))
    show some (σ.1 38 (400 * m + i) &&& 255) = some ((stI τ 0 0 0).1 34 (400 * m + i) &&& 255)
    rw [z34, m5 i hi]
  unfold f_L_byteAt
  refine QT.bnd hA (fun q hq => ?_)
  obtain ⟨o, s⟩ := q
  cases o with
  | none =>
    refine QT.ret (hq.mono (fun z hz => ?_))
    rcases hz with ⟨_, z2⟩ | ⟨_, z2⟩
    · exact ⟨z2.symm, fun h => absurd h one_ne⟩
    · cases z2
  | some v =>
    refine QT.ret (hq.mono (fun z hz => ?_))
    rcases hz with ⟨z1, _⟩ | ⟨z1, z2⟩
    · cases z1
    · refine ⟨z1.symm, fun _ => ?_⟩
      have z2 : some v = some z.1 := z2
      show (stL s 95 (0 : Int32).toNatClampNeg v.toInt64).2.1 95 0 = _
      rw [stL_cell, updLA (by decide), Option.some.inj z2]
/-! the reference's rows put in order, to be held against another tree's -/
def KTO (s σ : ST) : Prop := (∀ c, c ≠ 0 → c ≠ 50 → c ≠ 51 → σ.1 c = s.1 c) ∧ (∀ i, i ≠ 88 → σ.1 0 i = s.1 0 i) ∧ (∀ c, c ≠ 52 → σ.2.1 c = s.2.1 c) ∧ σ.2.2 = s.2.2
theorem KTO.rf {s : ST} : KTO s s := ⟨fun _ _ _ _ => rfl, fun _ _ => rfl, fun _ _ => rfl, rfl⟩
theorem KTO.trans {a b c : ST} (h : KTO a b) (k : KTO b c) : KTO a c := ⟨fun d h1 h2 h3 => (k.1 d h1 h2 h3).trans (h.1 d h1 h2 h3), fun i h1 => (k.2.1 i h1).trans (h.2.1 i h1), fun d h1 => (k.2.2.1 d h1).trans (h.2.2.1 d h1), k.2.2.2.trans h.2.2.2⟩
theorem KTO.i {s σ : ST} {c i : Nat} {v : Int32} (hc : c = 0 ∧ i = 88 ∨ c = 50 ∨ c = 51) (h : KTO s σ) : KTO s (stI σ c i v) := by
  refine ⟨fun d a e g => (stI_ne (by omega)).trans (h.1 d a e g), fun j hj => ?_, h.2.2⟩
  by_cases e : c = 0
  · subst e
    rw [stI_at, upN (by omega)]
    exact h.2.1 j hj
  · rw [stI_ne (fun h => e h.symm)]
    exact h.2.1 j hj
theorem KTO.l {s σ : ST} {i : Nat} {v : Int64} (h : KTO s σ) : KTO s (stL σ 52 i v) := ⟨h.1, h.2.1, fun d e => (stL_ne e).trans (h.2.2.1 d e), h.2.2.2⟩
/-- one row in its place -/
def ODR (τ : ST) (LL : Nat → Nat × Nat × Int) (w : ST) (i : Nat) : Prop := (w.1 51 (4 * i) = τ.1 20 (LL i).2.1 ∧ (w.1 51 (4 * i + 1)).toInt = (LL i).2.2 ∧ w.1 51 (4 * i + 2) = τ.1 25 (LL i).2.1 ∧ w.1 51 (4 * i + 3) = τ.1 23 (LL i).2.1) ∧ w.2.1 52 (2 * i) = τ.2.1 21 (LL i).2.1 ∧ w.2.1 52 (2 * i + 1) = τ.2.1 22 (LL i).2.1
/-- the places ahead stay -/
def OSB (N : Nat) (z w : ST) : Prop := (∀ k, k < 4 * N → w.1 51 k = z.1 51 k) ∧ ∀ k, k < 2 * N → w.2.1 52 k = z.2.1 52 k
theorem ODR.sb {τ z w : ST} {LL : Nat → Nat × Nat × Int} {N i : Nat} (h : ODR τ LL z i) (k : OSB N z w) (hi : i < N) : ODR τ LL w i := by
  unfold ODR
  rw [k.1 (4 * i) (by omega), k.1 (4 * i + 1) (by omega), k.1 (4 * i + 2) (by omega), k.1 (4 * i + 3) (by omega), k.2 (2 * i) (by omega), k.2 (2 * i + 1) (by omega)]
  exact h
def OEL (τ : ST) (LL : Nat → Nat × Nat × Int) (N e : Nat) (z w : ST) : Prop := KTO z w ∧ (w.1 0 88).toInt = e ∧ OSB N z w ∧ (∀ i, N ≤ i → i < e → ODR τ LL w i) ∧ ∀ r, (∀ i, N ≤ i → i < e → ¬ r = (LL i).2.1) → w.1 50 r = z.1 50 r
/-- the row itself in its place -/
theorem q_orders70 {τ : ST} {LL : Nat → Nat × Nat × Int} {r : Int32 → ST → Option ST} {N v : Nat} {pn : Int} (x1 x2 y0 y1 : Int32) (z u : ST) {P : ST → Prop} (hx : x1.toInt = v) (h2 : x2.toInt = 4 * (N : Int)) (hN : N < 400) (hy1 : y1.toInt = 4 * (N : Int) + 1) (hL : (LL N).2 = (v, pn)) (hz : KTO τ z) (kz : KTO z u) (sb : OSB N z u) (u0 : u.1 51 (4 * N) = τ.1 20 v) (hy0 : y0.toInt = pn) (u88 : (u.1 0 88).toInt = (N : Int) + 1) (k : ∀ y, KTO z y → (y.1 0 88).toInt = (N : Int) + 1 → OSB N z y → ODR τ LL y N → y.1 50 = u.1 50 → QT (f_X11_orders_136 r FU (τ.1 28 v) y) P) : QT (f_X11_orders_70 r x1 x2 y0 y1 u) P := by
  have l1 := li_1
  have l2 := li_2
  have l3 := li_3
  have n1 : x1.toNatClampNeg = v := nC hx
  have ny : y1.toNatClampNeg = 4 * N + 1 := nC (by omega)
  have e2 := il_addE (x := x2) (y := 2) (by omega) (by omega)
  have e3 := il_addE (x := x2) (y := 3) (by omega) (by omega)
  have n2 : (x2 + 2).toNatClampNeg = 4 * N + 2 := nC (by omega)
  have n3 : (x2 + 3).toNatClampNeg = 4 * N + 3 := nC (by omega)
  have eh : (x2 / 2).toInt = 2 * (N : Int) := by
    rw [Int32.toInt_div_of_ne_right _ _ (by decide), h2, l2, show 4 * (N : Int) = ((4 * N : Nat) : Int) by omega]
    show ((4 * N / 2 : Nat) : Int) = 2 * (N : Int)
    omega
  have ed := il_addE (x := x2 / 2) (y := 1) (by omega) (by omega)
  have nh : (x2 / 2).toNatClampNeg = 2 * N := nC (by omega)
  have nd : (x2 / 2 + 1).toNatClampNeg = 2 * N + 1 := nC (by omega)
  have hu := hz.trans kz
  have c23 : u.1 23 = τ.1 23 := hu.1 23 (by omega) (by omega) (by omega)
  have c25 : u.1 25 = τ.1 25 := hu.1 25 (by omega) (by omega) (by omega)
  have c28 : u.1 28 = τ.1 28 := hu.1 28 (by omega) (by omega) (by omega)
  have c21 : u.2.1 21 = τ.2.1 21 := hu.2.2.1 21 (by omega)
  have c22 : u.2.1 22 = τ.2.1 22 := hu.2.2.1 22 (by omega)
  unfold f_X11_orders_70
  refine QT.grd (fun _ => QT.grd (fun _ => QT.grd (fun _ => ?_)))
  rw [n1, ny, n2]
  refine QT.lt (fun z4 h4 => ?_)
  have g25 : (stI u 51 (4 * N + 1) y0).1 25 v = τ.1 25 v := by rw [stI_ne (by omega), c25]
  rw [g25] at h4
  have k4 : KTO z z4 := by
    rw [h4]
    exact (kz.i (by omega)).i (by omega)
  have z4c : ∀ c, c ≠ 51 → z4.1 c = u.1 c := fun c h => by rw [h4, stI_ne h, stI_ne h]
  have z451 : z4.1 51 = upd (upd (u.1 51) (4 * N + 1) y0) (4 * N + 2) (τ.1 25 v) := by rw [h4, stI_at, stI_at]
  have z4L : z4.2.1 = u.2.1 := by rw [h4]; rfl
  clear h4
  refine QT.grd (fun _ => QT.grd (fun _ => ?_))
  rw [n3, nh]
  refine QT.lt (fun z7 h7 => ?_)
  have g23 : z4.1 23 v = τ.1 23 v := by rw [z4c 23 (by omega), c23]
  have g21 : (stI z4 51 (4 * N + 3) (z4.1 23 v)).2.1 21 v = τ.2.1 21 v := by
    show z4.2.1 21 v = _
    rw [z4L, c21]
  rw [g21, g23] at h7
  have k7 : KTO z z7 := by
    rw [h7]
    exact (k4.i (by omega)).l
  have z7c : ∀ c, c ≠ 51 → z7.1 c = z4.1 c := fun c h => by
    rw [h7]
    exact stI_ne h
  have z751 : z7.1 51 = upd (z4.1 51) (4 * N + 3) (τ.1 23 v) := by
    rw [h7]
    show (stI z4 51 (4 * N + 3) (τ.1 23 v)).1 51 = _
    exact stI_at
  have z7L : z7.2.1 52 = vp_updL (z4.2.1 52) (2 * N) (τ.2.1 21 v) := by rw [h7, stL_cell]; rfl
  have z7M : ∀ c, c ≠ 52 → z7.2.1 c = z4.2.1 c := fun c h => by rw [h7, stL_ne h]; rfl
  clear h7
  refine QT.grd (fun _ => ?_)
  rw [nd]
  have g22 : z7.2.1 22 v = τ.2.1 22 v := by rw [z7M 22 (by omega), z4L, c22]
  rw [g22]
  refine QT.lt (fun x9 h9 => ?_)
  have e9 : x9 = τ.1 28 v := by
    rw [h9]
    show z7.1 28 v = _
    rw [z7c 28 (by omega), z4c 28 (by omega), c28]
  rw [e9]
  have yI : (stL z7 52 (2 * N + 1) (τ.2.1 22 v)).1 = z7.1 := rfl
  have yL : (stL z7 52 (2 * N + 1) (τ.2.1 22 v)).2.1 52 = vp_updL (z7.2.1 52) (2 * N + 1) (τ.2.1 22 v) := stL_cell
  have cy : KTO z (stL z7 52 (2 * N + 1) (τ.2.1 22 v)) := k7.l
  generalize stL z7 52 (2 * N + 1) (τ.2.1 22 v) = y at yI yL cy
  refine k y cy ?_ ⟨fun j hj => ?_, fun j hj => ?_⟩ ?_ ?_
  · rw [yI, z7c 0 (by omega), z4c 0 (by omega)]
    exact u88
  · rw [yI, z751, upN (by omega), z451, upN (by omega), upN (by omega)]
    exact sb.1 j hj
  · rw [yL, updLN (by omega), z7L, updLN (by omega), z4L]
    exact sb.2 j hj
  · unfold ODR
    rw [hL, yI]
    dsimp only
    refine ⟨⟨?_, ?_, ?_, ?_⟩, ?_, ?_⟩
    · rw [z751, upN (by omega), z451, upN (by omega), upN (by omega)]
      exact u0
    · rw [z751, upN (by omega), z451, upN (by omega), upA rfl]
      exact hy0
    · rw [z751, upN (by omega), z451, upA rfl]
    · rw [z751, upA rfl]
    · rw [yL, updLN (by omega), z7L, updLA rfl]
    · rw [yL, updLA rfl]
  · rw [yI, z7c 50 (by omega), z4c 50 (by omega)]
theorem q_orders {b : Nat} {σ τ : ST} {LL : Nat → Nat × Nat × Int} : ∀ (n N e : Nat) (pn : Int) (x v : Nat), PRZ b σ τ LL n N e pn x v → e ≤ 400 → (∀ i j, N ≤ i → i < j → j < e → ¬ (LL i).2.1 = (LL j).2.1) → ∀ (M : Nat) (p0 : Int32) (z : ST), p0.toInt = v → KTO τ z → (z.1 0 88).toInt = N → ((τ.1 24 v).toInt = -1 ∧ pn = -1 ∨ ∃ r : Nat, (τ.1 24 v).toInt = r ∧ ¬ r = v ∧ (z.1 50 r).toInt = pn) → QT ((R_X11_orders M) p0 z) (fun w => OEL τ LL N e z w) := by
  have l0 := li_0
  have l1 := li_1
  have l4 := li_4
  have lm := li_m1
  intro n
  induction n with
  | zero => intro N e pn x v h; exact h.elim
  | succ n ih =>
    intro N e pn x v h he hd M p0 z h0 hz h88 hpn
    have hNe := h.lt
    obtain ⟨hL, _, l, ⟨_, hc, _⟩, hK, hF⟩ := h
    cases M with
    | zero => exact QT.none
    | succ M =>
      show QT (f_X11_orders (R_X11_orders M) p0 z) _
      have hkid : ∀ (m : List (Nat × Nat)) (f j : Nat) (x3 : Int32) (y : ST), N < j → CN (τ.1 30) x3 (m.map (fun y => y.2)) → (∀ c, c ∈ m → KD2 b σ τ x v c) → FLT (fun i j y => PRZ b σ τ LL n i j N y.1 y.2) m j e → KTO τ y → (y.1 0 88).toInt = j → (y.1 50 v).toInt = N → QT (f_X11_orders_136 (R_X11_orders M) f x3 y) (fun w => OEL τ LL j e y w) := by
        intro m
        induction m with
        | nil =>
          intro f j x3 y _ hc _ hf hy h88 _
          have hc : x3.toInt = -1 := hc
          have hf : j = e := hf
          cases f with
          | zero =>
            rw [f_X11_orders_136]
            exact QT.none
          | succ f =>
            rw [f_X11_orders_136]
            refine QT.ilt (fun _ => QT.ret ⟨KTO.rf, by rw [← hf]; exact h88, ⟨fun _ _ => rfl, fun _ _ => rfl⟩, fun i h6 h7 => by omega, fun _ _ => rfl⟩) (fun h => by omega)
        | cons c m ihm =>
          intro f j x3 y hNj hc hKm hf hy h88 h50
          obtain ⟨j2, f1, f2, f3⟩ := hf
          have f2 : PRZ b σ τ LL n j j2 N c.1 c.2 := f2
          have hle := FLT.le _ _ _ f3
          have hc1 : x3.toInt = (c.2 : Int) := hc.1
          have hkc := hKm c List.mem_cons_self
          have ej : (LL j).2.1 = c.2 := by
            cases n with
            | zero => exact f2.elim
            | succ n => rw [f2.1]
          have evN : (LL N).2.1 = v := by rw [hL]
          cases f with
          | zero =>
            rw [f_X11_orders_136]
            exact QT.none
          | succ f =>
            rw [f_X11_orders_136]
            refine QT.ilt (fun h => by omega) (fun _ => ?_)
            have hvc : ¬ v = c.2 := fun h9 => hd N j (Nat.le_refl _) hNj (by omega) (by rw [evN, ej]; exact h9)
            refine QT.bnd (ih j j2 N c.1 c.2 f2 (by omega) (fun i k h6 h7 h8 => hd i k (by omega) h7 (by omega)) M x3 y hc1 hy h88 (.inr ⟨v, hkc.1.2, hvc, h50⟩)) (fun w hw => ?_)
            obtain ⟨w1, w2, w3, w4, w5⟩ := hw
            refine QT.grd (fun _ => ?_)
            have n3 : x3.toNatClampNeg = c.2 := nC hc1
            have w30 : w.1 30 = τ.1 30 := (hy.trans w1).1 30 (by omega) (by omega) (by omega)
            rw [n3, w30]
            have w50 : (w.1 50 v).toInt = N := by
              rw [w5 v (fun i h6 h7 => fun h9 => hd N i (Nat.le_refl _) (by omega) (by omega) (by rw [evN]; exact h9))]
              exact h50
            refine (ihm f j2 _ w (by omega) hc.2 (fun d hd2 => hKm d (List.mem_cons_of_mem _ hd2)) f3 (hy.trans w1) w2 w50).mono (fun u hu => ?_)
            obtain ⟨u1, u2, u3, u4, u5⟩ := hu
            refine ⟨w1.trans u1, u2, ⟨fun k hk => (u3.1 k (by omega)).trans (w3.1 k hk), fun k hk => (u3.2 k (by omega)).trans (w3.2 k hk)⟩, fun i h6 h7 => ?_, fun r hr => (u5 r (fun i h6 h7 => hr i (by omega) h7)).trans (w5 r (fun i h6 h7 => hr i h6 (by omega)))⟩
            by_cases hi : i < j2
            · exact (w4 i h6 hi).sb u3 hi
            · exact u4 i (by omega) h7
      have evN : (LL N).2.1 = v := by rw [hL]
      unfold f_X11_orders
      refine QT.grd (fun hg => ?_)
      have n0 : p0.toNatClampNeg = v := nC h0
      rw [n0]
      have g88 : (stI z 50 v (z.1 0 88)).1 0 88 = z.1 0 88 := by rw [stI_ne (by omega)]
      rw [g88]
      have ea := il_addE (x := z.1 0 88) (y := 1) (by omega) (by omega)
      have em := mlE (k := 4) (y := z.1 0 88) 4 l4 (by omega) (by omega)
      have ed := il_addE (x := 4 * z.1 0 88) (y := 1) (by omega) (by omega)
      have n4 : (4 * z.1 0 88).toNatClampNeg = 4 * N := nC (by omega)
      refine QT.lt (fun z2 h2 => QT.grd (fun _ => QT.grd (fun _ => ?_)))
      have k2 : KTO z z2 := by
        rw [h2]
        exact (KTO.rf.i (.inr (.inl rfl))).i (.inl ⟨rfl, rfl⟩)
      have z2c : ∀ c, c ≠ 0 → c ≠ 50 → z2.1 c = z.1 c := fun c a d => by rw [h2, stI_ne a, stI_ne d]
      have z20 : z2.1 0 = upd (z.1 0) 88 (z.1 0 88 + 1) := by rw [h2, stI_at, stI_ne (by omega)]
      have z250 : z2.1 50 = upd (z.1 50) v (z.1 0 88) := by rw [h2, stI_ne (by omega), stI_at]
      have z2L : z2.2 = z.2 := by rw [h2]; rfl
      clear h2
      have g20 : z2.1 20 v = τ.1 20 v := by rw [z2c 20 (by omega) (by omega), hz.1 20 (by omega) (by omega) (by omega)]
      rw [n4, g20]
      refine QT.lt (fun z5 h5 => ?_)
      have k5 : KTO z z5 := by
        rw [h5]
        exact k2.i (by omega)
      have z5c : ∀ c, c ≠ 51 → z5.1 c = z2.1 c := fun c a => by rw [h5, stI_ne a]
      have z551 : z5.1 51 = upd (z2.1 51) (4 * N) (τ.1 20 v) := by rw [h5, stI_at]
      have z5L : z5.2 = z2.2 := by rw [h5]; rfl
      clear h5
      have g24 : z5.1 24 v = τ.1 24 v := by rw [z5c 24 (by omega), z2c 24 (by omega) (by omega), hz.1 24 (by omega) (by omega) (by omega)]
      rw [g24]
      have sb : OSB N z z5 := ⟨fun k hk => by rw [z551, upN (by omega), z2c 51 (by omega) (by omega)], fun k hk => by rw [z5L, z2L]⟩
      have s50 : z5.1 50 = upd (z.1 50) v (z.1 0 88) := by rw [z5c 50 (by omega), z250]
      have go : ∀ y0 : Int32, y0.toInt = pn → QT (f_X11_orders_70 (R_X11_orders M) p0 (4 * z.1 0 88) y0 (4 * z.1 0 88 + 1) z5) (fun w => OEL τ LL N e z w) := fun y0 hy0 => by
        refine q_orders70 (pn := pn) (LL := LL) (N := N) p0 (4 * z.1 0 88) y0 (4 * z.1 0 88 + 1) z z5 h0 (by omega) (by omega) (by omega) (by rw [hL]) hz k5 sb (by rw [z551, upA rfl]) hy0 ?_ (fun y y1 y2 y3 y4 y5 => ?_)
        · rw [z5c 0 (by omega), z20, upA rfl]
          omega
        · have y50 : (y.1 50 v).toInt = N := by
            rw [y5, s50, upA rfl]
            exact h88
          refine (hkid l FU (N + 1) (τ.1 28 v) y (by omega) hc hK hF (hz.trans y1) (by omega) y50).mono (fun w hw => ?_)
          obtain ⟨w1, w2, w3, w4, w5⟩ := hw
          refine ⟨y1.trans w1, w2, ⟨fun k hk => (w3.1 k (by omega)).trans (y3.1 k hk), fun k hk => (w3.2 k (by omega)).trans (y3.2 k hk)⟩, fun i h6 h7 => ?_, fun r hr => ?_⟩
          · by_cases hi : i = N
            · rw [hi]
              exact y4.sb w3 (by omega)
            · exact w4 i (by omega) h7
          · rw [w5 r (fun i h6 h7 => hr i (by omega) h7), y5, s50, upN (fun h9 => hr N (Nat.le_refl _) hNe (by rw [evN]; exact h9))]
      rcases hpn with ⟨q1, q2⟩ | ⟨r, q1, q3, q2⟩
      · refine QT.ile (fun h => by omega) (fun _ => ?_)
        exact go (-1) (by rw [q2]; exact lm)
      · refine QT.ile (fun _ => QT.grd (fun _ => ?_)) (fun h => by omega)
        have nr : (τ.1 24 v).toNatClampNeg = r := nC q1
        rw [nr, s50, upN q3]
        exact go _ q2
/-! two trees held against one another, both sides -/
/-- sorts and sizes in order tell the whole tree -/
theorem pre_shape {b1 b2 : Nat} {σ1 τ1 σ2 τ2 : ST} {L1 L2 : Nat → Nat × Nat × Int} {E : Nat} : ∀ (n m N e1 e2 : Nat) (pn : Int) (x1 v1 x2 v2 : Nat), PRZ b1 σ1 τ1 L1 n N e1 pn x1 v1 → PRZ b2 σ2 τ2 L2 m N e2 pn x2 v2 → e1 ≤ E → e2 ≤ E → (∀ i, N ≤ i → i < E → τ1.1 20 (L1 i).2.1 = τ2.1 20 (L2 i).2.1 ∧ (τ1.1 23 (L1 i).2.1).toInt = (τ2.1 23 (L2 i).2.1).toInt) → e1 = e2 ∧ ∀ i, N < i → i < e1 → (L1 i).2.2 = (L2 i).2.2 ∧ (τ1.1 25 (L1 i).2.1).toInt = (τ2.1 25 (L2 i).2.1).toInt := by
  intro n
  induction n with
  | zero => intro m N e1 e2 pn x1 v1 x2 v2 h; exact h.elim
  | succ n ih =>
    intro m N e1 e2 pn x1 v1 x2 v2 h k hE1 hE2 hs
    have hlt := h.lt
    cases m with
    | zero => exact k.elim
    | succ m =>
      obtain ⟨h1, _, l1, ⟨_, _, h3a, h3b, h3c⟩, _, h5⟩ := h
      obtain ⟨k1, _, l2, ⟨_, _, k3a, k3b, k3c⟩, _, k5⟩ := k
      have hlen : l1.length = l2.length := by
        obtain ⟨q1, q2⟩ := hs N (Nat.le_refl _) (by omega)
        rw [h1, k1] at q1 q2
        have q1 : τ1.1 20 v1 = τ2.1 20 v2 := q1
        have q2 : (τ1.1 23 v1).toInt = (τ2.1 23 v2).toInt := q2
        by_cases c : (τ1.1 20 v1).toInt ≤ 5
        · rw [h3a c, k3a (by rw [← q1]; exact c)]
        · have a := h3b (by omega)
          have d := k3b (by rw [← q1]; omega)
          omega
      have key : ∀ (l1 l2 : List (Nat × Nat)) (j k : Nat), l1.length = l2.length → N < j → FLT (fun i j y => PRZ b1 σ1 τ1 L1 n i j N y.1 y.2) l1 j e1 → FLT (fun i j y => PRZ b2 σ2 τ2 L2 m i j N y.1 y.2) l2 j e2 → PLC τ1 l1 k → PLC τ2 l2 k → e1 = e2 ∧ ∀ i, j ≤ i → i < e1 → (L1 i).2.2 = (L2 i).2.2 ∧ (τ1.1 25 (L1 i).2.1).toInt = (τ2.1 25 (L2 i).2.1).toInt := by
        intro l1
        induction l1 with
        | nil =>
          intro l2 j k hl _ f1 f2 _ _
          cases l2 with
          | nil =>
            have f1 : j = e1 := f1
            have f2 : j = e2 := f2
            exact ⟨by omega, fun i h6 h7 => by omega⟩
          | cons y l2 => cases hl
        | cons y1 l1 ihl =>
          intro l2 j k hl hj f1 f2 p1 p2
          cases l2 with
          | nil => cases hl
          | cons y2 l2 =>
            obtain ⟨j1, a1, a2, a3⟩ := f1
            obtain ⟨j2, c1, c2, c3⟩ := f2
            have a2 : PRZ b1 σ1 τ1 L1 n j j1 N y1.1 y1.2 := a2
            have c2 : PRZ b2 σ2 τ2 L2 m j j2 N y2.1 y2.2 := c2
            have la := FLT.le _ _ _ a3
            have lc := FLT.le _ _ _ c3
            obtain ⟨e, g⟩ := ih m j j1 j2 N _ _ _ _ a2 c2 (by omega) (by omega) (fun i h6 h7 => hs i (by omega) h7)
            subst e
            have ea : L1 j = (y1.1, y1.2, (N : Int)) := by
              cases n with
              | zero => exact a2.elim
              | succ n => exact a2.1
            have ec : L2 j = (y2.1, y2.2, (N : Int)) := by
              cases m with
              | zero => exact c2.elim
              | succ m => exact c2.1
            obtain ⟨g1, g2⟩ := ihl l2 j1 (k + 1) (by simp only [List.length_cons] at hl; omega) (by omega) a3 c3 p1.2 p2.2
            refine ⟨g1, fun i h6 h7 => ?_⟩
            by_cases hi : i = j
            · rw [hi, ea, ec]
              exact ⟨rfl, p1.1.trans p2.1.symm⟩
            · by_cases hi2 : i < j1
              · exact g i (by omega) hi2
              · exact g2 i (by omega) h7
      obtain ⟨g1, g2⟩ := key l1 l2 (N + 1) 0 hlen (by omega) h5 k5 h3c k3c
      exact ⟨g1, fun i h6 h7 => g2 i (by omega) h7⟩
/-- of one sort and one size: worth the same on both sides, or on neither -/
theorem ewr_iff {s : Int} {w w' b b' t t' : Int64} {n n' : Int32} (h : EWR s w b t n) (k : EWR s w' b' t' n') (hn : n.toInt = n'.toInt) : w = w' ↔ b = b' ∧ t = t' := by
  unfold EWR at h k
  by_cases c : s = 5
  · rw [if_pos c] at h k
    obtain ⟨h1, m, g, _, hg, h2, h3, h4⟩ := h
    obtain ⟨k1, m', g', _, hg', k2, k3, k4⟩ := k
    have em : m = m' := by omega
    subst em
    constructor
    · intro e
      refine ⟨by rw [h1, k1], Int64.toInt_inj.mp ?_⟩
      have e5 : n5 m g = n5 m g' := by
        have : w.toInt = w'.toInt := by rw [e]
        omega
      rw [h3, k3, n27_ext g g' m (n5_inj m m g g' hg hg' e5).2]
    · rintro ⟨_, e⟩
      refine Int64.toInt_inj.mp ?_
      have e5 : n27 g m = n27 g' m := by
        have : t.toInt = t'.toInt := by rw [e]
        omega
      rw [h2, k2, n5_ext m g g' (n27_inj m m g g' hg hg' e5).2]
  · rw [if_neg c] at h k
    rw [h.1, k.1, h.2.1, k.2.1]
    exact ⟨fun e => ⟨e, rfl⟩, fun e => e.1⟩
theorem ndt_iff {b1 b2 : Nat} {σ1 τ1 σ2 τ2 : ST} {x1 v1 x2 v2 : Nat} (h : NDT b1 σ1 τ1 x1 v1) (k : NDT b2 σ2 τ2 x2 v2) (h20 : τ1.1 20 v1 = τ2.1 20 v2) (h23 : (τ1.1 23 v1).toInt = (τ2.1 23 v2).toInt) : σ1.2.1 (b1 + 6) x1 = σ2.2.1 (b2 + 6) x2 ↔ τ1.2.1 21 v1 = τ2.2.1 21 v2 ∧ τ1.2.1 22 v1 = τ2.2.1 22 v2 := by
  by_cases c : (τ1.1 20 v1).toInt ≤ 5
  · have a := h.2.2.1 c
    have d := k.2.2.1 (by rw [← h20]; exact c)
    rw [← h20] at d
    exact ewr_iff a d h23
  · obtain ⟨a, a2⟩ := h.2.2.2 (by omega)
    obtain ⟨d, d2⟩ := k.2.2.2 (by rw [← h20]; omega)
    rw [a, d, a2, d2]
    exact ⟨fun e => ⟨e, rfl⟩, fun e => e.1⟩
/-- the class's answer: all rows of one sort, one size, one worth -/
theorem q_rowAtR {b n : Nat} {σ : ST} (hn : (σ.1 b 1).toInt = n ∧ (n : Int) ≤ (σ.1 b 0).toInt) (x : Int32) {i r : Nat} (hx : x.toInt = i) (hi : i < n) (hr : (σ.1 (b + 10) i).toInt = r) : QT (f_X7_rowAt b x σ) (fun q => q.1.toInt = r ∧ q.2 = σ) := by
  have l0 := li_0
  have nx : x.toNatClampNeg = i := nC hx
  unfold f_X7_rowAt
  rw [nx]
  refine QT.ilt (fun h => by omega) (fun h => ?_)
  refine QT.ile (fun h => by omega) (fun h2 => ?_)
  refine QT.ile (fun h => by omega) (fun h3 => ?_)
  exact QT.grd (fun _ => QT.ret ⟨hr, rfl⟩)
/-- the rows in order of a tree -/
def ORW (b n : Nat) (σ : ST) (o : Nat → Nat) : Prop := ((σ.1 b 1).toInt = n ∧ (n : Int) ≤ (σ.1 b 0).toInt) ∧ ∀ i, i < n → o i < n ∧ (σ.1 (b + 10) i).toInt = o i
/-- one row like another -/
def RLK (b t : Nat) (σ : ST) (r k : Nat) : Prop := σ.1 (b + 1) r = σ.1 (t + 1) k ∧ σ.1 (b + 4) r = σ.1 (t + 4) k ∧ σ.2.1 (b + 6) r = σ.2.1 (t + 6) k
theorem a_isLike {b t n : Nat} {σ : ST} {o p : Nat → Nat} (hn1 : n ≤ 1000) (hb : ORW b n σ o) (ht : ORW t n σ p) : ∀ (f i : Nat) (x2 : Int32), x2.toInt = i → i ≤ n → (∀ j, j < i → RLK b t σ (o j) (p j)) → QT (f_X7_isLike_15 b t f x2 σ) (fun q => q.2 = σ ∧ ((q.1 = 1 ∧ ∀ j, j < n → RLK b t σ (o j) (p j)) ∨ q.1 = 0 ∧ ¬ ∀ j, j < n → RLK b t σ (o j) (p j))) := by
  have l1 := li_1
  intro f
  induction f with
  | zero =>
    intro i x2 _ _ _
    rw [f_X7_isLike_15]
    exact QT.none
  | succ f ih =>
    intro i x2 h2 hi hp
    rw [f_X7_isLike_15]
    obtain ⟨⟨b1, b0⟩, b2⟩ := hb
    obtain ⟨⟨t1, t0⟩, t2⟩ := ht
    refine QT.ile (fun h => QT.ret ⟨rfl, .inl ⟨rfl, fun j hj => hp j (by omega)⟩⟩) (fun hlt => ?_)
    have hin : i < n := by omega
    obtain ⟨o1, o2⟩ := b2 i hin
    obtain ⟨p1, p2⟩ := t2 i hin
    refine QT.bnd (q_rowAtR ⟨b1, b0⟩ x2 h2 hin o2) (fun q1 h1 => ?_)
    obtain ⟨v1, s1⟩ := q1
    obtain ⟨hv1, e1⟩ := h1
    have e1 : s1 = σ := e1
    have hv1 : v1.toInt = o i := hv1
    rw [e1]
    dsimp only
    refine QT.bnd (q_rowAtR ⟨t1, t0⟩ x2 h2 hin p2) (fun q3 h3 => ?_)
    obtain ⟨v3, s3⟩ := q3
    obtain ⟨hv3, e3⟩ := h3
    have e3 : s3 = σ := e3
    have hv3 : v3.toInt = p i := hv3
    rw [e3]
    dsimp only
    have gb1 : (o i : Int) < (σ.1 b 1).toInt := by omega
    have gb0 : (o i : Int) < (σ.1 b 0).toInt := by omega
    have gt1 : (p i : Int) < (σ.1 t 1).toInt := by omega
    have gt0 : (p i : Int) < (σ.1 t 0).toInt := by omega
    refine QT.bnd (q_sortAt hv1 gb1 gb0) (fun q5 h5 => ?_)
    rw [h5]
    dsimp only
    refine QT.bnd (q_sortAt hv3 gt1 gt0) (fun q7 h7 => ?_)
    rw [h7]
    dsimp only
    refine QT.ite (fun c1 => ?_) (fun c1 => QT.ret ⟨rfl, .inr ⟨rfl, fun h => c1 (h i hin).1⟩⟩)
    refine QT.bnd (q_sizeOf hv1 gb1 gb0) (fun q9 h9 => ?_)
    rw [h9]
    dsimp only
    refine QT.bnd (q_sizeOf hv3 gt1 gt0) (fun q11 h11 => ?_)
    rw [h11]
    dsimp only
    refine QT.ite (fun c2 => ?_) (fun c2 => QT.ret ⟨rfl, .inr ⟨rfl, fun h => c2 (h i hin).2.1⟩⟩)
    refine QT.bnd (q_worthOf hv1 gb1 gb0) (fun q13 h13 => ?_)
    rw [h13]
    dsimp only
    refine QT.bnd (q_worthOf hv3 gt1 gt0) (fun q15 h15 => ?_)
    rw [h15]
    dsimp only
    refine QT.ite (fun c3 => ?_) (fun c3 => QT.ret ⟨rfl, .inr ⟨rfl, fun h => c3 ((lg_cmp_eq _ _).mpr (h i hin).2.2)⟩⟩)
    have ea := il_addE (x := x2) (y := 1) (by omega) (by omega)
    refine ih (i + 1) (x2 + 1) (by omega) (by omega) (fun j hj => ?_)
    by_cases hj2 : j = i
    · rw [hj2]
      exact ⟨c1, c2, (lg_cmp_eq _ _).mp c3⟩
    · exact hp j (by omega)
/-- the reference's answer -/
theorem q_like172 {m : Nat} (x5 : Int32) (h5 : x5.toInt = m) (hm : m ≤ 400) (τ : ST) : ∀ (f k : Nat) (x6 x7 : Int32), x7.toInt = k → k ≤ 4 * m → (x6 = 0 ∨ x6 = 1) → (∀ j, j < k → x6 = 1 → τ.1 53 j = τ.1 51 j ∧ τ.2.1 54 (j / 2) = τ.2.1 52 (j / 2)) → (x6 = 0 → ¬ ∀ j, j < 4 * m → τ.1 53 j = τ.1 51 j ∧ τ.2.1 54 (j / 2) = τ.2.1 52 (j / 2)) → QT (f_X11_alike_172 f x5 x6 x7 τ) (fun q => q.2 = τ ∧ ((q.1 = 1 ∧ ∀ j, j < 4 * m → τ.1 53 j = τ.1 51 j ∧ τ.2.1 54 (j / 2) = τ.2.1 52 (j / 2)) ∨ q.1 = 0 ∧ ¬ ∀ j, j < 4 * m → τ.1 53 j = τ.1 51 j ∧ τ.2.1 54 (j / 2) = τ.2.1 52 (j / 2))) := by
  have l0 := li_0
  have l1 := li_1
  have l2 := li_2
  have l4 := li_4
  intro f
  induction f with
  | zero =>
    intro k x6 x7 _ _ _ _ _
    rw [f_X11_alike_172]
    exact QT.none
  | succ f ih =>
    intro k x6 x7 h7 hk h6 hy hn
    rw [f_X11_alike_172]
    unfold f_X11_alike_238 f_X11_alike_229 f_X11_alike_230
    have em := mlE (k := 4) (y := x5) 4 l4 (by omega) (by omega)
    refine QT.ile (fun hle => ?_) (fun hlt => ?_)
    · refine QT.ite (fun c => QT.ret ⟨rfl, .inr ⟨rfl, hn c⟩⟩) (fun c => QT.ret ⟨rfl, .inl ⟨rfl, fun j hj => hy j (by omega) (h6.resolve_left c)⟩⟩)
    · refine QT.ite (fun c => ?_) (fun c => ?_)
      · refine QT.ite (fun _ => QT.ret ⟨rfl, .inr ⟨rfl, hn c⟩⟩) (fun h => absurd c h)
      have c1 := h6.resolve_left c
      have n7 : x7.toNatClampNeg = k := nC h7
      have eh : (x7 / 2).toInt = ((k / 2 : Nat) : Int) := by
        rw [Int32.toInt_div_of_ne_right _ _ (by decide), h7, l2]
        rfl
      have nh : (x7 / 2).toNatClampNeg = k / 2 := nC eh
      have ea := il_addE (x := x7) (y := 1) (by omega) (by omega)
      rw [n7, nh]
      refine QT.grd (fun _ => ?_)
      have bad : ¬ (τ.1 53 k = τ.1 51 k ∧ τ.2.1 54 (k / 2) = τ.2.1 52 (k / 2)) → QT (f_X11_alike_172 f x5 0 (x7 + 1) τ) (fun q => q.2 = τ ∧ ((q.1 = 1 ∧ ∀ j, j < 4 * m → τ.1 53 j = τ.1 51 j ∧ τ.2.1 54 (j / 2) = τ.2.1 52 (j / 2)) ∨ q.1 = 0 ∧ ¬ ∀ j, j < 4 * m → τ.1 53 j = τ.1 51 j ∧ τ.2.1 54 (j / 2) = τ.2.1 52 (j / 2))) := fun h => ih (k + 1) 0 (x7 + 1) (by omega) (by omega) (.inl rfl) (fun j _ h9 => absurd h9 (by decide)) (fun _ h9 => h (h9 k (by omega)))
      refine QT.ite (fun d1 => ?_) (fun d1 => bad (fun h => d1 h.1))
      refine QT.grd (fun _ => ?_)
      refine QT.ite (fun d2 => ?_) (fun d2 => bad (fun h => d2 ((lg_cmp_eq _ _).mpr h.2)))
      refine ih (k + 1) 1 (x7 + 1) (by omega) (by omega) (.inr rfl) (fun j hj _ => ?_) (fun h => absurd h (by decide))
      by_cases hj2 : j = k
      · rw [hj2]
        exact ⟨d1, (lg_cmp_eq _ _).mp d2⟩
      · exact hy j (by omega) c1
/-! alike, both sides -/
def K54 (s σ : ST) : Prop := σ.2.1 54 = s.2.1 54
theorem K54.rf {s : ST} : K54 s s := rfl
theorem K54.i {s σ : ST} {c i : Nat} {v : Int32} (_ : c = c) (h : K54 s σ) : K54 s (stI σ c i v) := h
theorem K54.l {s σ : ST} {c i : Nat} {v : Int64} (hc : c ≠ 54) (h : K54 s σ) : K54 s (stL σ c i v) := (stL_ne (fun e => hc e.symm)).trans h
theorem wo4_X11_rootType {s σ : ST} (h : K54 s σ) : PF st1 (K54 s) (f_X11_rootType σ) := by
  unfold f_X11_rootType
  exact PF.ret1 h
theorem wo4_X11_laysPairs_116 {s : ST} {k63 : Int32 → ST → Option (ST)} {k72 : Int32 → Int32 → ST → Option (ST)} {x3 : Int32} {x4 : Int32} {σ : ST} (h_k63 : ∀ (x1 : Int32) (σ : ST), K54 s σ → PF st0 (K54 s) (k63 x1 σ)) (h_k72 : ∀ (x1 : Int32) (x2 : Int32) (σ : ST), K54 s σ → PF st0 (K54 s) (k72 x1 x2 σ))  (h : K54 s σ) : PF st0 (K54 s) (f_X11_laysPairs_116 k63 k72 x3 x4 σ) := by
  unfold f_X11_laysPairs_116
  exact (h_k72 _ _ _ h)
theorem wo4_X11_namesMay_40 {s : ST}  {σ : ST}   (h : K54 s σ) : PF st1 (K54 s) (f_X11_namesMay_40 σ) := by
  unfold f_X11_namesMay_40
  exact (PF.ret1 h)
theorem wo4_X11_namesMay_8 {s : ST} {x1 : Int32} {x2 : Int32} {σ : ST}   (h : K54 s σ) : PF st1 (K54 s) (f_X11_namesMay_8 x1 x2 σ) := by
  unfold f_X11_namesMay_8
  exact (PF.ite (fun _ => (PF.ite (fun _ => (PF.ite (fun _ => (wo4_X11_namesMay_40  h)) (fun _ => (PF.ret1 h)))) (fun _ => PF.none))) (fun _ => PF.none))
theorem wo4_X11_namesMay {s : ST} {p0 : Int32} {p1 : Int32} {σ : ST}   (h : K54 s σ) : PF st1 (K54 s) (f_X11_namesMay p0 p1 σ) := by
  unfold f_X11_namesMay
  exact (PF.ite (fun _ => (PF.ite (fun _ => (wo4_X11_namesMay_40  h)) (fun _ => (wo4_X11_namesMay_8  h)))) (fun _ => (wo4_X11_namesMay_8  h)))
theorem wo4_X11_fieldOf_3 {s : ST}    : ∀ (n : Nat) (x1 : Int32) (x2 : Int64) (x3 : Int32) (σ : ST), K54 s σ → PF st1 (K54 s) (f_X11_fieldOf_3  n x1 x2 x3 σ) := by
  intro n
  induction n with
  | zero => intro x1 x2 x3 σ h; rw [f_X11_fieldOf_3]; exact PF.none
  | succ n ih =>
    intro x1 x2 x3 σ h
    rw [f_X11_fieldOf_3]
    exact (PF.ite (fun _ => (PF.ite (fun _ => (PF.ret1 h)) (fun _ => (PF.ite (fun _ => (PF.ite (fun _ => (PF.ret1 h)) (fun _ => (ih _ _ _ _ h)))) (fun _ => PF.none))))) (fun _ => PF.none))
theorem wo4_X11_fieldOf {s : ST} {p0 : Int32} {p1 : Int64} {σ : ST}   (h : K54 s σ) : PF st1 (K54 s) (f_X11_fieldOf p0 p1 σ) := by
  unfold f_X11_fieldOf
  exact (wo4_X11_fieldOf_3  _ _ _ _ _ h)
theorem wo4_X11_fieldFor {s : ST} {p0 : Int32} {p1 : Int32} {σ : ST}   (h : K54 s σ) : PF st1 (K54 s) (f_X11_fieldFor p0 p1 σ) := by
  unfold f_X11_fieldFor
  exact (PF.ite (fun _ => (PF.bnd (wo4_X11_fieldOf  h) (fun q2 hq2 => (PF.ite (fun _ => (PF.ret1 hq2)) (fun _ => (PF.ite (fun _ => (PF.ret1 hq2)) (fun _ => (PF.bnd (wo4_X11_fieldOf  hq2) (fun q4 hq4 => (PF.ret1 hq4)))))))))) (fun _ => PF.none))
theorem wo4_X11_chosen_69 {s : ST} {r_X11_chosen : Int32 → Int32 → ST → Option (Int32 × ST)} {r_X11_match : Int32 → Int32 → ST → Option (Int32 × ST)} {k5 : Int32 → Int32 → Int32 → Int32 → ST → Option (Int32 × ST)} {x1 : Int32} {x2 : Int32} {x3 : Int32} {x4 : Int32} {σ : ST} (h_r_X11_chosen : ∀ (x1 : Int32) (x2 : Int32) (σ : ST), K54 s σ → PF st1 (K54 s) (r_X11_chosen x1 x2 σ)) (h_r_X11_match : ∀ (x1 : Int32) (x2 : Int32) (σ : ST), K54 s σ → PF st1 (K54 s) (r_X11_match x1 x2 σ)) (h_k5 : ∀ (x1 : Int32) (x2 : Int32) (x3 : Int32) (x4 : Int32) (σ : ST), K54 s σ → PF st1 (K54 s) (k5 x1 x2 x3 x4 σ))  (h : K54 s σ) : PF st1 (K54 s) (f_X11_chosen_69 r_X11_chosen r_X11_match k5 x1 x2 x3 x4 σ) := by
  unfold f_X11_chosen_69
  exact (h_k5 _ _ _ _ _ h)
theorem wo4_X11_chosen_68 {s : ST} {r_X11_chosen : Int32 → Int32 → ST → Option (Int32 × ST)} {r_X11_match : Int32 → Int32 → ST → Option (Int32 × ST)} {k5 : Int32 → Int32 → Int32 → Int32 → ST → Option (Int32 × ST)} {x1 : Int32} {x2 : Int32} {x4 : Int32} {y0 : Int32} {σ : ST} (h_r_X11_chosen : ∀ (x1 : Int32) (x2 : Int32) (σ : ST), K54 s σ → PF st1 (K54 s) (r_X11_chosen x1 x2 σ)) (h_r_X11_match : ∀ (x1 : Int32) (x2 : Int32) (σ : ST), K54 s σ → PF st1 (K54 s) (r_X11_match x1 x2 σ)) (h_k5 : ∀ (x1 : Int32) (x2 : Int32) (x3 : Int32) (x4 : Int32) (σ : ST), K54 s σ → PF st1 (K54 s) (k5 x1 x2 x3 x4 σ))  (h : K54 s σ) : PF st1 (K54 s) (f_X11_chosen_68 r_X11_chosen r_X11_match k5 x1 x2 x4 y0 σ) := by
  unfold f_X11_chosen_68
  exact (wo4_X11_chosen_69 h_r_X11_chosen h_r_X11_match h_k5 h)
theorem wo4_X11_chosen_5 {s : ST} {r_X11_chosen : Int32 → Int32 → ST → Option (Int32 × ST)} {r_X11_match : Int32 → Int32 → ST → Option (Int32 × ST)} (h_r_X11_chosen : ∀ (x1 : Int32) (x2 : Int32) (σ : ST), K54 s σ → PF st1 (K54 s) (r_X11_chosen x1 x2 σ)) (h_r_X11_match : ∀ (x1 : Int32) (x2 : Int32) (σ : ST), K54 s σ → PF st1 (K54 s) (r_X11_match x1 x2 σ))  : ∀ (n : Nat) (x1 : Int32) (x2 : Int32) (x3 : Int32) (x4 : Int32) (σ : ST), K54 s σ → PF st1 (K54 s) (f_X11_chosen_5 r_X11_chosen r_X11_match n x1 x2 x3 x4 σ) := by
  intro n
  induction n with
  | zero => intro x1 x2 x3 x4 σ h; rw [f_X11_chosen_5]; exact PF.none
  | succ n ih =>
    intro x1 x2 x3 x4 σ h
    rw [f_X11_chosen_5]
    exact (PF.ite (fun _ => (PF.ite (fun _ => (PF.ret1 h)) (fun _ => (PF.ite (fun _ => (PF.bnd (h_r_X11_match _ _ _ h) (fun q3 hq3 => (PF.ite (fun _ => (wo4_X11_chosen_69 h_r_X11_chosen h_r_X11_match ih hq3)) (fun _ => (PF.ite (fun _ => (PF.ite (fun _ => (PF.ite (fun _ => (PF.ret1 hq3)) (fun _ => (PF.ite (fun _ => (wo4_X11_chosen_68 h_r_X11_chosen h_r_X11_match ih hq3)) (fun _ => (wo4_X11_chosen_68 h_r_X11_chosen h_r_X11_match ih hq3)))))) (fun _ => PF.none))) (fun _ => PF.none))))))) (fun _ => PF.none))))) (fun _ => PF.none))
theorem wo4_X11_chosen {s : ST} {r_X11_chosen : Int32 → Int32 → ST → Option (Int32 × ST)} {r_X11_match : Int32 → Int32 → ST → Option (Int32 × ST)} {p0 : Int32} {p1 : Int32} {σ : ST} (h_r_X11_chosen : ∀ (x1 : Int32) (x2 : Int32) (σ : ST), K54 s σ → PF st1 (K54 s) (r_X11_chosen x1 x2 σ)) (h_r_X11_match : ∀ (x1 : Int32) (x2 : Int32) (σ : ST), K54 s σ → PF st1 (K54 s) (r_X11_match x1 x2 σ))  (h : K54 s σ) : PF st1 (K54 s) (f_X11_chosen r_X11_chosen r_X11_match p0 p1 σ) := by
  unfold f_X11_chosen
  exact (wo4_X11_chosen_5 h_r_X11_chosen h_r_X11_match _ _ _ _ _ _ h)
theorem wo4_X11_match_55 {s : ST} {r_X11_chosen : Int32 → Int32 → ST → Option (Int32 × ST)} {r_X11_match : Int32 → Int32 → ST → Option (Int32 × ST)} {k16 : Int32 → Int32 → Int32 → Int32 → ST → Option (Int32 × ST)} {x1 : Int32} {x2 : Int32} {x4 : Int32} {y0 : Int32} {σ : ST} (h_r_X11_chosen : ∀ (x1 : Int32) (x2 : Int32) (σ : ST), K54 s σ → PF st1 (K54 s) (r_X11_chosen x1 x2 σ)) (h_r_X11_match : ∀ (x1 : Int32) (x2 : Int32) (σ : ST), K54 s σ → PF st1 (K54 s) (r_X11_match x1 x2 σ)) (h_k16 : ∀ (x1 : Int32) (x2 : Int32) (x3 : Int32) (x4 : Int32) (σ : ST), K54 s σ → PF st1 (K54 s) (k16 x1 x2 x3 x4 σ))  (h : K54 s σ) : PF st1 (K54 s) (f_X11_match_55 r_X11_chosen r_X11_match k16 x1 x2 x4 y0 σ) := by
  unfold f_X11_match_55
  exact (h_k16 _ _ _ _ _ h)
theorem wo4_X11_match_50 {s : ST} {r_X11_chosen : Int32 → Int32 → ST → Option (Int32 × ST)} {r_X11_match : Int32 → Int32 → ST → Option (Int32 × ST)} {k16 : Int32 → Int32 → Int32 → Int32 → ST → Option (Int32 × ST)} {x1 : Int32} {x2 : Int32} {x4 : Int32} {σ : ST} (h_r_X11_chosen : ∀ (x1 : Int32) (x2 : Int32) (σ : ST), K54 s σ → PF st1 (K54 s) (r_X11_chosen x1 x2 σ)) (h_r_X11_match : ∀ (x1 : Int32) (x2 : Int32) (σ : ST), K54 s σ → PF st1 (K54 s) (r_X11_match x1 x2 σ)) (h_k16 : ∀ (x1 : Int32) (x2 : Int32) (x3 : Int32) (x4 : Int32) (σ : ST), K54 s σ → PF st1 (K54 s) (k16 x1 x2 x3 x4 σ))  (h : K54 s σ) : PF st1 (K54 s) (f_X11_match_50 r_X11_chosen r_X11_match k16 x1 x2 x4 σ) := by
  unfold f_X11_match_50
  exact (wo4_X11_match_55 h_r_X11_chosen h_r_X11_match h_k16 h)
theorem wo4_X11_match_16 {s : ST} {r_X11_chosen : Int32 → Int32 → ST → Option (Int32 × ST)} {r_X11_match : Int32 → Int32 → ST → Option (Int32 × ST)} (h_r_X11_chosen : ∀ (x1 : Int32) (x2 : Int32) (σ : ST), K54 s σ → PF st1 (K54 s) (r_X11_chosen x1 x2 σ)) (h_r_X11_match : ∀ (x1 : Int32) (x2 : Int32) (σ : ST), K54 s σ → PF st1 (K54 s) (r_X11_match x1 x2 σ))  : ∀ (n : Nat) (x1 : Int32) (x2 : Int32) (x3 : Int32) (x4 : Int32) (σ : ST), K54 s σ → PF st1 (K54 s) (f_X11_match_16 r_X11_chosen r_X11_match n x1 x2 x3 x4 σ) := by
  intro n
  induction n with
  | zero => intro x1 x2 x3 x4 σ h; rw [f_X11_match_16]; exact PF.none
  | succ n ih =>
    intro x1 x2 x3 x4 σ h
    rw [f_X11_match_16]
    exact (PF.ite (fun _ => (PF.ite (fun _ => (PF.ite (fun _ => (PF.ret1 h)) (fun _ => PF.none))) (fun _ => (PF.ite (fun _ => (PF.ite (fun _ => (PF.bnd (h_r_X11_match _ _ _ h) (fun q3 hq3 => (PF.ite (fun _ => (wo4_X11_match_55 h_r_X11_chosen h_r_X11_match ih hq3)) (fun _ => (wo4_X11_match_50 h_r_X11_chosen h_r_X11_match ih hq3)))))) (fun _ => PF.none))) (fun _ => (wo4_X11_match_50 h_r_X11_chosen h_r_X11_match ih h)))))) (fun _ => PF.none))
theorem wo4_X11_match_204 {s : ST} {r_X11_chosen : Int32 → Int32 → ST → Option (Int32 × ST)} {r_X11_match : Int32 → Int32 → ST → Option (Int32 × ST)} {σ : ST} (h_r_X11_chosen : ∀ (x1 : Int32) (x2 : Int32) (σ : ST), K54 s σ → PF st1 (K54 s) (r_X11_chosen x1 x2 σ)) (h_r_X11_match : ∀ (x1 : Int32) (x2 : Int32) (σ : ST), K54 s σ → PF st1 (K54 s) (r_X11_match x1 x2 σ))  (h : K54 s σ) : PF st1 (K54 s) (f_X11_match_204 r_X11_chosen r_X11_match σ) := by
  unfold f_X11_match_204
  exact (PF.ret1 h)
theorem wo4_X11_match_193 {s : ST} {r_X11_chosen : Int32 → Int32 → ST → Option (Int32 × ST)} {r_X11_match : Int32 → Int32 → ST → Option (Int32 × ST)} {x3 : Int32} {x4 : Int32} {σ : ST} (h_r_X11_chosen : ∀ (x1 : Int32) (x2 : Int32) (σ : ST), K54 s σ → PF st1 (K54 s) (r_X11_chosen x1 x2 σ)) (h_r_X11_match : ∀ (x1 : Int32) (x2 : Int32) (σ : ST), K54 s σ → PF st1 (K54 s) (r_X11_match x1 x2 σ))  (h : K54 s σ) : PF st1 (K54 s) (f_X11_match_193 r_X11_chosen r_X11_match x3 x4 σ) := by
  unfold f_X11_match_193
  exact (PF.ite (fun _ => (PF.ite (fun _ => (wo4_X11_match_204 h_r_X11_chosen h_r_X11_match h)) (fun _ => (PF.ret1 h)))) (fun _ => (PF.ret1 h)))
theorem wo4_X11_match_170 {s : ST} {r_X11_chosen : Int32 → Int32 → ST → Option (Int32 × ST)} {r_X11_match : Int32 → Int32 → ST → Option (Int32 × ST)} {x3 : Int32} {x4 : Int32} {σ : ST} (h_r_X11_chosen : ∀ (x1 : Int32) (x2 : Int32) (σ : ST), K54 s σ → PF st1 (K54 s) (r_X11_chosen x1 x2 σ)) (h_r_X11_match : ∀ (x1 : Int32) (x2 : Int32) (σ : ST), K54 s σ → PF st1 (K54 s) (r_X11_match x1 x2 σ))  (h : K54 s σ) : PF st1 (K54 s) (f_X11_match_170 r_X11_chosen r_X11_match x3 x4 σ) := by
  unfold f_X11_match_170
  exact (PF.ite (fun _ => (wo4_X11_match_204 h_r_X11_chosen h_r_X11_match h)) (fun _ => (PF.ite (fun _ => (PF.ite (fun _ => (wo4_X11_match_204 h_r_X11_chosen h_r_X11_match h)) (fun _ => (PF.ite (fun _ => (wo4_X11_match_204 h_r_X11_chosen h_r_X11_match h)) (fun _ => (wo4_X11_match_193 h_r_X11_chosen h_r_X11_match h)))))) (fun _ => (wo4_X11_match_193 h_r_X11_chosen h_r_X11_match h)))))
theorem wo4_X11_match_135 {s : ST} {r_X11_chosen : Int32 → Int32 → ST → Option (Int32 × ST)} {r_X11_match : Int32 → Int32 → ST → Option (Int32 × ST)} {x1 : Int32} {x2 : Int32} {x3 : Int32} {x4 : Int32} {σ : ST} (h_r_X11_chosen : ∀ (x1 : Int32) (x2 : Int32) (σ : ST), K54 s σ → PF st1 (K54 s) (r_X11_chosen x1 x2 σ)) (h_r_X11_match : ∀ (x1 : Int32) (x2 : Int32) (σ : ST), K54 s σ → PF st1 (K54 s) (r_X11_match x1 x2 σ))  (h : K54 s σ) : PF st1 (K54 s) (f_X11_match_135 r_X11_chosen r_X11_match x1 x2 x3 x4 σ) := by
  unfold f_X11_match_135
  exact (PF.ite (fun _ => (PF.ite (fun _ => (PF.ite (fun _ => (PF.ite (fun _ => (PF.ite (fun _ => (PF.ite (fun _ => (PF.ret1 h)) (fun _ => PF.none))) (fun _ => PF.none))) (fun _ => PF.none))) (fun _ => PF.none))) (fun _ => (wo4_X11_match_170 h_r_X11_chosen h_r_X11_match h)))) (fun _ => (wo4_X11_match_170 h_r_X11_chosen h_r_X11_match h)))
theorem wo4_X11_match {s : ST} {r_X11_chosen : Int32 → Int32 → ST → Option (Int32 × ST)} {r_X11_match : Int32 → Int32 → ST → Option (Int32 × ST)} {p0 : Int32} {p1 : Int32} {σ : ST} (h_r_X11_chosen : ∀ (x1 : Int32) (x2 : Int32) (σ : ST), K54 s σ → PF st1 (K54 s) (r_X11_chosen x1 x2 σ)) (h_r_X11_match : ∀ (x1 : Int32) (x2 : Int32) (σ : ST), K54 s σ → PF st1 (K54 s) (r_X11_match x1 x2 σ))  (h : K54 s σ) : PF st1 (K54 s) (f_X11_match r_X11_chosen r_X11_match p0 p1 σ) := by
  unfold f_X11_match
  exact (PF.ite (fun _ => (PF.ite (fun _ => (wo4_X11_match_16 h_r_X11_chosen h_r_X11_match _ _ _ _ _ _ h)) (fun _ => (PF.ite (fun _ => (PF.ite (fun _ => (PF.bnd (h_r_X11_chosen _ _ _ h) (fun q5 hq5 => (PF.ite (fun _ => (PF.ret1 hq5)) (fun _ => (PF.ret1 hq5)))))) (fun _ => (PF.ite (fun _ => (PF.ite (fun _ => (PF.bnd (h_r_X11_match _ _ _ h) (fun q3 hq3 => (PF.ite (fun _ => (PF.ret1 hq3)) (fun _ => PF.none))))) (fun _ => (wo4_X11_match_135 h_r_X11_chosen h_r_X11_match h)))) (fun _ => (wo4_X11_match_135 h_r_X11_chosen h_r_X11_match h)))))) (fun _ => PF.none))))) (fun _ => PF.none))
theorem wo4R_X11_chosen {s : ST} : ∀ n : Nat, (∀ (p0 : Int32) (p1 : Int32) (σ : ST), K54 s σ → PF st1 (K54 s) ((R_X11_chosen n).1 p0 p1 σ)) ∧ (∀ (p0 : Int32) (p1 : Int32) (σ : ST), K54 s σ → PF st1 (K54 s) ((R_X11_chosen n).2 p0 p1 σ)) := by
  intro n
  induction n with
  | zero => exact ⟨fun _ _ _ _ => PF.none, fun _ _ _ _ => PF.none⟩
  | succ n ih => exact ⟨fun _ _ _ h => wo4_X11_chosen (ih.1) (ih.2)  h, fun _ _ _ h => wo4_X11_match (ih.1) (ih.2)  h⟩
theorem wo4_T_X11_match {s : ST} {p0 : Int32} {p1 : Int32} {σ : ST} (h : K54 s σ) : PF st1 (K54 s) (f_T_X11_match p0 p1 σ) := (wo4R_X11_chosen FRB).2 _ _ _  h
theorem wo4_X11_holds_94 {s : ST} {k24 : Int32 → Int32 → Int32 → ST → Option (Int32 × ST)} {x1 : Int32} {x3 : Int32} {x4 : Int32} {σ : ST} (h_k24 : ∀ (x1 : Int32) (x2 : Int32) (x3 : Int32) (σ : ST), K54 s σ → PF st1 (K54 s) (k24 x1 x2 x3 σ))  (h : K54 s σ) : PF st1 (K54 s) (f_X11_holds_94 k24 x1 x3 x4 σ) := by
  unfold f_X11_holds_94
  exact (h_k24 _ _ _ _ h)
theorem wo4_X11_holds_24 {s : ST}    : ∀ (n : Nat) (x1 : Int32) (x2 : Int32) (x3 : Int32) (σ : ST), K54 s σ → PF st1 (K54 s) (f_X11_holds_24  n x1 x2 x3 σ) := by
  intro n
  induction n with
  | zero => intro x1 x2 x3 σ h; rw [f_X11_holds_24]; exact PF.none
  | succ n ih =>
    intro x1 x2 x3 σ h
    rw [f_X11_holds_24]
    exact (PF.ite (fun _ => (PF.ite (fun _ => (PF.ret1 h)) (fun _ => (PF.bnd (wo4_X11_fieldFor  h) (fun q2 hq2 => (PF.ite (fun _ => (PF.ite (fun _ => (PF.ite (fun _ => (PF.bnd (wo4_T_X11_match hq2) (fun q6 hq6 => (PF.ite (fun _ => (PF.ret1 hq6)) (fun _ => (wo4_X11_holds_94 ih hq6)))))) (fun _ => PF.none))) (fun _ => PF.none))) (fun _ => (PF.ite (fun _ => (PF.ite (fun _ => (PF.ret1 hq2)) (fun _ => (wo4_X11_holds_94 ih hq2)))) (fun _ => PF.none))))))))) (fun _ => PF.none))
theorem wo4_X11_holds {s : ST} {p0 : Int32} {p1 : Int32} {σ : ST}   (h : K54 s σ) : PF st1 (K54 s) (f_X11_holds p0 p1 σ) := by
  unfold f_X11_holds
  exact (PF.bnd (wo4_X11_namesMay  h) (fun q1 hq1 => (PF.ite (fun _ => (PF.ret1 hq1)) (fun _ => (wo4_X11_holds_24  _ _ _ _ _ hq1)))))
theorem wo4_X11_laysPairs_72 {s : ST} {k63 : Int32 → ST → Option (ST)} (h_k63 : ∀ (x1 : Int32) (σ : ST), K54 s σ → PF st0 (K54 s) (k63 x1 σ))  : ∀ (n : Nat) (x1 : Int32) (x2 : Int32) (σ : ST), K54 s σ → PF st0 (K54 s) (f_X11_laysPairs_72 k63 n x1 x2 σ) := by
  intro n
  induction n with
  | zero => intro x1 x2 σ h; rw [f_X11_laysPairs_72]; exact PF.none
  | succ n ih =>
    intro x1 x2 σ h
    rw [f_X11_laysPairs_72]
    exact (PF.ite (fun _ => (h_k63 _ _ h)) (fun _ => (PF.ite (fun _ => (PF.ite (fun _ => (wo4_X11_laysPairs_116 h_k63 ih h)) (fun _ => (PF.bnd (wo4_X11_holds  h) (fun q2 hq2 => (PF.ite (fun _ => (wo4_X11_laysPairs_116 h_k63 ih (K54.i rfl hq2))) (fun _ => (wo4_X11_laysPairs_116 h_k63 ih hq2)))))))) (fun _ => PF.none))))
theorem wo4_X11_laysPairs_63 {s : ST}    : ∀ (n : Nat) (x1 : Int32) (σ : ST), K54 s σ → PF st0 (K54 s) (f_X11_laysPairs_63  n x1 σ) := by
  intro n
  induction n with
  | zero => intro x1 σ h; rw [f_X11_laysPairs_63]; exact PF.none
  | succ n ih =>
    intro x1 σ h
    rw [f_X11_laysPairs_63]
    exact (PF.ite (fun _ => (PF.ret0 h)) (fun _ => (wo4_X11_laysPairs_72 ih _ _ _ _ h)))
theorem wo4_X11_laysPairs_54 {s : ST} {k12 : Int32 → Int32 → Int32 → ST → Option (ST)} {x1 : Int32} {x2 : Int32} {x3 : Int32} {y0 : Int32} {y1 : Int32} {σ : ST} (h_k12 : ∀ (x1 : Int32) (x2 : Int32) (x3 : Int32) (σ : ST), K54 s σ → PF st0 (K54 s) (k12 x1 x2 x3 σ))  (h : K54 s σ) : PF st0 (K54 s) (f_X11_laysPairs_54 k12 x1 x2 x3 y0 y1 σ) := by
  unfold f_X11_laysPairs_54
  exact (PF.ite (fun _ => (h_k12 _ _ _ _ (K54.i rfl h))) (fun _ => PF.none))
theorem wo4_X11_laysPairs_53 {s : ST} {k12 : Int32 → Int32 → Int32 → ST → Option (ST)} {x1 : Int32} {x2 : Int32} {x3 : Int32} {y0 : Int32} {σ : ST} (h_k12 : ∀ (x1 : Int32) (x2 : Int32) (x3 : Int32) (σ : ST), K54 s σ → PF st0 (K54 s) (k12 x1 x2 x3 σ))  (h : K54 s σ) : PF st0 (K54 s) (f_X11_laysPairs_53 k12 x1 x2 x3 y0 σ) := by
  unfold f_X11_laysPairs_53
  exact (wo4_X11_laysPairs_54 h_k12 h)
theorem wo4_X11_laysPairs_12 {s : ST}    : ∀ (n : Nat) (x1 : Int32) (x2 : Int32) (x3 : Int32) (σ : ST), K54 s σ → PF st0 (K54 s) (f_X11_laysPairs_12  n x1 x2 x3 σ) := by
  intro n
  induction n with
  | zero => intro x1 x2 x3 σ h; rw [f_X11_laysPairs_12]; exact PF.none
  | succ n ih =>
    intro x1 x2 x3 σ h
    rw [f_X11_laysPairs_12]
    exact (PF.ite (fun _ => (wo4_X11_laysPairs_63  _ _ _ h)) (fun _ => (PF.ite (fun _ => (PF.ite (fun _ => (wo4_X11_laysPairs_53 ih h)) (fun _ => (PF.ite (fun _ => (PF.ite (fun _ => (wo4_X11_laysPairs_53 ih h)) (fun _ => (wo4_X11_laysPairs_54 ih h)))) (fun _ => PF.none))))) (fun _ => PF.none))))
theorem wo4_X11_laysPairs {s : ST} {p0 : Int32} {p1 : Int32} {σ : ST}   (h : K54 s σ) : PF st0 (K54 s) (f_X11_laysPairs p0 p1 σ) := by
  unfold f_X11_laysPairs
  exact (wo4_X11_laysPairs_12  _ _ _ _ _ (K54.i rfl (K54.i rfl h)))
theorem wo4_X11_fails_36 {s : ST}    : ∀ (n : Nat) (x1 : Int32) (σ : ST), K54 s σ → PF st1 (K54 s) (f_X11_fails_36  n x1 σ) := by
  intro n
  induction n with
  | zero => intro x1 σ h; rw [f_X11_fails_36]; exact PF.none
  | succ n ih =>
    intro x1 σ h
    rw [f_X11_fails_36]
    exact (PF.ite (fun _ => (PF.ret1 h)) (fun _ => (PF.ite (fun _ => (ih _ _ (K54.i rfl h))) (fun _ => PF.none))))
theorem wo4_X11_fails_31 {s : ST} {y0 : Int32} {σ : ST}   (h : K54 s σ) : PF st1 (K54 s) (f_X11_fails_31 y0 σ) := by
  unfold f_X11_fails_31
  exact (wo4_X11_fails_36  _ _ _ (K54.i rfl h))
theorem wo4_X11_fails_23 {s : ST}  {σ : ST}   (h : K54 s σ) : PF st1 (K54 s) (f_X11_fails_23 σ) := by
  unfold f_X11_fails_23
  exact (wo4_X11_fails_31  h)
theorem wo4_X11_fails {s : ST} {p0 : Int32} {p1 : Int32} {σ : ST}   (h : K54 s σ) : PF st1 (K54 s) (f_X11_fails p0 p1 σ) := by
  unfold f_X11_fails
  exact (PF.ite (fun _ => (wo4_X11_fails_23  (K54.i rfl (K54.i rfl h)))) (fun _ => (PF.ite (fun _ => (wo4_X11_fails_23  (K54.i rfl (K54.i rfl h)))) (fun _ => (wo4_X11_fails_31  (K54.i rfl (K54.i rfl h)))))))
theorem wo4_X11_nextByte {s : ST}  {σ : ST}   (h : K54 s σ) : PF st1 (K54 s) (f_X11_nextByte σ) := by
  unfold f_X11_nextByte
  exact (PF.ite (fun _ => (PF.bnd (wo4_X11_fails  h) (fun q2 hq2 => (PF.ret1 hq2)))) (fun _ => (PF.ite (fun _ => (PF.ret1 (K54.i rfl h))) (fun _ => PF.none))))
theorem wo4_X11_readsNumber_46 {s : ST} {k5 : Int32 → Int64 → Int32 → ST → Option (Int32 × ST)} {x1 : Int32} {x2 : Int64} {x4 : Int32} {x5 : Int32} {σ : ST} (h_k5 : ∀ (x1 : Int32) (x2 : Int64) (x3 : Int32) (σ : ST), K54 s σ → PF st1 (K54 s) (k5 x1 x2 x3 σ))  (h : K54 s σ) : PF st1 (K54 s) (f_X11_readsNumber_46 k5 x1 x2 x4 x5 σ) := by
  unfold f_X11_readsNumber_46
  exact (PF.ite (fun _ => (h_k5 _ _ _ _ h)) (fun _ => (PF.bnd (PF.ret0 (K54.l (by omega) h)) (fun z1 hz1 => (PF.ret1 hz1)))))
theorem wo4_X11_readsNumber_5 {s : ST}    : ∀ (n : Nat) (x1 : Int32) (x2 : Int64) (x3 : Int32) (σ : ST), K54 s σ → PF st1 (K54 s) (f_X11_readsNumber_5  n x1 x2 x3 σ) := by
  intro n
  induction n with
  | zero => intro x1 x2 x3 σ h; rw [f_X11_readsNumber_5]; exact PF.none
  | succ n ih =>
    intro x1 x2 x3 σ h
    rw [f_X11_readsNumber_5]
    exact (PF.ite (fun _ => (PF.ret1 h)) (fun _ => (PF.bnd (wo4_X11_nextByte  h) (fun q1 hq1 => (PF.ite (fun _ => (PF.ite (fun _ => (PF.ite (fun _ => (wo4_X11_readsNumber_46 ih hq1)) (fun _ => (PF.bnd (wo4_X11_fails  hq1) (fun q3 hq3 => (PF.ite (fun _ => (PF.ret1 hq3)) (fun _ => PF.none))))))) (fun _ => (wo4_X11_readsNumber_46 ih hq1)))) (fun _ => (PF.ret1 hq1)))))))
theorem wo4_X11_readsNumber {s : ST} {p0 : Int32} {σ : ST}   (h : K54 s σ) : PF st1 (K54 s) (f_X11_readsNumber p0 σ) := by
  unfold f_X11_readsNumber
  exact (wo4_X11_readsNumber_5  _ _ _ _ _ h)
theorem wo4_X11_within {s : ST} {p0 : Int64} {p1 : Int64} {p2 : Int64} {σ : ST}   (h : K54 s σ) : PF st1 (K54 s) (f_X11_within p0 p1 p2 σ) := by
  unfold f_X11_within
  exact (PF.ite (fun _ => (PF.ret1 h)) (fun _ => (PF.ite (fun _ => (PF.ret1 h)) (fun _ => (PF.ret1 h)))))
theorem wo4_X11_readsInt_31 {s : ST}  {σ : ST}   (h : K54 s σ) : PF st1 (K54 s) (f_X11_readsInt_31 σ) := by
  unfold f_X11_readsInt_31
  exact (PF.ret1 h)
theorem wo4_X11_readsInt {s : ST} {p0 : Int32} {p1 : Int64} {p2 : Int64} {σ : ST}   (h : K54 s σ) : PF st1 (K54 s) (f_X11_readsInt p0 p1 p2 σ) := by
  unfold f_X11_readsInt
  exact (PF.bnd (wo4_X11_readsNumber  h) (fun q1 hq1 => (PF.ite (fun _ => (PF.ret1 hq1)) (fun _ => (PF.bnd (wo4_X11_within  hq1) (fun q3 hq3 => (PF.ite (fun _ => (PF.bnd (wo4_X11_fails  hq3) (fun q5 hq5 => (PF.ite (fun _ => (PF.ret1 hq5)) (fun _ => (wo4_X11_readsInt_31  hq5)))))) (fun _ => (wo4_X11_readsInt_31  hq3)))))))))
theorem wo4_X11_enters {s : ST} {p0 : Int32} {σ : ST}   (h : K54 s σ) : PF st0 (K54 s) (f_X11_enters p0 σ) := by
  unfold f_X11_enters
  exact (PF.ite (fun _ => (PF.bnd (PF.ret0 (K54.i rfl (K54.i rfl h))) (fun z2 hz2 => (PF.ret0 hz2)))) (fun _ => PF.none))
theorem wo4_X11_reads_96 {s : ST} {r_X11_reads : Int32 → Int32 → Int32 → Int32 → Int32 → ST → Option (Int32 × ST)} {r_X11_readsItems : Int32 → Int32 → Int32 → Int32 → ST → Option (Int32 × ST)} {r_X11_readsRecord : Int32 → Int32 → Int32 → Int32 → ST → Option (Int32 × ST)} {x2 : Int32} {x3 : Int32} {x4 : Int32} {x5 : Int32} {x7 : Int32} {x8 : Int32} {σ : ST} (h_r_X11_reads : ∀ (x1 : Int32) (x2 : Int32) (x3 : Int32) (x4 : Int32) (x5 : Int32) (σ : ST), K54 s σ → PF st1 (K54 s) (r_X11_reads x1 x2 x3 x4 x5 σ)) (h_r_X11_readsItems : ∀ (x1 : Int32) (x2 : Int32) (x3 : Int32) (x4 : Int32) (σ : ST), K54 s σ → PF st1 (K54 s) (r_X11_readsItems x1 x2 x3 x4 σ)) (h_r_X11_readsRecord : ∀ (x1 : Int32) (x2 : Int32) (x3 : Int32) (x4 : Int32) (σ : ST), K54 s σ → PF st1 (K54 s) (r_X11_readsRecord x1 x2 x3 x4 σ))  (h : K54 s σ) : PF st1 (K54 s) (f_X11_reads_96 r_X11_reads r_X11_readsItems r_X11_readsRecord x2 x3 x4 x5 x7 x8 σ) := by
  unfold f_X11_reads_96
  exact (PF.bnd (wo4_X11_enters  h) (fun q1 hq1 => (PF.bnd (h_r_X11_reads _ _ _ _ _ _ hq1) (fun q3 hq3 => (PF.ite (fun _ => (PF.ret1 (K54.i rfl hq3))) (fun _ => PF.none))))))
theorem wo4_X11_readsFlag_30 {s : ST}  {σ : ST}   (h : K54 s σ) : PF st1 (K54 s) (f_X11_readsFlag_30 σ) := by
  unfold f_X11_readsFlag_30
  exact (PF.ret1 h)
theorem wo4_X11_readsFlag {s : ST} {p0 : Int32} {σ : ST}   (h : K54 s σ) : PF st1 (K54 s) (f_X11_readsFlag p0 σ) := by
  unfold f_X11_readsFlag
  exact (PF.bnd (wo4_X11_nextByte  h) (fun q1 hq1 => (PF.ite (fun _ => (PF.ret1 (K54.l (by omega) hq1))) (fun _ => (PF.ite (fun _ => (wo4_X11_readsFlag_30  (K54.l (by omega) hq1))) (fun _ => (PF.bnd (wo4_X11_fails  (K54.l (by omega) hq1)) (fun q3 hq3 => (PF.ite (fun _ => (PF.ret1 hq3)) (fun _ => (wo4_X11_readsFlag_30  hq3)))))))))))
theorem wo4_X11_readsLeaf_229 {s : ST} {x5 : Int32} {y0 : Int32} {y1 : Int32} {σ : ST}   (h : K54 s σ) : PF st1 (K54 s) (f_X11_readsLeaf_229 x5 y0 y1 σ) := by
  unfold f_X11_readsLeaf_229
  exact (PF.ite (fun _ => (PF.ite (fun _ => (PF.ret1 (K54.i rfl h))) (fun _ => PF.none))) (fun _ => PF.none))
theorem wo4_X11_readsLeaf_209 {s : ST} {x3 : Int32} {x5 : Int32} {x6 : Int32} {y0 : Int64} {y1 : Int32} {σ : ST}   (h : K54 s σ) : PF st1 (K54 s) (f_X11_readsLeaf_209 x3 x5 x6 y0 y1 σ) := by
  unfold f_X11_readsLeaf_209
  exact (PF.ite (fun _ => (PF.ite (fun _ => (wo4_X11_readsLeaf_229  (K54.l (by omega) h))) (fun _ => (wo4_X11_readsLeaf_229  (K54.l (by omega) h))))) (fun _ => PF.none))
theorem wo4_X11_readsLeaf_189 {s : ST} {x3 : Int32} {x5 : Int32} {x6 : Int32} {y0 : Int64} {y1 : Int32} {σ : ST}   (h : K54 s σ) : PF st1 (K54 s) (f_X11_readsLeaf_189 x3 x5 x6 y0 y1 σ) := by
  unfold f_X11_readsLeaf_189
  exact (PF.ite (fun _ => (PF.ite (fun _ => (wo4_X11_readsLeaf_209  (K54.l (by omega) h))) (fun _ => (wo4_X11_readsLeaf_209  (K54.l (by omega) h))))) (fun _ => PF.none))
theorem wo4_Jxe99ae_isNaN_b9ae7 {s : ST} {p0 : UInt64} {σ : ST}   (h : K54 s σ) : PF st1 (K54 s) (f_Jxe99ae_isNaN_b9ae7 p0 σ) := by
  unfold f_Jxe99ae_isNaN_b9ae7
  exact (PF.ite (fun _ => (PF.ret1 h)) (fun _ => (PF.ret1 h)))
theorem wo4_Jxe99ae_doubleToLongBits_ccdee {s : ST} {p0 : UInt64} {σ : ST}   (h : K54 s σ) : PF st1 (K54 s) (f_Jxe99ae_doubleToLongBits_ccdee p0 σ) := by
  unfold f_Jxe99ae_doubleToLongBits_ccdee
  exact (PF.bnd (wo4_Jxe99ae_isNaN_b9ae7  h) (fun q1 hq1 => (PF.ite (fun _ => (PF.ret1 hq1)) (fun _ => (PF.ret1 hq1)))))
theorem wo4_X11_readsLeaf_155 {s : ST} {x3 : Int32} {x5 : Int32} {x6 : Int32} {x7 : Int32} {y0 : UInt64} {σ : ST}   (h : K54 s σ) : PF st1 (K54 s) (f_X11_readsLeaf_155 x3 x5 x6 x7 y0 σ) := by
  unfold f_X11_readsLeaf_155
  exact (PF.ite (fun _ => (wo4_X11_readsLeaf_189  h)) (fun _ => (PF.ite (fun _ => (wo4_X11_readsLeaf_189  h)) (fun _ => (PF.bnd (wo4_Jxe99ae_doubleToLongBits_ccdee  h) (fun q1 hq1 => (wo4_X11_readsLeaf_189  hq1)))))))
theorem wo4_X11_readsLeaf_132 {s : ST} {x3 : Int32} {x5 : Int32} {x6 : Int32} {y0 : Int32} {σ : ST}   (h : K54 s σ) : PF st1 (K54 s) (f_X11_readsLeaf_132 x3 x5 x6 y0 σ) := by
  unfold f_X11_readsLeaf_132
  exact (PF.ite (fun _ => (wo4_X11_readsLeaf_155  h)) (fun _ => (wo4_X11_readsLeaf_155  h)))
theorem wo4_X11_readsLeaf_108 {s : ST} {x2 : Int32} {x3 : Int32} {x5 : Int32} {x6 : Int32} {σ : ST}   (h : K54 s σ) : PF st1 (K54 s) (f_X11_readsLeaf_108 x2 x3 x5 x6 σ) := by
  unfold f_X11_readsLeaf_108
  exact (PF.ite (fun _ => (PF.ite (fun _ => (PF.ret1 h)) (fun _ => PF.none))) (fun _ => (PF.ite (fun _ => (PF.ite (fun _ => (PF.ret1 h)) (fun _ => PF.none))) (fun _ => (PF.ite (fun _ => (PF.ite (fun _ => (wo4_X11_readsLeaf_132  h)) (fun _ => (wo4_X11_readsLeaf_132  h)))) (fun _ => PF.none))))))
theorem wo4_X11_readsReal_7 {s : ST}    : ∀ (n : Nat) (x1 : Int32) (σ : ST), K54 s σ → PF st1 (K54 s) (f_X11_readsReal_7  n x1 σ) := by
  intro n
  induction n with
  | zero => intro x1 σ h; rw [f_X11_readsReal_7]; exact PF.none
  | succ n ih =>
    intro x1 σ h
    rw [f_X11_readsReal_7]
    exact (PF.ite (fun _ => (PF.ret1 h)) (fun _ => (PF.bnd (wo4_X11_nextByte  h) (fun q1 hq1 => (PF.ite (fun _ => (ih _ _ (K54.l (by omega) hq1))) (fun _ => (PF.ret1 hq1)))))))
theorem wo4_X11_readsReal {s : ST}  {σ : ST}   (h : K54 s σ) : PF st1 (K54 s) (f_X11_readsReal σ) := by
  unfold f_X11_readsReal
  exact (wo4_X11_readsReal_7  _ _ _ (K54.l (by omega) h))
theorem wo4_X11_isLetter {s : ST} {p0 : Int32} {σ : ST}   (h : K54 s σ) : PF st1 (K54 s) (f_X11_isLetter p0 σ) := by
  unfold f_X11_isLetter
  exact (PF.bnd (wo4_X11_within  h) (fun q1 hq1 => (PF.ite (fun _ => (PF.ret1 hq1)) (fun _ => PF.none))))
theorem wo4_X11_readsText_32 {s : ST}    : ∀ (n : Nat) (x1 : Int32) (x2 : Int32) (x3 : Int32) (σ : ST), K54 s σ → PF st1 (K54 s) (f_X11_readsText_32  n x1 x2 x3 σ) := by
  intro n
  induction n with
  | zero => intro x1 x2 x3 σ h; rw [f_X11_readsText_32]; exact PF.none
  | succ n ih =>
    intro x1 x2 x3 σ h
    rw [f_X11_readsText_32]
    exact (PF.ite (fun _ => (PF.ret1 h)) (fun _ => (PF.bnd (wo4_X11_nextByte  h) (fun q1 hq1 => (PF.ite (fun _ => (PF.bnd (wo4_X11_isLetter  hq1) (fun q3 hq3 => (PF.ite (fun _ => (PF.bnd (wo4_X11_fails  hq3) (fun q5 hq5 => (PF.ite (fun _ => (PF.ret1 hq5)) (fun _ => PF.none))))) (fun _ => (ih _ _ _ _ (K54.l (by omega) hq3))))))) (fun _ => (PF.ret1 hq1)))))))
theorem wo4_X11_readsText {s : ST} {p0 : Int32} {σ : ST}   (h : K54 s σ) : PF st1 (K54 s) (f_X11_readsText p0 σ) := by
  unfold f_X11_readsText
  exact (PF.bnd (wo4_X11_readsInt  h) (fun q1 hq1 => (PF.ite (fun _ => (PF.ret1 hq1)) (fun _ => (wo4_X11_readsText_32  _ _ _ _ _ (K54.i rfl (K54.l (by omega) hq1)))))))
theorem wo4_X11_readsLeaf {s : ST} {p0 : Int32} {p1 : Int32} {p2 : Int32} {σ : ST}   (h : K54 s σ) : PF st1 (K54 s) (f_X11_readsLeaf p0 p1 p2 σ) := by
  unfold f_X11_readsLeaf
  exact (PF.ite (fun _ => (PF.ite (fun _ => (PF.bnd (wo4_X11_readsFlag  (K54.l (by omega) h)) (fun q10 hq10 => (wo4_X11_readsLeaf_108  hq10)))) (fun _ => (PF.ite (fun _ => (PF.bnd (wo4_X11_readsInt  (K54.l (by omega) h)) (fun q8 hq8 => (wo4_X11_readsLeaf_108  hq8)))) (fun _ => (PF.ite (fun _ => (PF.bnd (wo4_X11_readsNumber  (K54.l (by omega) h)) (fun q6 hq6 => (wo4_X11_readsLeaf_108  hq6)))) (fun _ => (PF.ite (fun _ => (PF.bnd (wo4_X11_readsReal  (K54.l (by omega) h)) (fun q4 hq4 => (wo4_X11_readsLeaf_108  hq4)))) (fun _ => (PF.ite (fun _ => (PF.bnd (wo4_X11_readsText  (K54.l (by omega) h)) (fun q2 hq2 => (wo4_X11_readsLeaf_108  hq2)))) (fun _ => (wo4_X11_readsLeaf_108  (K54.l (by omega) h))))))))))))) (fun _ => PF.none))
theorem wo4_X11_reads_227 {s : ST} {r_X11_reads : Int32 → Int32 → Int32 → Int32 → Int32 → ST → Option (Int32 × ST)} {r_X11_readsItems : Int32 → Int32 → Int32 → Int32 → ST → Option (Int32 × ST)} {r_X11_readsRecord : Int32 → Int32 → Int32 → Int32 → ST → Option (Int32 × ST)} {x1 : Int32} {x3 : Int32} {x8 : Int32} {x9 : Int32} {σ : ST} (h_r_X11_reads : ∀ (x1 : Int32) (x2 : Int32) (x3 : Int32) (x4 : Int32) (x5 : Int32) (σ : ST), K54 s σ → PF st1 (K54 s) (r_X11_reads x1 x2 x3 x4 x5 σ)) (h_r_X11_readsItems : ∀ (x1 : Int32) (x2 : Int32) (x3 : Int32) (x4 : Int32) (σ : ST), K54 s σ → PF st1 (K54 s) (r_X11_readsItems x1 x2 x3 x4 σ)) (h_r_X11_readsRecord : ∀ (x1 : Int32) (x2 : Int32) (x3 : Int32) (x4 : Int32) (σ : ST), K54 s σ → PF st1 (K54 s) (r_X11_readsRecord x1 x2 x3 x4 σ))  (h : K54 s σ) : PF st1 (K54 s) (f_X11_reads_227 r_X11_reads r_X11_readsItems r_X11_readsRecord x1 x3 x8 x9 σ) := by
  unfold f_X11_reads_227
  exact (PF.ite (fun _ => (PF.ite (fun _ => (PF.bnd (h_r_X11_readsItems _ _ _ _ _ h) (fun q4 hq4 => (PF.ite (fun _ => (PF.ret1 hq4)) (fun _ => PF.none))))) (fun _ => (PF.ite (fun _ => (PF.bnd (h_r_X11_readsRecord _ _ _ _ _ h) (fun q6 hq6 => (PF.ite (fun _ => (PF.ret1 hq6)) (fun _ => PF.none))))) (fun _ => (PF.bnd (wo4_X11_readsLeaf  h) (fun q8 hq8 => (PF.ite (fun _ => (PF.ret1 hq8)) (fun _ => PF.none))))))))) (fun _ => PF.none))
theorem wo4_X11_joins_147 {s : ST} {x1 : Int32} {x2 : Int32} {σ : ST}   (h : K54 s σ) : PF st0 (K54 s) (f_X11_joins_147 x1 x2 σ) := by
  unfold f_X11_joins_147
  exact (PF.ite (fun _ => (PF.ite (fun _ => (PF.ret0 h)) (fun _ => (PF.ite (fun _ => (PF.ret0 (K54.i rfl h))) (fun _ => PF.none))))) (fun _ => PF.none))
theorem wo4_X11_joins_125 {s : ST} {x1 : Int32} {x2 : Int32} {x3 : Int32} {y0 : Int32} {y1 : Int32} {σ : ST}   (h : K54 s σ) : PF st0 (K54 s) (f_X11_joins_125 x1 x2 x3 y0 y1 σ) := by
  unfold f_X11_joins_125
  exact (PF.ite (fun _ => (PF.ite (fun _ => (PF.ite (fun _ => (wo4_X11_joins_147  (K54.i rfl (K54.i rfl h)))) (fun _ => PF.none))) (fun _ => (PF.ite (fun _ => (wo4_X11_joins_147  (K54.i rfl (K54.i rfl h)))) (fun _ => PF.none))))) (fun _ => PF.none))
theorem wo4_X11_joins_101 {s : ST} {x1 : Int32} {x2 : Int32} {x3 : Int32} {σ : ST}   (h : K54 s σ) : PF st0 (K54 s) (f_X11_joins_101 x1 x2 x3 σ) := by
  unfold f_X11_joins_101
  exact (PF.ite (fun _ => (PF.ite (fun _ => (wo4_X11_joins_125  h)) (fun _ => PF.none))) (fun _ => (PF.ite (fun _ => (wo4_X11_joins_125  h)) (fun _ => PF.none))))
theorem wo4_X11_joins_65 {s : ST}    : ∀ (n : Nat) (x1 : Int32) (x2 : Int32) (x3 : Int32) (x4 : Int32) (σ : ST), K54 s σ → PF st0 (K54 s) (f_X11_joins_65  n x1 x2 x3 x4 σ) := by
  intro n
  induction n with
  | zero => intro x1 x2 x3 x4 σ h; rw [f_X11_joins_65]; exact PF.none
  | succ n ih =>
    intro x1 x2 x3 x4 σ h
    rw [f_X11_joins_65]
    exact (PF.ite (fun _ => (wo4_X11_joins_101  h)) (fun _ => (PF.ite (fun _ => (PF.ite (fun _ => (PF.ite (fun _ => (wo4_X11_joins_101  h)) (fun _ => (ih _ _ _ _ _ h)))) (fun _ => PF.none))) (fun _ => PF.none))))
theorem wo4_X11_joins_51 {s : ST} {x1 : Int32} {x2 : Int32} {x3 : Int32} {y0 : Int32} {σ : ST}   (h : K54 s σ) : PF st0 (K54 s) (f_X11_joins_51 x1 x2 x3 y0 σ) := by
  unfold f_X11_joins_51
  exact (PF.ite (fun _ => (wo4_X11_joins_65  _ _ _ _ _ _ h)) (fun _ => (PF.ite (fun _ => (wo4_X11_joins_65  _ _ _ _ _ _ h)) (fun _ => PF.none))))
theorem wo4_X11_joins_45 {s : ST} {x1 : Int32} {x2 : Int32} {x3 : Int32} {σ : ST}   (h : K54 s σ) : PF st0 (K54 s) (f_X11_joins_45 x1 x2 x3 σ) := by
  unfold f_X11_joins_45
  exact (PF.ite (fun _ => (wo4_X11_joins_51  h)) (fun _ => PF.none))
theorem wo4_X11_joins {s : ST} {p0 : Int32} {p1 : Int32} {σ : ST}   (h : K54 s σ) : PF st0 (K54 s) (f_X11_joins p0 p1 σ) := by
  unfold f_X11_joins
  exact (PF.ite (fun _ => (PF.ite (fun _ => (wo4_X11_joins_45  (K54.i rfl h))) (fun _ => (PF.ite (fun _ => (PF.ite (fun _ => (PF.ite (fun _ => (wo4_X11_joins_45  (K54.i rfl h))) (fun _ => (wo4_X11_joins_51  (K54.i rfl h))))) (fun _ => PF.none))) (fun _ => PF.none))))) (fun _ => PF.none))
theorem wo4_X11_laysNode {s : ST} {p0 : Int32} {p1 : Int32} {p2 : Int32} {p3 : Int32} {σ : ST}   (h : K54 s σ) : PF st1 (K54 s) (f_X11_laysNode p0 p1 p2 p3 σ) := by
  unfold f_X11_laysNode
  exact (PF.ite (fun _ => (PF.bnd (PF.ret0 (K54.l (by omega) (K54.i rfl (K54.i rfl h)))) (fun z2 hz2 => (PF.bnd (PF.ret0 (K54.i rfl (K54.i rfl (K54.l (by omega) hz2)))) (fun z3 hz3 => (PF.bnd (PF.ret0 (K54.i rfl (K54.i rfl (K54.i rfl hz3)))) (fun z4 hz4 => (PF.bnd (PF.ret0 (K54.i rfl (K54.i rfl (K54.i rfl hz4)))) (fun z5 hz5 => (PF.ite (fun _ => (PF.ret1 hz5)) (fun _ => (PF.bnd (wo4_X11_joins  hz5) (fun q6 hq6 => (PF.ret1 hq6)))))))))))))) (fun _ => PF.none))
theorem wo4_X11_reads_180 {s : ST} {r_X11_reads : Int32 → Int32 → Int32 → Int32 → Int32 → ST → Option (Int32 × ST)} {r_X11_readsItems : Int32 → Int32 → Int32 → Int32 → ST → Option (Int32 × ST)} {r_X11_readsRecord : Int32 → Int32 → Int32 → Int32 → ST → Option (Int32 × ST)} {x1 : Int32} {x3 : Int32} {x4 : Int32} {x5 : Int32} {x7 : Int32} {y0 : Int32} {σ : ST} (h_r_X11_reads : ∀ (x1 : Int32) (x2 : Int32) (x3 : Int32) (x4 : Int32) (x5 : Int32) (σ : ST), K54 s σ → PF st1 (K54 s) (r_X11_reads x1 x2 x3 x4 x5 σ)) (h_r_X11_readsItems : ∀ (x1 : Int32) (x2 : Int32) (x3 : Int32) (x4 : Int32) (σ : ST), K54 s σ → PF st1 (K54 s) (r_X11_readsItems x1 x2 x3 x4 σ)) (h_r_X11_readsRecord : ∀ (x1 : Int32) (x2 : Int32) (x3 : Int32) (x4 : Int32) (σ : ST), K54 s σ → PF st1 (K54 s) (r_X11_readsRecord x1 x2 x3 x4 σ))  (h : K54 s σ) : PF st1 (K54 s) (f_X11_reads_180 r_X11_reads r_X11_readsItems r_X11_readsRecord x1 x3 x4 x5 x7 y0 σ) := by
  unfold f_X11_reads_180
  exact (PF.ite (fun _ => (wo4_X11_reads_227 h_r_X11_reads h_r_X11_readsItems h_r_X11_readsRecord h)) (fun _ => (PF.ite (fun _ => (PF.bnd (wo4_X11_fails  h) (fun q4 hq4 => (PF.ite (fun _ => (PF.ret1 hq4)) (fun _ => PF.none))))) (fun _ => (PF.ite (fun _ => (PF.bnd (wo4_X11_laysNode  h) (fun q2 hq2 => (wo4_X11_reads_227 h_r_X11_reads h_r_X11_readsItems h_r_X11_readsRecord hq2)))) (fun _ => PF.none))))))
theorem wo4_X11_reads_158 {s : ST} {r_X11_reads : Int32 → Int32 → Int32 → Int32 → Int32 → ST → Option (Int32 × ST)} {r_X11_readsItems : Int32 → Int32 → Int32 → Int32 → ST → Option (Int32 × ST)} {r_X11_readsRecord : Int32 → Int32 → Int32 → Int32 → ST → Option (Int32 × ST)} {x1 : Int32} {x2 : Int32} {x3 : Int32} {x4 : Int32} {x5 : Int32} {y0 : Int32} {σ : ST} (h_r_X11_reads : ∀ (x1 : Int32) (x2 : Int32) (x3 : Int32) (x4 : Int32) (x5 : Int32) (σ : ST), K54 s σ → PF st1 (K54 s) (r_X11_reads x1 x2 x3 x4 x5 σ)) (h_r_X11_readsItems : ∀ (x1 : Int32) (x2 : Int32) (x3 : Int32) (x4 : Int32) (σ : ST), K54 s σ → PF st1 (K54 s) (r_X11_readsItems x1 x2 x3 x4 σ)) (h_r_X11_readsRecord : ∀ (x1 : Int32) (x2 : Int32) (x3 : Int32) (x4 : Int32) (σ : ST), K54 s σ → PF st1 (K54 s) (r_X11_readsRecord x1 x2 x3 x4 σ))  (h : K54 s σ) : PF st1 (K54 s) (f_X11_reads_158 r_X11_reads r_X11_readsItems r_X11_readsRecord x1 x2 x3 x4 x5 y0 σ) := by
  unfold f_X11_reads_158
  exact (PF.ite (fun _ => (PF.ite (fun _ => (wo4_X11_reads_180 h_r_X11_reads h_r_X11_readsItems h_r_X11_readsRecord h)) (fun _ => PF.none))) (fun _ => (wo4_X11_reads_180 h_r_X11_reads h_r_X11_readsItems h_r_X11_readsRecord h)))
theorem wo4_X11_reads_157 {s : ST} {r_X11_reads : Int32 → Int32 → Int32 → Int32 → Int32 → ST → Option (Int32 × ST)} {r_X11_readsItems : Int32 → Int32 → Int32 → Int32 → ST → Option (Int32 × ST)} {r_X11_readsRecord : Int32 → Int32 → Int32 → Int32 → ST → Option (Int32 × ST)} {x1 : Int32} {x2 : Int32} {x3 : Int32} {x4 : Int32} {x5 : Int32} {σ : ST} (h_r_X11_reads : ∀ (x1 : Int32) (x2 : Int32) (x3 : Int32) (x4 : Int32) (x5 : Int32) (σ : ST), K54 s σ → PF st1 (K54 s) (r_X11_reads x1 x2 x3 x4 x5 σ)) (h_r_X11_readsItems : ∀ (x1 : Int32) (x2 : Int32) (x3 : Int32) (x4 : Int32) (σ : ST), K54 s σ → PF st1 (K54 s) (r_X11_readsItems x1 x2 x3 x4 σ)) (h_r_X11_readsRecord : ∀ (x1 : Int32) (x2 : Int32) (x3 : Int32) (x4 : Int32) (σ : ST), K54 s σ → PF st1 (K54 s) (r_X11_readsRecord x1 x2 x3 x4 σ))  (h : K54 s σ) : PF st1 (K54 s) (f_X11_reads_157 r_X11_reads r_X11_readsItems r_X11_readsRecord x1 x2 x3 x4 x5 σ) := by
  unfold f_X11_reads_157
  exact (wo4_X11_reads_158 h_r_X11_reads h_r_X11_readsItems h_r_X11_readsRecord h)
theorem wo4_T_X11_chosen {s : ST} {p0 : Int32} {p1 : Int32} {σ : ST} (h : K54 s σ) : PF st1 (K54 s) (f_T_X11_chosen p0 p1 σ) := (wo4R_X11_chosen FRB).1 _ _ _  h
theorem wo4_X11_reads {s : ST} {r_X11_reads : Int32 → Int32 → Int32 → Int32 → Int32 → ST → Option (Int32 × ST)} {r_X11_readsItems : Int32 → Int32 → Int32 → Int32 → ST → Option (Int32 × ST)} {r_X11_readsRecord : Int32 → Int32 → Int32 → Int32 → ST → Option (Int32 × ST)} {p0 : Int32} {p1 : Int32} {p2 : Int32} {p3 : Int32} {p4 : Int32} {σ : ST} (h_r_X11_reads : ∀ (x1 : Int32) (x2 : Int32) (x3 : Int32) (x4 : Int32) (x5 : Int32) (σ : ST), K54 s σ → PF st1 (K54 s) (r_X11_reads x1 x2 x3 x4 x5 σ)) (h_r_X11_readsItems : ∀ (x1 : Int32) (x2 : Int32) (x3 : Int32) (x4 : Int32) (σ : ST), K54 s σ → PF st1 (K54 s) (r_X11_readsItems x1 x2 x3 x4 σ)) (h_r_X11_readsRecord : ∀ (x1 : Int32) (x2 : Int32) (x3 : Int32) (x4 : Int32) (σ : ST), K54 s σ → PF st1 (K54 s) (r_X11_readsRecord x1 x2 x3 x4 σ))  (h : K54 s σ) : PF st1 (K54 s) (f_X11_reads r_X11_reads r_X11_readsItems r_X11_readsRecord p0 p1 p2 p3 p4 σ) := by
  unfold f_X11_reads
  exact (PF.ite (fun _ => (PF.ite (fun _ => (PF.ite (fun _ => (PF.bnd (wo4_X11_readsInt  h) (fun q5 hq5 => (PF.ite (fun _ => (PF.ret1 hq5)) (fun _ => (PF.ite (fun _ => (PF.ite (fun _ => (wo4_X11_reads_96 h_r_X11_reads h_r_X11_readsItems h_r_X11_readsRecord hq5)) (fun _ => (PF.bnd (wo4_T_X11_match hq5) (fun q8 hq8 => (PF.ite (fun _ => (PF.bnd (wo4_X11_fails  hq8) (fun q10 hq10 => (PF.ite (fun _ => (PF.ret1 hq10)) (fun _ => PF.none))))) (fun _ => (wo4_X11_reads_96 h_r_X11_reads h_r_X11_readsItems h_r_X11_readsRecord hq8)))))))) (fun _ => PF.none))))))) (fun _ => (PF.ite (fun _ => (wo4_X11_reads_157 h_r_X11_reads h_r_X11_readsItems h_r_X11_readsRecord h)) (fun _ => (PF.ite (fun _ => (PF.ite (fun _ => (PF.bnd (wo4_T_X11_chosen h) (fun q3 hq3 => (wo4_X11_reads_158 h_r_X11_reads h_r_X11_readsItems h_r_X11_readsRecord hq3)))) (fun _ => (wo4_X11_reads_157 h_r_X11_reads h_r_X11_readsItems h_r_X11_readsRecord h)))) (fun _ => PF.none))))))) (fun _ => PF.none))) (fun _ => (PF.bnd (wo4_X11_fails  h) (fun q12 hq12 => (PF.ite (fun _ => (PF.ret1 hq12)) (fun _ => PF.none))))))
theorem wo4_X11_readsItems_64 {s : ST} {r_X11_reads : Int32 → Int32 → Int32 → Int32 → Int32 → ST → Option (Int32 × ST)} {r_X11_readsItems : Int32 → Int32 → Int32 → Int32 → ST → Option (Int32 × ST)} {r_X11_readsRecord : Int32 → Int32 → Int32 → Int32 → ST → Option (Int32 × ST)} {k27 : Int32 → Int32 → Int32 → Int32 → Int32 → Int32 → ST → Option (Int32 × ST)} {x1 : Int32} {x2 : Int32} {x3 : Int32} {x4 : Int32} {x5 : Int32} {x6 : Int32} {y0 : Int32} {y1 : Int32} {σ : ST} (h_r_X11_reads : ∀ (x1 : Int32) (x2 : Int32) (x3 : Int32) (x4 : Int32) (x5 : Int32) (σ : ST), K54 s σ → PF st1 (K54 s) (r_X11_reads x1 x2 x3 x4 x5 σ)) (h_r_X11_readsItems : ∀ (x1 : Int32) (x2 : Int32) (x3 : Int32) (x4 : Int32) (σ : ST), K54 s σ → PF st1 (K54 s) (r_X11_readsItems x1 x2 x3 x4 σ)) (h_r_X11_readsRecord : ∀ (x1 : Int32) (x2 : Int32) (x3 : Int32) (x4 : Int32) (σ : ST), K54 s σ → PF st1 (K54 s) (r_X11_readsRecord x1 x2 x3 x4 σ)) (h_k27 : ∀ (x1 : Int32) (x2 : Int32) (x3 : Int32) (x4 : Int32) (x5 : Int32) (x6 : Int32) (σ : ST), K54 s σ → PF st1 (K54 s) (k27 x1 x2 x3 x4 x5 x6 σ))  (h : K54 s σ) : PF st1 (K54 s) (f_X11_readsItems_64 r_X11_reads r_X11_readsItems r_X11_readsRecord k27 x1 x2 x3 x4 x5 x6 y0 y1 σ) := by
  unfold f_X11_readsItems_64
  exact (PF.bnd (h_r_X11_reads _ _ _ _ _ _ h) (fun q1 hq1 => (PF.ite (fun _ => (PF.ret1 hq1)) (fun _ => (h_k27 _ _ _ _ _ _ _ (K54.i rfl hq1))))))
theorem wo4_X11_readsItems_27 {s : ST} {r_X11_reads : Int32 → Int32 → Int32 → Int32 → Int32 → ST → Option (Int32 × ST)} {r_X11_readsItems : Int32 → Int32 → Int32 → Int32 → ST → Option (Int32 × ST)} {r_X11_readsRecord : Int32 → Int32 → Int32 → Int32 → ST → Option (Int32 × ST)} (h_r_X11_reads : ∀ (x1 : Int32) (x2 : Int32) (x3 : Int32) (x4 : Int32) (x5 : Int32) (σ : ST), K54 s σ → PF st1 (K54 s) (r_X11_reads x1 x2 x3 x4 x5 σ)) (h_r_X11_readsItems : ∀ (x1 : Int32) (x2 : Int32) (x3 : Int32) (x4 : Int32) (σ : ST), K54 s σ → PF st1 (K54 s) (r_X11_readsItems x1 x2 x3 x4 σ)) (h_r_X11_readsRecord : ∀ (x1 : Int32) (x2 : Int32) (x3 : Int32) (x4 : Int32) (σ : ST), K54 s σ → PF st1 (K54 s) (r_X11_readsRecord x1 x2 x3 x4 σ))  : ∀ (n : Nat) (x1 : Int32) (x2 : Int32) (x3 : Int32) (x4 : Int32) (x5 : Int32) (x6 : Int32) (σ : ST), K54 s σ → PF st1 (K54 s) (f_X11_readsItems_27 r_X11_reads r_X11_readsItems r_X11_readsRecord n x1 x2 x3 x4 x5 x6 σ) := by
  intro n
  induction n with
  | zero => intro x1 x2 x3 x4 x5 x6 σ h; rw [f_X11_readsItems_27]; exact PF.none
  | succ n ih =>
    intro x1 x2 x3 x4 x5 x6 σ h
    rw [f_X11_readsItems_27]
    exact (PF.ite (fun _ => (PF.ret1 h)) (fun _ => (PF.bnd (wo4_X11_enters  h) (fun q1 hq1 => (PF.ite (fun _ => (PF.ite (fun _ => (PF.ite (fun _ => (wo4_X11_readsItems_64 h_r_X11_reads h_r_X11_readsItems h_r_X11_readsRecord ih hq1)) (fun _ => PF.none))) (fun _ => (wo4_X11_readsItems_64 h_r_X11_reads h_r_X11_readsItems h_r_X11_readsRecord ih hq1)))) (fun _ => PF.none))))))
theorem wo4_X11_readsItems {s : ST} {r_X11_reads : Int32 → Int32 → Int32 → Int32 → Int32 → ST → Option (Int32 × ST)} {r_X11_readsItems : Int32 → Int32 → Int32 → Int32 → ST → Option (Int32 × ST)} {r_X11_readsRecord : Int32 → Int32 → Int32 → Int32 → ST → Option (Int32 × ST)} {p0 : Int32} {p1 : Int32} {p2 : Int32} {p3 : Int32} {σ : ST} (h_r_X11_reads : ∀ (x1 : Int32) (x2 : Int32) (x3 : Int32) (x4 : Int32) (x5 : Int32) (σ : ST), K54 s σ → PF st1 (K54 s) (r_X11_reads x1 x2 x3 x4 x5 σ)) (h_r_X11_readsItems : ∀ (x1 : Int32) (x2 : Int32) (x3 : Int32) (x4 : Int32) (σ : ST), K54 s σ → PF st1 (K54 s) (r_X11_readsItems x1 x2 x3 x4 σ)) (h_r_X11_readsRecord : ∀ (x1 : Int32) (x2 : Int32) (x3 : Int32) (x4 : Int32) (σ : ST), K54 s σ → PF st1 (K54 s) (r_X11_readsRecord x1 x2 x3 x4 σ))  (h : K54 s σ) : PF st1 (K54 s) (f_X11_readsItems r_X11_reads r_X11_readsItems r_X11_readsRecord p0 p1 p2 p3 σ) := by
  unfold f_X11_readsItems
  exact (PF.bnd (wo4_X11_readsInt  h) (fun q1 hq1 => (PF.ite (fun _ => (PF.ret1 hq1)) (fun _ => (wo4_X11_readsItems_27 h_r_X11_reads h_r_X11_readsItems h_r_X11_readsRecord _ _ _ _ _ _ _ _ hq1)))))
theorem wo4_X11_readsRecord_286 {s : ST} {r_X11_reads : Int32 → Int32 → Int32 → Int32 → Int32 → ST → Option (Int32 × ST)} {r_X11_readsItems : Int32 → Int32 → Int32 → Int32 → ST → Option (Int32 × ST)} {r_X11_readsRecord : Int32 → Int32 → Int32 → Int32 → ST → Option (Int32 × ST)} {k217 : Int32 → Int32 → Int32 → Int32 → Int32 → ST → Option (Int32 × ST)} {x1 : Int32} {x2 : Int32} {x4 : Int32} {x6 : Int32} {x7 : Int32} {σ : ST} (h_r_X11_reads : ∀ (x1 : Int32) (x2 : Int32) (x3 : Int32) (x4 : Int32) (x5 : Int32) (σ : ST), K54 s σ → PF st1 (K54 s) (r_X11_reads x1 x2 x3 x4 x5 σ)) (h_r_X11_readsItems : ∀ (x1 : Int32) (x2 : Int32) (x3 : Int32) (x4 : Int32) (σ : ST), K54 s σ → PF st1 (K54 s) (r_X11_readsItems x1 x2 x3 x4 σ)) (h_r_X11_readsRecord : ∀ (x1 : Int32) (x2 : Int32) (x3 : Int32) (x4 : Int32) (σ : ST), K54 s σ → PF st1 (K54 s) (r_X11_readsRecord x1 x2 x3 x4 σ)) (h_k217 : ∀ (x1 : Int32) (x2 : Int32) (x3 : Int32) (x4 : Int32) (x5 : Int32) (σ : ST), K54 s σ → PF st1 (K54 s) (k217 x1 x2 x3 x4 x5 σ))  (h : K54 s σ) : PF st1 (K54 s) (f_X11_readsRecord_286 r_X11_reads r_X11_readsItems r_X11_readsRecord k217 x1 x2 x4 x6 x7 σ) := by
  unfold f_X11_readsRecord_286
  exact (h_k217 _ _ _ _ _ _ h)
theorem wo4_X11_firstOf {s : ST} {p0 : Int32} {σ : ST}   (h : K54 s σ) : PF st1 (K54 s) (f_X11_firstOf p0 σ) := by
  unfold f_X11_firstOf
  exact (PF.ite (fun _ => (PF.ite (fun _ => (PF.ite (fun _ => (PF.ret1 h)) (fun _ => PF.none))) (fun _ => (PF.ret1 h)))) (fun _ => PF.none))
theorem wo4_X11_fills_103 {s : ST} {x6 : Int32} {y0 : Int32} {y1 : Int32} {σ : ST}   (h : K54 s σ) : PF st0 (K54 s) (f_X11_fills_103 x6 y0 y1 σ) := by
  unfold f_X11_fills_103
  exact (PF.ite (fun _ => (PF.ite (fun _ => (PF.ret0 (K54.i rfl (K54.i rfl h)))) (fun _ => PF.none))) (fun _ => PF.none))
theorem wo4_X11_fills_45 {s : ST} {x1 : Int32} {x5 : Int32} {y0 : Int32} {y1 : Int32} {y2 : Int32} {y3 : Int32} {σ : ST}   (h : K54 s σ) : PF st0 (K54 s) (f_X11_fills_45 x1 x5 y0 y1 y2 y3 σ) := by
  unfold f_X11_fills_45
  exact (PF.bnd (wo4_X11_laysNode  h) (fun q1 hq1 => (PF.ite (fun _ => (PF.ite (fun _ => (PF.bnd (PF.ret0 (K54.l (by omega) (K54.l (by omega) hq1))) (fun z5 hz5 => (PF.ite (fun _ => (PF.ite (fun _ => (wo4_X11_fills_103  hz5)) (fun _ => (wo4_X11_fills_103  hz5)))) (fun _ => PF.none))))) (fun _ => PF.none))) (fun _ => PF.none))))
theorem wo4_X11_fills {s : ST} {p0 : Int32} {p1 : Int32} {p2 : Int32} {σ : ST}   (h : K54 s σ) : PF st0 (K54 s) (f_X11_fills p0 p1 p2 σ) := by
  unfold f_X11_fills
  exact (PF.ite (fun _ => (PF.bnd (wo4_X11_firstOf  h) (fun q2 hq2 => (PF.ite (fun _ => (PF.ite (fun _ => (wo4_X11_fills_45  hq2)) (fun _ => (wo4_X11_fills_45  hq2)))) (fun _ => PF.none))))) (fun _ => PF.none))
theorem wo4_X11_readsRecord_217 {s : ST} {r_X11_reads : Int32 → Int32 → Int32 → Int32 → Int32 → ST → Option (Int32 × ST)} {r_X11_readsItems : Int32 → Int32 → Int32 → Int32 → ST → Option (Int32 × ST)} {r_X11_readsRecord : Int32 → Int32 → Int32 → Int32 → ST → Option (Int32 × ST)} (h_r_X11_reads : ∀ (x1 : Int32) (x2 : Int32) (x3 : Int32) (x4 : Int32) (x5 : Int32) (σ : ST), K54 s σ → PF st1 (K54 s) (r_X11_reads x1 x2 x3 x4 x5 σ)) (h_r_X11_readsItems : ∀ (x1 : Int32) (x2 : Int32) (x3 : Int32) (x4 : Int32) (σ : ST), K54 s σ → PF st1 (K54 s) (r_X11_readsItems x1 x2 x3 x4 σ)) (h_r_X11_readsRecord : ∀ (x1 : Int32) (x2 : Int32) (x3 : Int32) (x4 : Int32) (σ : ST), K54 s σ → PF st1 (K54 s) (r_X11_readsRecord x1 x2 x3 x4 σ))  : ∀ (n : Nat) (x1 : Int32) (x2 : Int32) (x3 : Int32) (x4 : Int32) (x5 : Int32) (σ : ST), K54 s σ → PF st1 (K54 s) (f_X11_readsRecord_217 r_X11_reads r_X11_readsItems r_X11_readsRecord n x1 x2 x3 x4 x5 σ) := by
  intro n
  induction n with
  | zero => intro x1 x2 x3 x4 x5 σ h; rw [f_X11_readsRecord_217]; exact PF.none
  | succ n ih =>
    intro x1 x2 x3 x4 x5 σ h
    rw [f_X11_readsRecord_217]
    exact (PF.ite (fun _ => (PF.ret1 h)) (fun _ => (PF.ite (fun _ => (PF.ite (fun _ => (PF.ret1 h)) (fun _ => (PF.ite (fun _ => (PF.bnd (wo4_X11_fieldFor  h) (fun q3 hq3 => (PF.ite (fun _ => (wo4_X11_readsRecord_286 h_r_X11_reads h_r_X11_readsItems h_r_X11_readsRecord ih hq3)) (fun _ => (PF.ite (fun _ => (PF.bnd (wo4_X11_fails  hq3) (fun q7 hq7 => (PF.ite (fun _ => (PF.ret1 hq7)) (fun _ => PF.none))))) (fun _ => (PF.bnd (wo4_X11_fills  hq3) (fun q5 hq5 => (wo4_X11_readsRecord_286 h_r_X11_reads h_r_X11_readsItems h_r_X11_readsRecord ih hq5)))))))))) (fun _ => PF.none))))) (fun _ => PF.none))))
theorem wo4_X11_readsRecord_198 {s : ST} {r_X11_reads : Int32 → Int32 → Int32 → Int32 → Int32 → ST → Option (Int32 × ST)} {r_X11_readsItems : Int32 → Int32 → Int32 → Int32 → ST → Option (Int32 × ST)} {r_X11_readsRecord : Int32 → Int32 → Int32 → Int32 → ST → Option (Int32 × ST)} {k43 : Int32 → Int32 → Int32 → Int32 → Int32 → Int32 → Int32 → ST → Option (Int32 × ST)} {x1 : Int32} {x2 : Int32} {x3 : Int32} {x4 : Int32} {x5 : Int32} {x6 : Int32} {x7 : Int32} {σ : ST} (h_r_X11_reads : ∀ (x1 : Int32) (x2 : Int32) (x3 : Int32) (x4 : Int32) (x5 : Int32) (σ : ST), K54 s σ → PF st1 (K54 s) (r_X11_reads x1 x2 x3 x4 x5 σ)) (h_r_X11_readsItems : ∀ (x1 : Int32) (x2 : Int32) (x3 : Int32) (x4 : Int32) (σ : ST), K54 s σ → PF st1 (K54 s) (r_X11_readsItems x1 x2 x3 x4 σ)) (h_r_X11_readsRecord : ∀ (x1 : Int32) (x2 : Int32) (x3 : Int32) (x4 : Int32) (σ : ST), K54 s σ → PF st1 (K54 s) (r_X11_readsRecord x1 x2 x3 x4 σ)) (h_k43 : ∀ (x1 : Int32) (x2 : Int32) (x3 : Int32) (x4 : Int32) (x5 : Int32) (x6 : Int32) (x7 : Int32) (σ : ST), K54 s σ → PF st1 (K54 s) (k43 x1 x2 x3 x4 x5 x6 x7 σ))  (h : K54 s σ) : PF st1 (K54 s) (f_X11_readsRecord_198 r_X11_reads r_X11_readsItems r_X11_readsRecord k43 x1 x2 x3 x4 x5 x6 x7 σ) := by
  unfold f_X11_readsRecord_198
  exact (h_k43 _ _ _ _ _ _ _ _ (K54.i rfl h))
theorem wo4_X11_readsRecord_171 {s : ST} {r_X11_reads : Int32 → Int32 → Int32 → Int32 → Int32 → ST → Option (Int32 × ST)} {r_X11_readsItems : Int32 → Int32 → Int32 → Int32 → ST → Option (Int32 × ST)} {r_X11_readsRecord : Int32 → Int32 → Int32 → Int32 → ST → Option (Int32 × ST)} {k43 : Int32 → Int32 → Int32 → Int32 → Int32 → Int32 → Int32 → ST → Option (Int32 × ST)} {x1 : Int32} {x2 : Int32} {x3 : Int32} {x4 : Int32} {x5 : Int32} {x6 : Int32} {x7 : Int32} {x8 : Int32} {x10 : Int32} {σ : ST} (h_r_X11_reads : ∀ (x1 : Int32) (x2 : Int32) (x3 : Int32) (x4 : Int32) (x5 : Int32) (σ : ST), K54 s σ → PF st1 (K54 s) (r_X11_reads x1 x2 x3 x4 x5 σ)) (h_r_X11_readsItems : ∀ (x1 : Int32) (x2 : Int32) (x3 : Int32) (x4 : Int32) (σ : ST), K54 s σ → PF st1 (K54 s) (r_X11_readsItems x1 x2 x3 x4 σ)) (h_r_X11_readsRecord : ∀ (x1 : Int32) (x2 : Int32) (x3 : Int32) (x4 : Int32) (σ : ST), K54 s σ → PF st1 (K54 s) (r_X11_readsRecord x1 x2 x3 x4 σ)) (h_k43 : ∀ (x1 : Int32) (x2 : Int32) (x3 : Int32) (x4 : Int32) (x5 : Int32) (x6 : Int32) (x7 : Int32) (σ : ST), K54 s σ → PF st1 (K54 s) (k43 x1 x2 x3 x4 x5 x6 x7 σ))  (h : K54 s σ) : PF st1 (K54 s) (f_X11_readsRecord_171 r_X11_reads r_X11_readsItems r_X11_readsRecord k43 x1 x2 x3 x4 x5 x6 x7 x8 x10 σ) := by
  unfold f_X11_readsRecord_171
  exact (PF.ite (fun _ => (PF.ite (fun _ => (PF.bnd (h_r_X11_reads _ _ _ _ _ _ h) (fun q2 hq2 => (PF.ite (fun _ => (PF.ret1 hq2)) (fun _ => (wo4_X11_readsRecord_198 h_r_X11_reads h_r_X11_readsItems h_r_X11_readsRecord h_k43 hq2)))))) (fun _ => PF.none))) (fun _ => (wo4_X11_readsRecord_198 h_r_X11_reads h_r_X11_readsItems h_r_X11_readsRecord h_k43 h)))
theorem wo4_X11_readsRecord_165 {s : ST} {r_X11_reads : Int32 → Int32 → Int32 → Int32 → Int32 → ST → Option (Int32 × ST)} {r_X11_readsItems : Int32 → Int32 → Int32 → Int32 → ST → Option (Int32 × ST)} {r_X11_readsRecord : Int32 → Int32 → Int32 → Int32 → ST → Option (Int32 × ST)} {k43 : Int32 → Int32 → Int32 → Int32 → Int32 → Int32 → Int32 → ST → Option (Int32 × ST)} {k83 : Int32 → Int32 → Int32 → Int32 → Int32 → Int32 → Int32 → Int32 → Int32 → Int32 → Int32 → ST → Option (Int32 × ST)} {x1 : Int32} {x2 : Int32} {x3 : Int32} {x4 : Int32} {x5 : Int32} {x6 : Int32} {x7 : Int32} {x8 : Int32} {x9 : Int32} {x10 : Int32} {x11 : Int32} {σ : ST} (h_r_X11_reads : ∀ (x1 : Int32) (x2 : Int32) (x3 : Int32) (x4 : Int32) (x5 : Int32) (σ : ST), K54 s σ → PF st1 (K54 s) (r_X11_reads x1 x2 x3 x4 x5 σ)) (h_r_X11_readsItems : ∀ (x1 : Int32) (x2 : Int32) (x3 : Int32) (x4 : Int32) (σ : ST), K54 s σ → PF st1 (K54 s) (r_X11_readsItems x1 x2 x3 x4 σ)) (h_r_X11_readsRecord : ∀ (x1 : Int32) (x2 : Int32) (x3 : Int32) (x4 : Int32) (σ : ST), K54 s σ → PF st1 (K54 s) (r_X11_readsRecord x1 x2 x3 x4 σ)) (h_k43 : ∀ (x1 : Int32) (x2 : Int32) (x3 : Int32) (x4 : Int32) (x5 : Int32) (x6 : Int32) (x7 : Int32) (σ : ST), K54 s σ → PF st1 (K54 s) (k43 x1 x2 x3 x4 x5 x6 x7 σ)) (h_k83 : ∀ (x1 : Int32) (x2 : Int32) (x3 : Int32) (x4 : Int32) (x5 : Int32) (x6 : Int32) (x7 : Int32) (x8 : Int32) (x9 : Int32) (x10 : Int32) (x11 : Int32) (σ : ST), K54 s σ → PF st1 (K54 s) (k83 x1 x2 x3 x4 x5 x6 x7 x8 x9 x10 x11 σ))  (h : K54 s σ) : PF st1 (K54 s) (f_X11_readsRecord_165 r_X11_reads r_X11_readsItems r_X11_readsRecord k43 k83 x1 x2 x3 x4 x5 x6 x7 x8 x9 x10 x11 σ) := by
  unfold f_X11_readsRecord_165
  exact (h_k83 _ _ _ _ _ _ _ _ _ _ _ _ h)
theorem wo4_X11_readsRecord_83 {s : ST} {r_X11_reads : Int32 → Int32 → Int32 → Int32 → Int32 → ST → Option (Int32 × ST)} {r_X11_readsItems : Int32 → Int32 → Int32 → Int32 → ST → Option (Int32 × ST)} {r_X11_readsRecord : Int32 → Int32 → Int32 → Int32 → ST → Option (Int32 × ST)} {k43 : Int32 → Int32 → Int32 → Int32 → Int32 → Int32 → Int32 → ST → Option (Int32 × ST)} (h_r_X11_reads : ∀ (x1 : Int32) (x2 : Int32) (x3 : Int32) (x4 : Int32) (x5 : Int32) (σ : ST), K54 s σ → PF st1 (K54 s) (r_X11_reads x1 x2 x3 x4 x5 σ)) (h_r_X11_readsItems : ∀ (x1 : Int32) (x2 : Int32) (x3 : Int32) (x4 : Int32) (σ : ST), K54 s σ → PF st1 (K54 s) (r_X11_readsItems x1 x2 x3 x4 σ)) (h_r_X11_readsRecord : ∀ (x1 : Int32) (x2 : Int32) (x3 : Int32) (x4 : Int32) (σ : ST), K54 s σ → PF st1 (K54 s) (r_X11_readsRecord x1 x2 x3 x4 σ)) (h_k43 : ∀ (x1 : Int32) (x2 : Int32) (x3 : Int32) (x4 : Int32) (x5 : Int32) (x6 : Int32) (x7 : Int32) (σ : ST), K54 s σ → PF st1 (K54 s) (k43 x1 x2 x3 x4 x5 x6 x7 σ))  : ∀ (n : Nat) (x1 : Int32) (x2 : Int32) (x3 : Int32) (x4 : Int32) (x5 : Int32) (x6 : Int32) (x7 : Int32) (x8 : Int32) (x9 : Int32) (x10 : Int32) (x11 : Int32) (σ : ST), K54 s σ → PF st1 (K54 s) (f_X11_readsRecord_83 r_X11_reads r_X11_readsItems r_X11_readsRecord k43 n x1 x2 x3 x4 x5 x6 x7 x8 x9 x10 x11 σ) := by
  intro n
  induction n with
  | zero => intro x1 x2 x3 x4 x5 x6 x7 x8 x9 x10 x11 σ h; rw [f_X11_readsRecord_83]; exact PF.none
  | succ n ih =>
    intro x1 x2 x3 x4 x5 x6 x7 x8 x9 x10 x11 σ h
    rw [f_X11_readsRecord_83]
    exact (PF.ite (fun _ => (wo4_X11_readsRecord_171 h_r_X11_reads h_r_X11_readsItems h_r_X11_readsRecord h_k43 h)) (fun _ => (PF.ite (fun _ => (PF.ite (fun _ => (wo4_X11_readsRecord_171 h_r_X11_reads h_r_X11_readsItems h_r_X11_readsRecord h_k43 h)) (fun _ => (PF.ite (fun _ => (PF.bnd (wo4_X11_fieldFor  h) (fun q3 hq3 => (PF.ite (fun _ => (PF.ite (fun _ => (PF.ite (fun _ => (PF.bnd (h_r_X11_reads _ _ _ _ _ _ (K54.i rfl hq3)) (fun q7 hq7 => (PF.ite (fun _ => (PF.ret1 hq7)) (fun _ => (wo4_X11_readsRecord_165 h_r_X11_reads h_r_X11_readsItems h_r_X11_readsRecord h_k43 ih hq7)))))) (fun _ => PF.none))) (fun _ => PF.none))) (fun _ => (wo4_X11_readsRecord_165 h_r_X11_reads h_r_X11_readsItems h_r_X11_readsRecord h_k43 ih hq3)))))) (fun _ => PF.none))))) (fun _ => PF.none))))
theorem wo4_X11_readsRecord_43 {s : ST} {r_X11_reads : Int32 → Int32 → Int32 → Int32 → Int32 → ST → Option (Int32 × ST)} {r_X11_readsItems : Int32 → Int32 → Int32 → Int32 → ST → Option (Int32 × ST)} {r_X11_readsRecord : Int32 → Int32 → Int32 → Int32 → ST → Option (Int32 × ST)} (h_r_X11_reads : ∀ (x1 : Int32) (x2 : Int32) (x3 : Int32) (x4 : Int32) (x5 : Int32) (σ : ST), K54 s σ → PF st1 (K54 s) (r_X11_reads x1 x2 x3 x4 x5 σ)) (h_r_X11_readsItems : ∀ (x1 : Int32) (x2 : Int32) (x3 : Int32) (x4 : Int32) (σ : ST), K54 s σ → PF st1 (K54 s) (r_X11_readsItems x1 x2 x3 x4 σ)) (h_r_X11_readsRecord : ∀ (x1 : Int32) (x2 : Int32) (x3 : Int32) (x4 : Int32) (σ : ST), K54 s σ → PF st1 (K54 s) (r_X11_readsRecord x1 x2 x3 x4 σ))  : ∀ (n : Nat) (x1 : Int32) (x2 : Int32) (x3 : Int32) (x4 : Int32) (x5 : Int32) (x6 : Int32) (x7 : Int32) (σ : ST), K54 s σ → PF st1 (K54 s) (f_X11_readsRecord_43 r_X11_reads r_X11_readsItems r_X11_readsRecord n x1 x2 x3 x4 x5 x6 x7 σ) := by
  intro n
  induction n with
  | zero => intro x1 x2 x3 x4 x5 x6 x7 σ h; rw [f_X11_readsRecord_43]; exact PF.none
  | succ n ih =>
    intro x1 x2 x3 x4 x5 x6 x7 σ h
    rw [f_X11_readsRecord_43]
    exact (PF.ite (fun _ => (PF.ite (fun _ => (wo4_X11_readsRecord_217 h_r_X11_reads h_r_X11_readsItems h_r_X11_readsRecord _ _ _ _ _ _ _ h)) (fun _ => (PF.bnd (wo4_X11_enters  h) (fun q2 hq2 => (wo4_X11_readsRecord_83 h_r_X11_reads h_r_X11_readsItems h_r_X11_readsRecord ih _ _ _ _ _ _ _ _ _ _ _ _ _ hq2)))))) (fun _ => PF.none))
theorem wo4_X11_readsRecord_38 {s : ST} {r_X11_reads : Int32 → Int32 → Int32 → Int32 → Int32 → ST → Option (Int32 × ST)} {r_X11_readsItems : Int32 → Int32 → Int32 → Int32 → ST → Option (Int32 × ST)} {r_X11_readsRecord : Int32 → Int32 → Int32 → Int32 → ST → Option (Int32 × ST)} {x1 : Int32} {x2 : Int32} {x3 : Int32} {x4 : Int32} {x5 : Int32} {y0 : Int32} {σ : ST} (h_r_X11_reads : ∀ (x1 : Int32) (x2 : Int32) (x3 : Int32) (x4 : Int32) (x5 : Int32) (σ : ST), K54 s σ → PF st1 (K54 s) (r_X11_reads x1 x2 x3 x4 x5 σ)) (h_r_X11_readsItems : ∀ (x1 : Int32) (x2 : Int32) (x3 : Int32) (x4 : Int32) (σ : ST), K54 s σ → PF st1 (K54 s) (r_X11_readsItems x1 x2 x3 x4 σ)) (h_r_X11_readsRecord : ∀ (x1 : Int32) (x2 : Int32) (x3 : Int32) (x4 : Int32) (σ : ST), K54 s σ → PF st1 (K54 s) (r_X11_readsRecord x1 x2 x3 x4 σ))  (h : K54 s σ) : PF st1 (K54 s) (f_X11_readsRecord_38 r_X11_reads r_X11_readsItems r_X11_readsRecord x1 x2 x3 x4 x5 y0 σ) := by
  unfold f_X11_readsRecord_38
  exact (wo4_X11_readsRecord_43 h_r_X11_reads h_r_X11_readsItems h_r_X11_readsRecord _ _ _ _ _ _ _ _ _ h)
theorem wo4_X11_readsRecord {s : ST} {r_X11_reads : Int32 → Int32 → Int32 → Int32 → Int32 → ST → Option (Int32 × ST)} {r_X11_readsItems : Int32 → Int32 → Int32 → Int32 → ST → Option (Int32 × ST)} {r_X11_readsRecord : Int32 → Int32 → Int32 → Int32 → ST → Option (Int32 × ST)} {p0 : Int32} {p1 : Int32} {p2 : Int32} {p3 : Int32} {σ : ST} (h_r_X11_reads : ∀ (x1 : Int32) (x2 : Int32) (x3 : Int32) (x4 : Int32) (x5 : Int32) (σ : ST), K54 s σ → PF st1 (K54 s) (r_X11_reads x1 x2 x3 x4 x5 σ)) (h_r_X11_readsItems : ∀ (x1 : Int32) (x2 : Int32) (x3 : Int32) (x4 : Int32) (σ : ST), K54 s σ → PF st1 (K54 s) (r_X11_readsItems x1 x2 x3 x4 σ)) (h_r_X11_readsRecord : ∀ (x1 : Int32) (x2 : Int32) (x3 : Int32) (x4 : Int32) (σ : ST), K54 s σ → PF st1 (K54 s) (r_X11_readsRecord x1 x2 x3 x4 σ))  (h : K54 s σ) : PF st1 (K54 s) (f_X11_readsRecord r_X11_reads r_X11_readsItems r_X11_readsRecord p0 p1 p2 p3 σ) := by
  unfold f_X11_readsRecord
  exact (PF.ite (fun _ => (PF.ite (fun _ => (PF.ite (fun _ => (wo4_X11_readsRecord_38 h_r_X11_reads h_r_X11_readsItems h_r_X11_readsRecord h)) (fun _ => PF.none))) (fun _ => (wo4_X11_readsRecord_38 h_r_X11_reads h_r_X11_readsItems h_r_X11_readsRecord h)))) (fun _ => PF.none))
theorem wo4R_X11_reads {s : ST} : ∀ n : Nat, (∀ (p0 : Int32) (p1 : Int32) (p2 : Int32) (p3 : Int32) (p4 : Int32) (σ : ST), K54 s σ → PF st1 (K54 s) ((R_X11_reads n).1 p0 p1 p2 p3 p4 σ)) ∧ (∀ (p0 : Int32) (p1 : Int32) (p2 : Int32) (p3 : Int32) (σ : ST), K54 s σ → PF st1 (K54 s) ((R_X11_reads n).2.1 p0 p1 p2 p3 σ)) ∧ (∀ (p0 : Int32) (p1 : Int32) (p2 : Int32) (p3 : Int32) (σ : ST), K54 s σ → PF st1 (K54 s) ((R_X11_reads n).2.2 p0 p1 p2 p3 σ)) := by
  intro n
  induction n with
  | zero => exact ⟨fun _ _ _ _ _ _ _ => PF.none, fun _ _ _ _ _ _ => PF.none, fun _ _ _ _ _ _ => PF.none⟩
  | succ n ih => exact ⟨fun _ _ _ _ _ _ h => wo4_X11_reads (ih.1) (ih.2.1) (ih.2.2)  h, fun _ _ _ _ _ h => wo4_X11_readsItems (ih.1) (ih.2.1) (ih.2.2)  h, fun _ _ _ _ _ h => wo4_X11_readsRecord (ih.1) (ih.2.1) (ih.2.2)  h⟩
theorem wo4_T_X11_reads {s : ST} {p0 : Int32} {p1 : Int32} {p2 : Int32} {p3 : Int32} {p4 : Int32} {σ : ST} (h : K54 s σ) : PF st1 (K54 s) (f_T_X11_reads p0 p1 p2 p3 p4 σ) := (wo4R_X11_reads FRB).1 _ _ _ _ _ _  h
theorem wo4_X11_readsAll_106 {s : ST} {x4 : Int32} {σ : ST}   (h : K54 s σ) : PF st1 (K54 s) (f_X11_readsAll_106 x4 σ) := by
  unfold f_X11_readsAll_106
  exact (PF.ite (fun _ => (PF.ret1 h)) (fun _ => (PF.ret1 h)))
theorem wo4_X11_readsAll {s : ST} {p0 : Int32} {p1 : Int32} {σ : ST}   (h : K54 s σ) : PF st1 (K54 s) (f_X11_readsAll p0 p1 σ) := by
  unfold f_X11_readsAll
  exact (PF.ite (fun _ => (PF.bnd (wo4_X11_laysPairs  h) (fun q2 hq2 => (PF.ite (fun _ => (PF.ret1 (K54.i rfl hq2))) (fun _ => (PF.bnd (PF.ret0 (K54.i rfl (K54.i rfl (K54.i rfl (K54.i rfl hq2))))) (fun z4 hz4 => (PF.bnd (wo4_X11_rootType (K54.i rfl (K54.i rfl hz4))) (fun q5 hq5 => (PF.bnd (wo4_T_X11_reads hq5) (fun q7 hq7 => (PF.ite (fun _ => (wo4_X11_readsAll_106  hq7)) (fun _ => (PF.ite (fun _ => (wo4_X11_readsAll_106  hq7)) (fun _ => (PF.bnd (wo4_X11_fails  hq7) (fun q9 hq9 => (wo4_X11_readsAll_106  hq9)))))))))))))))))) (fun _ => PF.none))
theorem wo4_X11_orders_136 {s : ST} {r_X11_orders : Int32 → ST → Option (ST)} (h_r_X11_orders : ∀ (x1 : Int32) (σ : ST), K54 s σ → PF st0 (K54 s) (r_X11_orders x1 σ))  : ∀ (n : Nat) (x1 : Int32) (σ : ST), K54 s σ → PF st0 (K54 s) (f_X11_orders_136 r_X11_orders n x1 σ) := by
  intro n
  induction n with
  | zero => intro x1 σ h; rw [f_X11_orders_136]; exact PF.none
  | succ n ih =>
    intro x1 σ h
    rw [f_X11_orders_136]
    exact (PF.ite (fun _ => (PF.ret0 h)) (fun _ => (PF.bnd (h_r_X11_orders _ _ h) (fun q1 hq1 => (PF.ite (fun _ => (ih _ _ hq1)) (fun _ => PF.none))))))
theorem wo4_X11_orders_70 {s : ST} {r_X11_orders : Int32 → ST → Option (ST)} {x1 : Int32} {x2 : Int32} {y0 : Int32} {y1 : Int32} {σ : ST} (h_r_X11_orders : ∀ (x1 : Int32) (σ : ST), K54 s σ → PF st0 (K54 s) (r_X11_orders x1 σ))  (h : K54 s σ) : PF st0 (K54 s) (f_X11_orders_70 r_X11_orders x1 x2 y0 y1 σ) := by
  unfold f_X11_orders_70
  exact (PF.ite (fun _ => (PF.ite (fun _ => (PF.ite (fun _ => (PF.bnd (PF.ret0 (K54.i rfl (K54.i rfl h))) (fun z4 hz4 => (PF.ite (fun _ => (PF.ite (fun _ => (PF.bnd (PF.ret0 (K54.l (by omega) (K54.i rfl hz4))) (fun z7 hz7 => (PF.ite (fun _ => (PF.val (wo4_X11_orders_136 h_r_X11_orders _ _ _ (K54.l (by omega) hz7)))) (fun _ => PF.none))))) (fun _ => PF.none))) (fun _ => PF.none))))) (fun _ => PF.none))) (fun _ => PF.none))) (fun _ => PF.none))
theorem wo4_X11_orders {s : ST} {r_X11_orders : Int32 → ST → Option (ST)} {p0 : Int32} {σ : ST} (h_r_X11_orders : ∀ (x1 : Int32) (σ : ST), K54 s σ → PF st0 (K54 s) (r_X11_orders x1 σ))  (h : K54 s σ) : PF st0 (K54 s) (f_X11_orders r_X11_orders p0 σ) := by
  unfold f_X11_orders
  exact (PF.ite (fun _ => (PF.bnd (PF.ret0 (K54.i rfl (K54.i rfl h))) (fun z2 hz2 => (PF.ite (fun _ => (PF.ite (fun _ => (PF.bnd (PF.ret0 (K54.i rfl hz2)) (fun z5 hz5 => (PF.ite (fun _ => (PF.ite (fun _ => (wo4_X11_orders_70 h_r_X11_orders hz5)) (fun _ => PF.none))) (fun _ => (wo4_X11_orders_70 h_r_X11_orders hz5)))))) (fun _ => PF.none))) (fun _ => PF.none))))) (fun _ => PF.none))
theorem wo4R_X11_orders {s : ST} : ∀ n : Nat, (∀ (p0 : Int32) (σ : ST), K54 s σ → PF st0 (K54 s) ((R_X11_orders n) p0 σ)) := by
  intro n
  induction n with
  | zero => exact fun _ _ _ => PF.none
  | succ n ih => exact fun _ _ h => wo4_X11_orders ih  h
theorem wo4_T_X11_orders {s : ST} {p0 : Int32} {σ : ST} (h : K54 s σ) : PF st0 (K54 s) (f_T_X11_orders p0 σ) := (wo4R_X11_orders FRB) _ _  h
theorem q_172z {x5 : Int32} {τ : ST} (n : Nat) (x7 : Int32) : QT (f_X11_alike_172 n x5 0 x7 τ) (fun q => q.1 = 0) := by
  cases n with
  | zero =>
    rw [f_X11_alike_172]
    exact QT.none
  | succ n =>
    rw [f_X11_alike_172]
    unfold f_X11_alike_238
    refine QT.ile (fun _ => QT.ite (fun _ => QT.ret rfl) (fun h => absurd rfl h)) (fun _ => QT.ite (fun _ => QT.ite (fun _ => QT.ret rfl) (fun h => absurd rfl h)) (fun h => absurd rfl h))
theorem q_alike98 {m : Nat} (x2 x3 x5 : Int32) (h5 : x5.toInt = m) (hm : m ≤ 400) (σ : ST) {P : Int32 × ST → Prop} (k : ∀ w : ST, w.1 = σ.1 → (∀ c, c ≠ 54 → w.2.1 c = σ.2.1 c) → (∀ j, j < 2 * m → w.2.1 54 j = σ.2.1 52 j) → QT ((f_X11_readsAll x2 x3 w).bind fun q1 => if 0 ≤ q1.1 then ((f_T_X11_orders 0 (stI q1.2 0 88 0)).bind fun q3 => if (q3.1 0 88) = x5 then (f_X11_alike_167 x5 1 q3) else (f_X11_alike_167 x5 0 q3)) else (some (q1.1, q1.2))) P) : ∀ (n j : Nat) (x6 : Int32) (w : ST), x6.toInt = j → j ≤ 2 * m → w.1 = σ.1 → (∀ c, c ≠ 54 → w.2.1 c = σ.2.1 c) → (∀ i, i < j → w.2.1 54 i = σ.2.1 52 i) → QT (f_X11_alike_98 n x2 x3 x5 x6 w) P := by
  have l1 := li_1
  have l2 := li_2
  intro n
  induction n with
  | zero =>
    intro j x6 w _ _ _ _ _
    rw [f_X11_alike_98]
    exact QT.none
  | succ n ih =>
    intro j x6 w h6 hj hI hL hc
    rw [f_X11_alike_98]
    have em := mlE (k := 2) (y := x5) 2 l2 (by omega) (by omega)
    refine QT.ile (fun hle => k w hI hL (fun i hi => hc i (by omega))) (fun hlt => QT.grd (fun _ => ?_))
    have n6 : x6.toNatClampNeg = j := nC h6
    have ea := il_addE (x := x6) (y := 1) (by omega) (by omega)
    rw [n6]
    refine ih (j + 1) (x6 + 1) _ (by omega) (by omega) hI (fun c h => (stL_ne h).trans (hL c h)) (fun i hi => ?_)
    rw [stL_cell]
    by_cases e : i = j
    · rw [updLA e, e, hL 52 (by omega)]
    · rw [updLN e]
      exact hc i (by omega)
theorem q_alike66 {m : Nat} (x2 x3 x5 : Int32) (h5 : x5.toInt = m) (hm : m ≤ 400) (σ : ST) {P : Int32 × ST → Prop} (k : ∀ w : ST, (∀ c, c ≠ 53 → w.1 c = σ.1 c) → w.2 = σ.2 → (∀ j, j < 4 * m → w.1 53 j = σ.1 51 j) → QT (f_X11_alike_98 FU x2 x3 x5 0 w) P) : ∀ (n j : Nat) (x6 : Int32) (w : ST), x6.toInt = j → j ≤ 4 * m → (∀ c, c ≠ 53 → w.1 c = σ.1 c) → w.2 = σ.2 → (∀ i, i < j → w.1 53 i = σ.1 51 i) → QT (f_X11_alike_66 n x2 x3 x5 x6 w) P := by
  have l1 := li_1
  have l4 := li_4
  intro n
  induction n with
  | zero =>
    intro j x6 w _ _ _ _ _
    rw [f_X11_alike_66]
    exact QT.none
  | succ n ih =>
    intro j x6 w h6 hj hI hL hc
    rw [f_X11_alike_66]
    have em := mlE (k := 4) (y := x5) 4 l4 (by omega) (by omega)
    refine QT.ile (fun hle => k w hI hL (fun i hi => hc i (by omega))) (fun hlt => QT.grd (fun _ => ?_))
    have n6 : x6.toNatClampNeg = j := nC h6
    have ea := il_addE (x := x6) (y := 1) (by omega) (by omega)
    rw [n6]
    refine ih (j + 1) (x6 + 1) _ (by omega) (by omega) (fun c h => (stI_ne h).trans (hI c h)) hL (fun i hi => ?_)
    rw [stI_at]
    by_cases e : i = j
    · rw [upA e, e, hI 51 (by omega)]
    · rw [upN e]
      exact hc i (by omega)
/-- a tree read into b/t, put in order by both -/
def ORD2 (t e : Nat) (LL : Nat → Nat × Nat × Int) (s c z w : ST) : Prop := (0 < e ∧ e ≤ 400) ∧ PRZ t s z LL 32 0 e (-1) 0 0 ∧ LL 0 = (0, 0, -1) ∧ (z.1 25 0).toInt = 0 ∧ (KPO t s c ∧ (s.1 t 1).toInt = e ∧ ∀ i, i < e → (LL i).1 < e ∧ (c.1 (t + 10) i).toInt = (LL i).1) ∧ OEL z LL 0 e z w
theorem ord2_mk {b t q : Nat} {qa qb : Int32 × ST} (h : RDT b t q qa qb) (hcap : 400 ≤ (qa.2.1 t 0).toInt) : QT (f_T_X11_orders 0 (stI qb.2 0 88 0)) (fun w => ∃ (LL : Nat → Nat × Nat × Int) (s : ST) (e : Nat), ORD2 t e LL s qa.2 (stI qb.2 0 88 0) w ∧ qa.1.toInt = e) := by
  have l0 := li_0
  obtain ⟨_, S, T, s, e, _, ⟨_, kA, _⟩, ⟨po, ko⟩, hV, ⟨⟨he, he4⟩, c1, _, c2⟩, g1, g2, g3, g4, _⟩ := h
  have zc : ∀ c, c ≠ 0 → (stI qb.2 0 88 0).1 c = qb.2.1 c := fun c hc => stI_ne hc
  have z88 : ((stI qb.2 0 88 0).1 0 88).toInt = 0 := by rw [stI_at, upA rfl]; exact l0
  have zL : (stI qb.2 0 88 0).2 = qb.2.2 := rfl
  generalize stI qb.2 0 88 0 = z at zc z88 zL
  have hV2 : VAL True t q S T s z 32 (S.1 6 q) 799 (0, e) (0, e) := by
    refine hV.ext 32 _ _ _ _ (fun j _ _ => ⟨⟨fun k k1 k5 => rfl, rfl⟩, rfl, rfl, fun _ => rfl⟩) (fun j _ _ => ⟨⟨⟨?_, ?_⟩, fun k k1 k5 => ?_, ?_, ?_⟩, ?_, ?_, fun _ => ?_⟩)
    · rw [zc 20 (by omega)]
    · rw [zc 23 (by omega)]
    · rw [zc k (by omega)]
    · rw [zL]
    · rw [zL]
    · rw [zc 28 (by omega)]
    · rw [zc 29 (by omega)]
    · rw [zc 30 (by omega)]
  obtain ⟨LL, p1, p2, p3⟩ := val_pre 32 _ _ _ _ hV2 0 (-1)
  have ez : 0 + ((0, e).2 - (0, e).1) = e := by
    show 0 + (e - 0) = e
    omega
  rw [ez] at p1 p2 p3
  have p1 : PRZ t s z LL 32 0 e (-1) 0 0 := p1
  have L0 : LL 0 = (0, 0, -1) := p1.1
  have hcap : (e : Int) ≤ (s.1 t 0).toInt := by
    rw [← ko.1 t (by omega) (by omega)]
    omega
  have hr : ∀ i, 0 ≤ i → i < e → ((LL i).1 : Int) < (s.1 t 1).toInt ∧ ((LL i).1 : Int) < (s.1 t 0).toInt := fun i h6 h7 => by
    have : (LL i).1 < e := (p2 i h6 h7).1.2
    omega
  obtain ⟨w, hw⟩ : ∃ w : Int, UPR t s 0 0 w := by
    by_cases hn : (s.1 (t + 9) 0).toInt = -1
    · exact ⟨-1, ⟨by omega, by omega⟩, .inr ⟨hn, g1, rfl⟩⟩
    · exact ⟨_, ⟨by omega, by omega⟩, .inl ⟨hn, rfl⟩⟩
  obtain ⟨r1, r2⟩ := pre_rb 32 0 e (-1) 0 0 p1 hr 0 w hw (by omega)
  have ho := a_order (b := t) (LL := LL) ⟨he, by omega⟩ ⟨c1, hcap⟩ (by rw [L0]) (fun i hi => (p2 i (by omega) hi).1.2) (fun i hi => r1 i (by omega) hi) r2 (fun i j h6 h7 => (p3 i j (by omega) h6 h7).1) qa.2 po
  have z24 : (z.1 24 0).toInt = -1 := by rw [zc 24 (by omega)]; exact g3
  refine QT.mono (q_orders 32 0 e (-1) 0 0 p1 he4 (fun i j h6 h7 h8 => (p3 i j h6 h7 h8).2) FRB 0 z l0 KTO.rf z88 (.inl ⟨z24, rfl⟩)) (fun w hw => ?_)
  exact ⟨LL, s, e, ⟨⟨he, he4⟩, p1, L0, by rw [zc 25 (by omega)]; exact g4, ⟨ko, c1, fun i hi => ⟨(p2 i (by omega) hi).1.2, (ho i hi).1⟩⟩, hw⟩, c2⟩
/-- alike on the one side, alike on the other -/
theorem like_iff {e : Nat} {L1 L2 : Nat → Nat × Nat × Int} {s1 c1 z1 w1 s2 c2 z2 w2 fA fB : ST} (h1 : ORD2 62 e L1 s1 c1 z1 w1) (h2 : ORD2 74 e L2 s2 c2 z2 w2) (hA : (∀ c, 62 ≤ c → c ≤ 73 → fA.1 c = c1.1 c) ∧ fA.2.1 68 = c1.2.1 68) (hA2 : (∀ c, 74 ≤ c → c ≤ 85 → fA.1 c = c2.1 c) ∧ fA.2.1 80 = c2.2.1 80) (hB : (∀ k, k < 4 * e → fB.1 53 k = w1.1 51 k) ∧ (∀ k, k < 2 * e → fB.2.1 54 k = w1.2.1 52 k) ∧ fB.1 51 = w2.1 51 ∧ fB.2.1 52 = w2.2.1 52) : (∀ j, j < e → RLK 62 74 fA (L1 j).1 (L2 j).1) ↔ ∀ k, k < 4 * e → fB.1 53 k = fB.1 51 k ∧ fB.2.1 54 (k / 2) = fB.2.1 52 (k / 2) := by
  have lm := li_m1
  obtain ⟨⟨he, he4⟩, p1, L10, r1, ⟨k1, _, _⟩, _, _, _, o1, _⟩ := h1
  obtain ⟨_, p2, L20, r2, ⟨k2, _, _⟩, _, _, _, o2, _⟩ := h2
  obtain ⟨b1, b2, b3, b4⟩ := hB
  have n1 := fun j (hj : j < e) => (PRZ.par 32 0 e (-1) 0 0 p1 j (by omega) hj)
  have n2 := fun j (hj : j < e) => (PRZ.par 32 0 e (-1) 0 0 p2 j (by omega) hj)
  have a63 : fA.1 (62 + 1) = s1.1 (62 + 1) := (hA.1 63 (by omega) (by omega)).trans (k1.1 63 (by omega) (by omega))
  have a66 : fA.1 (62 + 4) = s1.1 (62 + 4) := (hA.1 66 (by omega) (by omega)).trans (k1.1 66 (by omega) (by omega))
  have a68 : fA.2.1 (62 + 6) = s1.2.1 (62 + 6) := hA.2.trans (by rw [k1.2])
  have a75 : fA.1 (74 + 1) = s2.1 (74 + 1) := (hA2.1 75 (by omega) (by omega)).trans (k2.1 75 (by omega) (by omega))
  have a78 : fA.1 (74 + 4) = s2.1 (74 + 4) := (hA2.1 78 (by omega) (by omega)).trans (k2.1 78 (by omega) (by omega))
  have a80 : fA.2.1 (74 + 6) = s2.2.1 (74 + 6) := hA2.2.trans (by rw [k2.2])
  constructor
  · intro hR
    have hd : ∀ j, j < e → z1.1 20 (L1 j).2.1 = z2.1 20 (L2 j).2.1 ∧ (z1.1 23 (L1 j).2.1).toInt = (z2.1 23 (L2 j).2.1).toInt ∧ (z1.2.1 21 (L1 j).2.1 = z2.2.1 21 (L2 j).2.1 ∧ z1.2.1 22 (L1 j).2.1 = z2.2.1 22 (L2 j).2.1) := fun j hj => by
      obtain ⟨q1, q2, q3⟩ := hR j hj
      have m1 := (n1 j hj).1
      have m2 := (n2 j hj).1
      rw [a63, a75] at q1
      rw [a66, a78] at q2
      rw [a68, a80] at q3
      have d1 : z1.1 20 (L1 j).2.1 = z2.1 20 (L2 j).2.1 := by rw [← m1.1.1, ← m2.1.1]; exact q1
      have d2 : (z1.1 23 (L1 j).2.1).toInt = (z2.1 23 (L2 j).2.1).toInt := by rw [← m1.2.1, ← m2.2.1, q2]
      exact ⟨d1, d2, (ndt_iff m1 m2 d1 d2).mp q3⟩
    have hs := pre_shape (E := e) 32 32 0 e e (-1) 0 0 0 0 p1 p2 (Nat.le_refl _) (Nat.le_refl _) (fun i _ hi => ⟨(hd i hi).1, (hd i hi).2.1⟩)
    have hp : ∀ j, j < e → (L1 j).2.2 = (L2 j).2.2 ∧ (z1.1 25 (L1 j).2.1).toInt = (z2.1 25 (L2 j).2.1).toInt := fun j hj => by
      by_cases h0 : j = 0
      · rw [h0, L10, L20]
        exact ⟨rfl, r1.trans r2.symm⟩
      · exact hs.2 j (by omega) hj
    intro k hk
    obtain ⟨i, d, ek, hd4⟩ : ∃ i d : Nat, k = 4 * i + d ∧ d < 4 := ⟨k / 4, k % 4, by omega, by omega⟩
    have hi : i < e := by omega
    obtain ⟨⟨u1, u2, u3, u4⟩, u5, u6⟩ := o1 i (by omega) hi
    obtain ⟨⟨v1, v2, v3, v4⟩, v5, v6⟩ := o2 i (by omega) hi
    obtain ⟨x1, x2, x3, x4⟩ := hd i hi
    obtain ⟨y1, y2⟩ := hp i hi
    rw [b1 k hk, b3, b2 (k / 2) (by omega), b4]
    have hd : d = 0 ∨ d = 1 ∨ d = 2 ∨ d = 3 := by omega
    rcases hd with hd | hd | hd | hd
    · rw [show k = 4 * i by omega, show 4 * i / 2 = 2 * i by omega, u1, v1, u5, v5]
      exact ⟨x1, x3⟩
    · rw [show k = 4 * i + 1 by omega, show (4 * i + 1) / 2 = 2 * i by omega, u5, v5]
      exact ⟨Int32.toInt_inj.mp (u2.trans (y1.trans v2.symm)), x3⟩
    · rw [show k = 4 * i + 2 by omega, show (4 * i + 2) / 2 = 2 * i + 1 by omega, u3, v3, u6, v6]
      exact ⟨Int32.toInt_inj.mp y2, x4⟩
    · rw [show k = 4 * i + 3 by omega, show (4 * i + 3) / 2 = 2 * i + 1 by omega, u4, v4, u6, v6]
      exact ⟨Int32.toInt_inj.mp x2, x4⟩
  · intro hK j hj
    have m1 := (n1 j hj).1
    have m2 := (n2 j hj).1
    obtain ⟨⟨u1, u2, u3, u4⟩, u5, u6⟩ := o1 j (by omega) hj
    obtain ⟨⟨v1, v2, v3, v4⟩, v5, v6⟩ := o2 j (by omega) hj
    have q0 := hK (4 * j) (by omega)
    have q2 := hK (4 * j + 2) (by omega)
    have q3 := hK (4 * j + 3) (by omega)
    rw [b1 _ (by omega), b3, b2 _ (by omega), b4] at q0 q2 q3
    rw [show 4 * j / 2 = 2 * j by omega, u1, v1, u5, v5] at q0
    rw [show (4 * j + 2) / 2 = 2 * j + 1 by omega, u6, v6] at q2
    rw [u4, v4] at q3
    unfold RLK
    rw [a63, a66, a68, a75, a78, a80]
    refine ⟨by rw [m1.1.1, m2.1.1]; exact q0.1, Int32.toInt_inj.mp (by rw [m1.2.1, m2.2.1, q3.1]), (ndt_iff m1 m2 q0.1 (by rw [q3.1])).mpr ⟨q0.2, q2.2⟩⟩
/-! two messages held against one another, both sides -/
/-- behind a message read by the reference -/
theorem ib_reads {p0 p1 : Int32} {τ : ST} {q : Int32 × ST} (hI : IB τ) (c : CH AC AI τ q.2) (h : RA q) : IB q.2 := by
  obtain ⟨i1, i2, i3, i4, i5, i6, i7, i8, i9, i10⟩ := hI
  obtain ⟨r1, r2, r3, _⟩ := h
  have e0 : ∀ i, i ∉ AI → q.2.1 0 i = τ.1 0 i := c.2.1
  have ec : ∀ d, d ≠ 0 → d ∉ AC → q.2.1 d = τ.1 d := c.1
  refine ⟨r1, r2, ?_, ?_, ?_, r3, ?_, ?_, ?_, ?_⟩
  · rw [ec 32 (by decide) (by decide), e0 32 (by decide)]
    exact i3
  · rw [ec 33 (by decide) (by decide)]
    exact i4
  · rw [ec 38 (by decide) (by decide)]
    exact i5
  · rw [e0 73 (by decide)]
    exact i7
  · rw [e0 83 (by decide)]
    exact i8
  · rw [e0 92 (by decide)]
    exact i9
  · unfold TH at i10 ⊢
    rw [ec 45 (by decide) (by decide)]
    exact i10
/-- one run of the trial's, and what stays -/
theorem ab_trial {t : Nat} {σ u : ST} (ht : t = 62 ∨ t = 74) (hZ : MZ u σ) (hX : EHX σ) (hM : MSG σ u) (hcap : 400 ≤ (σ.1 t 0).toInt) (p0 p1 : Int32) {m q : Nat} (h0 : p0.toInt = m) (hm : m < 4) (hw : ¬ (σ.1 40 m).toInt = -1) (h1 : p1.toInt = q) (hq : (q : Int) < (u.1 0 32).toInt) : QT (f_X4_run 92 t p0 p1 σ) (fun qa => QT (f_X11_readsAll p0 p1 u) (fun qb => RDN 92 t q σ u qa qb ∧ (MZ qb.2 qa.2 ∧ EHX qa.2 ∧ MSG qa.2 qb.2 ∧ qa.2.1 40 = σ.1 40) ∧ qb.2.1 0 32 = u.1 0 32 ∧ qb.2.2.1 54 = u.2.1 54)) := by
  have hIB := hZ.2.1.2.2
  have lm := li_m1
  have nm : p0.toNatClampNeg = m := nC h0
  have b32 := hIB.1.1
  unfold bI at b32
  have hw9 : ¬ σ.1 40 m = -1 := fun h => hw (by rw [h]; exact lm)
  obtain ⟨hm1, _⟩ := hM m hm
  have hMP := hZ.2.2 m hm
  have hrun := ab_run (b := 92) (t := t) (.inr ⟨rfl, ht⟩) hZ hX hM hcap p0 p1 h0 hm hw h1 hq
  have hmz : QT (f_X4_run 92 t p0 p1 σ) (fun q => MZ u q.2 ∧ KTA σ q.2 ∧ q.2.1 40 = σ.1 40) := fun q e => mz_run hZ 92 t (by omega) (by omega) p0 p1 (by omega) (by rw [nm]; exact hw9) (by omega) q e
  have hrd := QT.ok (b_readsAll p0 p1 u hIB.1 hIB.2.1 hIB.2.2.2.2.2.1 hIB.2.2.2.1 (by omega) (by rw [nm, ← hm1]; omega) (by omega))
  intro qa ea qb eb
  have r := hrun qa ea qb eb
  obtain ⟨z1, z2, z3⟩ := hmz qa ea
  obtain ⟨c1, c2⟩ := hrd qb eb
  have hib : IB qb.2 := ib_reads (p0 := p0) (p1 := p1) hIB c1 c2
  have kb : KTB u qb.2 := w_X11_readsAll (s := u) KTB.rf qb eb
  have k5 : K54 u qb.2 := wo4_X11_readsAll (s := u) K54.rf qb eb
  have e32 : qb.2.1 0 32 = u.1 0 32 := c1.2.1 32 (by decide)
  obtain ⟨⟨kN, kM⟩, _⟩ := id r
  refine ⟨r, ⟨z1.yok ⟨kb.kr, e32, hib⟩, EHB.at hX z2, hM.eq (kN.1 38 (by omega) (by omega)) (kN.1 39 (by omega) (by omega)) (kN.1 40 (by omega) (by omega)) ?_ ?_ ?_, z3⟩, e32, k5⟩
  · exact kM.1 32 (by omega) (by omega) (by omega) (by omega) (by omega) (by omega) (by omega) (by omega)
  · exact kM.1 33 (by omega) (by omega) (by omega) (by omega) (by omega) (by omega) (by omega) (by omega)
  · exact kM.1 34 (by omega) (by omega) (by omega) (by omega) (by omega) (by omega) (by omega) (by omega)
theorem ab_alike (p0 p1 p2 : Int32) {σ τ : ST} (hZ : MZ τ σ) (hX : EHY σ) (hM : MSG σ τ) (h62 : 400 ≤ (σ.1 62 0).toInt) (h74 : 400 ≤ (σ.1 74 0).toInt) (hc : σ.1 4 0 = τ.1 0 32) : QT (f_X10_alike p0 p1 p2 σ) (fun qa => QT (f_X11_alike p0 p1 p2 τ) (fun qb => qa.1 = qb.1)) := by
  have l0 := li_0
  have l1 := li_1
  have lm := li_m1
  have hpl := hZ.2.1.2.2.1.1
  have hM0 : MSG σ (stI τ 0 0 0) := hM.eq rfl rfl rfl (stI_ne (by omega)) (stI_ne (by omega)) (stI_ne (by omega))
  have hZ0 : MZ (stI τ 0 0 0) σ := hZ.yok (YOK.st0 hZ.2.1.2.2 0)
  have g32 : (stI τ 0 0 0).1 0 32 = τ.1 0 32 := rfl
  unfold f_X10_alike f_X11_alike
  generalize stI τ 0 0 0 = u at hM0 hZ0 g32
  refine QT.bnd2 (ab_isWritten hM0 hZ0 rfl p0) (fun x y hxy => ?_)
  obtain ⟨xv, xs⟩ := x
  obtain ⟨yv, ys⟩ := y
  obtain ⟨⟨e1, e2, e3⟩, hx⟩ := hxy
  have e1 : xs = σ := e1
  have e2 : ys = u := e2
  have e3 : xv = yv := e3
  have hx : xv = 0 ∨ xv = 1 ∧ (0 ≤ p0.toInt ∧ p0.toInt < 4) ∧ ¬ σ.1 40 p0.toNatClampNeg = -1 := hx
  rw [e1, e2, ← e3]
  dsimp only
  by_cases x0 : xv = 0
  · rw [if_pos x0, if_pos x0]
    exact QT.ret (QT.ret rfl)
  rw [if_neg x0, if_neg x0]
  obtain ⟨_, hp0, hw0⟩ := hx.resolve_left x0
  refine QT.bnd2 (ab_isWritten hM0 hZ0 rfl p1) (fun x y hxy => ?_)
  obtain ⟨fv, fs⟩ := x
  obtain ⟨gv, gs⟩ := y
  obtain ⟨⟨f1, f2, f3⟩, hf⟩ := hxy
  have f1 : fs = σ := f1
  have f2 : gs = u := f2
  have f3 : fv = gv := f3
  have hf : fv = 0 ∨ fv = 1 ∧ (0 ≤ p1.toInt ∧ p1.toInt < 4) ∧ ¬ σ.1 40 p1.toNatClampNeg = -1 := hf
  rw [f1, f2, ← f3]
  dsimp only
  by_cases f0 : fv = 0
  · rw [if_pos f0, if_pos f0]
    exact QT.ret (QT.ret rfl)
  rw [if_neg f0, if_neg f0]
  obtain ⟨_, hp1, hw1⟩ := hf.resolve_left f0
  refine QT.bnd2 (ab_isPlan (by rw [hc, g32]) (by rw [g32]; exact hpl) p2) (fun x y hxy => ?_)
  obtain ⟨av, as⟩ := x
  obtain ⟨bv, bs⟩ := y
  obtain ⟨⟨a1, a2, a3⟩, ha⟩ := hxy
  have a1 : as = σ := a1
  have a2 : bs = u := a2
  have a3 : av = bv := a3
  have ha : av = 0 ∨ av = 1 ∧ 0 ≤ p2.toInt ∧ p2.toInt < (u.1 0 32).toInt := ha
  rw [a1, a2, ← a3]
  dsimp only
  by_cases a0 : av = 0
  · rw [if_pos a0, if_pos a0]
    exact QT.ret (QT.ret rfl)
  rw [if_neg a0, if_neg a0]
  obtain ⟨_, hp2, hp2'⟩ := ha.resolve_left a0
  obtain ⟨m, hm⟩ : ∃ m : Nat, p0.toInt = m := ⟨p0.toInt.toNat, by omega⟩
  obtain ⟨k, hk⟩ : ∃ k : Nat, p1.toInt = k := ⟨p1.toInt.toNat, by omega⟩
  obtain ⟨q, hq⟩ : ∃ q : Nat, p2.toInt = q := ⟨p2.toInt.toNat, by omega⟩
  have nm : p0.toNatClampNeg = m := nC hm
  have nk : p1.toNatClampNeg = k := nC hk
  rw [nm] at hw0
  rw [nk] at hw1
  have hw0' : ¬ (σ.1 40 m).toInt = -1 := fun h => hw0 (Int32.toInt_inj.mp (h.trans lm.symm))
  have hw1' : ¬ (σ.1 40 k).toInt = -1 := fun h => hw1 (Int32.toInt_inj.mp (h.trans lm.symm))
  unfold bI at hpl
  have hX' : EHX σ := hX.resolve_left (by rw [hc]; rw [g32] at hp2'; omega)
  refine QT.bnd2 (ab_trial (.inl rfl) hZ0 hX' hM0 h62 p0 p2 hm (by omega) hw0' hq (by omega)) (fun x y hxy => ?_)
  obtain ⟨hR1, ⟨hZ1, hX1, hM1, h40⟩, g1, gL1⟩ := hxy
  obtain ⟨⟨kN1, kM1⟩, hR1⟩ := hR1
  rcases hR1 with ⟨r1, r2, _⟩ | hR1
  · have r2' : (y.1).toInt = -2 ∨ (y.1).toInt = -3 := by rw [← r1]; exact r2
    refine QT.ile (fun h => by omega) (fun _ => QT.ret ?_)
    exact QT.ile (fun h => by omega) (fun _ => QT.ret r1)
  have hy1 : y.1 = 0 := hR1.1
  have c62 : 400 ≤ (x.2.1 62 0).toInt := by rw [kN1.2.1 0 (by omega)]; exact h62
  have c74 : 400 ≤ (x.2.1 74 0).toInt := by rw [kN1.1 74 (by omega) (by omega)]; exact h74
  have hx1 : 0 ≤ x.1.toInt := by
    obtain ⟨_, S, T, s, e, _, _, _, _, ⟨_, _, _, h9⟩, _⟩ := id hR1
    omega
  refine QT.ile (fun _ => ?_) (fun h => by omega)
  refine QT.sw ?_
  refine QT.ile (fun _ => ?_) (fun h => by rw [hy1] at h; omega)
  refine QT.bnd (Q := fun w => (∃ (LL : Nat → Nat × Nat × Int) (s : ST) (e : Nat), ORD2 62 e LL s x.2 (stI y.2 0 88 0) w ∧ x.1.toInt = e) ∧ KTB (stI y.2 0 88 0) w ∧ K54 (stI y.2 0 88 0) w) (fun w ew => ⟨ord2_mk hR1 c62 w ew, w_T_X11_orders KTB.rf w ew, wo4_T_X11_orders K54.rf w ew⟩) (fun w hw => ?_)
  obtain ⟨⟨L1, s1, e, hO1, he1⟩, kTw, k5w⟩ := hw
  obtain ⟨⟨he, he4⟩, _, _, _, _, kO, o88, _⟩ := id hO1
  have kb0 : KTB y.2 (stI y.2 0 88 0) := KTB.rf.i0
  -- the first tree's numbers are kept
  refine q_alike66 (m := e) p1 p2 (w.1 0 88) o88 he4 w (fun v v1 v2 v3 => ?_) FU 0 0 w l0 (by omega) (fun _ _ => rfl) rfl (fun i hi => by omega)
  refine q_alike98 (m := e) p1 p2 (w.1 0 88) o88 he4 v (fun v' v1' v2' v3' => ?_) FU 0 0 v l0 (by omega) rfl (fun _ _ => rfl) (fun i hi => by omega)
  -- what of the reference stayed
  have vc : ∀ c, c ≠ 0 → c ≠ 50 → c ≠ 51 → c ≠ 53 → v'.1 c = y.2.1 c := fun c a b d e => by
    rw [v1', v1 c e, kO.1 c a b d, stI_ne a]
  have v0 : ∀ i, i ≠ 88 → v'.1 0 i = y.2.1 0 i := fun i hi => by
    rw [v1', v1 0 (by omega), kO.2.1 i hi, stI_at, upN hi]
  have vL : ∀ c, c ≠ 52 → c ≠ 54 → v'.2.1 c = y.2.2.1 c := fun c a b => by
    rw [v2' c b, v2, kO.2.2.1 c a]
    rfl
  have hCH : CH [50, 51, 53] [88] y.2 v' := by
    refine ⟨fun c c0 hc => ?_, fun i hi => ?_, vL 9 (by omega) (by omega), vL 12 (by omega) (by omega), vL 14 (by omega) (by omega), vL 17 (by omega) (by omega), vL 18 (by omega) (by omega)⟩
    · simp only [List.mem_cons, List.not_mem_nil, or_false, not_or] at hc
      exact vc c c0 (by omega) (by omega) (by omega)
    · simp only [List.mem_cons, List.not_mem_nil, or_false] at hi
      exact v0 i hi
  have hIv : IB v' := hZ1.2.1.2.2.ch hCH (by decide) (by decide)
  have g1v : v'.1 0 32 = y.2.1 0 32 := v0 32 (by omega)
  have hZv : MZ v' x.2 := hZ1.yok ⟨hCH.kr (by decide), g1v, hIv⟩
  have hMv : MSG x.2 v' := hM1.eq rfl rfl rfl (vc 32 (by omega) (by omega) (by omega) (by omega)) (vc 33 (by omega) (by omega) (by omega) (by omega)) (vc 34 (by omega) (by omega) (by omega) (by omega))
  refine QT.sw ?_
  refine QT.bnd2 (ab_trial (.inr rfl) hZv hX1 hMv c74 p1 p2 hk (by omega) (by rw [h40]; exact hw1') hq (by rw [g1v, g1]; omega)) (fun x2 y2 hxy => ?_)
  obtain ⟨hR2, _, _, gL2⟩ := hxy
  obtain ⟨⟨kN2, kM2⟩, hR2⟩ := hR2
  rcases hR2 with ⟨r1, r2, _⟩ | hR2
  · have r2' : (y2.1).toInt = -2 ∨ (y2.1).toInt = -3 := by rw [← r1]; exact r2
    refine QT.ile (fun h => by omega) (fun _ => QT.ret ?_)
    exact QT.ile (fun h => by omega) (fun _ => QT.ret r1)
  have hy2 : y2.1 = 0 := hR2.1
  have d74 : 400 ≤ (x2.2.1 74 0).toInt := by rw [kN2.2.1 0 (by omega)]; exact c74
  have hx2 : 0 ≤ x2.1.toInt := by
    obtain ⟨_, S, T, s, e, _, _, _, _, ⟨_, _, _, h9⟩, _⟩ := id hR2
    omega
  refine QT.ile (fun _ => ?_) (fun h => by omega)
  refine QT.sw ?_
  refine QT.ile (fun _ => ?_) (fun h => by rw [hy2] at h; omega)
  refine QT.bnd (Q := fun w2 => (∃ (LL : Nat → Nat × Nat × Int) (s : ST) (e : Nat), ORD2 74 e LL s x2.2 (stI y2.2 0 88 0) w2 ∧ x2.1.toInt = e) ∧ K54 (stI y2.2 0 88 0) w2) (fun w2 ew => ⟨ord2_mk hR2 d74 w2 ew, wo4_T_X11_orders K54.rf w2 ew⟩) (fun w2 hw2 => ?_)
  obtain ⟨⟨L2, s2, e2, hO2, he2⟩, k5w2⟩ := hw2
  obtain ⟨⟨hee, hee4⟩, _, _, _, ⟨ko2, sz2, or2⟩, kO2, o882, _⟩ := id hO2
  obtain ⟨_, _, _, _, ⟨ko1, sz1, or1⟩, _⟩ := id hO1
  have cA : ∀ c, 62 ≤ c → c ≤ 73 → x2.2.1 c = x.2.1 c := fun c a b => kN2.1 c (by omega) (by omega)
  have cL : x2.2.2.1 68 = x.2.2.1 68 := kN2.2.2.1 68 (by omega) (by omega) (by omega)
  have z1 : (x2.2.1 62 1).toInt = e := by
    rw [cA 62 (by omega) (by omega), ko1.1 62 (by omega) (by omega)]
    exact sz1
  have z2 : (x2.2.1 74 1).toInt = e2 := by
    rw [ko2.1 74 (by omega) (by omega)]
    exact sz2
  have w53 : ∀ j, j < 4 * e → w2.1 53 j = w.1 51 j := fun j hj => by
    have h1 : w2.1 53 = y2.2.1 53 := (kO2.1 53 (by omega) (by omega) (by omega)).trans (stI_ne (by omega))
    have h2 : y2.2.1 53 = v'.1 53 := kM2.1 53 (by omega) (by omega) (by omega) (by omega) (by omega) (by omega) (by omega) (by omega)
    rw [h1, h2, v1']
    exact v3 j hj
  have w54 : ∀ j, j < 2 * e → w2.2.1 54 j = w.2.1 52 j := fun j hj => by
    have h1 : w2.2.1 54 = y2.2.2.1 54 := k5w2
    rw [h1, gL2, v3' j hj, v2]
  unfold f_X7_isLike f_X11_alike_167
  by_cases hee2 : e = e2
  · subst hee2
    have hz : x2.2.1 62 1 = x2.2.1 74 1 := Int32.toInt_inj.mp (z1.trans z2.symm)
    have h88 : w2.1 0 88 = w.1 0 88 := Int32.toInt_inj.mp (o882.trans o88.symm)
    rw [if_pos hz, if_pos h88]
    have hL := like_iff (fA := x2.2) (fB := w2) hO1 hO2 ⟨cA, cL⟩ ⟨fun c a b => rfl, rfl⟩ ⟨w53, w54, rfl, rfl⟩
    refine (q_like172 (w.1 0 88) o88 he4 w2 FU 0 1 0 l0 (by omega) (.inr rfl) (fun j hj => by omega) (fun h => absurd h one_ne)).mono (fun z hz3 => ?_)
    have w1' : ORW 62 e x2.2 (fun i => (L1 i).1) := by
      refine ⟨⟨z1, ?_⟩, fun i hi => ⟨(or1 i hi).1, ?_⟩⟩
      · rw [cA 62 (by omega) (by omega)]
        omega
      · show (x2.2.1 72 i).toInt = _
        rw [cA 72 (by omega) (by omega)]
        exact (or1 i hi).2
    have w2' : ORW 74 e x2.2 (fun i => (L2 i).1) := ⟨⟨z2, by omega⟩, fun i hi => or2 i hi⟩
    refine QT.bnd (a_isLike (n := e) (by omega) w1' w2' FU 0 0 l0 (by omega) (fun j hj => by omega)) (fun q9 hq9 => ?_)
    obtain ⟨_, hz3⟩ := hz3
    obtain ⟨_, hq9⟩ := hq9
    rcases hq9 with ⟨q1, q2⟩ | ⟨q1, q2⟩
    · refine QT.ite (fun h => by rw [q1] at h; exact absurd h one_ne) (fun _ => QT.ret ?_)
      rcases hz3 with ⟨z3, _⟩ | ⟨_, z4⟩
      · exact z3.symm
      · exact absurd (hL.mp q2) z4
    · refine QT.ite (fun _ => QT.ret ?_) (fun h => absurd q1 h)
      rcases hz3 with ⟨_, z4⟩ | ⟨z3, _⟩
      · exact absurd (hL.mpr z4) q2
      · exact z3.symm
  · have hz : ¬ x2.2.1 62 1 = x2.2.1 74 1 := fun h => hee2 (by
      have : (x2.2.1 62 1).toInt = (x2.2.1 74 1).toInt := by rw [h]
      omega)
    have h88 : ¬ w2.1 0 88 = w.1 0 88 := fun h => hee2 (by
      have : (w2.1 0 88).toInt = (w.1 0 88).toInt := by rw [h]
      omega)
    rw [if_neg hz, if_neg h88]
    refine (q_172z FU 0).mono (fun z hz3 => ?_)
    rw [sbnd]
    dsimp only
    exact QT.ite (fun _ => QT.ret hz3.symm) (fun h => absurd rfl h)
theorem inv9_alike (n : Nat) (σ τ : ST) (κ : Nat) (h : Inv9 n σ τ κ) (hn : n < 512) (j : Nat) (pr : Nat → Int32) (hj : j < 32) : ∃ (qa : Int32 × ST) (qb : (Int32 × ST) × Nat), fA j pr σ = some qa ∧ fB j pr τ = some qb ∧ (j = 20 → qa.1 = qb.1.1) ∧ Inv9 (n + 1) qa.2 qb.1.2 (κ + qb.2) := by
  obtain ⟨qa, qb, ea, eb, e1⟩ := inv9_call n σ τ κ h hn j pr
  refine ⟨qa, qb, ea, eb, fun h3 => ?_, e1⟩
  subst h3
  have eb : ((f_X11_alike (pr 1) (pr 2) (pr 3) τ).bind fun q => some ((q.1, q.2), 0)) = some qb := eb
  obtain ⟨x, ex, e2⟩ := bnd_some eb
  cases e2
  have hIA := h.1.1.1.2.1
  have t62 : (σ.1 62 0).toInt = 502 := hIA.t62.1
  have t74 : (σ.1 74 0).toInt = 400 := hIA.t74.1
  exact ab_alike (pr 1) (pr 2) (pr 3) h.1.1.2 h.1.2.1 h.1.2.2.1 (by omega) (by omega) h.1.1.1.2.2.2.2.1 qa ea x ex
/-! the helpers' answers: what is thrown, what is told -/
theorem inv9_node (n : Nat) (σ τ : ST) (κ : Nat) (h : Inv9 n σ τ κ) (hn : n < 512) (j : Nat) (pr : Nat → Int32) (hj : j < 32) : ∃ (qa : Int32 × ST) (qb : (Int32 × ST) × Nat), fA j pr σ = some qa ∧ fB j pr τ = some qb ∧ (j = 16 → ∀ q, f_X11_node (pr 1) (pr 2) τ = some q → qa.1 = q.2.1 0 0 ∧ (qa.1 = 0 → qa.2.2.1 95 0 = q.1.toInt64)) ∧ Inv9 (n + 1) qa.2 qb.1.2 (κ + qb.2) := by
  obtain ⟨qa, qb, ea, eb, e1⟩ := inv9_call n σ τ κ h hn j pr
  refine ⟨qa, qb, ea, eb, fun h3 q eq => ?_, e1⟩
  subst h3
  exact ab_node h.2.2 h.1.1.1.2.1.t50.1 (pr 1) (pr 2) qa ea q eq
theorem inv9_value (n : Nat) (σ τ : ST) (κ : Nat) (h : Inv9 n σ τ κ) (hn : n < 512) (j : Nat) (pr : Nat → Int32) (hj : j < 32) : ∃ (qa : Int32 × ST) (qb : (Int32 × ST) × Nat), fA j pr σ = some qa ∧ fB j pr τ = some qb ∧ (j = 17 → ∀ q, f_X11_value_ (pr 1) τ = some q → qa.1 = q.2.1 0 0 ∧ (qa.1 = 0 → qa.2.2.1 95 0 = q.1)) ∧ Inv9 (n + 1) qa.2 qb.1.2 (κ + qb.2) := by
  obtain ⟨qa, qb, ea, eb, e1⟩ := inv9_call n σ τ κ h hn j pr
  refine ⟨qa, qb, ea, eb, fun h3 q eq => ?_, e1⟩
  subst h3
  exact ab_valueL h.2.2 h.1.1.1.2.1.t50.1 (pr 1) qa ea q eq
theorem inv9_letter (n : Nat) (σ τ : ST) (κ : Nat) (h : Inv9 n σ τ κ) (hn : n < 512) (j : Nat) (pr : Nat → Int32) (hj : j < 32) : ∃ (qa : Int32 × ST) (qb : (Int32 × ST) × Nat), fA j pr σ = some qa ∧ fB j pr τ = some qb ∧ (j = 18 → ∀ q, f_X11_letter (pr 1) (pr 2) τ = some q → qa.1 = q.2.1 0 0 ∧ (qa.1 = 0 → qa.2.2.1 95 0 = q.1.toInt64)) ∧ Inv9 (n + 1) qa.2 qb.1.2 (κ + qb.2) := by
  obtain ⟨qa, qb, ea, eb, e1⟩ := inv9_call n σ τ κ h hn j pr
  refine ⟨qa, qb, ea, eb, fun h3 q eq => ?_, e1⟩
  subst h3
  exact ab_letter h.2.2 h.1.1.1.2.1.t50.1 (pr 1) (pr 2) qa ea q eq
theorem inv9_byteAt (n : Nat) (σ τ : ST) (κ : Nat) (h : Inv9 n σ τ κ) (hn : n < 512) (j : Nat) (pr : Nat → Int32) (hj : j < 32) : ∃ (qa : Int32 × ST) (qb : (Int32 × ST) × Nat), fA j pr σ = some qa ∧ fB j pr τ = some qb ∧ (j = 6 → ∀ q, f_X11_byteAt_ (pr 1) (pr 2) τ = some q → qa.1 = q.2.1 0 0 ∧ (qa.1 = 0 → qa.2.2.1 95 0 = q.1.toInt64)) ∧ Inv9 (n + 1) qa.2 qb.1.2 (κ + qb.2) := by
  obtain ⟨qa, qb, ea, eb, e1⟩ := inv9_call n σ τ κ h hn j pr
  refine ⟨qa, qb, ea, eb, fun h3 q eq => ?_, e1⟩
  subst h3
  exact ab_byteAt h.1.1.2 h.1.2.2.1 (pr 1) (pr 2) qa ea q eq
