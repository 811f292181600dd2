/-! the tree that is shown, both sides -/
/-- one node: the class's row r, the reference's place i -/
def SHR (b n : Nat) (σ τ : ST) (i r : Nat) : Prop := (σ.1 (b + 1) r = τ.1 42 i ∧ (0 ≤ (τ.1 42 i).toInt ∧ (τ.1 42 i).toInt ≤ 7)) ∧ (((σ.1 (b + 2) r).toInt = -1 ∧ (τ.1 43 i).toInt = -1) ∨ ∃ k : Nat, k < n ∧ (σ.1 (b + 2) r).toInt = k ∧ σ.1 (b + 11) k = τ.1 43 i) ∧ (σ.1 (b + 3) r).toInt = (τ.1 44 i).toInt ∧ (σ.1 (b + 4) r).toInt = (τ.1 45 i).toInt ∧ (σ.1 (b + 5) r = 0 ↔ τ.1 46 i = 0) ∧ ((τ.1 42 i).toInt ≤ 5 → EWR (τ.1 42 i).toInt (σ.2.1 (b + 6) r) (τ.2.1 47 i) (τ.2.1 48 i) (τ.1 45 i)) ∧ (6 ≤ (τ.1 42 i).toInt → σ.2.1 (b + 6) r = τ.2.1 47 i)
/-- all nodes -/
def SHW (b : Nat) (σ τ : ST) : Prop := ∃ n : Nat, n ≤ 400 ∧ (σ.1 b 1).toInt = n ∧ (τ.1 0 73).toInt = n ∧ ∀ i, i < n → ∃ r : Nat, r < n ∧ (σ.1 (b + 10) i).toInt = r ∧ SHR b n σ τ i r
theorem SHW.eq {σ τ s w : ST} (h : SHW 50 σ τ) (a : SHE σ s) (b : SHB τ w) : SHW 50 s w := by
  obtain ⟨n, h1, h2, h3, h4⟩ := h
  obtain ⟨⟨b1, b2⟩, b3, b4⟩ := b
  refine ⟨n, h1, by rw [a.1 50 (by omega) (by omega)]; exact h2, by rw [b2]; exact h3, fun i hi => ?_⟩
  obtain ⟨r, r1, r2, r3⟩ := h4 i hi
  refine ⟨r, r1, ?_, ?_⟩
  · show (s.1 60 i).toInt = r
    rw [a.1 60 (by omega) (by omega)]
    exact r2
  · unfold SHR at r3 ⊢
    have e51 : s.1 (50 + 1) = σ.1 (50 + 1) := a.1 51 (by omega) (by omega)
    have e52 : s.1 (50 + 2) = σ.1 (50 + 2) := a.1 52 (by omega) (by omega)
    have e53 : s.1 (50 + 3) = σ.1 (50 + 3) := a.1 53 (by omega) (by omega)
    have e54 : s.1 (50 + 4) = σ.1 (50 + 4) := a.1 54 (by omega) (by omega)
    have e55 : s.1 (50 + 5) = σ.1 (50 + 5) := a.1 55 (by omega) (by omega)
    have e61 : s.1 (50 + 11) = σ.1 (50 + 11) := a.1 61 (by omega) (by omega)
    have e56 : s.2.1 (50 + 6) = σ.2.1 (50 + 6) := a.2
    rw [e51, e52, e53, e54, e55, e61, e56, b1 42 (by omega) (by omega), b1 43 (by omega) (by omega), b1 44 (by omega) (by omega), b1 45 (by omega) (by omega), b1 46 (by omega) (by omega), b3, b4]
    exact r3
theorem shw_0 {s w : ST} (h : (s.1 50 1).toInt = 0) (k : (w.1 0 73).toInt = 0) : SHW 50 s w := ⟨0, by omega, h, k, fun i hi => by omega⟩
theorem nar01 {v : Int32} (h : v = 0 ∨ v = 1) : vp_nar .boolean v = 0 ↔ v = 0 := by
  rcases h with h | h
  · rw [h]
    decide
  · rw [h]
    decide
/-- a tree read is shown alike -/
theorem shw_read {q : Nat} {qa qb : Int32 × ST} (h : RFT 50 q qa qb) (hf : F27 qb.2) (h400 : (qa.2.1 50 0).toInt = 400) : SHW 50 qa.2 qb.2 ∧ qa.1 = qb.2.1 0 73 := by
  have l0 := li_0
  have lm := li_m1
  obtain ⟨_, w1, w2, ⟨_, S, T, s, e, _, ⟨_, kA, _⟩, ⟨po, ko⟩, hV, ⟨⟨he, he4⟩, c1, _, c2⟩, g1, g2, _, _, g5⟩, kF, h73, ht, kL⟩ := h
  have eB : ∀ c, 20 ≤ c → c ≤ 30 → w2.1 c = w1.1 c := fun c _ _ => kF.1 c (by omega) (by omega)
  have hV2 : VAL True 50 q S T s w2 32 (S.1 6 q) 799 (0, e) (0, e) := by
    refine hV.ext 32 _ _ _ _ (fun j _ _ => ⟨⟨fun k k1 k5 => rfl, rfl⟩, rfl, rfl, fun _ => rfl⟩) (fun j _ _ => ⟨⟨⟨?_, ?_⟩, fun k k1 k5 => ?_, ?_, ?_⟩, ?_, ?_, fun _ => ?_⟩)
    · rw [eB 20 (by omega) (by omega)]
    · rw [eB 23 (by omega) (by omega)]
    · rw [eB k (by omega) (by omega)]
    · rw [kF.2.2]
    · rw [kF.2.2]
    · rw [eB 28 (by omega) (by omega)]
    · rw [eB 29 (by omega) (by omega)]
    · rw [eB 30 (by omega) (by omega)]
  obtain ⟨LL, p1, p2, p3⟩ := val_pre 32 _ _ _ _ hV2 0 (-1)
  have ez : 0 + ((0, e).2 - (0, e).1) = e := by
    show 0 + (e - 0) = e
    omega
  rw [ez] at p1 p2 p3
  have p1 : PRZ 50 s w2 LL 32 0 e (-1) 0 0 := p1
  have L0 : LL 0 = (0, 0, -1) := p1.1
  have hcap : (e : Int) ≤ (s.1 50 0).toInt := by
    rw [← ko.1 50 (by omega) (by omega), h400]
    omega
  have hr : ∀ i, 0 ≤ i → i < e → ((LL i).1 : Int) < (s.1 50 1).toInt ∧ ((LL i).1 : Int) < (s.1 50 0).toInt := fun i h6 h7 => by
    have : (LL i).1 < e := (p2 i h6 h7).1.2
    omega
  obtain ⟨w, hw⟩ : ∃ w : Int, UPR 50 s 0 0 w := by
    by_cases hn : (s.1 59 0).toInt = -1
    · exact ⟨-1, ⟨by omega, by omega⟩, .inr ⟨hn, g1, rfl⟩⟩
    · exact ⟨_, ⟨by omega, by omega⟩, .inl ⟨hn, rfl⟩⟩
  obtain ⟨r1, r2⟩ := pre_rb 32 0 e (-1) 0 0 p1 hr 0 w hw (by omega)
  have ho := a_order (b := 50) (LL := LL) ⟨he, by omega⟩ ⟨c1, hcap⟩ (by rw [L0]) (fun i hi => (p2 i (by omega) hi).1.2) (fun i hi => r1 i (by omega) hi) r2 (fun i j h6 h7 => (p3 i j (by omega) h6 h7).1) qa.2 po
  obtain ⟨_, t2, _, t4⟩ := q_tells 32 0 e (-1) 0 0 p1 he4 (.inl rfl) FRB 0 (-1) w2 l0 lm KTL.rf h73 qb.2 ht
  have kc : ∀ c, c ≠ 60 → c ≠ 61 → qa.2.1 c = s.1 c := fun c h6 h7 => ko.1 c h6 h7
  have f27 : ∀ i, w2.1 27 i = 0 ∨ w2.1 27 i = 1 := fun i => by
    rw [← kL.1 27 (by omega) (by omega)]
    exact hf i
  refine ⟨⟨e, he4, by rw [kc 50 (by omega) (by omega)]; exact c1, t2, fun i hi => ⟨(LL i).1, (p2 i (by omega) hi).1.2, (ho i hi).1, ?_⟩⟩, Int32.toInt_inj.mp (c2.trans t2.symm)⟩
  obtain ⟨⟨⟨n1, n2⟩, n3, n4, n5⟩, n6⟩ := PRZ.par 32 0 e (-1) 0 0 p1 i (by omega) hi
  obtain ⟨⟨d1, d2⟩, d3, ⟨d4, d5⟩, d6, d7⟩ := t4 i (by omega) hi
  have hfill : qa.2.1 55 (LL i).1 = w2.1 27 (LL i).2.1 := by
    rw [kc 55 (by omega) (by omega)]
    rcases n6 with n6 | ⟨k, _, _, n7⟩
    · rw [n6, L0]
      show s.1 55 0 = w2.1 27 0
      rw [eB 27 (by omega) (by omega)]
      exact g5
    · exact n7.2.2
  have e51 : qa.2.1 (50 + 1) = s.1 (50 + 1) := kc 51 (by omega) (by omega)
  have e54 : qa.2.1 (50 + 4) = s.1 (50 + 4) := kc 54 (by omega) (by omega)
  have e56 : qa.2.2.1 (50 + 6) = s.2.1 (50 + 6) := by rw [ko.2]
  unfold SHR
  rw [e51, e54, e56, d1, d6, d7, d4, d5]
  refine ⟨⟨n1, n2⟩, ?_, ?_, n3, ?_, n4, fun h => (n5 h).1⟩
  · rcases n6 with n6 | ⟨k, k1, k2, k3⟩
    · refine .inl ⟨?_, ?_⟩
      · show (qa.2.1 52 (LL i).1).toInt = -1
        rw [kc 52 (by omega) (by omega), n6, L0]
        exact g1
      · rw [d2, n6, L0]
    · have hk : k < e := by omega
      refine .inr ⟨(LL k).1, (p2 k (by omega) hk).1.2, ?_, ?_⟩
      · show (qa.2.1 52 (LL i).1).toInt = _
        rw [kc 52 (by omega) (by omega)]
        exact k3.1.1
      · refine Int32.toInt_inj.mp ?_
        rw [d2, k2]
        exact (ho k hk).2
  · show (qa.2.1 53 (LL i).1).toInt = _
    rw [kc 53 (by omega) (by omega), d3]
    rcases n6 with n6 | ⟨k, k1, k2, k3⟩
    · rw [n6, L0]
      show (s.1 53 0).toInt = (if 0 ≤ (-1 : Int) then w2.1 25 0 else 0).toInt
      rw [if_neg (by omega), l0]
      exact g2
    · rw [k2, if_pos (by omega)]
      exact k3.2.1
  · show qa.2.1 55 (LL i).1 = 0 ↔ _
    rw [hfill]
    exact (nar01 (f27 _)).symm
