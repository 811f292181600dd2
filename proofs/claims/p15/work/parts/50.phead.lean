/-! a type begins: the class; and what both have after one -/
theorem ofNatI {w : Nat} (h : w ≤ 1000) : (Int32.ofNat w).toInt = (w : Int) := Int32.toInt_ofNat_of_lt (by omega)
theorem intOf {x : Int32} {k : Nat} (h : x.toInt = (k : Int)) (hk : k ≤ 1000) : x = Int32.ofNat k := Int32.toInt_inj.mp (by rw [h, ofNatI hk])
theorem updL_at {f : Nat → Int64} {i : Nat} {v : Int64} : vp_updL f i v i = v := by
  unfold vp_updL
  simp
theorem updL_no {f : Nat → Int64} {i j : Nat} {v : Int64} (h : j ≠ i) : vp_updL f i v j = f j := by
  unfold vp_updL
  simp [h]
theorem a_refuse (p0 : Int32) (σ : ST) : OK (f_X6_refuse p0 σ) (fun q => q.1.toInt = 0) := by
  unfold f_X6_refuse f_X6_refuseAt
  have l0 := li_0
  refine OK.bnd (Q := fun q => q.1.toInt = 0) (OK.ieq (fun _ => OK.ret l0) (fun _ => OK.ret l0)) (fun q hq => ?_)
  exact OK.grd (b01 (.inl hq)) (OK.ret hq)
/-- the class's row of a type, just laid -/
def AD (σ : ST) (c : Nat) (a : ST) : Prop := FA c σ a ∧ a.1 2 = σ.1 2 ∧ a.2.1 2 = σ.2.1 2 ∧ (a.1 31 c).toInt = SV σ ∧ (a.1 20 1).toInt = c + 1 ∧ (SV σ = 7 → a.2.1 34 c = σ.2.1 2 7) ∧ (¬ SV σ = 7 → a.2.1 34 c = 0) ∧ (a.1 33 c).toInt = -1
theorem a_addType (p0 : Int32) (σ : ST) (c : Nat) (hc : (σ.1 20 1).toInt = c) (hc2 : c < 262) : OK (f_X5_addType 20 p0 σ) (fun q => q.1.toInt = c ∧ FA c σ q.2 ∧ q.2.1 2 = σ.1 2 ∧ q.2.2.1 2 = σ.2.1 2 ∧ q.2.1 31 c = p0 ∧ (q.2.1 20 1).toInt = c + 1 ∧ q.2.2.1 34 c = 0 ∧ (q.2.1 33 c).toInt = -1) := by
  unfold f_X5_addType
  have l262 : (262 : Int32).toInt = 262 := by decide
  have l1 := li_1
  have nc : (σ.1 20 1).toNatClampNeg = c := nC hc
  have e1 := il_addE (x := σ.1 20 1) (y := 1) (by omega) (by omega)
  refine OK.ilt (fun _ => ?_) (fun h => by omega)
  refine OK.grd ⟨by omega, by omega⟩ ?_
  rw [nc]
  refine OK.lt (fun z2 h2 => ?_)
  refine OK.lt (fun z3 h3 => ?_)
  refine OK.lt (fun z4 h4 => ?_)
  refine OK.ret ?_
  subst h2
  subst h3
  subst h4
  refine ⟨hc, ⟨?_, ?_, ?_, ?_⟩, rfl, rfl, ?_, ?_, ?_, ?_⟩
  · intro d hd
    simp only [List.mem_cons, List.not_mem_nil, or_false, not_or] at hd
    dsimp only
    rw [stI_ne hd.2.1, stI_ne hd.2.2.2.2.2]
    show (stI (stI (stI σ 31 c p0) 32 c (-1)) 33 c (-1)).1 d = _
    rw [stI_ne hd.2.2.2.2.1, stI_ne hd.2.2.2.1, stI_ne hd.2.2.1]
  · intro i hi
    show upd (σ.1 20) 1 _ i = _
    rw [upd_no hi]
  · intro d hd
    simp only [List.mem_cons, List.not_mem_nil, or_false, not_or] at hd
    show (stL (stI (stI (stI σ 31 c p0) 32 c (-1)) 33 c (-1)) 34 c 0).2.1 d = _
    rw [stL_ne hd.2]
    rfl
  · intro i hi
    refine ⟨?_, ?_, ?_, ?_⟩
    · show upd (σ.1 31) c p0 i = _
      rw [upd_no (by omega)]
    · show upd (σ.1 32) c (-1) i = _
      rw [upd_no (by omega)]
    · show vp_updL (σ.2.1 34) c 0 i = _
      rw [updL_no (by omega)]
    · show upd (σ.1 33) c (-1) i = _
      rw [upd_no (by omega)]
  · show upd (σ.1 31) c p0 c = _
    rw [upd_at]
  · show (upd (σ.1 20) 1 (σ.1 20 1 + 1) 1).toInt = _
    rw [upd_at]
    omega
  · show vp_updL (σ.2.1 34) c 0 c = _
    rw [updL_at]
  · show (upd (σ.1 33) c (-1) c).toInt = _
    rw [upd_at]
    exact li_m1
theorem a_isType (p0 : Int32) (σ : ST) (c : Nat) (h : p0.toInt = c) (hc : c < 262) (hn : (c : Int) < (σ.1 20 1).toInt) : OK (f_X5_isType 20 p0 σ) (RO σ fun v => v.toInt = 1) := by
  unfold f_X5_isType
  have l262 : (262 : Int32).toInt = 262 := by decide
  have l0 := li_0
  refine OK.ilt (fun h => by omega) (fun _ => ?_)
  refine OK.ile (fun h => by omega) (fun _ => ?_)
  exact OK.ile (fun h => by omega) (fun _ => OK.roret li_1)
/-- the class takes the type or refuses it -/
theorem a_typeHead {rb rt : Int32 → Int32 → ST → Option (Int32 × ST)} (lev pA : Int32) (σ τ : ST) (w c : Nat) (hK : TK σ τ) (hw : w < 512) (hp : pA = Int32.ofNat w) (hc : (σ.1 20 1).toInt = c) (hcap : GD w lev.toInt σ → c < 262) (P : Int32 × ST → Prop)
    (good : GD w lev.toInt σ → ∀ (y x4 : Int32) (a : ST), y.toInt = SV σ → x4.toInt = c → AD σ c a → OK (f_X3_parseType_116 rb rt lev y x4 a) P)
    (bad : ¬ GD w lev.toInt σ → ∀ q : Int32 × ST, q.1.toInt = -1 → P q) : OK (f_X3_parseType rb rt lev pA σ) P := by
  have lm := li_m1
  have l0 := li_0
  have l1 := li_1
  have l3 := li_3
  have l4 := li_4
  have l7 := li_7
  have rng := sv_rng hK
  have l262 : (262 : Int32).toInt = 262 := by decide
  have no49 : ∀ (y : Int32) (s : ST), ¬ GD w lev.toInt σ → OK (f_X3_parseType_49 rb rt lev pA y (-1) s) P := fun y s hb => by
    unfold f_X3_parseType_49
    refine OK.ieq (fun _ => ?_) (fun h => absurd rfl h)
    exact OK.bnd (a_refuse _ _) (fun q _ => OK.ret (bad hb _ lm))
  unfold f_X3_parseType f_X3_parseType_37
  refine OK.bndR (a_sortBegun σ τ hK) (fun y hy => ?_)
  dsimp only
  refine OK.ieq (fun h => ?_) (fun h => ?_)
  · exact OK.bnd (a_refuse _ _) (fun q _ => OK.ret (bad (fun g => by have := g.1; omega) _ lm))
  refine OK.ilt (fun hl => no49 y σ (fun g => by have := g.2.1; omega)) (fun hl => ?_)
  rw [hp]
  refine OK.bndR (a_bitCount w σ hw) (fun v hv => ?_)
  dsimp only
  rw [← hp]
  refine OK.ile (fun h4 => ?_) (fun h4 => no49 y σ (fun g => by have := g.2.2.1; omega))
  have ey : y = Int32.ofNat (SV σ).toNat := intOf (by omega) (by omega)
  have hbit := mk_bit w hw (SV σ).toNat (by omega)
  rw [← ey, ← hp] at hbit
  by_cases hfull : c < 262
  · refine OK.bnd (a_addType y σ c hc hfull) (fun q hq => ?_)
    obtain ⟨q1, qF, q2, qL, q31, q20, q34, q33⟩ := hq
    unfold f_X3_parseType_49
    refine OK.ieq (fun h => by omega) (fun _ => ?_)
    refine OK.ieq (fun h0 => ?_) (fun h1 => ?_)
    · have hg : GD w lev.toInt σ := ⟨by omega, by omega, by omega, by
        cases hb9 : w.testBit (SV σ).toNat with
        | false => rfl
        | true =>
          rw [hb9, if_pos rfl] at hbit
          omega⟩
      refine OK.ieq (fun h7 => ?_) (fun h7 => ?_)
      · have hs : OK (f_X5_setAsked 20 q.1 (q.2.2.1 2 7) (q.2.1 2 5) q.2) (fun a => AD σ c a) := by
          unfold f_X5_setAsked
          refine OK.bndR (a_isType q.1 q.2 c q1 hfull (by omega)) (fun v2 hv2 => ?_)
          dsimp only
          refine OK.ieq (fun h => by omega) (fun _ => ?_)
          refine OK.grd ⟨by omega, by omega⟩ ?_
          have nq : q.1.toNatClampNeg = c := nC q1
          rw [nq]
          refine OK.ret ⟨qF.trans (c1 := c) ⟨?_, ?_, ?_, ?_⟩ (Nat.le_refl _), q2, qL, ?_, q20, fun _ => ?_, fun h => by omega, q33⟩
          · intro d hd
            simp only [List.mem_cons, List.not_mem_nil, or_false, not_or] at hd
            show (stI q.2 35 c _).1 d = _
            rw [stI_ne hd.2.2.2.2.2]
          · intro i hi
            rfl
          · intro d hd
            simp only [List.mem_cons, List.not_mem_nil, or_false, not_or] at hd
            show (stL q.2 34 c _).2.1 d = _
            rw [stL_ne hd.2]
          · intro i hi
            refine ⟨rfl, rfl, ?_, rfl⟩
            show vp_updL (q.2.2.1 34) c _ i = _
            rw [updL_no (by omega)]
          · show (q.2.1 31 c).toInt = _
            rw [q31]
            exact hy
          · show vp_updL (q.2.2.1 34) c _ c = _
            rw [updL_at, qL]
        exact OK.bnd hs (fun a ha => good hg y q.1 a hy q1 ha)
      · exact good hg y q.1 q.2 hy q1 ⟨qF, q2, qL, by rw [q31]; exact hy, q20, fun h => by omega, fun _ => q34, q33⟩
    · refine OK.bnd (a_refuse _ _) (fun q _ => OK.ret (bad (fun g => ?_) _ lm))
      have := g.2.2.2
      rw [this] at hbit
      have hbit : _ = (0 : Int) := hbit
      omega
  · have hb : ¬ GD w lev.toInt σ := fun g => hfull (hcap g)
    have hadd : f_X5_addType 20 y σ = some (-1, σ) := by
      unfold f_X5_addType
      rw [if_neg]
      rw [Int32.lt_iff_toInt_lt]
      omega
    rw [hadd]
    exact no49 y σ hb
/-- nothing of the token has changed -/
theorem LX.ext {σ τ a b : ST} (h : LX σ τ) (a1 : a.1 1 = σ.1 1) (a2 : a.1 2 = σ.1 2) (a3 : a.2.1 3 = σ.2.1 3) (a4 : a.2.1 2 = σ.2.1 2) (b1 : b.1 1 = τ.1 1) (b0 : ∀ i, i ∈ [3, 4, 5, 6, 8, 10, 13] → b.1 0 i = τ.1 0 i) (bL : b.2.1 0 = τ.2.1 0) : LX a b := by
  have e3 := b0 3 (by decide)
  have e4 := b0 4 (by decide)
  have e5 := b0 5 (by decide)
  have e6 := b0 6 (by decide)
  have e8 := b0 8 (by decide)
  have e10 := b0 10 (by decide)
  have e13 := b0 13 (by decide)
  unfold LX TK TB_ NT NB NM at h ⊢
  simp only [a1, a2, a3, a4, b1, bL, e3, e4, e5, e6, e8, e10, e13]
  exact h
/-- a type begins with a word -/
theorem TK.wd {σ τ : ST} (h : TK σ τ) (h0 : 0 ≤ SV σ) : (τ.1 0 6).toInt = 1 ∧ σ.1 2 3 = τ.1 0 5 ∧ WL (σ.2.1 2 7) (τ.2.1 0 7) := by
  have hk : (σ.1 2 4).toInt = 3 ∨ (σ.1 2 4).toInt = 2 := by
    by_cases h3 : (σ.1 2 4).toInt = 3
    · exact .inl h3
    · by_cases h2 : (σ.1 2 4).toInt = 2
      · exact .inr h2
      · rw [sv_n h3 h2] at h0
        omega
  obtain ⟨_, h | h | h | h | h | h⟩ := h
  · omega
  · have h1 := h.1
    clear h
    omega
  · exact ⟨h.1, h.2.2.1, h.2.2.2.1⟩
  · omega
  · omega
  · omega
/-- a word that means something, from its sort -/
theorem sv_word {σ τ : ST} (h : TK σ τ) (hv : SV σ = 6 ∨ SV σ = 8) : ∃ k : Nat, (k = 4 ∧ SV σ = 6 ∨ k = 5 ∧ SV σ = 8) ∧ τ.2.1 0 7 = kwV k := by
  have hk : (σ.1 2 4).toInt = 2 := by
    by_cases h3 : (σ.1 2 4).toInt = 3
    · rw [sv_3 h3] at hv
      omega
    · by_cases h2 : (σ.1 2 4).toInt = 2
      · exact h2
      · rw [sv_n h3 h2] at hv
        omega
  obtain ⟨_, h | h | h | h | h | h⟩ := h
  · omega
  · have h1 := h.1
    clear h
    omega
  · rcases h.2.2.2.2 with ⟨_, k, a, b, c⟩ | ⟨a, _⟩
    · refine ⟨k, ?_, c⟩
      rw [sv_2 hk b] at hv ⊢
      by_cases a4 : k = 4
      · rw [a4, sk_4]; omega
      · by_cases a5 : k = 5
        · rw [a5, sk_5]; omega
        · by_cases a7 : 7 ≤ k ∧ k ≤ 12
          · rw [sk_s a7] at hv; omega
          · rw [sk_n ⟨a4, a5, a7⟩] at hv; omega
    · omega
  · omega
  · omega
  · omega
/-- the rows of both, from there up to there -/
def RWS (P lo hi : Nat) (a b : ST) : Prop := ∀ j : Nat, lo ≤ j → j < hi → a.1 31 (j + P - 400) = b.1 2 j ∧ ((b.1 2 j).toInt = 7 → WL (a.2.1 34 (j + P - 400)) (b.2.1 6 j) ∧ ¬ a.2.1 34 (j + P - 400) = 0) ∧ (¬ (b.1 2 j).toInt = 7 → a.2.1 34 (j + P - 400) = 0) ∧ ((b.1 2 j).toInt = 8 → (a.1 32 (j + P - 400)).toInt = (b.1 5 (4 * j)).toInt + P - 400) ∧ 0 ≤ (b.1 4 j).toInt ∧ (b.1 4 j).toInt ≤ 4
/-- the rows of both, how they hang together -/
def RX (P lo hi : Nat) (a b : ST) : Prop := ∀ j : Nat, lo ≤ j → j < hi → ((b.1 2 j).toInt = 6 → (a.1 32 (j + P - 400)).toInt = (b.1 3 j).toInt + P - 400) ∧ (¬ (b.1 2 j).toInt = 8 → (b.1 4 j).toInt = 0) ∧ ((b.1 2 j).toInt = 8 → ∀ k : Nat, (k : Int) < (b.1 4 j).toInt → ((j : Int) < (b.1 5 (4 * j + k)).toInt ∧ (b.1 5 (4 * j + k)).toInt < hi) ∧ ((k : Int) + 1 < (b.1 4 j).toInt → (a.1 33 ((b.1 5 (4 * j + k)).toNatClampNeg + P - 400)).toInt = (b.1 5 (4 * j + k + 1)).toInt + P - 400) ∧ ((k : Int) + 1 = (b.1 4 j).toInt → (a.1 33 ((b.1 5 (4 * j + k)).toNatClampNeg + P - 400)).toInt = -1))
theorem RX.ext0 {P lo hi : Nat} {a b a' b' : ST} (h : RX P lo hi a b) (hM : ∀ j : Nat, lo ≤ j → j < hi → (b.1 4 j).toInt ≤ 4) (ha : ∀ j : Nat, lo ≤ j → j < hi → (b.1 2 j).toInt = 6 → a'.1 32 (j + P - 400) = a.1 32 (j + P - 400)) (hc : ∀ j k : Nat, lo ≤ j → j < hi → (b.1 2 j).toInt = 8 → (k : Int) < (b.1 4 j).toInt → (j : Int) < (b.1 5 (4 * j + k)).toInt → (b.1 5 (4 * j + k)).toInt < hi → a'.1 33 ((b.1 5 (4 * j + k)).toNatClampNeg + P - 400) = a.1 33 ((b.1 5 (4 * j + k)).toNatClampNeg + P - 400)) (hb : ∀ j : Nat, lo ≤ j → j < hi → b'.1 2 j = b.1 2 j ∧ ((b.1 2 j).toInt = 6 → b'.1 3 j = b.1 3 j) ∧ b'.1 4 j = b.1 4 j ∧ ∀ k : Nat, k < 4 → b'.1 5 (4 * j + k) = b.1 5 (4 * j + k)) : RX P lo hi a' b' := by
  intro j h1 h2
  obtain ⟨r1, r2, r3⟩ := h j h1 h2
  obtain ⟨e1, e2, e3, e4⟩ := hb j h1 h2
  have hm := hM j h1 h2
  rw [e1, e3]
  refine ⟨fun h6 => ?_, r2, fun h8 k hk => ?_⟩
  · rw [ha j h1 h2 h6, e2 h6]
    exact r1 h6
  · obtain ⟨x1, x2, x3⟩ := r3 h8 k hk
    rw [e4 k (by omega), hc j k h1 h2 h8 hk x1.1 x1.2]
    refine ⟨x1, fun h9 => ?_, x3⟩
    rw [Nat.add_assoc, e4 (k + 1) (by omega), ← Nat.add_assoc]
    exact x2 h9
theorem RX.ext {P lo hi : Nat} {a b a' b' : ST} (h : RX P lo hi a b) (hM : ∀ j : Nat, lo ≤ j → j < hi → (b.1 4 j).toInt ≤ 4) (ha : ∀ j : Nat, lo ≤ j → j < hi → (b.1 2 j).toInt = 6 → a'.1 32 (j + P - 400) = a.1 32 (j + P - 400)) (hc : ∀ j : Nat, lo < j → j < hi → a'.1 33 (j + P - 400) = a.1 33 (j + P - 400)) (hb : ∀ j : Nat, lo ≤ j → j < hi → b'.1 2 j = b.1 2 j ∧ ((b.1 2 j).toInt = 6 → b'.1 3 j = b.1 3 j) ∧ b'.1 4 j = b.1 4 j ∧ ∀ k : Nat, k < 4 → b'.1 5 (4 * j + k) = b.1 5 (4 * j + k)) : RX P lo hi a' b' := h.ext0 hM ha (fun j k h1 _ _ _ x1 x2 => by
  have n9 := nN_ (x := b.1 5 (4 * j + k)) (by omega)
  exact hc _ (by omega) (by omega)) hb
theorem RX.join {P lo t hi : Nat} {a b : ST} (h : RX P lo t a b) (k : RX P t hi a b) (ht : t ≤ hi) : RX P lo hi a b := by
  intro j h1 h2
  by_cases e : j < t
  · obtain ⟨r1, r2, r3⟩ := h j h1 e
    refine ⟨r1, r2, fun h8 k hk => ?_⟩
    obtain ⟨x1, x2⟩ := r3 h8 k hk
    exact ⟨by omega, x2⟩
  · exact k j (by omega) h2
theorem RX.eq {P lo hi : Nat} {a b a' b' : ST} (h : RX P lo hi a b) (a1 : a'.1 32 = a.1 32) (a2 : a'.1 33 = a.1 33) (b2 : b'.1 2 = b.1 2) (b3 : b'.1 3 = b.1 3) (b4 : b'.1 4 = b.1 4) (b5 : b'.1 5 = b.1 5) : RX P lo hi a' b' := by
  unfold RX at h ⊢
  rw [a1, a2, b2, b3, b4, b5]
  exact h
/-- both have read a type -/
def TS (P t0 d : Nat) (s : Int) (σ τ : ST) (va : Int32) (a : ST) (vb : Int32) (b : ST) : Prop := ∃ t1 : Nat, (va.toInt = (t0 : Int) + P - 400 ∧ vb.toInt = t0 ∧ t0 < t1 ∧ (b.1 0 34).toInt = t1 ∧ (a.1 20 1).toInt = (t1 : Int) + P - 400) ∧ FA (t0 + P - 400) σ a ∧ LX a b ∧ ((∀ c, c ∉ [0, 6] → b.2.1 c = τ.2.1 c) ∧ ∀ j, j < t0 → b.2.1 6 j = τ.2.1 6 j) ∧ RWS P t0 t1 a b ∧ VD t0 t1 (b.1 2) (b.1 3) (b.1 4) (b.1 5) d vb ∧ (b.1 2 t0).toInt = s ∧ 4 * ((t1 : Int) - 400) ≤ (b.1 0 4).toInt + 1 ∧ ((b.1 0 6).toInt = 1 → 4 * ((t1 : Int) - 400) ≤ (b.1 0 4).toInt) ∧ RX P t0 t1 a b ∧ (a.1 33 (t0 + P - 400)).toInt = -1
def TYP (P t0 w : Nat) (lev : Int) (σ τ : ST) (qa : Int32 × ST) (qb : (Int32 × ST) × Nat) : Prop := FG t0 τ qb.1.2 ∧ ((qa.1.toInt = -1 ∧ qb.1.1.toInt = -1 ∧ qb.2 + 40 * uT qb.1.2 ≤ 40 * uT τ + 23) ∨ (GD w lev σ ∧ TS P t0 (4 - lev).toNat (SV σ) σ τ qa.1 qa.2 qb.1.1 qb.1.2 ∧ qb.2 + 40 * uT qb.1.2 + 17 ≤ 40 * uT τ))
/-- before a type is read -/
def PRE (P t0 : Nat) (σ τ : ST) : Prop := (1 ≤ P ∧ P ≤ 6) ∧ (400 ≤ t0 ∧ (τ.1 0 34).toInt = t0 ∧ (σ.1 20 1).toInt = (t0 : Int) + P - 400) ∧ LX σ τ ∧ 4 * ((t0 : Int) - 400) ≤ (τ.1 0 4).toInt ∧ ((τ.1 0 6).toInt = 1 → 4 * ((t0 : Int) - 400) + 2 ≤ (τ.1 0 4).toInt)
def cTY (N : Nat) (rA : Int32 → Int32 → ST → Option (Int32 × ST)) (rB : Int32 → Int32 → ST → Option ((Int32 × ST) × Nat)) : Prop := ∀ (P t0 w : Nat) (lev pA pB : Int32) (σ τ : ST), PRE P t0 σ τ → (0 ≤ lev.toInt ∧ lev.toInt ≤ 4) → pA = Int32.ofNat w → MK w pB t0 τ → 2 * (5 - lev.toInt) ≤ (N : Int) → OK (rA lev pA σ) (fun qa => OK (rB lev pB τ) (TYP P t0 w lev.toInt σ τ qa))
