/-! a value that has no others in it: both sides -/
theorem FT_.to {τ t : ST} (e0 : ∀ j, j ≠ 46 → t.1 0 j = τ.1 0 j) (eL : t.2.1 0 = τ.2.1 0) (s : Int) : FT_ t s ↔ FT_ τ s := by
  unfold FT_ W_
  rw [e0 6 (by omega), e0 10 (by omega), e0 13 (by omega), eL]
/-- what the class keeps of a token as a value -/
def WCN (s : Int32) (t : ST) (w : Int64) (cnt : Int32) : Prop := ∀ (c e : Int64) (n : Int32), BTS s.toInt t c → (s.toInt = 5 ∧ e = t.2.1 0 7 ∧ n = t.1 0 8 ∨ ¬ s.toInt = 5 ∧ e = 0 ∧ n = 0) → EWR s.toInt w c e n ∧ cnt.toInt = n.toInt
theorem a_93 {rF rI : Int32 → Int32 → Int32 → ST → Option (Int32 × ST)} {rV : Int32 → Int32 → Int32 → Int32 → ST → Option (Int32 × ST)} (x4 x5 s row : Int32) (σ t : ST) (hrow : 0 ≤ row.toInt) (hX : LX σ t) (hW : TWX σ t) (hk : ¬ (σ.1 2 4).toInt = 1) (hF : FT_ t s.toInt) (P : Int32 × ST → Prop) (k : ∀ (w : Int64) (cnt : Int32), WCN s t w cnt → QT (f_X8_parseValue_142 rF rI rV x4 x5 s row w cnt row σ) P) : QT (f_X8_parseValue_93 rF rI rV x4 x5 s row σ) P := by
  have l0 := li_0
  have l5 := li_5
  have lm := li_m1
  unfold f_X8_parseValue_93
  refine QT.ieq (fun e => by omega) (fun _ => ?_)
  refine QT.bndR (ab_ewr s σ t hX hW hk hF) (fun w hw => ?_)
  dsimp only
  refine QT.ieq (fun e5 => ?_) (fun e5 => ?_)
  · have h5 : (t.1 0 6).toInt = 3 := by
      rw [show s.toInt = 5 by omega] at hF
      exact ft_5.mp hF
    have bts : BTS s.toInt t 0 := ⟨fun h => by omega, fun h => by omega, fun h => by omega, fun _ => rfl⟩
    have k0 := hw 0 (t.2.1 0 7) (t.1 0 8) bts (.inl ⟨h5, rfl, rfl⟩)
    unfold EWR at k0
    rw [if_pos (by omega)] at k0
    rw [a_lettersIn12 w (t.2.1 0 7) (t.1 0 8) σ k0.2]
    rw [sbnd]
    dsimp only
    refine k w _ (fun c e n hc he => ?_)
    rcases he with ⟨_, he, hn⟩ | ⟨h9, _⟩
    · exact ⟨hw c e n hc (.inl ⟨h5, he, hn⟩), by rw [hn]⟩
    · exact absurd (by omega) h9
  · have hn5 := ft_n5 hF (by omega) (fun h => hX.q13 h)
    refine k w 0 (fun c e n hc he => ?_)
    rcases he with ⟨h9, _⟩ | ⟨_, he, hn⟩
    · exact absurd h9 (by omega)
    · exact ⟨hw c e n hc (.inr ⟨hn5, he, by rw [hn]; exact l0⟩), by rw [hn]⟩
theorem SUA.set {b x : Nat} {σ : ST} {c : Int32} {w : Int64} : SUA b x σ (stL (stI σ (b + 4) x c) (b + 6) x w) := by
  have e1 : ∀ d, d ≠ b + 4 → (stL (stI σ (b + 4) x c) (b + 6) x w).1 d = σ.1 d := fun d hd => stI_ne hd
  have e4 : ∀ i, i ≠ x → (stL (stI σ (b + 4) x c) (b + 6) x w).1 (b + 4) i = σ.1 (b + 4) i := fun i hi => by
    show (stI σ (b + 4) x c).1 (b + 4) i = _
    rw [stI_at, upN hi]
  have e6 : ∀ i, i ≠ x → (stL (stI σ (b + 4) x c) (b + 6) x w).2.1 (b + 6) i = σ.2.1 (b + 6) i := fun i hi => by
    rw [stLA, upLN hi]
    rfl
  refine ⟨fun i hi => ⟨⟨fun k k1 k5 => ?_, e6 i (by omega)⟩, by rw [e1 _ (by omega)], by rw [e1 _ (by omega)], by rw [e1 _ (by omega)]⟩, by rw [e1 _ (by omega)], by rw [e1 _ (by omega)], by rw [e1 _ (by omega)], by rw [e1 _ (by omega)], by rw [e1 _ (by omega)]⟩
  by_cases e : k = 4
  · rw [e]
    exact e4 i (by omega)
  · rw [e1 _ (by omega)]
theorem SUA.eq {b x : Nat} {σ s : ST} (h : ∀ c, b ≤ c → s.1 c = σ.1 c) (h2 : s.2.1 (b + 6) = σ.2.1 (b + 6)) : SUA b x σ s := ⟨fun i _ => ⟨⟨fun k _ _ => by rw [h _ (by omega)], by rw [h2]⟩, by rw [h _ (by omega)], by rw [h _ (by omega)], by rw [h _ (by omega)]⟩, by rw [h _ (by omega)], by rw [h _ (by omega)], by rw [h _ (by omega)], by rw [h _ (by omega)], by rw [h _ (by omega)]⟩
theorem CA.sua {x : Nat} {σ a : ST} (h : CA σ a) : SUA 62 x σ a := SUA.eq (fun c hc => h.1 c (by omega)) (h.2.2.1 _ (by omega))
theorem SUB.set {v : Nat} {τ : ST} {c e : Int64} {n : Int32} : SUB v τ (stI (stL (stL τ 21 v c) 22 v e) 23 v n) := by
  have e1 : ∀ d, d ≠ 23 → (stI (stL (stL τ 21 v c) 22 v e) 23 v n).1 d = τ.1 d := fun d hd => stI_ne hd
  have e23 : ∀ i, i ≠ v → (stI (stL (stL τ 21 v c) 22 v e) 23 v n).1 23 i = τ.1 23 i := fun i hi => by
    rw [stI_at, upN hi]
    rfl
  have e21 : ∀ i, i ≠ v → (stI (stL (stL τ 21 v c) 22 v e) 23 v n).2.1 21 i = τ.2.1 21 i := fun i hi => by
    show (stL (stL τ 21 v c) 22 v e).2.1 21 i = _
    rw [stL_ne (by omega), stLA, upLN hi]
  have e22 : ∀ i, i ≠ v → (stI (stL (stL τ 21 v c) 22 v e) 23 v n).2.1 22 i = τ.2.1 22 i := fun i hi => by
    show (stL (stL τ 21 v c) 22 v e).2.1 22 i = _
    rw [stLA, upLN hi, stL_ne (by omega)]
  refine ⟨fun i hi => ⟨⟨⟨by rw [e1 _ (by omega)], e23 i (by omega)⟩, fun k k1 k5 => by rw [e1 _ (by omega)], e21 i (by omega), e22 i (by omega)⟩, by rw [e1 _ (by omega)], by rw [e1 _ (by omega)], by rw [e1 _ (by omega)]⟩, by rw [e1 _ (by omega)], by rw [e1 _ (by omega)], fun k k1 k5 => by rw [e1 _ (by omega)]⟩
theorem SUB.eq {v : Nat} {τ t : ST} (h : ∀ c, 20 ≤ c → t.1 c = τ.1 c) (h2 : t.2.1 21 = τ.2.1 21 ∧ t.2.1 22 = τ.2.1 22) : SUB v τ t := ⟨fun i _ => ⟨⟨⟨by rw [h _ (by omega)], by rw [h _ (by omega)]⟩, fun k _ _ => by rw [h _ (by omega)], by rw [h2.1], by rw [h2.2]⟩, by rw [h _ (by omega)], by rw [h _ (by omega)], by rw [h _ (by omega)]⟩, by rw [h _ (by omega)], by rw [h _ (by omega)], fun k _ _ => by rw [h _ (by omega)]⟩
/-- what comes of a token read on both sides -/
def GOF (t a b : ST) (F : Int) : Prop := ((∀ c, c ≠ 0 → b.1 c = t.1 c) ∧ b.1 0 46 = t.1 0 46 ∧ (∀ c, c ≠ 0 → b.2.1 c = t.2.1 c)) ∧ KVB t b ∧ (LX a b ∧ TWX a b) ∧ (uT b : Int) ≤ F
theorem GOF.sub {t a b : ST} {F : Int} {v : Nat} (h : GOF t a b F) : SUB v t b := SUB.eq (fun c hc => h.1.1 c (by omega)) ⟨h.1.2.2 21 (by omega), h.1.2.2 22 (by omega)⟩
theorem ab_gof (σ τ : ST) (h : LX σ τ) (h0 : ¬ (σ.1 2 4).toInt = 0) (h1 : ¬ (σ.1 2 4).toInt = 1) : QT (f_X6_advance σ) (fun a => CA σ a ∧ QT (f_X11_go τ) (fun b => GOF τ a b ((uT τ : Int) - 1))) := by
  have hK := h.2.2.1
  have hg := hK.hg h0 h1
  have k0 : ¬ (τ.1 0 6).toInt = 0 := fun e => h0 (hK.t0.mpr e)
  have hu := uT_ne k0
  intro a ea
  obtain ⟨a', ea', b', eb', hq⟩ := ab_goW σ τ h hg
  have e : a = a' := Option.some.inj (ea.symm.trans ea')
  subst e
  obtain ⟨⟨ca, cb, cL, hX, _, _, hu2⟩, hW⟩ := hq
  refine ⟨ca, fun b eb => ?_⟩
  have e : b = b' := Option.some.inj (eb.symm.trans eb')
  subst e
  exact ⟨⟨fun c hc => cb.1 c hc (by simp), cb.2.1 46 (by decide), cL⟩, cb.kvb cL, ⟨hX, hW⟩, by omega⟩
/-- an answer of both: the class refuses (then the reference can't end well), or both go on -/
def VOUT (L : Int) (K : ST → ST → Prop) (qa qb : Int32 × ST) : Prop := (qa.1.toInt = 0 ∧ (qb.1 = 0 ∨ ¬ qb.1 = 0 ∧ DMD L qb.2)) ∨ (qa.1.toInt = 1 ∧ qb.1.toInt = 1 ∧ K qa.2 qb.2)
/-- what stands there when a value of the types tA, tB was told, below pa, pb, at pl -/
def VPOST (p : Nat) (S T : ST) (L : Nat) (tA tB : Int32) (x v : Nat) (pa pb pl : Int32) (l m : List EN) (σ τ a b : ST) : Prop := ∃ e f : Nat, CXT S T a b e f (1000 + L + 1) ∧ (x < e ∧ v < f ∧ pl.toInt < 200) ∧ VAL False 62 p S T a b (32 - L) tA tB (x, e) (v, f) ∧ ((a.1 (62 + 2) x = pa ∧ a.1 (62 + 3) x = pl) ∧ (b.1 24 v = pb ∧ b.1 25 v = pl) ∧ a.1 (62 + 5) x = b.1 27 v) ∧ XTA 62 x pa.toInt (rA l) (rA m) σ a ∧ XTB v pb.toInt (rB l) (rB m) τ b
/-- a new node and what its rows kept -/
theorem vp_kid {p : Nat} {S T : ST} {L : Nat} {tA tB : Int32} {x v e f : Nat} {pa pb pl br so : Int32} {l m : List EN} {σ τ s t a b : ST} (hP : PAR σ τ x v pa pb pl l m) (gA : GRW 62 x so pa pl (rA l) (rA m) σ s) (gB : GRB v so pb pl br (rB l) (rB m) τ t) (hA : SUA 62 x s a) (hB : SUB v t b) (hC : CXT S T a b e f (1000 + L + 1)) (h1 : x < e ∧ v < f ∧ pl.toInt < 200) (hV : VAL False 62 p S T a b (32 - L) tA tB (x, e) (v, f)) : VPOST p S T L tA tB x v pa pb pl l m σ τ a b := by
  have hlt := hP.lt
  refine ⟨e, f, hC, h1, hV, ⟨⟨?_, ?_⟩, ⟨?_, ?_⟩, ?_⟩, XTA.mk gA hA hlt.2.2.1 hlt.1, XTB.mk gB hB hlt.2.2.2.1 hlt.2.1⟩
  · exact hA.2.2.2.1.trans gA.2.2.1.2.1
  · exact hA.2.2.2.2.1.trans gA.2.2.1.2.2.1
  · exact (hB.2.2.2 24 (by omega) (by omega)).trans gB.2.2.1.2.1.1
  · exact (hB.2.2.2 25 (by omega) (by omega)).trans gB.2.2.1.2.1.2
  · rw [hA.2.2.2.2.2, gA.2.2.1.2.2.2.2.1, hB.2.2.2 27 (by omega) (by omega), gB.2.2.1.2.2.1.2]
theorem GRW.suc {x : Nat} {so pa pl : Int32} {l m : List Nat} {σ s : ST} {b : Nat} (h : GRW b x so pa pl l m σ s) : (s.1 b 1).toInt = (x : Int) + 1 ∧ s.1 b 0 = σ.1 b 0 := ⟨h.2.1, h.1.2.2.2 0 (by omega)⟩
/-- the leaf itself -/
theorem ab_leaf {p : Nat} {S T : ST} {L : Nat} {tA tB uA u : Int32} {x v : Nat} {pa pb pl br so : Int32} {l m : List EN} {σ τ s t : ST} (hL : L ≤ 30) (h200 : pl.toInt < 200) (hP : PAR σ τ x v pa pb pl l m) (hC : CXT S T σ τ x v (1000 + L)) (hx : (x : Int) < 502) (gA : GRW 62 x so pa pl (rA l) (rA m) σ s) (gB : GRB v so pb pl br (rB l) (rB m) τ t) (hso : so = T.1 2 u.toNatClampNeg) (hs5 : 0 ≤ so.toInt ∧ so.toInt ≤ 5) (hO : OWN S T tA tB br uA u) (h0 : ¬ (σ.1 2 4).toInt = 0) (h1 : ¬ (σ.1 2 4).toInt = 1) (w c e : Int64) (cnt n : Int32) (hE : EWR so.toInt w c e n) (hn : cnt.toInt = n.toInt) : QT (f_X6_advance (stL (stI s (62 + 4) x cnt) (62 + 6) x w)) (fun a => QT (f_X11_go (stI (stL (stL t 21 v c) 22 v e) 23 v n)) (fun b => VPOST p S T L tA tB x v pa pb pl l m σ τ a b)) := by
  obtain ⟨⟨kA, kB⟩, hXW, ⟨c1, c0⟩, cv, cF⟩ := hC
  have hXW1 := LX.grow hXW gA gB
  have l0 := li_0
  have sc := gA.suc
  have e2 : s.1 2 = σ.1 2 := gA.1.1 2 (by omega)
  have t0 : ∀ j, j ≠ 46 → t.1 0 j = τ.1 0 j := gB.1.2.2.2
  generalize hs2 : stL (stI s (62 + 4) x cnt) (62 + 6) x w = s2
  generalize ht2 : stI (stL (stL t 21 v c) 22 v e) 23 v n = t2
  have sA : SUA 62 x s s2 := by rw [← hs2]; exact SUA.set
  have sB : SUB v t t2 := by rw [← ht2]; exact SUB.set
  have s2c : ∀ d, d ≠ 62 + 4 → s2.1 d = s.1 d := fun d hd => by rw [← hs2]; exact stI_ne hd
  have s2L : ∀ d, d ≠ 62 + 6 → s2.2.1 d = s.2.1 d := fun d hd => by rw [← hs2]; exact stL_ne hd
  have s2E : s2.2.2 = s.2.2 := by rw [← hs2]; rfl
  have t2c : ∀ d, d ≠ 23 → t2.1 d = t.1 d := fun d hd => by rw [← ht2]; exact stI_ne hd
  have t2L : ∀ d, d ≠ 21 → d ≠ 22 → t2.2.1 d = t.2.1 d := fun d h1 h2 => by
    rw [← ht2]
    show (stL (stL t 21 v c) 22 v e).2.1 d = _
    rw [stL_ne h2, stL_ne h1]
  have t2E : t2.2.2 = t.2.2 := by rw [← ht2]; rfl
  have hX2 : LX s2 t2 := hXW1.1.ext (s2c 1 (by omega)) (s2c 2 (by omega)) (s2L 3 (by omega)) (s2L 2 (by omega)) (t2c 1 (by omega)) (fun i _ => by rw [t2c 0 (by omega)]) (t2L 0 (by omega) (by omega))
  have kA2 : KVA σ s2 := gA.kva.trans ⟨fun d d2 d6 => s2c d (by omega), ⟨by rw [s2c 2 (by omega)], fun i _ => by rw [s2c 62 (by omega)]⟩, fun d d2 d6 => s2L d (by omega), s2E⟩
  have kB2 : KVB τ t2 := gB.kvb.trans ⟨fun d d0 d20 hd => t2c d (by omega), fun i _ _ _ _ _ _ _ _ => by rw [t2c 0 (by omega)], fun d d0 d21 d22 => t2L d d21 d22⟩
  have ht46 : (t2.1 0 46).toInt = (v : Int) + 1 := by rw [t2c 0 (by omega)]; exact gB.2.1
  have hu2 : uT t2 = uT τ := by
    have := (hX2.tx)
    have e9 := (TX.ext (τ := τ) (t := t2) hXW.1.tx (fun j hj => by rw [t2c 0 (by omega)]; exact t0 j hj)).2
    exact e9
  refine (ab_gof s2 t2 hX2 (by rw [s2c 2 (by omega), e2]; exact h0) (by rw [s2c 2 (by omega), e2]; exact h1)).mono (fun a ha => ?_)
  obtain ⟨ca, hb⟩ := ha
  refine hb.mono (fun b hb => ?_)
  have sA2 := sA.trans ca.sua
  have sB2 := sB.trans (hb.sub (v := v))
  obtain ⟨⟨b1, b46, bL⟩, kb, hXb, hub⟩ := hb
  have ax1 : ∀ d, d ≠ 62 + 4 → 62 ≤ d → a.1 d = s.1 d := fun d hd h62 => (ca.1 d (by omega)).trans (s2c d hd)
  refine vp_kid hP gA gB sA2 sB2 (e := x + 1) (f := v + 1) ⟨⟨kA.trans (kA2.trans ca.kva), kB.trans (kB2.trans kb)⟩, hXb, ⟨?_, ?_⟩, ?_, ?_⟩ ⟨by omega, by omega, h200⟩ ?_
  · rw [ax1 62 (by omega) (by omega), sc.1]
    omega
  · rw [ax1 62 (by omega) (by omega), sc.2]
    exact c0
  · rw [b46, ht46]
    omega
  · omega
  · rw [show 32 - L = (31 - L) + 1 by omega]
    have b20 : b.1 20 v = so := (sB2.2.2.1).trans gB.2.2.1.1.1
    have b26 : b.1 26 v = br := (sB2.2.2.2 26 (by omega) (by omega)).trans gB.2.2.1.2.2.1.1
    have a1 : a.1 (62 + 1) x = so := (sA2.2.2.1).trans gA.2.2.1.1
    refine ⟨⟨by show x < x + 1; omega, by show v < v + 1; omega⟩, uA, u, ?_, ⟨⟨?_, ?_⟩, ?_⟩, fun _ => ?_, fun h => ?_, fun h => ?_, fun h => ?_⟩
    · show OWN S T tA tB (b.1 26 v) uA u
      rw [b26]
      exact hO
    · exact hso.symm.trans b20.symm
    · exact a1.trans b20.symm
    · show 0 ≤ (b.1 20 v).toInt ∧ (b.1 20 v).toInt ≤ 7
      rw [b20]
      omega
    · refine ⟨?_, rfl⟩
      show LEAF 62 a b x v
      have a7 : a.1 (62 + 7) x = s.1 (62 + 7) x := by rw [ax1 _ (by omega) (by omega)]
      have a6 : a.2.1 (62 + 6) x = w := by rw [ca.2.2.1 _ (by omega), ← hs2, stLA, upLA rfl]
      have a4 : a.1 (62 + 4) x = cnt := by
        rw [ca.1 _ (by omega), ← hs2]
        show (stI s (62 + 4) x cnt).1 (62 + 4) x = _
        rw [stI_at, upA rfl]
      have b28 : b.1 28 v = t.1 28 v := by rw [b1 _ (by omega), t2c _ (by omega)]
      have b21 : b.2.1 21 v = c := by
        rw [bL _ (by omega), ← ht2]
        show (stL (stL t 21 v c) 22 v e).2.1 21 v = _
        rw [stL_ne (by omega), stLA, upLA rfl]
      have b22 : b.2.1 22 v = e := by
        rw [bL _ (by omega), ← ht2]
        show (stL (stL t 21 v c) 22 v e).2.1 22 v = _
        rw [stLA, upLA rfl]
      have b23 : b.1 23 v = n := by rw [b1 _ (by omega), ← ht2, stI_at, upA rfl]
      unfold LEAF
      rw [a7, b28, b20, a6, b21, b22, b23, a4]
      exact ⟨⟨gA.2.2.2.2.1.1, gB.2.2.2.2.1.1⟩, hE, hn⟩
    · have h : 6 ≤ (b.1 20 v).toInt := h
      rw [b20] at h
      omega
    · have h : (b.1 20 v).toInt = 6 := h
      rw [b20] at h
      omega
    · have h : (b.1 20 v).toInt = 7 := h
      rw [b20] at h
      omega
