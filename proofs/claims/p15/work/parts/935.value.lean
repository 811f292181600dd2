/-! a value of both sides -/
theorem CHO.rng {p : Nat} {rm : Int} {S T τ : ST} {d : Nat} {x y br u : Int32} (h : TG p rm S T d x y) (k : CHO T τ y br u) : 0 ≤ u.toInt ∧ u.toInt < 800 := by
  rcases k with ⟨_, _, e⟩ | ⟨h8, m, hm, hf, k1, k2⟩
  · rw [e]
    exact h.1.2
  · rcases hf with ⟨hf, _⟩ | ⟨i, hi, e, _⟩
    · rw [k1 hf]
      exact h.1.2
    · obtain ⟨m2, _, hM, hT, _⟩ := h.2.2.2.2.2 h8
      obtain ⟨d', hG⟩ := TG.ex (hT i (by omega)).1
      rw [k2 i e]
      exact hG.1.2
theorem VOUT.imp {L : Int} {K K' : ST → ST → Prop} {qa qb : Int32 × ST} (h : VOUT L K qa qb) (k : ∀ a b, K a b → K' a b) : VOUT L K' qa qb := by
  rcases h with h | ⟨h1, h2, h3⟩
  · exact .inl h
  · exact .inr ⟨h1, h2, k _ _ h3⟩
theorem BTS.to {s : Int} {τ t : ST} {v : Int64} (h : BTS s t v) (e0 : ∀ j, j ≠ 46 → t.1 0 j = τ.1 0 j) (eL : t.2.1 0 = τ.2.1 0) (eE : t.2.2.1 = τ.2.2.1) : BTS s τ v := by
  unfold BTS W_ at h ⊢
  rw [e0 6 (by omega), e0 10 (by omega), eL, eE] at h
  exact h
theorem a_78 {rF rI : Int32 → Int32 → Int32 → ST → Option (Int32 × ST)} {rV : Int32 → Int32 → Int32 → Int32 → ST → Option (Int32 × ST)} (x4 x5 x6 : Int32) (σ : ST) : QT (f_X8_parseValue_93 rF rI rV x4 x5 x6 (-1) σ) (fun q => q.1.toInt = 0) := by
  unfold f_X8_parseValue_93
  exact QT.ite (fun _ => qa_ref 4 σ) (fun h => absurd rfl h)
theorem NEWB.of {v : Nat} {so pb pl br : Int32} {l m : List Nat} {τ t : ST} (g : GRB v so pb pl br l m τ t) : NEWB v so.toInt t := by
  obtain ⟨_, _, ⟨⟨f6, f7⟩, _, _, f12, f13⟩, _, f15, _⟩ := g
  exact ⟨f15, ⟨f7, by rw [f6]⟩, f12, f13⟩
theorem NEWA.of {x : Nat} {so pa pl : Int32} {l m : List Nat} {σ s : ST} (g : GRW 62 x so pa pl l m σ s) : NEWA x (stL (stI s (62 + 4) x 0) (62 + 6) x 0) := by
  obtain ⟨_, _, _, _, f15, _⟩ := g
  have e1 : ∀ d, d ≠ 62 + 4 → (stL (stI s (62 + 4) x 0) (62 + 6) x 0).1 d = s.1 d := fun d hd => stI_ne hd
  refine ⟨⟨?_, ?_⟩, ?_, ?_⟩
  · rw [e1 _ (by omega)]
    exact f15.1
  · rw [e1 _ (by omega)]
    exact f15.2
  · show (stI s (62 + 4) x 0).1 (62 + 4) x = 0
    rw [stI_at, upA rfl]
  · rw [stLA, upLA rfl]
theorem NEWA.ca {x : Nat} {σ a : ST} (h : NEWA x σ) (ca : CA σ a) : NEWA x a := by
  unfold NEWA
  rw [ca.1 _ (by omega), ca.1 _ (by omega), ca.1 _ (by omega), ca.2.2.1 _ (by omega)]
  exact h
/-- a list's node -/
theorem vp_list {p : Nat} {S T : ST} {L x v : Nat} {tA tB uA u pa pb pl br so : Int32} {l m : List EN} {σ τ s t s2 a a' b' : ST} (hL : L ≤ 30) (h200 : pl.toInt < 200) (hP : PAR σ τ x v pa pb pl l m) (gA : GRW 62 x so pa pl (rA l) (rA m) σ s) (gB : GRB v so pb pl br (rB l) (rB m) τ t) (hso : so = T.1 2 u.toNatClampNeg) (hs6 : so.toInt = 6) (hO : OWN S T tA tB br uA u) (h12 : SUA 62 x s s2) (ca : CA s2 a) (h : IPO p S T L (S.1 16 uA.toNatClampNeg) (T.1 3 u.toNatClampNeg) x v a t a' b') : VPOST p S T L tA tB x v pa pb pl l m σ τ a' b' := by
  obtain ⟨e, f, k, ⟨hC, h1, h2⟩, ⟨hs1, hs2⟩, ⟨h3, h4, h5⟩, hK, h6, h7, h8⟩ := h
  have sA := h12.trans (ca.sua.trans hs1)
  refine vp_kid hP gA gB sA hs2 hC ⟨h1, h2, h200⟩ ?_
  rw [show 32 - L = (31 - L) + 1 by omega]
  have b20 : b'.1 20 v = so := (hs2.2.2.1).trans gB.2.2.1.1.1
  have b26 : b'.1 26 v = br := (hs2.2.2.2 26 (by omega) (by omega)).trans gB.2.2.1.2.2.1.1
  have a1 : a'.1 (62 + 1) x = so := (sA.2.2.1).trans gA.2.2.1.1
  refine ⟨⟨h1, h2⟩, uA, u, ?_, ⟨⟨?_, ?_⟩, ?_⟩, fun h => ?_, fun _ => ⟨?_, h8⟩, fun _ => ⟨k, h3, h4, h5, hK⟩, fun h => ?_⟩
  · show OWN S T tA tB (b'.1 26 v) uA u
    rw [b26]
    exact hO
  · exact hso.symm.trans b20.symm
  · exact a1.trans b20.symm
  · show 0 ≤ (b'.1 20 v).toInt ∧ (b'.1 20 v).toInt ≤ 7
    rw [b20]
    omega
  · have h : (b'.1 20 v).toInt ≤ 5 := h
    rw [b20] at h
    omega
  · exact h6.trans h7.symm
  · have h : (b'.1 20 v).toInt = 7 := h
    rw [b20] at h
    omega
/-- a record's node -/
theorem vp_rec {p : Nat} {S T : ST} {L x v R k : Nat} {tA tB uA u pa pb pl br so : Int32} {l m : List EN} {σ τ s t s2 a a' b' : ST} (hL : L ≤ 30) (h200 : pl.toInt < 200) (hP : PAR σ τ x v pa pb pl l m) (gA : GRW 62 x so pa pl (rA l) (rA m) σ s) (gB : GRB v so pb pl br (rB l) (rB m) τ t) (hso : so = T.1 2 u.toNatClampNeg) (hs7 : so.toInt = 7) (hO : OWN S T tA tB br uA u) (h12 : SUA 62 x s s2) (ca : CA s2 a) (hR : (T.1 3 u.toNatClampNeg).toInt + 6 * (p : Int) = R ∧ (S.1 16 uA.toNatClampNeg).toInt = R ∧ (T.1 11 R).toInt = k) (h : PPO p S T L R k x v a t a' b') : VPOST p S T L tA tB x v pa pb pl l m σ τ a' b' := by
  obtain ⟨e, f, z, ⟨hC, h1, h2⟩, ⟨hs1, hs2⟩, h3, hK, h6, h7, h8⟩ := h
  have sA := h12.trans (ca.sua.trans hs1)
  refine vp_kid hP gA gB sA hs2 hC ⟨h1, h2, h200⟩ ?_
  rw [show 32 - L = (31 - L) + 1 by omega]
  have b20 : b'.1 20 v = so := (hs2.2.2.1).trans gB.2.2.1.1.1
  have b26 : b'.1 26 v = br := (hs2.2.2.2 26 (by omega) (by omega)).trans gB.2.2.1.2.2.1.1
  have a1 : a'.1 (62 + 1) x = so := (sA.2.2.1).trans gA.2.2.1.1
  refine ⟨⟨h1, h2⟩, uA, u, ?_, ⟨⟨?_, ?_⟩, ?_⟩, fun h => ?_, fun _ => ⟨?_, h8⟩, fun h => ?_, fun _ => ⟨R, k, z, hR, h3, fun h => h.elim, hK⟩⟩
  · show OWN S T tA tB (b'.1 26 v) uA u
    rw [b26]
    exact hO
  · exact hso.symm.trans b20.symm
  · exact a1.trans b20.symm
  · show 0 ≤ (b'.1 20 v).toInt ∧ (b'.1 20 v).toInt ≤ 7
    rw [b20]
    omega
  · have h : (b'.1 20 v).toInt ≤ 5 := h
    rw [b20] at h
    omega
  · exact h6.trans h7.symm
  · have h : (b'.1 20 v).toInt = 6 := h
    rw [b20] at h
    omega
theorem tok_ne {σ τ : ST} (hX : LX σ τ) (h : LT_ τ ∨ (τ.1 0 13).toInt = 123) : ¬ (σ.1 2 4).toInt = 0 := by
  intro e
  have h0 := hX.2.2.1.t0.mp e
  have h13 := hX.tx.2.2.2
  rcases h with h | h
  · unfold LT_ W_ at h
    omega
  · exact h13 (by omega) h0
theorem ab_value {rF rI : Int32 → Int32 → Int32 → ST → Option (Int32 × ST)} {rV : Int32 → Int32 → Int32 → Int32 → ST → Option (Int32 × ST)} {ri rp : Int32 → Int32 → Int32 → Int32 → ST → Option ((Int32 × ST) × Nat)} {rv : Int32 → Int32 → Int32 → Int32 → Int32 → ST → Option ((Int32 × ST) × Nat)} {p : Nat} {S T : ST} (hI : ITP p (T.1 8 p).toInt S T rI ri) (hPt : PTP p (T.1 8 p).toInt S T rF rp) (hNU : ∀ s : ST, (∀ (p0 p1 p2 p3 : Int32) (σ : ST), NUT s σ → PF st2 (NUT s) (ri p0 p1 p2 p3 σ)) ∧ (∀ (p0 p1 p2 p3 : Int32) (σ : ST), NUT s σ → PF st2 (NUT s) (rp p0 p1 p2 p3 σ)) ∧ (∀ (p0 p1 p2 p3 p4 : Int32) (σ : ST), NUT s σ → PF st2 (NUT s) (rv p0 p1 p2 p3 p4 σ))) (hB : PHB 4 p S T) (hp : p < 6) : VTP p (T.1 8 p).toInt S T (f_X8_parseValue rF rI rV) (f_X11_value ri rp rv) := by
  have l0 := li_0
  have l1 := li_1
  have l6 := li_6
  have l7 := li_7
  have lm := li_m1
  have l31 : (31 : Int32).toInt = 31 := by decide
  have l123 : (123 : Int32).toInt = 123 := by decide
  have l200 : (200 : Int32).toInt = 200 := by decide
  have hn : (S.1 4 1).toInt ≤ 262 := hB.cnt.2.2
  intro L lev dp tA tB pa pb pl P32 d l m σ τ x v hL hlev hdp hP32 hG hC hPar
  obtain ⟨⟨kA, kB⟩, hXW, ⟨c1, c0⟩, cv, cF, c502⟩ := id hC
  have hX := hXW.1
  have hK := hX.2.2.1
  have hlt := hPar.lt
  obtain ⟨⟨k2, k3, _, _⟩, _⟩ := kB.t
  generalize hKK : VPOST p S T L tA tB x v pa pb pl l m σ τ = K
  unfold f_X8_parseValue
  refine QT.sw ?_
  refine q_value hG kB P32 dp pb pl (fun z => QT _ (fun qa => VOUT L K qa z)) (fun br u hCho => ?_)
  have hu := hCho.rng hG
  refine QT.sw ?_
  have main : ¬ (σ.1 2 4).toInt = 1 → (LT_ τ ∨ (τ.1 0 13).toInt = 123) → QT (f_X8_parseValue_31 rF rI rV tA pa pl lev σ) (fun qa => QT (f_X11_value_42 ri rp rv P32 dp pb pl br u τ) (fun qb => VOUT L K qa qb.1)) := fun h1 hLS => by
    unfold f_X8_parseValue_31
    refine QT.bnd (a_fitT hG hn kA hK h1) (fun q hq => ?_)
    obtain ⟨vA, s0⟩ := q
    obtain ⟨es, hq⟩ := hq
    have es : s0 = σ := es
    subst es
    have hq : FTA S T τ tA tB vA := hq
    dsimp only
    rcases fit_pair hG hq hCho with ⟨hv, hF⟩ | ⟨hv, hF, hO, d', hG'⟩
    · refine QT.ieq (fun _ => ?_) (fun h => absurd (hv.trans lm.symm) h)
      refine (qa_ref 2 s0).mono (fun qa hqa => ?_)
      refine q_val42 P32 dp pb pl br u τ hu (fun z => VOUT L K qa z) (fun _ q hq => .inl ⟨hqa, .inl hq⟩) (fun _ h9 _ _ => ?_)
      rw [k2] at h9
      exact absurd h9 hF
    · refine QT.ieq (fun h => by omega) (fun _ => ?_)
      rw [(hG'.sA hn kA).1]
      rw [sbnd]
      dsimp only
      have hFτ : FT_ τ (τ.1 2 u.toNatClampNeg).toInt := by rw [k2]; exact hF
      have stop : (31 ≤ L ∨ 200 ≤ pl.toInt) → QT (f_X8_parseValue_78 rF rI rV lev vA (T.1 2 u.toNatClampNeg) s0) (fun qa => QT (f_X11_value_42 ri rp rv P32 dp pb pl br u τ) (fun qb => VOUT L K qa qb.1)) := fun h9 => by
        unfold f_X8_parseValue_78
        refine (a_78 _ _ _ s0).mono (fun qa hqa => ?_)
        refine q_val42 P32 dp pb pl br u τ hu (fun z => VOUT L K qa z) (fun _ q hq => .inl ⟨hqa, .inl hq⟩) (fun _ _ h31 h200 => ?_)
        exfalso
        rcases h9 with h9 | h9
        · omega
        · rcases hPar with ⟨_, _, _, e0⟩ | ⟨x0, v0, Q, ⟨_, hb, _⟩, _, _, _, _, _, h6⟩
          · omega
          · have nb : pb.toNatClampNeg = v0 := nC hb
            rw [nb] at h200
            omega
      refine QT.ile (fun h => stop (.inl (by omega))) (fun h31 => ?_)
      refine QT.ilt (fun h200 => ?_) (fun h => stop (.inr (by omega)))
      have hL30 : L ≤ 30 := by omega
      have h200 : pl.toInt < 200 := by omega
      refine QT.bnd (a_grow 62 (T.1 2 u.toNatClampNeg) pa pl s0 c1 hPar.gA) (fun q hq => ?_)
      obtain ⟨row, s⟩ := q
      rcases hq with ⟨e1, e2, e3⟩ | ⟨⟨hrow, hx502⟩, gA⟩
      · -- no room: the reference has too little text left
        have e1 : row = -1 := e1
        have e3 : s = s0 := e3
        subst e1
        subst e3
        refine (a_78 _ _ _ s).mono (fun qa hqa => ?_)
        have hnu := hNU τ
        refine (nn2 (wn_X11_value_42 (s := τ) hnu.1 hnu.2.1 hnu.2.2 NUT.rf) hX.tx).mono (fun z hz => ?_)
        by_cases ez : z.1.1 = 0
        · exact .inl ⟨hqa, .inl ez⟩
        · exact .inl ⟨hqa, .inr ⟨ez, hz.1, .inr (by have := hz.2; omega)⟩⟩
      · have hrow : row.toInt = x := hrow
        have gA : GRW 62 x (T.1 2 u.toNatClampNeg) pa pl (rA l) (rA m) s0 s := gA
        rw [c0] at hx502
        have sc := gA.suc
        have s2e : s.1 2 = s0.1 2 := gA.1.1 2 (by omega)
        have hX1 : LX s τ := hX.ext (gA.1.1 1 (by omega)) s2e (gA.1.2.1 3 (by omega)) (gA.1.2.1 2 (by omega)) rfl (fun _ _ => rfl) rfl
        have hW1 : TWX s τ := hXW.2.ext s2e (gA.1.2.1 2 (by omega)) rfl rfl rfl
        dsimp only
        refine a_93 lev vA (T.1 2 u.toNatClampNeg) row s τ (by omega) hX1 hW1 (by rw [s2e]; exact h1) hF _ (fun w cnt hWC => ?_)
        unfold f_X8_parseValue_142
        refine QT.bnd (a_setW 62 row cnt w s hrow (by rw [sc.1]; omega) (by rw [sc.2, c0]; exact hx502)) (fun s2 hs2 => ?_)
        have k0 := tok_ne hX hLS
        refine QT.sw ?_
        refine q_val42 P32 dp pb pl br u τ hu (fun z => QT _ (fun qa => VOUT L K qa z)) (fun h9 => absurd ⟨hLS, hFτ, by omega, .inl h200⟩ h9) (fun _ _ _ _ => ?_)
        have s22 : s2.1 2 = s0.1 2 := by
          rw [hs2]
          show (stI s (62 + 4) x cnt).1 2 = _
          rw [stI_ne (by omega)]
          exact s2e
        have sS : SUA 62 x s s2 := by rw [hs2]; exact SUA.set
        have kA2 : KVA s0 s2 := by
          have e1 : ∀ d, d ≠ 62 + 4 → s2.1 d = s.1 d := fun d hd => by rw [hs2]; exact stI_ne hd
          have e2 : ∀ d, d ≠ 62 + 6 → s2.2.1 d = s.2.1 d := fun d hd => by rw [hs2]; exact stL_ne hd
          have e3 : s2.2.2 = s.2.2 := by rw [hs2]; rfl
          exact gA.kva.trans ⟨fun d d2 d6 => e1 d (by omega), ⟨by rw [e1 2 (by omega)], fun i _ => by rw [e1 62 (by omega)]⟩, fun d d2 d6 => e2 d (by omega), e3⟩
        have s62 : (s2.1 62 1).toInt = (x : Int) + 1 ∧ (s2.1 62 0).toInt = 502 := by
          have e1 : s2.1 62 = s.1 62 := by
            rw [hs2]
            show (stI s (62 + 4) x cnt).1 62 = _
            exact stI_ne (by omega)
          rw [e1, sc.1, sc.2]
          exact ⟨rfl, c0⟩
        have zero : (T.1 2 u.toNatClampNeg).toInt = 6 ∨ (T.1 2 u.toNatClampNeg).toInt = 7 → w = 0 ∧ cnt = 0 := fun h67 => by
          obtain ⟨w1, w2⟩ := hWC 0 0 0 ⟨fun h => by omega, fun h => by omega, fun h => by omega, fun _ => rfl⟩ (.inr ⟨by omega, rfl, rfl⟩)
          unfold EWR at w1
          rw [if_neg (by omega)] at w1
          exact ⟨w1.1, Int32.toInt_inj.mp w2⟩
        have both : ∀ (t : ST), GRB v (τ.1 2 u.toNatClampNeg) pb pl br (rB l) (rB m) τ t → LX s2 t ∧ uT t = uT τ ∧ (t.1 0 46).toInt = (v : Int) + 1 ∧ KVB T t := fun t gB => by
          refine ⟨?_, (TX.ext hX.tx gB.1.2.2.2).2, gB.2.1, kB.trans gB.kvb⟩
          have h9 := (LX.grow hXW gA gB).1
          rw [hs2]
          exact h9.set4 (by omega)
        refine q_104 P32 dp pb pl br u τ hu cv hPar.gB (fun z => QT _ (fun qa => VOUT L K qa z)) (fun h6 wB t hwB gB => ?_) (fun h7 wB t hwB gB => ?_) (fun h6 h7 t c e n gB hc he => ?_)
        · -- a list
          obtain ⟨hX2, hut, ht46, kBt⟩ := both t gB
          rw [k2] at h6 gB
          refine QT.sw ?_
          refine QT.bnd (ab_gof s2 t hX2 (by rw [s22]; exact k0) (by rw [s22]; exact h1)) (fun a ha => ?_)
          obtain ⟨ca, hgo⟩ := ha
          have kAa : KVA S a := kA.trans (kA2.trans ca.kva)
          refine QT.ieq (fun _ => ?_) (fun h => by omega)
          rw [(hG'.sA hn kAa).2]
          rw [sbnd]
          dsimp only
          have hNA : NEWA x a := by
            obtain ⟨w0, n0⟩ := zero (.inl h6)
            rw [hs2, w0, n0] at ca
            exact (NEWA.of gA).ca ca
          have hNB : NEWB v 6 t := by
            have := NEWB.of gB
            rw [h6] at this
            exact this
          have h9 := hI L d' x v lev dp (S.1 16 vA.toNatClampNeg) u row wB P32 a t hL30 hlev hdp hP32 (hG'.2.2.2.1 h6) hrow hwB.1 kAa kBt ⟨by rw [ca.1 62 (by omega)]; exact s62.1, by rw [ca.1 62 (by omega)]; exact s62.2, by omega⟩ ht46 hNA hNB (hgo.mono (fun b hb => ⟨hb.1, hb.2.1, hb.2.2.1, by have := hb.2.2.2; omega⟩))
          refine QT.bnd h9 (fun q hq => QT.grd (fun _ => QT.ret (hq.mono (fun z hz => hz.imp (fun a' b' h => ?_)))))
          rw [← hKK]
          exact vp_list hL30 h200 hPar gA gB rfl h6 hO sS ca h
        · -- a record
          obtain ⟨hX2, hut, ht46, kBt⟩ := both t gB
          rw [k2] at h7 gB
          refine QT.sw ?_
          refine QT.bnd (ab_gof s2 t hX2 (by rw [s22]; exact k0) (by rw [s22]; exact h1)) (fun a ha => ?_)
          obtain ⟨ca, hgo⟩ := ha
          have kAa : KVA S a := kA.trans (kA2.trans ca.kva)
          refine QT.ieq (fun h => by omega) (fun _ => ?_)
          refine QT.ieq (fun _ => ?_) (fun h => by omega)
          rw [(hG'.sA hn kAa).2]
          rw [sbnd]
          dsimp only
          have hNA : NEWA x a := by
            obtain ⟨w0, n0⟩ := zero (.inr h7)
            rw [hs2, w0, n0] at ca
            exact (NEWA.of gA).ca ca
          have hNB : NEWB v 7 t := by
            have := NEWB.of gB
            rw [h7] at this
            exact this
          obtain ⟨⟨r1, r2⟩, r3⟩ := hG'.2.2.2.2.1 h7
          obtain ⟨k, hRec⟩ := hB.rec hp (i := (T.1 3 u.toNatClampNeg).toInt.toNat) (by omega)
          have h9 := hPt L (6 * p + (T.1 3 u.toNatClampNeg).toInt.toNat) k x v lev dp (S.1 16 vA.toNatClampNeg) u row wB P32 a t hL30 hlev hdp hP32 hp hRec (by omega) hu ⟨r1, by omega⟩ hrow hwB.1 kAa kBt ⟨by rw [ca.1 62 (by omega)]; exact s62.1, by rw [ca.1 62 (by omega)]; exact s62.2, by omega⟩ ht46 hNA hNB (hgo.mono (fun b hb => ⟨hb.1, hb.2.1, hb.2.2.1, by have := hb.2.2.2; omega⟩))
          refine QT.bnd h9 (fun q hq => QT.grd (fun _ => QT.ret (hq.mono (fun z hz => hz.imp (fun a' b' h => ?_)))))
          rw [← hKK]
          exact vp_rec hL30 h200 hPar gA gB rfl h7 hO sS ca ⟨by omega, by omega, hRec.2.1.2.1⟩ h
        · -- no others in it
          have t0 := gB.1.2.2.2
          have tL : t.2.1 0 = τ.2.1 0 := gB.1.2.1 0 (by omega) (by omega)
          have tE : t.2.2.1 = τ.2.2.1 := by rw [gB.1.2.2.1]
          rw [k2] at h6 h7 hc he gB
          have hr := hG'.2.2.1
          have h8 := OWN.n8 hG hO
          obtain ⟨hE, hcn⟩ := hWC c e n (hc.to t0 tL tE) (by rw [← tL, ← t0 8 (by omega)]; exact he)
          refine QT.sw ?_
          have h9 := ab_leaf (p := p) hL30 h200 hPar hC hx502 gA gB rfl ⟨hr.1, by omega⟩ hO k0 h1 w c e cnt n hE hcn
          rw [← hs2] at h9
          refine QT.bnd h9 (fun a ha => ?_)
          refine QT.ieq (fun h => by omega) (fun _ => ?_)
          refine QT.ieq (fun h => by omega) (fun _ => ?_)
          refine QT.ret (ha.mono (fun b hb => .inr ⟨l1, l1, ?_⟩))
          rw [← hKK]
          exact hb
  refine QT.bndR (a_beginsLiteral σ τ hK) (fun c hc => ?_)
  dsimp only
  refine QT.ieq (fun hc0 => ?_) (fun hc0 => ?_)
  · refine QT.ieq (fun h123 => main (by omega) (.inr ((hK.sg (by omega)).mpr (by omega)))) (fun h123 => ?_)
    refine (qa_ref 1 σ).mono (fun qa hqa => ?_)
    by_cases hLT : LT_ τ
    · have hk1 : (σ.1 2 4).toInt = 1 := by
        rcases hc with hc | hc
        · exact hc.2.elim id (fun h => absurd hLT h)
        · have := hc.1
          omega
      exact (q_ptn42 P32 dp pb pl br u τ hu cv hPar.gB (hK.ptn hk1 hLT) hX.tx L).mono (fun z hz => .inl ⟨hqa, hz⟩)
    · refine q_val42 P32 dp pb pl br u τ hu (fun z => VOUT L K qa z) (fun _ q hq => .inl ⟨hqa, .inl hq⟩) (fun h9 _ _ _ => ?_)
      rcases h9 with h9 | h9
      · exact absurd h9 hLT
      · exact absurd (((hK.sg (by omega)).mp h9).trans l123.symm) h123
  · have h9 : ¬ (σ.1 2 4).toInt = 1 ∧ LT_ τ := by
      rcases hc with hc | hc
      · have := hc.1
        omega
      · exact hc.2
    exact main h9.1 (.inl h9.2)
/-- all levels -/
theorem ab_RV {p : Nat} {S T : ST} (hB : PHB 4 p S T) (hp : p < 6) : ∀ N M : Nat, PTP p (T.1 8 p).toInt S T (R_X8_parseFields N).1 (R_X11_items M).2.1 ∧ ITP p (T.1 8 p).toInt S T (R_X8_parseFields N).2.1 (R_X11_items M).1 ∧ VTP p (T.1 8 p).toInt S T (R_X8_parseFields N).2.2 (R_X11_items M).2.2 := by
  intro N
  induction N with
  | zero =>
    intro M
    refine ⟨?_, ?_, ?_⟩
    · intro L R m x v lev dp xA u row w P32 a t _ _ _ _ _ _ _ _ _ _ _ _ _ _ _ _ _ _
      exact QT.none
    · intro L d x v lev dp tI u row w P32 a t _ _ _ _ _ _ _ _ _ _ _ _ _ _
      exact QT.none
    · intro L lev dp tA tB pa pb pl P32 d l m σ τ x v _ _ _ _ _ _ _
      exact QT.none
  | succ N ih =>
    intro M
    cases M with
    | zero =>
      refine ⟨?_, ?_, ?_⟩
      · intro L R m x v lev dp xA u row w P32 a t _ _ _ _ _ _ _ _ _ _ _ _ _ _ _ _ _ _
        exact fun _ _ => QT.none
      · intro L d x v lev dp tI u row w P32 a t _ _ _ _ _ _ _ _ _ _ _ _ _ _
        exact fun _ _ => QT.none
      · intro L lev dp tA tB pa pb pl P32 d l m σ τ x v _ _ _ _ _ _ _
        exact fun _ _ => QT.none
    | succ M =>
      obtain ⟨h1, h2, h3⟩ := ih M
      exact ⟨ab_parts h3 (nuv_R M), ab_items h3 (nuv_R M), ab_value h2 h1 (fun s => wnR_X11_items (s := s) M) hB hp⟩
