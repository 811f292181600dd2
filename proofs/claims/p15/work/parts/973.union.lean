/-! an either-or of the writer's, both sides -/
theorem TRE.aga {t : Nat} {σ s τ w : ST} (h : TRE t σ s τ w) (x e : Nat) : AGA t σ s x e := fun j _ _ => ⟨⟨fun k _ _ => by rw [h.1 (t + k) (by omega) (by omega)], by rw [h.2.1]⟩, by rw [h.1 (t + 7) (by omega) (by omega)], by rw [h.1 (t + 8) (by omega) (by omega)], fun _ => by rw [h.1 (t + 9) (by omega) (by omega)]⟩
theorem TRE.agb {t : Nat} {σ s τ w : ST} (h : TRE t σ s τ w) (x e : Nat) : AGB τ w x e := fun j _ _ => ⟨⟨⟨by rw [h.2.2.1 20 (by omega) (by omega)], by rw [h.2.2.1 23 (by omega) (by omega)]⟩, fun k _ _ => by rw [h.2.2.1 k (by omega) (by omega)], by rw [h.2.2.2.1], by rw [h.2.2.2.2]⟩, by rw [h.2.2.1 28 (by omega) (by omega)], by rw [h.2.2.1 29 (by omega) (by omega)], fun _ => by rw [h.2.2.1 30 (by omega) (by omega)]⟩
theorem XTB.src {f : Nat} {p : Int} {l m : List Nat} {τ τ' t : ST} (h : XTB f p l m τ' t) (hc : ∀ c, 20 ≤ c → c ≤ 30 → τ'.1 c = τ.1 c) (h1 : τ'.2.1 21 = τ.2.1 21) (h2 : τ'.2.1 22 = τ.2.1 22) : XTB f p l m τ t := by
  obtain ⟨⟨a1, a2, a3⟩, a4, a5, a6⟩ := h
  refine ⟨⟨fun i hi => ?_, fun i hi hp => ?_, fun i hp => ?_⟩, fun i hi hp => ?_, fun i hi hl => ?_, a6⟩
  · obtain ⟨g1, g2, g3, g4⟩ := a1 i hi
    refine ⟨by rw [← hc 20 (by omega) (by omega)]; exact g1, fun k k1 k5 => ?_, by rw [← h1]; exact g3, by rw [← h2]; exact g4⟩
    rw [← hc k (by omega) (by omega)]
    exact g2 k k1 k5
  · rw [← hc 23 (by omega) (by omega)]
    exact a2 i hi hp
  · rw [← hc 23 (by omega) (by omega)]
    exact a3 i hp
  · rw [← hc 28 (by omega) (by omega), ← hc 29 (by omega) (by omega)]
    exact a4 i hi hp
  · rw [← hc 30 (by omega) (by omega)]
    exact a5 i hi hl
theorem XTA.tgt {b e : Nat} {p : Int} {l m : List Nat} {σ s s' : ST} (h : XTA b e p l m σ s) (hc : ∀ c, b + 1 ≤ c → c ≤ b + 9 → s'.1 c = s.1 c) (h6 : s'.2.1 (b + 6) = s.2.1 (b + 6)) : XTA b e p l m σ s' := by
  obtain ⟨h1, h2, h3, h4⟩ := h
  refine ⟨fun i hi => ⟨fun k k1 k5 => ?_, ?_⟩, fun i hi hp => ?_, fun i hi hl => ?_, fun q hq => ?_⟩
  · rw [hc (b + k) (by omega) (by omega)]
    exact (h1 i hi).1 k k1 k5
  · rw [h6]
    exact (h1 i hi).2
  · rw [hc (b + 7) (by omega) (by omega), hc (b + 8) (by omega) (by omega)]
    exact h2 i hi hp
  · rw [hc (b + 9) (by omega) (by omega)]
    exact h3 i hi hl
  · rw [hc (b + 9) (by omega) (by omega), hc (b + 7) (by omega) (by omega), hc (b + 8) (by omega) (by omega)]
    exact h4 q hq
theorem XTB.tgt {f : Nat} {p : Int} {l m : List Nat} {τ t t' : ST} (h : XTB f p l m τ t) (hc : ∀ c, 20 ≤ c → c ≤ 30 → t'.1 c = t.1 c) (h1 : t'.2.1 21 = t.2.1 21) (h2 : t'.2.1 22 = t.2.1 22) : XTB f p l m τ t' := by
  obtain ⟨⟨a1, a2, a3⟩, a4, a5, a6⟩ := h
  refine ⟨⟨fun i hi => ?_, fun i hi hp => ?_, fun i hp => ?_⟩, fun i hi hp => ?_, fun i hi hl => ?_, fun q hq => ?_⟩
  · obtain ⟨g1, g2, g3, g4⟩ := a1 i hi
    refine ⟨by rw [hc 20 (by omega) (by omega)]; exact g1, fun k k1 k5 => ?_, by rw [h1]; exact g3, by rw [h2]; exact g4⟩
    rw [hc k (by omega) (by omega)]
    exact g2 k k1 k5
  · rw [hc 23 (by omega) (by omega)]
    exact a2 i hi hp
  · rw [hc 23 (by omega) (by omega)]
    exact a3 i hp
  · rw [hc 28 (by omega) (by omega), hc 29 (by omega) (by omega)]
    exact a4 i hi hp
  · rw [hc 30 (by omega) (by omega)]
    exact a5 i hi hl
  · rw [hc 30 (by omega) (by omega), hc 28 (by omega) (by omega), hc 29 (by omega) (by omega)]
    exact a6 q hq
/-- a value read from where both stood ahead of a step -/
theorem RVP.pre {b t m q L : Nat} {S T : ST} {tA tB : Int32} {x : Nat} {pa pl : Int32} {l k : List EN} {σ τ σ1 τ1 s w : ST} (h : RVP b t m q L S T tA tB x pa pl l k σ1 τ1 s w) (hT : TRE t σ σ1 τ τ1) (hS : SRK b L σ σ1) : RVP b t m q L S T tA tB x pa pl l k σ τ s w := by
  obtain ⟨e, h1, h2, h3, h4, ⟨h5, h6⟩, h7⟩ := h
  exact ⟨e, h1, h2, h3, h4, ⟨h5.src hT.1 hT.2.1, h6.src hT.2.2.1 hT.2.2.2.1 hT.2.2.2.2⟩, hS.trans h7⟩
theorem RVP.post {b t m q L : Nat} {S T : ST} {tA tB : Int32} {x : Nat} {pa pl : Int32} {l k : List EN} {σ τ s w s2 w2 : ST} (h : RVP b t m q L S T tA tB x pa pl l k σ τ s w) (hA : STP b s s2) (hB : STB w w2) : RVP b t m q L S T tA tB x pa pl l k σ τ s2 w2 := by
  obtain ⟨e, h1, h2, h3, ⟨⟨h4, h4b⟩, ⟨h4c, h4d⟩, h4e⟩, ⟨h5, h6⟩, h7⟩ := h
  have hT := ST.tre h1.1.1.1 hA hB
  refine ⟨e, h1.st hA hB, h2, h3.ext _ _ _ _ _ (hT.aga _ _) (hT.agb _ _), ⟨⟨?_, ?_⟩, ⟨?_, ?_⟩, ?_⟩, ⟨h5.tgt hT.1 hT.2.1, h6.tgt hT.2.2.1 hT.2.2.2.1 hT.2.2.2.2⟩, h7.trans hA.srk⟩
  · rw [hT.1 (t + 2) (by omega) (by omega)]
    exact h4
  · rw [hT.1 (t + 3) (by omega) (by omega)]
    exact h4b
  · rw [hT.2.2.1 24 (by omega) (by omega)]
    exact h4c
  · rw [hT.2.2.1 25 (by omega) (by omega)]
    exact h4d
  · rw [hT.1 (t + 5) (by omega) (by omega), hT.2.2.1 27 (by omega) (by omega)]
    exact h4e
/-- a branch's number and its value: what the value comes to is K1, what both come to K -/
theorem r_union {b t m p q : Nat} {S T : ST} {rT rF rL rO rR : FTK} {rb : FRD} {rI rS : FRI} (hS : RST p q S T) (hSS : RSS b t S) {L : Nat} (hL : L ≤ 30) (x u y v lev pa pl pb pl' : Int32) {d xr : Nat} (hlev : lev.toInt = L) (hX : TY p (T.1 8 p).toInt S T d x u) (hd : d ≤ 4) (h8 : (T.1 2 u.toNatClampNeg).toInt = 8) {σ τ : ST} (hC : RCX b t m S T σ τ xr) (hyv : y = -1 ∧ v = -1 ∨ ¬ y = -1 ∧ ∃ e, e ≤ 4 ∧ TY q (T.1 8 q).toInt S T e y v) {K : ST → ST → Prop} (hK : ∀ (xk uk : Int32) (d' : Nat) (σ1 τ1 : ST), TY p (T.1 8 p).toInt S T d' xk uk → d' ≤ 4 → ¬ (T.1 2 uk.toNatClampNeg).toInt = 8 → (¬ y = -1 → MS T uk v) → RCX b t m S T σ1 τ1 xr → TRE t σ σ1 τ τ1 → SRK b L σ σ1 → QT (rO b t xk y pa pl lev σ1) (fun s => QT (rb uk v lev pb pl' τ1) (ROUT b (fun s w => ∀ s2 w2, STP b s s2 → STB w w2 → K s2 w2) s))) : QT (f_X4_take_34 rT rF rL rO rR b t x y pa pl lev σ) (fun s => QT ((f_X11_readsInt (τ.1 0 64) 0 (((T.1 4 u.toNatClampNeg).toInt64) - 1) τ).bind fun q5 => if q5.1 = 0 then (some (0, q5.2)) else (if 0 ≤ ((4 * u) + ((q5.2.2.1 0 70).toInt32)).toInt ∧ ((4 * u) + ((q5.2.2.1 0 70).toInt32)).toInt < 3200 then (if v < 0 then (f_X11_reads_96 rb rI rS v lev pb pl' ((q5.2.2.1 0 70).toInt32) (q5.2.1 5 ((4 * u) + ((q5.2.2.1 0 70).toInt32)).toNatClampNeg) q5.2) else ((f_T_X11_match (q5.2.1 5 ((4 * u) + ((q5.2.2.1 0 70).toInt32)).toNatClampNeg) v q5.2).bind fun q8 => if q8.1 = 0 then ((f_X11_fails 13 (τ.1 0 64) q8.2).bind fun q10 => if q10.1 = 0 ∨ q10.1 = 1 then some (q10.1, q10.2) else none) else (f_X11_reads_96 rb rI rS v lev pb pl' ((q5.2.2.1 0 70).toInt32) (q5.2.1 5 ((4 * u) + ((q5.2.2.1 0 70).toInt32)).toNatClampNeg) q8.2))) else none)) (ROUT b K s)) := by
  have hb := hC.1.1.1
  have l0 := li_0
  have l1 := li_1
  have l8 := li_8
  have lm := li_m1
  have hn := hSS.2.2
  have ru := hX.rng
  cases d with
  | zero => exact hX.elim
  | succ d =>
  have hG := TG.of hX
  obtain ⟨mm, hm, hMm, hTk, _, _⟩ := hG.2.2.2.2.2 h8
  obtain ⟨hsA, _⟩ := hG.rA hn hC.1.1.kta
  have hXσ := hX.at hC.1.1.kta hC.1.2
  have k4 := (hC.1.1.kta 4 (by omega) (by omega)).1
  have hnσ : (σ.1 4 1).toInt ≤ 262 := by rw [k4]; exact hn
  have e4 : τ.1 4 = T.1 4 := hC.1.2.ty.2.2.1
  have e2 : τ.1 2 = T.1 2 := hC.1.2.ty.1
  unfold f_X4_take_34
  rw [hsA, sbnd]
  dsimp only
  refine QT.ite (fun _ => ?_) (fun h => absurd (Int32.toInt_inj.mp (h8.trans l8.symm)) h)
  rw [a4_branchesOf hnσ hXσ, sbnd]
  dsimp only
  rw [e4]
  have es := il_subE (x := T.1 4 u.toNatClampNeg) (y := 1) (by omega) (by omega)
  have z1 : (1 : Int64).toInt = 1 := by decide
  have emx : (T.1 4 u.toNatClampNeg - 1).toInt64 = (T.1 4 u.toNatClampNeg).toInt64 - 1 := by
    refine Int64.toInt_inj.mp ?_
    rw [i64, es, Int64.toInt_sub, i64, z1]
    rw [Int.bmod_eq_of_le (by omega) (by omega)]
    omega
  have emx2 : ((T.1 4 u.toNatClampNeg).toInt64 - 1).toInt = (mm : Int) - 1 := by
    rw [← emx, i64, es]
    omega
  rw [← hC.2.1.2.1.1]
  refine QT.bnd2 (rd_count hb (σ.1 b 5) _ _ emx σ τ hC.2.1) (fun q5 w hqw => ?_)
  rcases hqw with ⟨f1, f2⟩ | ⟨e0, hR, ⟨hA, hB⟩, e1, e2', e3⟩
  · refine QT.ite (fun h => absurd h f1) (fun _ => QT.ret ?_)
    exact QT.ite (fun _ => QT.ret (.inl ⟨f1, rfl⟩)) (fun h => absurd f2 h)
  refine QT.ite (fun _ => ?_) (fun h => absurd hR.1.1 h)
  obtain ⟨kk, σ1⟩ := q5
  obtain ⟨ok, τ1⟩ := w
  have hR : RPS b m σ1 τ1 := hR
  have hA : PMA b σ σ1 := hA
  have hB : PMB τ τ1 := hB
  have e1 : kk = (τ1.2.1 0 70).toInt32 := e1
  have e2' : 0 ≤ (τ1.2.1 0 70).toInt := e2'
  have e3 : (τ1.2.1 0 70).toInt ≤ ((T.1 4 u.toNatClampNeg).toInt64 - 1).toInt := e3
  have ei : kk.toInt = (τ1.2.1 0 70).toInt := by
    rw [e1]
    show (τ1.2.1 0 70).toInt32.toInt = _
    rw [Int64.toInt_toInt32]
    exact Int.bmod_eq_of_le (by omega) (by omega)
  obtain ⟨i, hi⟩ : ∃ i : Nat, kk.toInt = i := ⟨kk.toInt.toNat, by omega⟩
  have him : i < mm := by omega
  dsimp only
  rw [← e1]
  have hC1 : RCX b t m S T σ1 τ1 xr := hC.mv hR hA hB
  have hT1 : TRE t σ σ1 τ τ1 := PM.tre hb hA hB
  have hX1 := hX.at hC1.1.1.kta hC1.1.2
  have k4' := (hC1.1.1.kta 4 (by omega) (by omega)).1
  have k16 := (hC1.1.1.kta 16 (by omega) (by omega)).1
  have k17 := (hC1.1.1.kta 17 (by omega) (by omega)).1
  obtain ⟨c2, _, c4, c5, _⟩ := hC1.1.2.ty
  rw [a4_branchOf (by rw [k4']; exact hn) hX1 (by rw [c2]; exact h8) kk hi (by rw [c4, hMm]; omega), sbnd]
  dsimp only
  rw [k16, k17]
  obtain ⟨hTi, hn8⟩ := hTk i him
  have em := mlE (k := 4) (y := u) 4 li_4 (by omega) (by omega)
  have ea := il_addE (x := 4 * u) (y := kk) (by omega) (by omega)
  have na : (4 * u + kk).toNatClampNeg = 4 * u.toNatClampNeg + i := nC (by have := nN_ ru.2.1; omega)
  rw [na, c5]
  refine QT.sw ?_
  refine QT.ite (fun h => absurd (h.symm.trans e0) (by decide)) (fun _ => ?_)
  refine QT.grd (fun _ => ?_)
  refine QT.sw ?_
  refine QT.bnd (a_step b t (200 + kk) σ1) (fun σ2 hσ2 => ?_)
  -- the value itself, on both sides
  have val : (¬ y = -1 → MS T (T.1 5 (4 * u.toNatClampNeg + i)) v) → QT (f_X4_take_140 rT rF rL rO rR b t y pa pl lev (chn (S.1 17) (S.1 16 x.toNatClampNeg) i) σ2) (fun s => QT (f_X11_reads_96 rb rI rS v lev pb pl' kk (T.1 5 (4 * u.toNatClampNeg + i)) τ1) (ROUT b K s)) := fun hMS => by
    unfold f_X4_take_140 f_X11_reads_96
    refine QT.sw ?_
    refine QT.bnd (q_enters _ τ1) (fun τ2 hτ2 => ?_)
    refine QT.sw ?_
    have hC2 := hC1.st hσ2 hτ2
    refine QT.bnd2 (hK _ _ d σ2 τ2 hTi (by omega) hn8 hMS hC2 (hT1.trans (ST.tre hb hσ2 hτ2)) (hA.srk.trans hσ2.srk)) (fun s w hsw => ?_)
    refine QT.bnd (a_stepBack b t s) (fun s2 hs2 => QT.ret (QT.grd (fun _ => QT.ret ?_)))
    exact hsw.back hs2 (fun z hz h => h s2 z hs2 hz)
  rcases hyv with ⟨hy, hv⟩ | ⟨hy, e, he, hY⟩
  · refine QT.ite (fun _ => ?_) (fun h => absurd hy h)
    refine QT.sw ?_
    refine QT.ilt (fun _ => ?_) (fun h => by rw [hv] at h; omega)
    refine QT.sw ?_
    exact val (fun h => absurd hy h)
  · have rv := hY.rng
    refine QT.ite (fun h => absurd h hy) (fun _ => ?_)
    refine QT.sw ?_
    refine QT.ilt (fun h => by omega) (fun _ => ?_)
    refine QT.sw ?_
    have kA2 : KRA b t S σ2 := hC1.1.1.trans (hσ2.kra hb)
    refine QT.bndR (rx_fits hS kA2 hC1.1.2 (chn (S.1 17) (S.1 16 x.toNatClampNeg) i) y (T.1 5 (4 * u.toNatClampNeg + i)) v d e hTi hY (by omega) he) (fun zf hzf => ?_)
    dsimp only
    refine QT.sw ?_
    refine QT.bndR hzf (fun kf hkf => ?_)
    dsimp only
    refine QT.ieq (fun hk0 => ?_) (fun hk0 => ?_)
    · refine QT.bnd (q_fails 13 _ τ1) (fun v' hv' => QT.grd (fun _ => QT.ret ?_))
      refine QT.ieq (fun _ => ?_) (fun h => by rcases hkf with h9 | h9 <;> omega)
      exact QT.bnd (a_failed hb 13 _ σ2 (by decide)) (fun s hs => QT.ret (.inl ⟨hs, hv'⟩))
    · refine QT.sw ?_
      rcases hkf with ⟨_, h9⟩ | ⟨h9, _, hMS⟩
      · omega
      · refine QT.ieq (fun h => by omega) (fun _ => ?_)
        exact val (fun _ => hMS)
