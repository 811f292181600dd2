/-! a list that the reader wants -/
theorem ad_add {b t : Nat} (y pa pl n : Int32) (w : Int64) {s : ST} (h : ¬ s.1 b 7 = 0) : QT (f_X4_addNode b t y pa pl n w s) (fun z => ¬ z.2.1 b 7 = 0) := by
  unfold f_X4_addNode
  exact QT.ite (fun _ => QT.ret h) (fun _ => QT.ite (fun e => absurd e h) (fun _ => QT.ret h))
theorem ad_inner {b t : Nat} (hb : BT b t) (y : Int32) {s : ST} (h : ¬ s.1 b 7 = 0) : QT (f_X5_innerOf 4 y s) (fun z => ¬ z.2.1 b 7 = 0) := fun z e => by
  have k : KRA b t s z.2 := wr_X5_innerOf (B0 := b) (T0 := t) (s := s) (KRA.rf hb) z e
  exact k.nz h
theorem r_listn {b t m p q : Nat} {S T : ST} {rT rF rL rO rR : FTK} {rb : FRD} {rI rS : Int32 → Int32 → Int32 → Int32 → ST → Option (Int32 × ST)} (hT : cTK b t m p q S T rT rb) {L : Nat} (hL : L ≤ 30) {tA tB uA uB so br : Int32} {x : Nat} {pa pl : Int32} {l k : List EN} {σ τ τ1 : ST} (hP : PARG t σ τ x x pa pa pl l k) (hC : RCX b t m S T σ τ x) (hx4 : x < 400) (hSS : RSS b t S) (x1 u lev xB : Int32) (gB : GRB x so pa pl br (rB l) (rB k) τ τ1) (hxB : xB.toInt = x) (hlev : lev.toInt = L) {d e0 : Nat} (hX : TY p (T.1 8 p).toInt S T d x1 (T.1 3 u.toNatClampNeg)) (hd : d ≤ 4) (hY : TY q (T.1 8 q).toInt S T e0 (S.1 16 uA.toNatClampNeg) (T.1 3 uB.toNatClampNeg)) (he0 : e0 ≤ 4) (hM : MS T (T.1 3 u.toNatClampNeg) (T.1 3 uB.toNatClampNeg)) (hu : 0 ≤ u.toInt ∧ u.toInt < 800) (huB : 0 ≤ uB.toInt ∧ uB.toInt < 800) (hso : T.1 2 uB.toNatClampNeg = so) (hso6 : so.toInt = 6) (hne : ¬ uA = -1) (hGA : ∀ z, KRA b t S z → f_X5_sortOf 4 uA z = some (so, z)) (hGI : ∀ z, KRA b t S z → f_X5_innerOf 4 uA z = some (S.1 16 uA.toNatClampNeg, z)) (hO : OWN S T tA tB br uA uB) : QT (f_X4_takeList rT rF rL rO rR b t x1 uA pa pl lev σ) (fun s => QT (f_X11_readsItems rb rI rS u uB lev xB τ1) (ROUT b (RVP b t m q L S T tA tB x pa pl l k σ τ) s)) := by
  have hC' := hC
  obtain ⟨⟨kA, kB⟩, hR0, h1, h46, _⟩ := hC'
  have hb := kA.1
  have hb' := hb
  unfold BT at hb'
  have l0 := li_0
  have z200 : (200 : Int32).toInt64 = 200 := by decide
  have z200' : (200 : Int64).toInt = 200 := by decide
  have hR1 := hR0.lays gB
  unfold f_X4_takeList f_X11_readsItems
  rw [← hR1.2.1.1]
  refine QT.bnd2 (rd_count hb (σ.1 b 5) 200 200 z200 σ τ1 hR1) (fun q1 w hqw => ?_)
  rcases hqw with ⟨f1, f2⟩ | ⟨e0', hR, ⟨hA, hB⟩, e1, e2, e3⟩
  · refine QT.bnd (ad_add uA pa pl q1.1 0 f1) (fun q3 h3 => ?_)
    refine QT.ite (fun h => absurd h hne) (fun _ => ?_)
    refine QT.bnd (ad_inner hb uA h3) (fun q5 h5 => ?_)
    unfold f_X4_takeList_43
    refine (ad_48 x1 lev q1.1 q3.1 q5.1 h5 FU 0).mono (fun z hz => ?_)
    exact QT.ite (fun _ => QT.ret (.inl ⟨hz, rfl⟩)) (fun h => absurd f2 h)
  · have ei : q1.1.toInt = (w.2.2.1 0 70).toInt := by
      rw [e1]
      show (w.2.2.1 0 70).toInt32.toInt = _
      rw [Int64.toInt_toInt32]
      exact Int.bmod_eq_of_le (by omega) (by omega)
    obtain ⟨cnt, s'⟩ := q1
    obtain ⟨ok, t'⟩ := w
    have hR : RPS b m s' t' := hR
    have hA : PMA b σ s' := hA
    have hB : PMB τ1 t' := hB
    have e1 : cnt = (t'.2.1 0 70).toInt32 := e1
    have ei : cnt.toInt = (t'.2.1 0 70).toInt := ei
    have e2 : 0 ≤ (t'.2.1 0 70).toInt := e2
    have e3 : (t'.2.1 0 70).toInt ≤ (200 : Int64).toInt := e3
    dsimp only
    have hPs : PARG t s' τ x x pa pa pl l k := hP.mv (PM.tre hb hA PMB.rf)
    have kA' := kA.trans (hA.kra hb)
    have st : s'.1 t = σ.1 t := hA.1 t (by omega)
    have s22 : s'.2.2.2 b = t := by rw [hA.2.2, kA.2.2.2.2.1]; exact hSS.1
    have scap : 400 ≤ (s'.1 t 0).toInt := by rw [st, kA.2.2.1.2 0 (by omega)]; exact hSS.2.1
    refine QT.bnd (a_addNode hb uA pa pl cnt 0 so s' hne hR.1.1 s22 (by rw [st]; exact h1) scap (hGA s' kA') hPs.gA) (fun qz hq => ?_)
    rcases hq with ⟨_, h2⟩ | ⟨_, hq1, s2, g, e⟩
    · omega
    obtain ⟨row, z⟩ := qz
    have hq1 : row.toInt = x := hq1
    have erow : row = xB := Int32.toInt_inj.mp (by omega)
    subst erow
    have hz : stL (stI s2 (t + 4) x cnt) (t + 6) x 0 = z := e.symm
    have zc : ∀ d, d ≠ t + 4 → z.1 d = s2.1 d := fun d hd => by rw [← hz]; exact stI_ne hd
    have sA : SUA t x s2 z := by rw [← hz]; exact SUA.set
    have sB0 : SUB x τ1 t' := SUB.eq (fun c hc => hB.1 c (by omega)) ⟨hB.2.2 21 (by omega), hB.2.2 22 (by omega)⟩
    have kz : KRA b t s2 z := by rw [← hz]; exact set_kra hb
    have kAz : KRA b t S z := kA'.trans ((g.kra hb).trans kz)
    have a6 : z.2.1 (t + 6) x = 0 := by rw [← hz, stLA, upLA rfl]
    have a4 : z.1 (t + 4) x = cnt := by
      rw [← hz]
      show (stI s2 (t + 4) x cnt).1 (t + 4) x = _
      rw [stI_at, upA rfl]
    have hRz : RPS b m z t' := by
      unfold RPS at hR ⊢
      rw [zc b (by omega), zc 38 (by omega), g.1.1 b (by omega), g.1.1 38 (by omega)]
      exact hR
    have hCz : RCX b t m S T z t' (x + 1) := by
      refine ⟨⟨kAz, kB.trans (gB.krb.trans hB.krb)⟩, hRz, ?_, ?_, by omega⟩
      · rw [zc t (by omega), g.2.1]
        omega
      · rw [hB.2.1 46 (by omega) (by omega), gB.2.1]
        omega
    have hSz : SRK b L s' z := fun i _ => by rw [zc (b + 2) (by omega), g.1.1 (b + 2) (by omega)]
    clear hz e
    dsimp only
    refine QT.ite (fun h => absurd h hne) (fun _ => ?_)
    rw [hGI z kAz, sbnd]
    dsimp only
    unfold f_X4_takeList_43
    refine QT.sw ?_
    refine QT.ite (fun h => absurd (h.symm.trans e0') (by decide)) (fun _ => ?_)
    refine QT.sw ?_
    rw [← e1]
    have hI0 : ILR t q S T L (S.1 16 uA.toNatClampNeg) (T.1 3 uB.toNatClampNeg) x cnt z t' 0 z t' (x + 1) [] := by
      refine ⟨by omega, ⟨SUA.rf, SUB.rf⟩, ⟨rfl, rfl, by omega⟩, ⟨⟨⟨?_, ?_⟩, ?_, ?_⟩, ⟨List.Pairwise.nil, List.Pairwise.nil⟩, ⟨?_, ?_⟩, fun y hy => (by cases hy)⟩, ⟨a4, a6⟩, ⟨?_, ?_⟩, ?_⟩
      · show (z.1 (t + 7) x).toInt = -1
        rw [zc (t + 7) (by omega)]
        exact g.2.2.2.2.1.1
      · show (z.1 (t + 8) x).toInt = -1
        rw [zc (t + 8) (by omega)]
        exact g.2.2.2.2.1.2
      · show (t'.1 28 x).toInt = -1
        rw [hB.1 28 (by omega)]
        exact gB.2.2.2.2.1.1
      · show (t'.1 29 x).toInt = -1
        rw [hB.1 29 (by omega)]
        exact gB.2.2.2.2.1.2
      · show (t'.1 23 x).toInt = ((0 : Nat) : Int)
        rw [hB.1 23 (by omega), gB.2.2.1.1.2]
        exact l0
      · refine ⟨?_, rfl⟩
        show 0 + x < x + 1
        omega
      · rw [hB.2.2 21 (by omega)]
        exact gB.2.2.1.2.2.2.1
      · rw [hB.2.2 22 (by omega)]
        exact gB.2.2.1.2.2.2.2
      · rw [hB.1 20 (by omega), gB.2.2.1.1.1]
        exact hso6
    refine (r_itemsn hT hL x1 u uB (S.1 16 uA.toNatClampNeg) lev cnt row hlev hX hd hY he0 hM hu huB ⟨by omega, by omega⟩ hq1 z t' FU FU 0 0 z t' (x + 1) [] hCz hI0 l0 (by omega)).mono2 (fun s v hz => hz.imp (fun h => ?_))
    obtain ⟨e', l', hCe, ⟨i1, ⟨i2, i3⟩, ⟨i4, i5, i6⟩, i7, ⟨i8, i9⟩, ⟨i10, i11⟩, i12⟩, hSe⟩ := h
    have sA' := sA.trans i2
    have sB' := sB0.trans i3
    have hV : VAL True t q S T s v.2 (32 - L) tA tB (x, e') (x, e') := by
      rw [show 32 - L = (31 - L) + 1 by omega]
      have b20 : v.2.1 20 x = so := (sB'.2.2.1).trans gB.2.2.1.1.1
      have b26 : v.2.1 26 x = br := (sB'.2.2.2 26 (by omega) (by omega)).trans gB.2.2.1.2.2.1.1
      have a1 : s.1 (t + 1) x = so := (sA'.2.2.1).trans g.2.2.1.1
      refine ⟨⟨i1, i1⟩, uA, uB, ?_, ⟨⟨?_, ?_⟩, ?_⟩, fun h => ?_, fun _ => ?_, fun _ => ?_, fun h => ?_⟩
      · show OWN S T tA tB (v.2.1 26 x) uA uB
        rw [b26]
        exact hO
      · exact hso.trans b20.symm
      · exact a1.trans b20.symm
      · show 0 ≤ (v.2.1 20 x).toInt ∧ (v.2.1 20 x).toInt ≤ 7
        rw [b20]
        omega
      · have h : (v.2.1 20 x).toInt ≤ 5 := h
        rw [b20] at h
        omega
      · show s.2.1 (t + 6) x = v.2.2.1 21 x ∧ v.2.2.1 22 x = 0
        rw [i9, i10, i11]
        exact ⟨rfl, rfl⟩
      · refine ⟨l', by rw [i5]; exact i4, by omega, ?_, i7⟩
        show (s.1 (t + 4) x).toInt = l'.length
        rw [i8, i5]
        omega
      · have h : (v.2.1 20 x).toInt = 7 := h
        rw [b20] at h
        omega
    obtain ⟨e'', k1, k2, k3, k4, ⟨k5, k6⟩, k7⟩ := r_kid hPs g gB sA' sB' hCe i1 hV (hSz.trans hSe)
    exact ⟨e'', k1, k2, k3, k4, ⟨k5.src (fun c _ _ => hA.1 c (by omega)) (by rw [hA.2.2]), k6⟩, hA.srk.trans k7⟩
