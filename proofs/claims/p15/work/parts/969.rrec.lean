theorem r_recn {b t m p q : Nat} {S T : ST} {rT rF rL rO rR : FTK} {rb : FRD} {rI rS : Int32 → Int32 → Int32 → Int32 → ST → Option (Int32 × ST)} (hS : RST p q S T) (hSS : RSS b t S) (hF : cFLN b t m p q S T rF rb) {L : Nat} (hL : L ≤ 30) {tA tB uA uB so br : Int32} {x : Nat} {pa pl : Int32} {l k : List EN} {σ τ τ1 : ST} (hP : PARG t σ τ x x pa pa pl l k) (hC : RCX b t m S T σ τ x) (hx4 : x < 400) (xR u lev xB : Int32) (gB : GRB x so pa pl br (rB l) (rB k) τ τ1) (hxB : xB.toInt = x) (hlev : lev.toInt = L) {w r mW mR : Nat} (hRP : RPR p q T xR (S.1 16 uA.toNatClampNeg) u uB w r mW mR) (hu : 0 ≤ u.toInt ∧ u.toInt < 800) (huB : 0 ≤ uB.toInt ∧ uB.toInt < 800) (hso : T.1 2 uB.toNatClampNeg = so) (hso7 : so.toInt = 7) (hne : ¬ uA = -1) (hGA : ∀ z, KRA b t S z → f_X5_sortOf 4 uA z = some (so, z)) (hGI : ∀ z, KRA b t S z → f_X5_innerOf 4 uA z = some (S.1 16 uA.toNatClampNeg, z)) (hO : OWN S T tA tB br uA uB) : QT (f_X4_takeRecord rT rF rL rO rR b t xR uA pa pl lev σ) (fun s => QT (f_X11_readsRecord rb rI rS u uB lev xB τ1) (ROUT b (RVP b t m q L S T tA tB x pa pl l k σ τ) s)) := by
  have hC' := hC
  obtain ⟨⟨kA, kB⟩, hR0, h1, h46, _⟩ := hC'
  have hb := kA.1
  have hb' := hb
  unfold BT at hb'
  have l0 := li_0
  have l6 := li_6
  have hRP' := hRP
  obtain ⟨⟨hx, hy⟩, ⟨hw, hr⟩, ⟨hu3, huB3⟩, ⟨hmW, hmR⟩, hPR⟩ := hRP'
  have acQ := hS.1.2.2.1.2.acc hr
  have cP := hS.1.2.2.1.1.cnt
  have cQ := hS.1.2.2.1.2.cnt
  have hp6 := hS.1.1
  have mR8 : mR ≤ 8 := by
    have := acQ.2.2.1.2
    rw [hmR] at this
    omega
  have k7 := (kA.kta 7 (by omega) (by omega)).1
  obtain ⟨n0, hn0⟩ : ∃ n0, n0 = σ.1 7 (6 * q + r) := ⟨_, rfl⟩
  have hnm : n0.toInt = mR := by rw [hn0, k7, acQ.2.1]; exact hmR
  unfold f_X4_takeRecord f_X4_takeRecord_17 f_X11_readsRecord f_X11_readsRecord_38
  refine QT.ite (fun h => absurd h hne) (fun _ => ?_)
  rw [hGI σ kA, sbnd]
  dsimp only
  rw [a4_fieldsOf (S.1 16 uA.toNatClampNeg) σ (r := 6 * q + r) (by omega) (by omega), sbnd]
  dsimp only
  rw [← hn0]
  have h22 : σ.2.2.2 b = t := by rw [kA.2.2.2.2.1]; exact hSS.1
  have hcap : 400 ≤ (σ.1 t 0).toInt := by rw [kA.2.2.1.2 0 (by omega)]; exact hSS.2.1
  refine QT.bnd (a_addNode hb uA pa pl n0 0 so σ hne hR0.1.1 h22 h1 hcap (hGA σ kA) hP.gA) (fun qz hq => ?_)
  rcases hq with ⟨_, h2⟩ | ⟨_, hq1, s2, g, e⟩
  · omega
  obtain ⟨row, z⟩ := qz
  have hq1 : row.toInt = x := hq1
  have erow : row = xB := Int32.toInt_inj.mp (by omega)
  subst erow
  have hz : stL (stI s2 (t + 4) x n0) (t + 6) x 0 = z := e.symm
  have zc : ∀ d, d ≠ t + 4 → z.1 d = s2.1 d := fun d hd => by rw [← hz]; exact stI_ne hd
  have sA : SUA t x s2 z := by rw [← hz]; exact SUA.set
  have kz : KRA b t s2 z := by rw [← hz]; exact set_kra hb
  have kAz : KRA b t S z := kA.trans ((g.kra hb).trans kz)
  have a6 : z.2.1 (t + 6) x = 0 := by rw [← hz, stLA, upLA rfl]
  have a4 : z.1 (t + 4) x = n0 := by
    rw [← hz]
    show (stI s2 (t + 4) x n0).1 (t + 4) x = _
    rw [stI_at, upA rfl]
  have hRz : RPS b m z τ1 := by
    have hR1 := hR0.lays gB
    unfold RPS at hR1 ⊢
    rw [zc b (by omega), zc 38 (by omega), g.1.1 b (by omega), g.1.1 38 (by omega)]
    exact hR1
  have hCz : RCX b t m S T z τ1 (x + 1) := by
    refine ⟨⟨kAz, kB.trans gB.krb⟩, hRz, ?_, ?_, by omega⟩
    · rw [zc t (by omega), g.2.1]
      omega
    · rw [gB.2.1]
      omega
  have hSz : SRK b L σ z := fun i _ => by rw [zc (b + 2) (by omega), g.1.1 (b + 2) (by omega)]
  clear hz e
  dsimp only
  refine QT.bnd (a_findSources hS hSS.2.2 hRP hL hlev z hCz) (fun z2 hz2 => ?_)
  obtain ⟨hC2, hFS, hsrc⟩ := hz2
  obtain ⟨zf, hzf⟩ : ∃ zf : Nat → Int32, zf = fun j => z2.1 (b + 2) (8 * L + j) := ⟨_, rfl⟩
  have hz' : ∀ j, j < mR → SRJ T p q w r mW (T.1 3 u.toNatClampNeg) j (zf j) := fun j hj => by
    rw [hzf]
    exact hsrc j hj
  have hzσ : ∀ j, j < mR → z2.1 (b + 2) (8 * L + j) = zf j := fun j _ => by rw [hzf]
  have hT2 := hFS.tre (τ := τ1) hb
  have kB1 : KRB T τ1 := kB.trans gB.krb
  have e53 : (τ1.1 0 53).toInt = p := by rw [kB1.2.1 53 (by omega) (by omega) (by omega) (by omega) (by omega) (by omega) (by omega)]; exact hS.1.2.1.1
  have e54 : (τ1.1 0 54).toInt = q := by rw [kB1.2.1 54 (by omega) (by omega) (by omega) (by omega) (by omega) (by omega) (by omega)]; exact hS.1.2.1.2
  have e3 : τ1.1 3 = T.1 3 := kB1.ty.2.1
  refine QT.sw ?_
  refine QT.grd (fun _ => ?_)
  refine QT.ile (fun _ => ?_) (fun h => by omega)
  refine QT.grd (fun _ => ?_)
  refine QT.sw ?_
  rw [e3]
  have em1 := mlE (k := 6) (y := τ1.1 0 53) 6 l6 (by omega) (by omega)
  have em2 := mlE (k := 6) (y := τ1.1 0 54) 6 l6 (by omega) (by omega)
  have ea1 := il_addE (x := 6 * τ1.1 0 53) (y := T.1 3 u.toNatClampNeg) (by omega) (by omega)
  have ea2 := il_addE (x := 6 * τ1.1 0 54) (y := T.1 3 uB.toNatClampNeg) (by omega) (by omega)
  have c7 : ∀ d, t + 1 ≤ d → d ≤ t + 9 → z2.1 d = z.1 d := hT2.1
  have hI0 : RLR t q S T L (6 * q + r) x n0 z2 τ1 (PLJ zf mR 0 0) z2 τ1 (x + 1) [] := by
    refine ⟨by omega, ⟨SUA.rf, SUB.rf⟩, fun j => ⟨fun ⟨y, hy, _⟩ => (by cases hy), fun h => ?_⟩, ⟨⟨⟨?_, ?_⟩, ?_, ?_⟩, ⟨List.Pairwise.nil, List.Pairwise.nil⟩, ⟨?_, ?_⟩, fun y hy => (by cases hy)⟩, ⟨?_, ?_⟩, ⟨?_, ?_⟩, ?_⟩
    · exfalso
      unfold PLJ at h
      omega
    · show (z2.1 (t + 7) x).toInt = -1
      rw [c7 (t + 7) (by omega) (by omega), zc (t + 7) (by omega)]
      exact g.2.2.2.2.1.1
    · show (z2.1 (t + 8) x).toInt = -1
      rw [c7 (t + 8) (by omega) (by omega), zc (t + 8) (by omega)]
      exact g.2.2.2.2.1.2
    · exact gB.2.2.2.2.1.1
    · exact gB.2.2.2.2.1.2
    · show (τ1.1 23 x).toInt = ((0 : Nat) : Int)
      rw [gB.2.2.1.1.2]
      exact l0
    · refine ⟨?_, rfl⟩
      show 0 + x < x + 1
      omega
    · rw [c7 (t + 4) (by omega) (by omega)]
      exact a4
    · rw [hFS.2.2]
      exact a6
    · exact gB.2.2.1.2.2.2.1
    · exact gB.2.2.1.2.2.2.2
    · rw [gB.2.2.1.1.1]
      exact hso7
  have hE : ∀ (σ τ : ST) (e : Nat) (l : List EN), RCX b t m S T σ τ e → (∀ j, j < mR → σ.1 (b + 2) (8 * L + j) = zf j) → RLR t q S T L (6 * q + r) x n0 z2 τ1 (PLJ zf mR mW 0) σ τ e l → QT (f_X4_takeRecord_109 rT rF rL rO rR b t lev (S.1 16 uA.toNatClampNeg) row σ) (fun s => QT (f_X11_readsRecord_217 rb rI rS FU u uB row (6 * τ1.1 0 54 + T.1 3 uB.toNatClampNeg) 0 τ) (ROUT b (RND b t m q S T L (6 * q + r) x mR n0 z2 τ1 σ) s)) := fun σ' τ' e l hC' hz9 hR' => by
    unfold f_X4_takeRecord_109
    refine r_fills hS hSS hL xR _ u uB lev _ row hRP hlev (by omega) hq1 hu huB zf hz' n0 z2 τ1 FU FU 0 0 σ' τ' e l hC' hz9 (hR'.iff (fun k => ?_)) l0 (by omega)
    unfold PLJ PLF
    constructor
    · intro h
      omega
    · intro h
      rcases (hz' k h.1).sgn (by omega) with h9 | ⟨i, i1, i2⟩
      · omega
      · omega
  refine (r_fldsn hS hF hL xR _ u uB lev _ _ row hRP hlev (by omega) (by omega) hq1 hu huB zf hz' n0 z2 τ1 hE FU FU 0 0 z2 τ1 (x + 1) [] hC2 hzσ hI0 l0 (by omega)).mono2 (fun s v hv => hv.imp (fun h => ?_))
  obtain ⟨e', l', hCe, ⟨i1, ⟨i2, i3⟩, i4, i5, ⟨i6, i7⟩, ⟨i8, i9⟩, i10⟩, hSe⟩ := h
  have sA' := (sA.trans (hT2.sua x)).trans i2
  have hmem : l'.map (fun y => y.1) = List.range mR := by
    rw [List.range_eq_range']
    refine rg_list mR 0 _ i5.2.1.2 (fun i hi => ?_) (fun j _ hj => ?_)
    · obtain ⟨y, hy, e9⟩ := List.mem_map.mp hi
      have := (i4 i).mp ⟨y, hy, e9⟩
      exact ⟨by omega, by omega⟩
    · obtain ⟨y, hy, e9⟩ := (i4 j).mpr (by omega)
      exact List.mem_map.mpr ⟨y, hy, e9⟩
  have hV : VAL True t q S T s v.2 (32 - L) tA tB (x, e') (x, e') := by
    rw [show 32 - L = (31 - L) + 1 by omega]
    have b20 : v.2.1 20 x = so := (i3.2.2.1).trans gB.2.2.1.1.1
    have b26 : v.2.1 26 x = br := (i3.2.2.2 26 (by omega) (by omega)).trans gB.2.2.1.2.2.1.1
    have a1 : s.1 (t + 1) x = so := (sA'.2.2.1).trans g.2.2.1.1
    refine ⟨⟨i1, i1⟩, uA, uB, ?_, ⟨⟨?_, ?_⟩, ?_⟩, fun h => ?_, fun _ => ?_, fun h => ?_, fun _ => ?_⟩
    · show OWN S T tA tB (v.2.1 26 x) uA uB
      rw [b26]
      exact hO
    · exact hso.trans b20.symm
    · exact a1.trans b20.symm
    · show 0 ≤ (v.2.1 20 x).toInt ∧ (v.2.1 20 x).toInt ≤ 7
      rw [b20]
      omega
    · have h : (v.2.1 20 x).toInt ≤ 5 := h
      rw [b20] at h
      omega
    · show s.2.1 (t + 6) x = v.2.2.1 21 x ∧ v.2.2.1 22 x = 0
      rw [i7, i8, i9]
      exact ⟨rfl, rfl⟩
    · have h : (v.2.1 20 x).toInt = 6 := h
      rw [b20] at h
      omega
    · refine ⟨6 * q + r, mR, l', ⟨by omega, by omega, hmR⟩, hmem, fun _ => ⟨?_, fun y hy => (i5.2.2.2 y hy).2.2.1.1⟩, ?_⟩
      · show (s.1 (t + 4) x).toInt = mR
        rw [i6]
        exact hnm
      · obtain ⟨j1, j2, j3, j4⟩ := i5
        exact ⟨j1, j2, j3, fun y hy => ⟨(j4 y hy).1, (j4 y hy).2.1, .inl (j4 y hy).2.2⟩⟩
  exact r_kid hP g gB sA' i3 hCe i1 hV ((hSz.trans hFS.2.1).trans hSe)
