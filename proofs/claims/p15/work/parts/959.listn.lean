/-! lists that the reader wants, both sides -/
theorem TRE.sua {t : Nat} {σ s τ w : ST} (h : TRE t σ s τ w) (x : Nat) : SUA t x σ s := ⟨fun i _ => ⟨⟨fun k k1 k5 => by rw [h.1 (t + k) (by omega) (by omega)], by rw [h.2.1]⟩, by rw [h.1 (t + 7) (by omega) (by omega)], by rw [h.1 (t + 8) (by omega) (by omega)], by rw [h.1 (t + 9) (by omega) (by omega)]⟩, by rw [h.1 (t + 9) (by omega) (by omega)], by rw [h.1 (t + 1) (by omega) (by omega)], by rw [h.1 (t + 2) (by omega) (by omega)], by rw [h.1 (t + 3) (by omega) (by omega)], by rw [h.1 (t + 5) (by omega) (by omega)]⟩
theorem TRE.sub {t : Nat} {σ s τ w : ST} (h : TRE t σ s τ w) (x : Nat) : SUB x τ w := ⟨fun i _ => ⟨⟨⟨by rw [h.2.2.1 20 (by omega) (by omega)], by rw [h.2.2.1 23 (by omega) (by omega)]⟩, fun k a c => by rw [h.2.2.1 k (by omega) (by omega)], by rw [h.2.2.2.1], by rw [h.2.2.2.2]⟩, by rw [h.2.2.1 28 (by omega) (by omega)], by rw [h.2.2.1 29 (by omega) (by omega)], by rw [h.2.2.1 30 (by omega) (by omega)]⟩, by rw [h.2.2.1 30 (by omega) (by omega)], by rw [h.2.2.1 20 (by omega) (by omega)], fun k a c => by rw [h.2.2.1 k (by omega) (by omega)]⟩
theorem TRE.sam {t : Nat} {σ s τ w : ST} (h : TRE t σ s τ w) (x : Nat) : SAM t x σ s := fun j _ => ⟨⟨fun k _ _ => by rw [h.1 (t + k) (by omega) (by omega)], by rw [h.2.1]⟩, by rw [h.1 (t + 7) (by omega) (by omega)], by rw [h.1 (t + 8) (by omega) (by omega)], by rw [h.1 (t + 9) (by omega) (by omega)]⟩
theorem TRE.sbm {t : Nat} {σ s τ w : ST} (h : TRE t σ s τ w) (x : Nat) : SBM x τ w := fun j _ => ⟨⟨⟨by rw [h.2.2.1 20 (by omega) (by omega)], by rw [h.2.2.1 23 (by omega) (by omega)]⟩, fun k _ _ => by rw [h.2.2.1 k (by omega) (by omega)], by rw [h.2.2.2.1], by rw [h.2.2.2.2]⟩, by rw [h.2.2.1 28 (by omega) (by omega)], by rw [h.2.2.1 29 (by omega) (by omega)], by rw [h.2.2.1 30 (by omega) (by omega)]⟩
/-- a child of row x, of any tree -/
def CHG (rd : Prop) (b p : Nat) (S T : ST) (n x v : Nat) (tI tJ : Int32) (σ τ : ST) (y : EN) : Prop := (inA y = true ∧ KID b σ τ x v y) ∧ VAL rd b p S T σ τ n tI tJ y.2.1 y.2.2
theorem CHG.ext {rd : Prop} {b p : Nat} {S T : ST} {n x v : Nat} {tI tJ : Int32} {σ τ s t : ST} {y : EN} (h : CHG rd b p S T n x v tI tJ σ τ y) (hn : y.2.2.1 < y.2.2.2) (hA : AGA b σ s y.2.1.1 y.2.1.2) (hB : AGB τ t y.2.2.1 y.2.2.2) : CHG rd b p S T n x v tI tJ s t y := by
  have := inA_lt h.1.1
  exact ⟨⟨h.1.1, h.1.2.ext (hA _ (by omega) (by omega)).1 (hB _ (by omega) (by omega)).1⟩, h.2.ext _ _ _ _ _ hA hB⟩
/-- while the items of a list are read -/
def ILR (t q : Nat) (S T : ST) (L : Nat) (tI tJ : Int32) (x : Nat) (n : Int32) (a t1 : ST) (k : Nat) (σ τ : ST) (e : Nat) (l : List EN) : Prop := x < e ∧ (SUA t x a σ ∧ SUB x t1 τ) ∧ (l.map (fun y => y.1) = List.range k ∧ l.length = k ∧ k ≤ 200) ∧ KDS t σ τ (x, e) (x, e) l (CHG True t q S T (31 - L) x x tI tJ σ τ) ∧ (σ.1 (t + 4) x = n ∧ σ.2.1 (t + 6) x = 0) ∧ (τ.2.1 21 x = 0 ∧ τ.2.1 22 x = 0) ∧ (τ.1 20 x).toInt = 6
theorem ILR.rows {t q : Nat} {S T : ST} {L : Nat} {tI tJ : Int32} {x : Nat} {n : Int32} {a t1 : ST} {k : Nat} {σ τ : ST} {e : Nat} {l : List EN} (h : ILR t q S T L tI tJ x n a t1 k σ τ e l) : (∀ r, r ∈ rA l → x < r) ∧ ∀ r, r ∈ rB l → x < r := by
  obtain ⟨_, _, _, hK, _⟩ := h
  refine ⟨fun r hr => ?_, fun r hr => ?_⟩
  · obtain ⟨y, y1, y2, y3⟩ := mem_rA hr
    have k : x < y.2.1.1 := ((hK.2.2.2 y y1).2.1.1 y2).1
    omega
  · obtain ⟨y, y1, y3⟩ := mem_rB hr
    have k : x < y.2.2.1 := (hK.2.2.2 y y1).1.1
    omega
theorem ILR.par {t q : Nat} {S T : ST} {L : Nat} {tI tJ : Int32} {x : Nat} {n : Int32} {a t1 : ST} {k : Nat} {σ τ : ST} {e : Nat} {l : List EN} (h : ILR t q S T L tI tJ x n a t1 k σ τ e l) {row pl : Int32} (hr : row.toInt = x) (hp : pl.toInt = k) : PARG t σ τ e e row row pl l [] := by
  obtain ⟨h1, _, ⟨h3, _, h4⟩, hK, _, _, h5⟩ := h
  refine .inr ⟨x, x, _, ⟨⟨hr, h1⟩, hr, h1⟩, by rw [List.append_nil]; exact hK, fun y hy => ?_, fun y hy => ?_, fun y hy => (by cases hy), ⟨by omega, by omega⟩, .inr h5⟩
  · rw [List.append_nil] at hy
    obtain ⟨_, _, ⟨_, hk⟩, _⟩ := hK.2.2.2 y hy
    exact ⟨fun _ => hk.1.2, hk.2.1.2⟩
  · have : y.1 ∈ l.map (fun y => y.1) := List.mem_map.mpr ⟨y, hy, rfl⟩
    rw [h3] at this
    have := List.mem_range.mp this
    omega
theorem ILR.tre {t q : Nat} {S T : ST} {L : Nat} {tI tJ : Int32} {x : Nat} {n : Int32} {a t1 : ST} {k : Nat} {σ τ s w : ST} {e : Nat} {l : List EN} (h : ILR t q S T L tI tJ x n a t1 k σ τ e l) (hT : TRE t σ s τ w) : ILR t q S T L tI tJ x n a t1 k s w e l := by
  obtain ⟨h1, ⟨hs1, hs2⟩, h3, hK, ⟨h5, h5b⟩, ⟨h6, h6b⟩, h7⟩ := h
  refine ⟨h1, ⟨hs1.trans (hT.sua x), hs2.trans (hT.sub x)⟩, h3, ?_, ⟨?_, ?_⟩, ⟨?_, ?_⟩, ?_⟩
  · refine hK.sam (hT.sam x) (hT.sbm x) (by rw [hT.1 (t + 7) (by omega) (by omega)]) (by rw [hT.1 (t + 8) (by omega) (by omega)]) (by rw [hT.2.2.1 28 (by omega) (by omega)]) (by rw [hT.2.2.1 29 (by omega) (by omega)]) (by rw [hT.2.2.1 23 (by omega) (by omega)]) (fun y _ hx hv hn hQ => hQ.ext hn ((hT.sam x).ag (hx hQ.1.1)) ((hT.sbm x).ag hv))
  · rw [hT.1 (t + 4) (by omega) (by omega)]
    exact h5
  · rw [hT.2.1]
    exact h5b
  · rw [hT.2.2.2.1]
    exact h6
  · rw [hT.2.2.2.2]
    exact h6b
  · rw [hT.2.2.1 20 (by omega) (by omega)]
    exact h7
/-- one item more -/
theorem ILR.add {b t m q : Nat} {S T : ST} {L : Nat} {tI tJ : Int32} {x : Nat} {n : Int32} {a t1 : ST} {k : Nat} {σ τ s u : ST} {e : Nat} {l : List EN} (h : ILR t q S T L tI tJ x n a t1 k σ τ e l) {row pl : Int32} (hr : row.toInt = x) (hp : pl.toInt = k) (hk : k < 200) (hL : L ≤ 30) (hV : RVP b t m q (L + 1) S T tI tJ e row pl l [] σ τ s u) : ∃ e', RCX b t m S T s u e' ∧ ILR t q S T L tI tJ x n a t1 (k + 1) s u e' (l ++ [(k, (e, e'), (e, e'))]) ∧ SRK b (L + 1) σ s := by
  have hrow := h.rows
  obtain ⟨h1, ⟨hs1, hs2⟩, ⟨h3, h3b, h4⟩, hK, ⟨h5, h5b⟩, ⟨h6, h6b⟩, h7⟩ := h
  obtain ⟨e', hC, g1, hVal, ⟨⟨g3, g4⟩, ⟨g5, g6⟩, g7⟩, ⟨hXA, hXB⟩, hS⟩ := hV
  rw [hr] at hXA hXB
  have hsu : SUA t x σ s := hXA.su h1 (fun r hr => hrow.1 r hr)
  have hsb : SUB x τ u := hXB.su h1 (fun r hr => hrow.2 r hr)
  refine ⟨e', hC, ⟨by omega, ⟨hs1.trans hsu, hs2.trans hsb⟩, ⟨?_, ?_, by omega⟩, ?_, ⟨?_, ?_⟩, ⟨?_, ?_⟩, ?_⟩, hS⟩
  · rw [List.map_append, h3, List.range_succ]
    rfl
  · rw [List.length_append, h3b]
    rfl
  · refine KDS.add (l := l) (m := []) (Q := CHG True t q S T (31 - L) x x tI tJ σ τ) (by rw [List.append_nil]; exact hK) hXA hXB h1 h1 g1 g1 (by rw [List.append_nil]; omega) (fun y hy => ?_) (fun y hy => (by cases hy)) (fun y hy hy1 hyA hyB hQ => ?_) ?_
    · have : y.1 ∈ l.map (fun y => y.1) := List.mem_map.mpr ⟨y, hy, rfl⟩
      rw [h3] at this
      exact List.mem_range.mp this
    · exact hQ.ext hy1.2 (hyA hQ.1.1) hyB
    · refine ⟨⟨decide_eq_true g1, ⟨⟨?_, ?_⟩, ⟨?_, ?_⟩, g7⟩⟩, ?_⟩
      · show (s.1 (t + 2) e).toInt = x
        rw [g3]
        exact hr
      · show (s.1 (t + 3) e).toInt = k
        rw [g4]
        exact hp
      · show (u.1 24 e).toInt = x
        rw [g5]
        exact hr
      · show (u.1 25 e).toInt = k
        rw [g6]
        exact hp
      · have e9 : 32 - (L + 1) = 31 - L := by omega
        rw [e9] at hVal
        exact hVal
  · rw [(hXA.1 x h1).1 4 (by omega) (by omega)]
    exact h5
  · rw [(hXA.1 x h1).2]
    exact h5b
  · rw [(hXB.1.1 x h1).2.2.1]
    exact h6
  · rw [(hXB.1.1 x h1).2.2.2]
    exact h6b
  · rw [(hXB.1.1 x h1).1]
    exact h7
/-- the items, one by one -/
theorem r_itemsn {b t m p q : Nat} {S T : ST} {rT rF rL rO rR : FTK} {rb : FRD} {rI rS : Int32 → Int32 → Int32 → Int32 → ST → Option (Int32 × ST)} (hT : cTK b t m p q S T rT rb) {L : Nat} (hL : L ≤ 30) (x1 u uB inn lev cnt row : Int32) {d e0 x : Nat} (hlev : lev.toInt = L) (hX : TY p (T.1 8 p).toInt S T d x1 (T.1 3 u.toNatClampNeg)) (hd : d ≤ 4) (hY : TY q (T.1 8 q).toInt S T e0 inn (T.1 3 uB.toNatClampNeg)) (he0 : e0 ≤ 4) (hM : MS T (T.1 3 u.toNatClampNeg) (T.1 3 uB.toNatClampNeg)) (hu : 0 ≤ u.toInt ∧ u.toInt < 800) (huB : 0 ≤ uB.toInt ∧ uB.toInt < 800) (hc : 0 ≤ cnt.toInt ∧ cnt.toInt ≤ 200) (hrow : row.toInt = x) (a t1 : ST) : ∀ (n M i : Nat) (x9 : Int32) (σ τ : ST) (e : Nat) (l : List EN), RCX b t m S T σ τ e → ILR t q S T L inn (T.1 3 uB.toNatClampNeg) x cnt a t1 i σ τ e l → x9.toInt = i → (i : Int) ≤ cnt.toInt → QT (f_X4_takeList_48 rT rF rL rO rR b t n x1 lev cnt row inn x9 σ) (fun s => QT (f_X11_readsItems_27 rb rI rS M u uB lev row cnt x9 τ) (ROUT b (fun s w => ∃ (e' : Nat) (l' : List EN), RCX b t m S T s w e' ∧ ILR t q S T L inn (T.1 3 uB.toNatClampNeg) x cnt a t1 cnt.toInt.toNat s w e' l' ∧ SRK b L σ s) s)) := by
  have l0 := li_0
  have l1 := li_1
  have lm := li_m1
  have el := il_addE (x := lev) (y := 1) (by omega) (by omega)
  have ry := hY.rng.1
  intro n
  induction n with
  | zero =>
    intro M i x9 σ τ e l _ _ _ _
    rw [f_X4_takeList_48]
    exact QT.none
  | succ n ih =>
    intro M i x9 σ τ e l hC hI h9 hi
    cases M with
    | zero =>
      refine fun s _ => ?_
      rw [f_X11_readsItems_27]
      exact QT.none
    | succ M =>
      rw [f_X4_takeList_48, f_X11_readsItems_27]
      refine QT.ile (fun hle => QT.ret ?_) (fun hlt => ?_)
      · have ei : cnt.toInt.toNat = i := by omega
        rw [ei]
        exact QT.ile (fun _ => QT.ret (.inr ⟨rfl, e, l, hC, hI, SRK.rf⟩)) (fun h => by omega)
      refine QT.ite (fun _ => ?_) (fun h => absurd hC.2.1.1.1 h)
      refine QT.sw ?_
      refine QT.ile (fun h => by omega) (fun _ => ?_)
      refine QT.bnd (q_enters _ τ) (fun τ1 hτ1 => ?_)
      refine QT.grd (fun _ => ?_)
      refine QT.ile (fun _ => ?_) (fun h => by omega)
      refine QT.grd (fun _ => ?_)
      unfold f_X11_readsItems_64
      have e3 : τ1.1 3 = T.1 3 := (hτ1.1 3 (by omega) (by omega)).trans hC.1.2.ty.2.1
      rw [e3]
      refine QT.sw ?_
      refine QT.bnd (a_step b t _ σ) (fun σ1 hσ1 => ?_)
      have hC1 := hC.st hσ1 hτ1
      have hI1 := hI.tre (ST.tre hC.1.1.1 hσ1 hτ1)
      refine QT.bnd2 ((hT x1 (T.1 3 u.toNatClampNeg) (lev + 1) (L + 1) d e σ1 τ1 hX hd (by omega) (by omega) hC1).2 inn (T.1 3 uB.toNatClampNeg) row x9 e0 l [] (fun h => by rw [h] at ry; omega) hY he0 hM (hI1.par hrow h9)) (fun s w hsw => ?_)
      rcases hsw with ⟨f1, f2⟩ | ⟨w1, hK⟩
      · refine QT.bnd (a_stepBack b t s) (fun s2 hs2 => ?_)
        refine (ad_48 x1 lev cnt row inn (by rw [hs2.2.1 7 (by omega)]; exact f1) n _).mono (fun z hz => ?_)
        exact QT.ite (fun _ => QT.ret (.inl ⟨hz, rfl⟩)) (fun h => absurd f2 h)
      · refine QT.bnd (a_stepBack b t s) (fun s2 hs2 => ?_)
        refine QT.sw ?_
        refine QT.ite (fun h => by rw [w1] at h; exact absurd h one_ne) (fun _ => ?_)
        refine QT.sw ?_
        obtain ⟨e', hC2, hI2, hS2⟩ := hI1.add hrow h9 (by omega) hL hK
        have hB2 : STB w.2 (stI w.2 0 57 (w.2.1 0 57 - 1)) := STB.i
        have e9 := il_addE (x := x9) (y := 1) (by omega) (by omega)
        refine (ih M (i + 1) (x9 + 1) s2 _ e' _ (hC2.st hs2 hB2) (hI2.tre (ST.tre hC.1.1.1 hs2 hB2)) (by omega) (by omega)).mono2 (fun z v hz => hz.imp (fun h => ?_))
        obtain ⟨e3', l3, k1, k2, k3⟩ := h
        exact ⟨e3', l3, k1, k2, ((hσ1.srk.trans (hS2.wk (by omega))).trans hs2.srk).trans k3⟩
