/-! a value that is read: what is said of it -/
/-- both read, so many rows made; nothing has failed -/
def RCX (b t m : Nat) (S T σ τ : ST) (x : Nat) : Prop := (KRA b t S σ ∧ KRB T τ) ∧ RPS b m σ τ ∧ (σ.1 t 1).toInt = x ∧ (τ.1 0 46).toInt = x ∧ x ≤ 400
/-- the tree that is read into -/
def RSS (b t : Nat) (S : ST) : Prop := S.2.2.2 b = t ∧ 400 ≤ (S.1 t 0).toInt ∧ (S.1 4 1).toInt ≤ 262
/-- both trees stayed -/
def TRE (t : Nat) (σ s τ w : ST) : Prop := (∀ c, t + 1 ≤ c → c ≤ t + 9 → s.1 c = σ.1 c) ∧ s.2.1 (t + 6) = σ.2.1 (t + 6) ∧ (∀ c, 20 ≤ c → c ≤ 30 → w.1 c = τ.1 c) ∧ w.2.1 21 = τ.2.1 21 ∧ w.2.1 22 = τ.2.1 22
theorem TRE.rf {t : Nat} {σ τ : ST} : TRE t σ σ τ τ := ⟨fun _ _ _ => rfl, rfl, fun _ _ _ => rfl, rfl, rfl⟩
theorem TRE.trans {t : Nat} {σ s u τ w z : ST} (h : TRE t σ s τ w) (k : TRE t s u w z) : TRE t σ u τ z := ⟨fun c a d => (k.1 c a d).trans (h.1 c a d), k.2.1.trans h.2.1, fun c a d => (k.2.2.1 c a d).trans (h.2.2.1 c a d), k.2.2.2.1.trans h.2.2.2.1, k.2.2.2.2.trans h.2.2.2.2⟩
/-- the sources of the records around stayed -/
def SRK (b L : Nat) (σ s : ST) : Prop := ∀ i, i < 8 * L → s.1 (b + 2) i = σ.1 (b + 2) i
theorem SRK.rf {b L : Nat} {σ : ST} : SRK b L σ σ := fun _ _ => rfl
theorem SRK.trans {b L : Nat} {σ s u : ST} (h : SRK b L σ s) (k : SRK b L s u) : SRK b L σ u := fun i hi => (k i hi).trans (h i hi)
theorem SRK.wk {b L M : Nat} {σ s : ST} (h : SRK b M σ s) (hL : L ≤ M) : SRK b L σ s := fun i hi => h i (by omega)
/-- a value that the reader doesn't want -/
def RSK (b t m L : Nat) (S T : ST) (x : Nat) (σ τ s w : ST) : Prop := RCX b t m S T s w x ∧ TRE t σ s τ w ∧ SRK b L σ s
/-- a value that it wants, at row x -/
def RVP (b t m q L : Nat) (S T : ST) (tA tB : Int32) (x : Nat) (pa pl : Int32) (l k : List EN) (σ τ s w : ST) : Prop := ∃ e : Nat, RCX b t m S T s w e ∧ x < e ∧ VAL True t q S T s w (32 - L) tA tB (x, e) (x, e) ∧ ((s.1 (t + 2) x = pa ∧ s.1 (t + 3) x = pl) ∧ (w.1 24 x = pa ∧ w.1 25 x = pl) ∧ s.1 (t + 5) x = w.1 27 x) ∧ (XTA t x pa.toInt (rA l) (rA k) σ s ∧ XTB x pa.toInt (rB l) (rB k) τ w) ∧ SRK b L σ s
/-- what both answer: it failed, or it went well -/
def ROUT (b : Nat) (K : ST → ST → Prop) (s : ST) (w : Int32 × ST) : Prop := (¬ s.1 b 7 = 0 ∧ w.1 = 0) ∨ (w.1 = 1 ∧ K s w.2)
theorem ROUT.imp {b : Nat} {K J : ST → ST → Prop} {s : ST} {w : Int32 × ST} (h : ROUT b K s w) (k : K s w.2 → J s w.2) : ROUT b J s w := Or.imp id (fun h => ⟨h.1, k h.2⟩) h
theorem PMA.kra {b t : Nat} {σ s : ST} (hb : BT b t) (h : PMA b σ s) : KRA b t σ s := by
  have hb' := hb
  unfold BT at hb'
  exact ⟨hb, fun c a _ => h.1 c (by omega), ⟨fun i i5 _ _ _ => h.2.1 i i5, fun i _ => by rw [h.1 t (by omega)]⟩, fun c _ => by rw [h.2.2], by rw [h.2.2], fun hn => by rw [h.2.1 7 (by omega)]; exact hn⟩
theorem PMB.krb {τ w : ST} (h : PMB τ w) : KRB τ w := ⟨fun c h0 _ _ _ _ => h.1 c h0, fun i _ _ h64 _ _ _ h72 => h.2.1 i h64 h72, fun c h0 _ _ => h.2.2 c h0⟩
theorem PM.tre {b t : Nat} {σ s τ w : ST} (hb : BT b t) (h : PMA b σ s) (k : PMB τ w) : TRE t σ s τ w := by
  have hb' := hb
  unfold BT at hb'
  exact ⟨fun c _ _ => h.1 c (by omega), by rw [h.2.2], fun c _ _ => k.1 c (by omega), k.2.2 21 (by omega), k.2.2 22 (by omega)⟩
theorem PMA.srk {b L : Nat} {σ s : ST} (h : PMA b σ s) : SRK b L σ s := fun i _ => by rw [h.1 (b + 2) (by omega)]
/-- where both stand when only the place has moved -/
theorem RCX.mv {b t m : Nat} {S T σ τ s w : ST} {x : Nat} (h : RCX b t m S T σ τ x) (hR : RPS b m s w) (hA : PMA b σ s) (hB : PMB τ w) : RCX b t m S T s w x := by
  obtain ⟨⟨h1, h2⟩, _, h3, h4, h5⟩ := h
  have hb := h1.1
  have hb' := hb
  unfold BT at hb'
  refine ⟨⟨h1.trans (hA.kra hb), h2.trans hB.krb⟩, hR, ?_, ?_, h5⟩
  · rw [hA.1 t (by omega)]
    exact h3
  · rw [hB.2.1 46 (by omega) (by omega)]
    exact h4
theorem RPS.lays {b m x : Nat} {so pa pl br : Int32} {l k : List Nat} {σ τ t : ST} (h : RPS b m σ τ) (g : GRB x so pa pl br l k τ t) : RPS b m σ t := by
  have e0 : ∀ j, j ≠ 46 → t.1 0 j = τ.1 0 j := g.1.2.2.2
  have e34 : t.1 34 = τ.1 34 := g.1.1 34 (by omega) (by omega) (by omega)
  unfold RPS at h ⊢
  rw [e0 64 (by omega), e0 65 (by omega), e0 63 (by omega), e34]
  exact h
theorem GRB.krb {x : Nat} {so pa pl br : Int32} {l k : List Nat} {τ t : ST} (g : GRB x so pa pl br l k τ t) : KRB τ t := ⟨fun c h0 h20 h23 _ _ => g.1.1 c h0 h20 h23, fun i h46 _ _ _ _ _ _ => g.1.2.2.2 i h46, fun c _ h21 h22 => g.1.2.1 c h21 h22⟩
theorem GRW.kra {b t x : Nat} {so pa pl : Int32} {l k : List Nat} {σ s : ST} (hb : BT b t) (g : GRW t x so pa pl l k σ s) : KRA b t σ s := by
  have hb' := hb
  unfold BT at hb'
  exact ⟨hb, fun c _ h => g.1.1 c (by omega), ⟨fun i _ _ _ _ => by rw [g.1.1 b (by omega)], fun i hi => g.1.2.2.2 i hi⟩, fun c hc => g.1.2.1 c hc, g.1.2.2.1, fun hn => by rw [g.1.1 b (by omega)]; exact hn⟩
/-- a row's size and worth -/
theorem set_kra {b t x : Nat} {n : Int32} {w : Int64} {s : ST} (hb : BT b t) : KRA b t s (stL (stI s (t + 4) x n) (t + 6) x w) := ((KRA.rf hb).i (.inr (.inr (.inr ⟨by omega, by omega⟩)))).l rfl
theorem XTA.src {b e : Nat} {p : Int} {l m : List Nat} {σ σ' s : ST} (h : XTA b e p l m σ' s) (hc : ∀ c, b + 1 ≤ c → c ≤ b + 9 → σ'.1 c = σ.1 c) (h6 : σ'.2.1 (b + 6) = σ.2.1 (b + 6)) : XTA b e p l m σ s := by
  obtain ⟨h1, h2, h3, h4⟩ := h
  refine ⟨fun i hi => ⟨fun k k1 k5 => ?_, ?_⟩, fun i hi hp => ?_, fun i hi hl => ?_, h4⟩
  · rw [← hc (b + k) (by omega) (by omega)]
    exact (h1 i hi).1 k k1 k5
  · rw [← h6]
    exact (h1 i hi).2
  · rw [← hc (b + 7) (by omega) (by omega), ← hc (b + 8) (by omega) (by omega)]
    exact h2 i hi hp
  · rw [← hc (b + 9) (by omega) (by omega)]
    exact h3 i hi hl
theorem PARG.mv {t x v : Nat} {σ τ s w : ST} {pa pb pl : Int32} {l k : List EN} (h : PARG t σ τ x v pa pb pl l k) (hT : TRE t σ s τ w) : PARG t s w x v pa pb pl l k := by
  obtain ⟨hc, h6, hB, h21, h22⟩ := hT
  rcases h with h | ⟨x0, v0, Q, h1, h2, h3, h4, h5, h6', h7⟩
  · exact .inl h
  · refine .inr ⟨x0, v0, Q, h1, ?_, fun y hy => ?_, h4, h5, h6', ?_⟩
    · unfold KDS at h2 ⊢
      rw [hc (t + 9) (by omega) (by omega), hc (t + 7) (by omega) (by omega), hc (t + 8) (by omega) (by omega), hB 30 (by omega) (by omega), hB 28 (by omega) (by omega), hB 29 (by omega) (by omega), hB 23 (by omega) (by omega)]
      exact h2
    · rw [hc (t + 3) (by omega) (by omega), hB 25 (by omega) (by omega)]
      exact h3 y hy
    · rw [hB 20 (by omega) (by omega)]
      exact h7
/-- nothing is made of it -/
theorem r_183s {b t : Nat} (w : Int64) (n p3 p2 : Int32) (s : ST) : QT (f_X4_takePlain_183 b t w n p3 p2 (-1) s) (fun z => z = s) := by
  unfold f_X4_takePlain_183 f_X4_addNode
  rw [if_pos rfl, sbnd]
  exact QT.ret rfl
theorem r_leafs {b t m L : Nat} {S T σ τ : ST} {x : Nat} (hC : RCX b t m S T σ τ x) (s p2 p3 u v : Int32) (hu : 0 ≤ u.toInt ∧ u.toInt < 800) (hs : τ.1 2 u.toNatClampNeg = s) (hs5 : 0 ≤ s.toInt ∧ s.toInt ≤ 5) (xB : Int32) (hxB : xB.toInt < 0) : QT (f_X4_takePlain b t s (-1) p2 p3 σ) (fun z => QT (f_X11_readsLeaf u v xB τ) (ROUT b (RSK b t m L S T x σ τ) z)) := by
  have hb := hC.1.1.1
  have lm := li_m1
  refine rd_leaf hb s (-1) (-1) p2 p3 u v xB hC.2.1 hu hs hs5 (fun z _ => a4_sortOf_m1 z) 0 (.inl ⟨rfl, hxB, by rw [lm]; omega⟩) (fun z w h1 h2 => .inl ⟨h1, h2⟩) (fun _ s' t' w n hR hA hB => ?_) (fun h => absurd rfl h)
  refine (r_183s w n p3 p2 s').mono (fun z hz => ?_)
  rw [hz]
  exact .inr ⟨rfl, hC.mv hR hA hB, PM.tre hb hA hB, hA.srk⟩
/-- a row of one value: what is said of it -/
theorem r_kid {b t m q L : Nat} {S T : ST} {tA tB so br : Int32} {x : Nat} {pa pl : Int32} {l k : List EN} {σ τ s τ1 z w : ST} (hP : PARG t σ τ x x pa pa pl l k) (gA : GRW t x so pa pl (rA l) (rA k) σ s) (gB : GRB x so pa pl br (rB l) (rB k) τ τ1) (hA : SUA t x s z) (hB : SUB x τ1 w) {e : Nat} (hC : RCX b t m S T z w e) (hxe : x < e) (hV : VAL True t q S T z w (32 - L) tA tB (x, e) (x, e)) (hS : SRK b L σ z) : RVP b t m q L S T tA tB x pa pl l k σ τ z w := by
  have hlt := hP.lt
  refine ⟨e, hC, hxe, hV, ⟨⟨?_, ?_⟩, ⟨?_, ?_⟩, ?_⟩, ⟨XTA.mk gA hA hlt.2.2.1 hlt.1, XTB.mk gB hB hlt.2.2.2.1 hlt.2.1⟩, hS⟩
  · exact hA.2.2.2.1.trans gA.2.2.1.2.1
  · exact hA.2.2.2.2.1.trans gA.2.2.1.2.2.1
  · exact (hB.2.2.2 24 (by omega) (by omega)).trans gB.2.2.1.2.1.1
  · exact (hB.2.2.2 25 (by omega) (by omega)).trans gB.2.2.1.2.1.2
  · rw [hA.2.2.2.2.2, gA.2.2.1.2.2.2.2.1, hB.2.2.2 27 (by omega) (by omega), gB.2.2.1.2.2.1.2]
theorem lfs_krb {x : Nat} {bits txt : Int64} {many : Int32} {τ : ST} : KRB τ (LFS τ x bits txt many) := ((KRB.rf.l (.inr (.inl rfl))).l (.inr (.inr rfl))).i (by omega)
/-- a leaf that the reader wants -/
theorem r_leafn {b t m q L : Nat} {S T : ST} {tA tB uA uB so br : Int32} {x : Nat} {pa pl : Int32} {l k : List EN} {σ τ τ1 : ST} (hP : PARG t σ τ x x pa pa pl l k) (hC : RCX b t m S T σ τ x) (hx4 : x < 400) (hSS : RSS b t S) (hL : L ≤ 31) (s u xB : Int32) (gB : GRB x so pa pl br (rB l) (rB k) τ τ1) (hxB : xB.toInt = x) (hu : 0 ≤ u.toInt ∧ u.toInt < 800) (hs : T.1 2 u.toNatClampNeg = s) (hs5 : 0 ≤ s.toInt ∧ s.toInt ≤ 5) (huB : 0 ≤ uB.toInt ∧ uB.toInt < 800) (hso : T.1 2 uB.toNatClampNeg = so) (hso5 : 0 ≤ so.toInt ∧ so.toInt ≤ 5) (hne : ¬ uA = -1) (hGA : ∀ z, KRA b t S z → f_X5_sortOf 4 uA z = some (so, z)) (hPL : PLS s.toInt so.toInt) (hO : OWN S T tA tB br uA uB) : QT (f_X4_takePlain b t s uA pa pl σ) (fun z => QT (f_X11_readsLeaf u uB xB τ1) (ROUT b (RVP b t m q L S T tA tB x pa pl l k σ τ) z)) := by
  have hC' := hC
  obtain ⟨⟨kA, kB⟩, hR0, h1, h46, _⟩ := hC'
  have hb := kA.1
  have hb' := hb
  unfold BT at hb'
  have e2 : τ1.1 2 = T.1 2 := (gB.1.1 2 (by omega) (by omega) (by omega)).trans kB.ty.1
  refine rd_leaf hb s so uA pa pl u uB xB (hR0.lays gB) hu (by rw [e2]; exact hs) hs5 (fun z hz => hGA z (kA.trans (hz.kra hb))) x (.inr ⟨hne, hxB, huB, by rw [e2]; exact hso, hPL⟩) (fun z w h1 h2 => .inl ⟨h1, h2⟩) (fun h => absurd h hne) (fun _ s' t' w n bits txt many hR hA hB hE hn => ?_)
  unfold f_X4_takePlain_183
  have hPs : PARG t s' τ x x pa pa pl l k := hP.mv (PM.tre hb hA PMB.rf)
  have kA' := kA.trans (hA.kra hb)
  have st : s'.1 t = σ.1 t := hA.1 t (by omega)
  have s22 : s'.2.2.2 b = t := by rw [hA.2.2, kA.2.2.2.2.1]; exact hSS.1
  have scap : 400 ≤ (s'.1 t 0).toInt := by rw [st, kA.2.2.1.2 0 (by omega)]; exact hSS.2.1
  refine QT.bnd (a_addNode hb uA pa pl n w so s' hne hR.1.1 s22 (by rw [st]; exact h1) scap (hGA s' kA') hPs.gA) (fun qz hq => QT.ret ?_)
  rcases hq with ⟨_, h2⟩ | ⟨_, hq1, s2, g, e⟩
  · omega
  rw [e]
  generalize hz : stL (stI s2 (t + 4) x n) (t + 6) x w = z
  generalize hw : LFS t' x bits txt many = w'
  have zc : ∀ d, d ≠ t + 4 → z.1 d = s2.1 d := fun d hd => by rw [← hz]; exact stI_ne hd
  have zL : ∀ d, d ≠ t + 6 → z.2.1 d = s2.2.1 d := fun d hd => by rw [← hz]; exact stL_ne hd
  have wc : ∀ d, d ≠ 23 → w'.1 d = t'.1 d := fun d hd => by rw [← hw]; exact stI_ne hd
  have sA : SUA t x s2 z := by rw [← hz]; exact SUA.set
  have sB0 : SUB x τ1 t' := SUB.eq (fun c hc => hB.1 c (by omega)) ⟨hB.2.2 21 (by omega), hB.2.2 22 (by omega)⟩
  have sB : SUB x τ1 w' := by rw [← hw]; exact sB0.trans SUB.set
  have kz : KRA b t s2 z := by rw [← hz]; exact set_kra hb
  have kw : KRB t' w' := by rw [← hw]; exact lfs_krb
  have hRz : RPS b m z w' := by
    unfold RPS at hR ⊢
    rw [zc b (by omega), zc 38 (by omega), wc 0 (by omega), wc 34 (by omega), g.1.1 b (by omega), g.1.1 38 (by omega)]
    exact hR
  have hCz : RCX b t m S T z w' (x + 1) := by
    refine ⟨⟨kA'.trans ((g.kra hb).trans kz), kB.trans (gB.krb.trans (hB.krb.trans kw))⟩, hRz, ?_, ?_, by omega⟩
    · rw [zc t (by omega), g.2.1]
      omega
    · rw [wc 0 (by omega), hB.2.1 46 (by omega) (by omega), gB.2.1]
      omega
  have hS : SRK b L s' z := fun i _ => by rw [zc (b + 2) (by omega), g.1.1 (b + 2) (by omega)]
  have hV : VAL True t q S T z w' (32 - L) tA tB (x, x + 1) (x, x + 1) := by
    rw [show 32 - L = (31 - L) + 1 by omega]
    have b20 : w'.1 20 x = so := (sB.2.2.1).trans gB.2.2.1.1.1
    have b26 : w'.1 26 x = br := (sB.2.2.2 26 (by omega) (by omega)).trans gB.2.2.1.2.2.1.1
    have a1 : z.1 (t + 1) x = so := (sA.2.2.1).trans g.2.2.1.1
    refine ⟨⟨by show x < x + 1; omega, by show x < x + 1; omega⟩, uA, uB, ?_, ⟨⟨?_, ?_⟩, ?_⟩, fun _ => ?_, fun h => ?_, fun h => ?_, fun h => ?_⟩
    · show OWN S T tA tB (w'.1 26 x) uA uB
      rw [b26]
      exact hO
    · exact hso.trans b20.symm
    · exact a1.trans b20.symm
    · show 0 ≤ (w'.1 20 x).toInt ∧ (w'.1 20 x).toInt ≤ 7
      rw [b20]
      omega
    · refine ⟨?_, rfl⟩
      show LEAF t z w' x x
      have a7 : z.1 (t + 7) x = s2.1 (t + 7) x := by rw [zc _ (by omega)]
      have a6 : z.2.1 (t + 6) x = w := by rw [← hz, stLA, upLA rfl]
      have a4 : z.1 (t + 4) x = n := by
        rw [← hz]
        show (stI s2 (t + 4) x n).1 (t + 4) x = _
        rw [stI_at, upA rfl]
      have b28 : w'.1 28 x = τ1.1 28 x := by rw [wc _ (by omega), hB.1 28 (by omega)]
      have b21 : w'.2.1 21 x = bits := by
        rw [← hw]
        show (stL (stL t' 21 x bits) 22 x txt).2.1 21 x = _
        rw [stL_ne (by omega), stLA, upLA rfl]
      have b22 : w'.2.1 22 x = txt := by
        rw [← hw]
        show (stL (stL t' 21 x bits) 22 x txt).2.1 22 x = _
        rw [stLA, upLA rfl]
      have b23 : w'.1 23 x = many := by
        rw [← hw]
        show (stI (stL (stL t' 21 x bits) 22 x txt) 23 x many).1 23 x = _
        rw [stI_at, upA rfl]
      unfold LEAF
      rw [a7, b28, b20, a6, b21, b22, b23, a4]
      exact ⟨⟨g.2.2.2.2.1.1, gB.2.2.2.2.1.1⟩, hE, hn⟩
    · have h : 6 ≤ (w'.1 20 x).toInt := h
      rw [b20] at h
      omega
    · have h : (w'.1 20 x).toInt = 6 := h
      rw [b20] at h
      omega
    · have h : (w'.1 20 x).toInt = 7 := h
      rw [b20] at h
      omega
  obtain ⟨e', k1, k2, k3, k4, ⟨k5, k6⟩, k7⟩ := r_kid hPs g gB sA sB hCz (by omega) hV hS
  exact .inr ⟨rfl, e', k1, k2, k3, k4, ⟨k5.src (fun c _ _ => hA.1 c (by omega)) (by rw [hA.2.2]), k6⟩, hA.srk.trans k7⟩
