/-! a field that is filled in as a record is read, both sides -/
theorem fst_choice {p : Nat} {rm : Int} {S T : ST} {d : Nat} {x y : Int32} (h : TY p rm S T (d + 1) x y) (hn : (S.1 4 1).toInt ≤ 262) : ∃ uA uB br : Int32, (∀ σ, KTA S σ → f_X5_firstChoice 4 x σ = some (uA, σ) ∧ f_X5_sortOf 4 uA σ = some (T.1 2 uB.toNatClampNeg, σ)) ∧ (∀ τ, KRB T τ → f_X11_firstOf y τ = some (uB, τ)) ∧ OWN S T x y br uA uB ∧ ((0 ≤ uB.toInt ∧ uB.toInt < 800) ∧ ¬ uA = -1) ∧ (T.1 2 uB.toNatClampNeg).toInt = FCS (T.1 2) (T.1 5) y ∧ (uB = y ∧ br = -1 ∨ ¬ uB = y ∧ br = 0) := by
  have l8 : (8 : Int32).toInt = 8 := by decide
  have lm := li_m1
  have l0 := li_0
  have hG := TG.of h
  have rg := h.rng
  have ny := nN_ rg.2.1
  by_cases e8 : (T.1 2 y.toNatClampNeg).toInt = 8
  · obtain ⟨m, hm, hM, hT, hz, hd⟩ := hG.2.2.2.2.2 e8
    obtain ⟨hT0, hn8⟩ := hT 0 (by omega)
    obtain ⟨d', hG0⟩ := TG.ex hT0
    rw [Nat.add_zero] at hG0 hn8
    have hG0 : TG p rm S T d' (S.1 16 x.toNatClampNeg) (T.1 5 (4 * y.toNatClampNeg)) := hG0
    have e4 := mlE (k := 4) (y := y) 4 li_4 (by omega) (by omega)
    have n4 : (4 * y).toNatClampNeg = 4 * y.toNatClampNeg := nC (by omega)
    refine ⟨S.1 16 x.toNatClampNeg, T.1 5 (4 * y.toNatClampNeg), 0, fun σ kv => ?_, fun τ kv => ?_, .inr ⟨e8, 0, l0, by omega, rfl, rfl⟩, ⟨hG0.1.2, fun h => ?_⟩, ?_, .inr ⟨fun e => ?_, rfl⟩⟩
    · refine ⟨?_, (hG0.rA hn kv).1⟩
      unfold f_X5_firstChoice
      rw [(hG.rA hn kv).1, sbnd]
      dsimp only
      rw [if_pos (Int32.toInt_inj.mp (e8.trans l8.symm)), (hG.rA hn kv).2, sbnd]
    · obtain ⟨e2, _, _, e5, _⟩ := kv.ty
      unfold f_X11_firstOf
      rw [if_pos (by omega), e2, e5, if_pos (Int32.toInt_inj.mp (e8.trans l8.symm)), if_pos (by omega), n4]
    · have := hG0.1.1.1
      rw [h] at this
      omega
    · unfold FCS
      rw [if_pos e8]
    · rw [e] at hn8
      exact hn8 e8
  · refine ⟨x, y, -1, fun σ kv => ?_, fun τ kv => ?_, .inl ⟨lm, rfl, rfl, e8⟩, ⟨by omega, fun h => ?_⟩, ?_, .inl ⟨rfl, rfl⟩⟩
    · refine ⟨?_, (hG.rA hn kv).1⟩
      unfold f_X5_firstChoice
      rw [(hG.rA hn kv).1, sbnd]
      dsimp only
      exact if_neg (fun e => e8 (by rw [e]; exact l8))
    · obtain ⟨e2, _, _, e5, _⟩ := kv.ty
      unfold f_X11_firstOf
      rw [if_pos (by omega), e2]
      exact if_neg (fun e => e8 (by rw [e]; exact l8))
    · rw [h] at rg
      omega
    · unfold FCS
      rw [if_neg e8]
theorem XTA.s5 {b e : Nat} {p : Int} {l m : List Nat} {σ s : ST} {v : Int32} (h : XTA b e p l m σ s) : XTA b e p l m σ (stI s (b + 5) e v) := by
  obtain ⟨h1, h2, h3, h4⟩ := h
  have hc : ∀ c, c ≠ b + 5 → (stI s (b + 5) e v).1 c = s.1 c := fun c hc => stI_ne hc
  refine ⟨fun i hi => ⟨fun k k1 k5 => ?_, (h1 i hi).2⟩, fun i hi hp => ?_, fun i hi hl => ?_, fun q hq => ?_⟩
  · by_cases e5 : k = 5
    · subst e5
      rw [stI_at, upN (by omega)]
      exact (h1 i hi).1 5 k1 k5
    · rw [hc _ (by omega)]
      exact (h1 i hi).1 k k1 k5
  · rw [hc _ (by omega), hc _ (by omega)]
    exact h2 i hi hp
  · rw [hc _ (by omega)]
    exact h3 i hi hl
  · rw [hc _ (by omega), hc _ (by omega), hc _ (by omega)]
    exact h4 q hq
theorem XTB.s27 {f : Nat} {p : Int} {l m : List Nat} {τ t : ST} {v : Int32} (h : XTB f p l m τ t) : XTB f p l m τ (stI t 27 f v) := by
  obtain ⟨⟨h1, h2, h2b⟩, h3, h4, h5⟩ := h
  have hc : ∀ c, c ≠ 27 → (stI t 27 f v).1 c = t.1 c := fun c hc => stI_ne hc
  refine ⟨⟨fun i hi => ?_, fun i hi hp => ?_, fun i hp => ?_⟩, fun i hi hp => ?_, fun i hi hl => ?_, fun q hq => ?_⟩
  · obtain ⟨g1, g2, g3, g4⟩ := h1 i hi
    refine ⟨by rw [hc 20 (by omega)]; exact g1, fun k k1 k5 => ?_, g3, g4⟩
    by_cases e5 : k = 27
    · subst e5
      rw [stI_at, upN (by omega)]
      exact g2 27 k1 k5
    · rw [hc _ e5]
      exact g2 k k1 k5
  · rw [hc 23 (by omega)]
    exact h2 i hi hp
  · rw [hc 23 (by omega)]
    exact h2b i hp
  · rw [hc 28 (by omega), hc 29 (by omega)]
    exact h3 i hi hp
  · rw [hc 30 (by omega)]
    exact h4 i hi hl
  · rw [hc 30 (by omega), hc 28 (by omega), hc 29 (by omega)]
    exact h5 q hq
theorem a_setF (b : Nat) (p0 : Int32) (σ : ST) {x : Nat} (h : p0.toInt = x) (h1 : (x : Int) < (σ.1 b 1).toInt) (h0 : (x : Int) < (σ.1 b 0).toInt) : QT (f_X7_setFilled b p0 σ) (fun s => s = stI σ (b + 5) x (vp_nar .boolean 1)) := by
  have l0 := li_0
  have n0 : p0.toNatClampNeg = x := nC h
  unfold f_X7_setFilled
  refine QT.bnd (pt_isRow b p0 σ) (fun q hq => ?_)
  obtain ⟨v, s⟩ := q
  obtain ⟨e, hv⟩ := hq
  have e : s = σ := e
  subst e
  have hv : v.toInt = 0 ∧ ¬ (0 ≤ p0.toInt ∧ p0.toInt < (s.1 b 1).toInt ∧ p0.toInt < (s.1 b 0).toInt) ∨ v.toInt = 1 ∧ 0 ≤ p0.toInt ∧ p0.toInt < (s.1 b 1).toInt ∧ p0.toInt < (s.1 b 0).toInt := hv
  dsimp only
  refine QT.ieq (fun e => ?_) (fun e => ?_)
  · omega
  · refine QT.grd (fun _ => ?_)
    rw [n0]
    exact QT.ret rfl
/-- the class's part: a row of the first choice, filled in -/
theorem a_fillIn {b t : Nat} (hb : BT b t) {S : ST} (yR x8 row uA : Int32) {N r j x : Nat} {so : Int32} {bts txt : Int64} {many : Int32} {l k : List Nat} (σ : ST) (kA : KRA b t S σ) (hr36 : r < 36) (hj8 : j < 8) (hN : N = 8 * r + j) (hy : yR.toInt = r) (h8 : x8.toInt = j) (h7 : σ.1 b 7 = 0) (h22 : σ.2.2.2 b = t) (hx : (σ.1 t 1).toInt = x) (hcap : 400 ≤ (σ.1 t 0).toInt) (hfc : f_X5_firstChoice 4 (S.1 13 N) σ = some (uA, σ)) (hso : f_X5_sortOf 4 uA σ = some (so, σ)) (hne : ¬ uA = -1) (hE : EWR so.toInt (S.2.1 14 N) bts txt many) (hpa : row.toInt = -1 ∨ 0 ≤ row.toInt ∧ row.toInt < x ∧ ((l ++ k).Nodup ∧ CN (σ.1 (t + 9)) (σ.1 (t + 7) row.toNatClampNeg) (l ++ k) ∧ (σ.1 (t + 8) row.toNatClampNeg).toInt = lz (-1) (l ++ k)) ∧ (∀ r, r ∈ l ++ k → r < x) ∧ l.length ≤ x ∧ (∀ r, r ∈ l → (σ.1 (t + 3) r).toInt < x8.toInt) ∧ (∀ r, r ∈ k → x8.toInt ≤ (σ.1 (t + 3) r).toInt)) : QT (f_X4_fillIn b t yR x8 row σ) (fun s => (¬ s.1 b 7 = 0 ∧ 400 ≤ x) ∨ (x < 400 ∧ ∃ (s2 : ST) (n : Int32), n.toInt = many.toInt ∧ GRW t x so row x8 l k σ s2 ∧ s = stI (stL (stI s2 (t + 4) x n) (t + 6) x (S.2.1 14 N)) (t + 5) x (vp_nar .boolean 1))) := by
  have hb' := hb
  unfold BT at hb'
  have l5 := li_5
  have l0 := li_0
  have k13 := (kA.kta 13 (by omega) (by omega)).1
  have k14 := (kA.kta 14 (by omega) (by omega)).2
  have h51 : ∀ n : Int32, n.toInt = many.toInt → QT (f_X4_fillIn_51 b t x8 row uA (S.2.1 14 N) n σ) (fun s => (¬ s.1 b 7 = 0 ∧ 400 ≤ x) ∨ (x < 400 ∧ ∃ (s2 : ST) (n : Int32), n.toInt = many.toInt ∧ GRW t x so row x8 l k σ s2 ∧ s = stI (stL (stI s2 (t + 4) x n) (t + 6) x (S.2.1 14 N)) (t + 5) x (vp_nar .boolean 1))) := fun n hn => by
    unfold f_X4_fillIn_51
    refine QT.grd (fun _ => ?_)
    refine QT.bnd (a_addNode hb uA row x8 n (S.2.1 14 N) so σ hne h7 h22 hx hcap hso hpa) (fun q hq => ?_)
    rcases hq with ⟨q1, q2⟩ | ⟨q1, q2, s2, g, e⟩
    · refine QT.bnd (Q := fun z => ¬ z.1 b 7 = 0) (fun z e => ?_) (fun z hz => QT.ret (.inl ⟨hz, q2⟩))
      have k : KRA b t q.2 z := wr_X7_setFilled (B0 := b) (T0 := t) (s := q.2) rfl (KRA.rf hb) z e
      exact k.nz q1
    · have e1 : (q.2.1 t 1).toInt = (x : Int) + 1 := by
        rw [e]
        show ((stI s2 (t + 4) x n).1 t 1).toInt = _
        rw [stI_ne (by omega)]
        exact g.2.1
      have e0 : 400 ≤ (q.2.1 t 0).toInt := by
        rw [e]
        show 400 ≤ ((stI s2 (t + 4) x n).1 t 0).toInt
        rw [stI_ne (by omega), g.1.2.2.2 0 (by omega)]
        exact hcap
      refine QT.bnd (a_setF t q.1 q.2 q2 (by omega) (by omega)) (fun z hz => QT.ret (.inr ⟨q1, s2, n, hn, g, ?_⟩))
      rw [hz, e]
  unfold f_X4_fillIn
  rw [a4_typeOf yR x8 σ (r := r) (j := j) hy h8 hr36 hj8, sbnd]
  dsimp only
  rw [← hN, k13, hfc, sbnd]
  dsimp only
  rw [a4_elseWorth yR x8 σ (r := r) (j := j) hy h8 hr36 hj8, sbnd]
  dsimp only
  rw [← hN, k14, hso, sbnd]
  dsimp only
  refine QT.ieq (fun e5 => ?_) (fun e5 => ?_)
  · unfold EWR at hE
    rw [if_pos (by omega)] at hE
    rw [a_lettersIn12 _ _ _ σ hE.2, sbnd]
    exact h51 many rfl
  · unfold EWR at hE
    rw [if_neg (by omega)] at hE
    exact h51 0 (by rw [hE.2.2]; exact l0)
/-- the reference's: a node of the first choice, filled in -/
theorem r_bfills (p0 p1 p2 uB br : Int32) {T τ : ST} {N x : Nat} {l k : List Nat} (kB : KRB T τ) (h0 : p0.toInt = N) (hfo : f_X11_firstOf (T.1 15 N) τ = some (uB, τ)) (hbr : uB = T.1 15 N ∧ br = -1 ∨ ¬ uB = T.1 15 N ∧ br = 0) (hx : (τ.1 0 46).toInt = x) (hpa : p1.toInt = -1 ∨ 0 ≤ p1.toInt ∧ p1.toInt < x ∧ ((l ++ k).Nodup ∧ CN (τ.1 30) (τ.1 28 p1.toNatClampNeg) (l ++ k) ∧ (τ.1 29 p1.toNatClampNeg).toInt = lz (-1) (l ++ k)) ∧ (∀ r, r ∈ l ++ k → r < x) ∧ (∀ r, r ∈ l → (τ.1 25 r).toInt < p2.toInt) ∧ (∀ r, r ∈ k → p2.toInt ≤ (τ.1 25 r).toInt)) : QT (f_X11_fills p0 p1 p2 τ) (fun w => ∃ τ1, GRB x (T.1 2 uB.toNatClampNeg) p1 p2 br l k τ τ1 ∧ w = stI (LFS τ1 x (T.2.1 17 N) (T.2.1 18 N) (if (T.1 2 uB.toNatClampNeg).toInt = 5 then T.1 19 N else 0)) 27 x (vp_nar .boolean 1)) := by
  have l5 := li_5
  have n0 : p0.toNatClampNeg = N := nC h0
  have e2 := kB.ty.1
  have e15 := kB.fl.2.2.1
  have k45 : QT (f_X11_fills_45 p0 uB br p2 p1 (T.1 2 uB.toNatClampNeg) τ) (fun w => ∃ τ1, GRB x (T.1 2 uB.toNatClampNeg) p1 p2 br l k τ τ1 ∧ w = stI (LFS τ1 x (T.2.1 17 N) (T.2.1 18 N) (if (T.1 2 uB.toNatClampNeg).toInt = 5 then T.1 19 N else 0)) 27 x (vp_nar .boolean 1)) := by
    unfold f_X11_fills_45
    refine QT.bnd (b_lays _ p1 p2 br τ hx hpa) (fun q hq => ?_)
    obtain ⟨⟨q1, q2⟩, g⟩ := hq
    have nx : q.1.toNatClampNeg = x := nC q1
    have kB1 : KRB T q.2 := kB.trans g.krb
    have L17 : q.2.2.1 17 = T.2.1 17 := kB1.2.2 17 (by omega) (by omega) (by omega)
    have L18 : q.2.2.1 18 = T.2.1 18 := kB1.2.2 18 (by omega) (by omega) (by omega)
    have c2 : q.2.1 2 = T.1 2 := kB1.ty.1
    have c19 : q.2.1 19 = T.1 19 := kB1.fl.2.2.2.2
    rw [n0, nx]
    refine QT.grd (fun _ => QT.grd (fun _ => QT.lt (fun z ez => QT.grd (fun _ => ?_))))
    have z2 : z.1 2 = T.1 2 := by rw [ez]; exact c2
    have z19 : z.1 19 = T.1 19 := by rw [ez]; exact c19
    have e18 : (stL q.2 21 x (q.2.2.1 17 N)).2.1 18 N = T.2.1 18 N := by rw [stL_ne (by omega), L18]
    have ez' : z = stL (stL q.2 21 x (T.2.1 17 N)) 22 x (T.2.1 18 N) := by rw [ez, e18, L17]
    rw [z2, z19]
    have fin : ∀ v : Int32, v = (if (T.1 2 uB.toNatClampNeg).toInt = 5 then T.1 19 N else 0) → QT (f_X11_fills_103 q.1 v q.1 z) (fun w => ∃ τ1, GRB x (T.1 2 uB.toNatClampNeg) p1 p2 br l k τ τ1 ∧ w = stI (LFS τ1 x (T.2.1 17 N) (T.2.1 18 N) (if (T.1 2 uB.toNatClampNeg).toInt = 5 then T.1 19 N else 0)) 27 x (vp_nar .boolean 1)) := fun v hv => by
      unfold f_X11_fills_103
      rw [nx]
      refine QT.grd (fun _ => QT.grd (fun _ => QT.ret ⟨q.2, g, ?_⟩))
      rw [← hv, ez']
      rfl
    refine QT.ieq (fun h5 => fin _ ?_) (fun h5 => fin _ ?_)
    · rw [if_pos (by omega)]
    · rw [if_neg (by omega)]
  unfold f_X11_fills
  rw [n0, e15]
  refine QT.grd (fun _ => ?_)
  rw [hfo, sbnd]
  dsimp only
  rw [e2]
  refine QT.grd (fun _ => ?_)
  rcases hbr with ⟨a, rfl⟩ | ⟨a, rfl⟩
  · rw [if_pos a]
    exact k45
  · rw [if_neg a]
    exact k45
