/-! a plain value that is read, both sides -/
/-- a node's own columns, as they are told -/
def LFS (t : ST) (x : Nat) (bits txt : Int64) (many : Int32) : ST := stI (stL (stL t 21 x bits) 22 x txt) 23 x many
theorem b_229 (xB ok many : Int32) (t : ST) {x : Nat} (hx : xB.toInt = x) (h1 : ok = 1) : QT (f_X11_readsLeaf_229 ok many xB t) (fun q => q = (1, stI t 23 x many)) := by
  have nx : xB.toNatClampNeg = x := nC hx
  unfold f_X11_readsLeaf_229
  rw [nx, h1]
  exact QT.grd (fun _ => QT.grd (fun _ => QT.ret rfl))
theorem b_189 (xB s : Int32) (bits : Int64) (t : ST) {x : Nat} (hx : xB.toInt = x) (h5 : ¬ s.toInt = 5) : QT (f_X11_readsLeaf_189 xB 1 s bits xB t) (fun q => q = (1, LFS t x bits 0 0)) := by
  have nx : xB.toNatClampNeg = x := nC hx
  have l5 := li_5
  unfold f_X11_readsLeaf_189 f_X11_readsLeaf_209
  rw [nx]
  refine QT.grd (fun _ => QT.ieq (fun h => by omega) (fun _ => QT.grd (fun _ => QT.ieq (fun h => by omega) (fun _ => ?_))))
  exact b_229 xB 1 0 _ hx rfl
theorem b_189t (xB s : Int32) (bits : Int64) (t : ST) {x : Nat} (hx : xB.toInt = x) (h5 : s.toInt = 5) : QT (f_X11_readsLeaf_189 xB 1 s bits xB t) (fun q => q = (1, LFS t x bits (t.2.1 0 71) (t.1 0 72))) := by
  have nx : xB.toNatClampNeg = x := nC hx
  have l5 := li_5
  have e71 : (stL t 21 x bits).2.1 0 71 = t.2.1 0 71 := by rw [stL_ne (by omega)]
  unfold f_X11_readsLeaf_189 f_X11_readsLeaf_209
  rw [nx]
  refine QT.grd (fun _ => QT.ieq (fun _ => ?_) (fun h => by omega))
  refine QT.grd (fun _ => QT.ieq (fun _ => ?_) (fun h => by omega))
  rw [e71]
  exact b_229 xB 1 _ _ hx rfl
/-- the sorts of a plain value as it is written and as it is read -/
def PLS (s r : Int) : Prop := (r = 4 → 2 ≤ s ∧ s ≤ 4) ∧ (s = 4 → r = 4) ∧ (s = 5 ↔ r = 5)
theorem ad_plain137 {b t : Nat} (hb : BT b t) {σ : ST} (h : ¬ σ.1 b 7 = 0) (x1 x2 x3 x4 x6 : Int32) (x7 : Int64) : QT (f_X4_takePlain_137 b t x1 x2 x3 x4 x6 x7 σ) (fun q => ¬ q.1 b 7 = 0) := fun q e => by
  have k : KRA b t σ q := wr_X4_takePlain_137 (B0 := b) (T0 := t) (s := σ) rfl rfl (KRA.rf hb) q e
  exact k.nz h
theorem rd_leaf {b t m : Nat} (hb : BT b t) (s r y p2 p3 u v xB : Int32) {σ τ : ST} (h : RPS b m σ τ) (hu : 0 ≤ u.toInt ∧ u.toInt < 800) (hs : τ.1 2 u.toNatClampNeg = s) (hs5 : 0 ≤ s.toInt ∧ s.toInt ≤ 5) (hso : ∀ z, PMA b σ z → f_X5_sortOf 4 y z = some (r, z)) (x : Nat) (hy : y = -1 ∧ xB.toInt < 0 ∧ ¬ r.toInt = 4 ∨ ¬ y = -1 ∧ xB.toInt = x ∧ (0 ≤ v.toInt ∧ v.toInt < 800) ∧ τ.1 2 v.toNatClampNeg = r ∧ PLS s.toInt r.toInt) {P : ST → Int32 × ST → Prop} (hF : ∀ z w, ¬ z.1 b 7 = 0 → w.1 = 0 → P z w) (hK1 : y = -1 → ∀ (s' t' : ST) (w : Int64) (n : Int32), RPS b m s' t' → PMA b σ s' → PMB τ t' → QT (f_X4_takePlain_183 b t w n p3 p2 y s') (fun z => P z (1, t'))) (hK2 : ¬ y = -1 → ∀ (s' t' : ST) (w : Int64) (n : Int32) (bits txt : Int64) (many : Int32), RPS b m s' t' → PMA b σ s' → PMB τ t' → EWR r.toInt w bits txt many → n.toInt = many.toInt → QT (f_X4_takePlain_183 b t w n p3 p2 y s') (fun z => P z (1, LFS t' x bits txt many))) : QT (f_X4_takePlain b t s y p2 p3 σ) (fun z => QT (f_X11_readsLeaf u v xB τ) (P z)) := by
  have l0 := li_0
  have l1 := li_1
  have l2 := li_2
  have l3 := li_3
  have l4 := li_4
  have l5 := li_5
  -- what comes behind the bytes
  have bad : ∀ (s' t' : ST) (n : Int32) (w : Int64), ¬ s'.1 b 7 = 0 → QT (f_X4_takePlain_137 b t s y p2 p3 n w s') (fun z => QT (f_X11_readsLeaf_108 v xB 0 s t') (P z)) := fun s' t' n w h7 => by
    refine (ad_plain137 hb h7 _ _ _ _ _ _).mono (fun z hz => ?_)
    unfold f_X11_readsLeaf_108
    exact QT.ite (fun _ => QT.grd (fun _ => QT.ret (hF _ _ hz rfl))) (fun h => absurd rfl h)
  have one : ∀ (s' t' : ST) (n : Int32) (w : Int64), RPS b m s' t' → PMA b σ s' → PMB τ t' → n.toInt = (if s.toInt = 5 then (t'.1 0 72).toInt else 0) → (s.toInt = 5 → WLT w (t'.2.1 0 71) (t'.1 0 72)) → (s.toInt = 4 → DTL (t'.2.1 0 70).toUInt64 w) → (¬ s.toInt = 4 → ¬ s.toInt = 5 → t'.2.1 0 70 = w) → QT (f_X4_takePlain_137 b t s y p2 p3 n w s') (fun z => QT (f_X11_readsLeaf_108 v xB 1 s t') (P z)) := fun s' t' n w hR hA hB hn h5 h4 hw => by
    have t2 : t'.1 2 = τ.1 2 := hB.1 2 (by omega)
    rcases hy with ⟨y1, y2, y3⟩ | ⟨y1, y2, y3, y4, y5, y6, y7⟩
    · have hq : ∀ w' : Int64, QT (f_X4_takePlain_183 b t w' n p3 p2 y s') (fun z => QT (f_X11_readsLeaf_108 v xB 1 s t') (P z)) := fun w' => by
        refine (hK1 y1 s' t' w' n hR hA hB).mono (fun z hz => ?_)
        unfold f_X11_readsLeaf_108
        refine QT.ite (fun h => absurd h one_ne) (fun _ => ?_)
        exact QT.ilt (fun _ => QT.grd (fun _ => QT.ret hz)) (fun h => by omega)
      unfold f_X4_takePlain_137 f_X4_takePlain_158 f_X4_takePlain_159
      refine QT.ieq (fun _ => QT.ite (fun _ => hq w) (fun h => absurd rfl h)) (fun _ => ?_)
      rw [hso s' hA, sbnd]
      dsimp only
      exact QT.ieq (fun h => by omega) (fun _ => QT.ite (fun _ => hq w) (fun h => absurd rfl h))
    · have hst : ∀ (w' bits txt : Int64) (many : Int32), EWR r.toInt w' bits txt many → n.toInt = many.toInt → (∀ Q : Int32 × ST → Prop, Q (1, LFS t' x bits txt many) → QT (f_X11_readsLeaf_108 v xB 1 s t') Q) → QT (f_X4_takePlain_183 b t w' n p3 p2 y s') (fun z => QT (f_X11_readsLeaf_108 v xB 1 s t') (P z)) := fun w' bits txt many h1 h2 h3 => (hK2 y1 s' t' w' n bits txt many hR hA hB h1 h2).mono (fun z hz => h3 _ hz)
      have h108 : ∀ Q : Int32 × ST → Prop, QT (if (τ.1 2 v.toNatClampNeg) = 4 then (f_X11_readsLeaf_132 xB 1 s 1 t') else (f_X11_readsLeaf_132 xB 1 s 0 t')) Q → QT (f_X11_readsLeaf_108 v xB 1 s t') Q := fun Q h9 => by
        unfold f_X11_readsLeaf_108
        refine QT.ite (fun h => absurd h one_ne) (fun _ => ?_)
        refine QT.ilt (fun h => by omega) (fun _ => QT.grd (fun _ => ?_))
        rw [t2]
        exact h9
      rw [y4] at h108
      unfold f_X4_takePlain_137 f_X4_takePlain_158 f_X4_takePlain_159
      refine QT.ieq (fun s4 => QT.ite (fun _ => ?_) (fun h => absurd rfl h)) (fun s4 => ?_)
      · -- a real
        have r4 := y6 (by omega)
        refine hst w w 0 0 ?_ ?_ (fun Q hQ => h108 Q ?_)
        · unfold EWR
          rw [if_neg (by omega)]
          exact ⟨rfl, rfl, rfl⟩
        · rw [hn, if_neg (by omega)]
          rfl
        · refine QT.ieq (fun _ => ?_) (fun h => by omega)
          unfold f_X11_readsLeaf_132 f_X11_readsLeaf_155
          refine QT.ieq (fun _ => QT.ieq (fun h => by omega) (fun _ => QT.ite (fun h => absurd h one_ne) (fun _ => ?_))) (fun h => by omega)
          rw [h4 (by omega) t', sbnd]
          dsimp only
          exact (b_189 xB s w t' y2 (by omega)).mono (fun q hq => by rw [hq]; exact hQ)
      rw [hso s' hA, sbnd]
      dsimp only
      refine QT.ieq (fun r4 => QT.ite (fun h => absurd h one_ne) (fun _ => ?_)) (fun r4 => QT.ite (fun _ => ?_) (fun h => absurd rfl h))
      · -- a whole number read as a real
        have hs' := y5 (by omega)
        have e70 := hw (by omega) (by omega)
        refine QT.bnd (whole_bits w s') (fun q hq => ?_)
        obtain ⟨q1, q2⟩ := hq
        rw [q1]
        refine hst q.1 q.1 0 0 ?_ ?_ (fun Q hQ => h108 Q ?_)
        · unfold EWR
          rw [if_neg (by omega)]
          exact ⟨rfl, rfl, rfl⟩
        · rw [hn, if_neg (by omega)]
          rfl
        · refine QT.ieq (fun _ => ?_) (fun h => by omega)
          unfold f_X11_readsLeaf_132 f_X11_readsLeaf_155
          refine QT.ieq (fun h => by omega) (fun _ => QT.ieq (fun h => by omega) (fun _ => QT.ite (fun h => absurd h one_ne) (fun _ => ?_)))
          rw [e70, q2 t', sbnd]
          dsimp only
          exact (b_189 xB s q.1 t' y2 (by omega)).mono (fun q' hq' => by rw [hq']; exact hQ)
      · by_cases s5 : s.toInt = 5
        · refine hst w 0 (t'.2.1 0 71) (t'.1 0 72) ?_ ?_ (fun Q hQ => h108 Q ?_)
          · unfold EWR
            rw [if_pos (y7.mp s5)]
            exact ⟨rfl, h5 s5⟩
          · rw [hn, if_pos s5]
          · refine QT.ieq (fun h => by omega) (fun _ => ?_)
            unfold f_X11_readsLeaf_132 f_X11_readsLeaf_155
            refine QT.ieq (fun h => by omega) (fun _ => QT.ieq (fun _ => ?_) (fun h => by omega))
            exact (b_189t xB s 0 t' y2 s5).mono (fun q hq => by rw [hq]; exact hQ)
        · refine hst w w 0 0 ?_ ?_ (fun Q hQ => h108 Q ?_)
          · unfold EWR
            rw [if_neg (fun h => s5 (y7.mpr h))]
            exact ⟨rfl, rfl, rfl⟩
          · rw [hn, if_neg s5]
            rfl
          · refine QT.ieq (fun h => by omega) (fun _ => ?_)
            unfold f_X11_readsLeaf_132 f_X11_readsLeaf_155
            refine QT.ieq (fun h => by omega) (fun _ => QT.ieq (fun h => by omega) (fun _ => QT.ite (fun _ => ?_) (fun h => absurd rfl h)))
            rw [hw (by omega) s5]
            exact (b_189 xB s w t' y2 s5).mono (fun q hq => by rw [hq]; exact hQ)
  -- the bytes
  have n0 : ∀ t' : ST, ¬ s.toInt = 5 → (0 : Int32).toInt = (if s.toInt = 5 then (t'.1 0 72).toInt else 0) := fun t' h => by rw [if_neg h]; exact l0
  unfold f_X4_takePlain f_X11_readsLeaf
  rw [hs]
  have h0 : RPS b m σ (stL τ 0 70 0) := h.l
  have e64 : τ.1 0 64 = σ.1 b 5 := h.2.1.1.symm
  have cont : ∀ (q : ST) (w : Int32 × ST) (n : Int32) (v' : Int64), RDO b m σ (stL τ 0 70 0) q w.2 w.1 (n.toInt = (if s.toInt = 5 then (w.2.1 0 72).toInt else 0) ∧ (s.toInt = 5 → WLT v' (w.2.2.1 0 71) (w.2.1 0 72)) ∧ (s.toInt = 4 → DTL (w.2.2.1 0 70).toUInt64 v') ∧ (¬ s.toInt = 4 → ¬ s.toInt = 5 → w.2.2.1 0 70 = v')) → QT (f_X4_takePlain_137 b t s y p2 p3 n v' q) (fun z => QT (f_X11_readsLeaf_108 v xB w.1 s w.2) (P z)) := fun q w n v' hq => by
    rcases hq with ⟨q1, q2⟩ | ⟨q1, q2, ⟨q3, q4⟩, q5, q6, q7, q8⟩
    · rw [q2]
      exact bad q w.2 n v' q1
    · rw [q1]
      exact one q w.2 n v' q2 q3 (PMB.rf.l.trans q4) q5 q6 q7 q8
  refine QT.sw ?_
  refine QT.grd (fun _ => ?_)
  refine QT.sw ?_
  refine QT.ieq (fun s1 => ?_) (fun s1 => ?_)
  · -- a flag
    refine QT.sw ?_
    refine QT.ieq (fun _ => ?_) (fun h => by omega)
    refine QT.sw ?_
    unfold f_X11_readsFlag f_X11_readsFlag_30
    rw [Option.bind_assoc]
    refine QT.bnd2 (rd_byte hb h0) (fun q w hqw => ?_)
    have z1 : (1 : Int64).toInt = 1 := by decide
    rcases hqw with ⟨f1, f2⟩ | ⟨⟨e1, e2, e3⟩, hR, hA, hB⟩
    · have hall : QT (if (lg_cmp (q.1.toInt64) 1) ≤ 0 then (f_X4_takePlain_137 b t s y p2 p3 0 (q.1.toInt64) q.2) else ((f_X4_fail b t 12 (σ.1 b 5) q.2).bind fun q8 => f_X4_takePlain_137 b t s y p2 p3 0 (q.1.toInt64) q8)) (fun z => ¬ z.1 b 7 = 0) := QT.ite (fun _ => ad_plain137 hb f1 _ _ _ _ _ _) (fun _ => QT.bnd (a_failed hb 12 _ _ (by decide)) (fun s' hs' => ad_plain137 hb hs' _ _ _ _ _ _))
      refine hall.mono (fun z hz => ?_)
      refine QT.bnd (Q := fun k : Int32 × ST => k.1 = 0) (QT.ilt (fun _ => QT.ret rfl) (fun h => by omega)) (fun k hk => ?_)
      unfold f_X11_readsLeaf_108
      exact QT.ite (fun _ => QT.grd (fun _ => QT.ret (hF _ _ hz hk))) (fun h => absurd hk h)
    · refine QT.ile (fun hle => ?_) (fun hgt => ?_)
      · have g := lgc_le hle
        rw [i64, z1] at g
        have hB' : (if w.1 < 0 then (some ((0 : Int32), (stL w.2 0 70 (w.1.toInt64)))) else (if w.1 < 2 then (some ((1 : Int32), (stL w.2 0 70 (w.1.toInt64)))) else ((f_X11_fails 12 (τ.1 0 64) (stL w.2 0 70 (w.1.toInt64))).bind fun q3 => if q3.1 = 0 then (some (0, q3.2)) else (some (1, q3.2))))) = some ((1 : Int32), stL w.2 0 70 (w.1.toInt64)) := by
          rw [if_neg (fun h => by have := il_lt h; rw [e1] at this; omega), if_pos (Int32.lt_iff_toInt_lt.mpr (by rw [e1]; omega))]
        refine QT.mono (P := fun z => QT (f_X11_readsLeaf_108 v xB 1 s (stL w.2 0 70 (w.1.toInt64))) (P z)) ?_ (fun z hz => ?_)
        · refine cont q.2 (1, stL w.2 0 70 (w.1.toInt64)) 0 _ (.inr ⟨rfl, hR.l, ⟨hA, hB.wk.l⟩, n0 _ (by omega), fun h => by omega, fun h => by omega, fun _ _ => ?_⟩)
          show (stL w.2 0 70 (w.1.toInt64)).2.1 0 70 = _
          rw [stL_at, e1]
        · refine QT.bnd (Q := fun k : Int32 × ST => k = (1, stL w.2 0 70 (w.1.toInt64))) (fun k hk => ?_) (fun k hk => by rw [hk]; exact hz)
          have hk := hB'.symm.trans hk
          exact (Option.some.inj hk).symm
      · have g : 2 ≤ q.1.toInt := by
          by_cases h9 : 2 ≤ q.1.toInt
          · exact h9
          · exfalso
            have c1 : q.1.toInt64 = 1 ∨ q.1.toInt64 = 0 := by
              have ei := i64 q.1
              by_cases h8 : q.1.toInt = 1
              · exact .inl (Int64.toInt_inj.mp (by rw [ei, h8]; rfl))
              · exact .inr (Int64.toInt_inj.mp (by rw [ei]; show q.1.toInt = 0; omega))
            rcases c1 with c1 | c1
            · rw [c1] at hgt
              revert hgt
              decide
            · rw [c1] at hgt
              revert hgt
              decide
        refine QT.mono (P := fun z => ¬ z.1 b 7 = 0) (QT.bnd (a_failed hb 12 _ _ (by decide)) (fun s' hs' => ad_plain137 hb hs' _ _ _ _ _ _)) (fun z hz => ?_)
        refine QT.bnd (Q := fun k : Int32 × ST => k.1 = 0) (QT.ilt (fun _ => QT.ret rfl) (fun _ => QT.ilt (fun h => by rw [e1] at h; omega) (fun _ => QT.bnd (q_fails _ _ _) (fun k hk => QT.ite (fun _ => QT.ret rfl) (fun h => absurd hk h))))) (fun k hk => ?_)
        unfold f_X11_readsLeaf_108
        exact QT.ite (fun _ => QT.grd (fun _ => QT.ret (hF _ _ hz hk))) (fun h => absurd hk h)
  refine QT.sw ?_
  refine QT.ieq (fun h => absurd h s1) (fun _ => ?_)
  refine QT.sw ?_
  refine QT.ieq (fun s2 => ?_) (fun s2 => ?_)
  · -- a whole number, small
    refine QT.sw ?_
    refine QT.ieq (fun _ => ?_) (fun h => by omega)
    refine QT.sw ?_
    unfold f_X11_readsInt f_X11_readsInt_31
    rw [e64, Option.bind_assoc]
    refine QT.bnd2 (rd_number hb (σ.1 b 5) σ _ h0) (fun q w hqw => ?_)
    refine QT.ieq (fun _ => ?_) (fun h => absurd s2 h)
    have zlo : (-2147483648 : Int64).toInt = -2147483648 := by decide
    have zhi : (2147483647 : Int64).toInt = 2147483647 := by decide
    have his : ∀ z : ST, OK (f_X10_isInt q.1 z) (RO z fun k => k.toInt = 0 ∧ ¬ (-2147483648 ≤ q.1.toInt ∧ q.1.toInt ≤ 2147483647) ∨ k.toInt = 1 ∧ -2147483648 ≤ q.1.toInt ∧ q.1.toInt ≤ 2147483647) := fun z => by
      have k := b_within q.1 (-2147483648) 2147483647 z
      rw [zlo, zhi] at k
      exact k
    rcases hqw with ⟨f1, f2⟩ | ⟨q1, q2, ⟨q3, q4⟩, q5⟩
    · have hall : QT ((f_X10_isInt q.1 q.2).bind fun q12 => if q12.1 = 0 then ((f_X4_fail b t 12 (σ.1 b 5) q12.2).bind fun q14 => f_X4_takePlain_137 b t s y p2 p3 0 q.1 q14) else (f_X4_takePlain_137 b t s y p2 p3 0 q.1 q12.2)) (fun z => ¬ z.1 b 7 = 0) := by
        refine QT.bndR (his q.2) (fun k _ => ?_)
        dsimp only
        exact QT.ite (fun _ => QT.bnd (a_failed hb 12 _ _ (by decide)) (fun s' hs' => ad_plain137 hb hs' _ _ _ _ _ _)) (fun _ => ad_plain137 hb f1 _ _ _ _ _ _)
      refine hall.mono (fun z hz => ?_)
      refine QT.bnd (Q := fun k : Int32 × ST => k.1 = 0) (QT.ite (fun _ => QT.ret rfl) (fun h => absurd f2 h)) (fun k hk => ?_)
      unfold f_X11_readsLeaf_108
      exact QT.ite (fun _ => QT.grd (fun _ => QT.ret (hF _ _ hz hk))) (fun h => absurd hk h)
    · have hw1 : ¬ w.1 = 0 := by rw [q1]; exact one_ne
      have hb0 := b_within (w.2.2.1 0 70) (-2147483648) 2147483647 w.2
      rw [q5, zlo, zhi] at hb0
      rw [q5]
      refine QT.bndR (his q.2) (fun k hk => ?_)
      dsimp only
      refine QT.ieq (fun k0 => ?_) (fun k0 => ?_)
      · refine QT.mono (P := fun z => ¬ z.1 b 7 = 0) (QT.bnd (a_failed hb 12 _ _ (by decide)) (fun s' hs' => ad_plain137 hb hs' _ _ _ _ _ _)) (fun z hz => ?_)
        refine QT.bnd (Q := fun k : Int32 × ST => k.1 = 0) (QT.ite (fun h => absurd h hw1) (fun _ => QT.bndR hb0 (fun k' hk' => ?_))) (fun k hk => ?_)
        · dsimp only
          refine QT.ieq (fun _ => QT.bnd (q_fails _ _ _) (fun k hk => QT.ite (fun _ => QT.ret rfl) (fun h => absurd hk h))) (fun h => ?_)
          exfalso
          rcases hk with hk | hk
          · rcases hk' with hk' | hk'
            · omega
            · exact hk.2 hk'.2
          · omega
        · unfold f_X11_readsLeaf_108
          exact QT.ite (fun _ => QT.grd (fun _ => QT.ret (hF _ _ hz hk))) (fun h => absurd hk h)
      · refine QT.mono (P := fun z => QT (f_X11_readsLeaf_108 v xB 1 s w.2) (P z)) ?_ (fun z hz => ?_)
        · refine cont q.2 (1, w.2) 0 q.1 (.inr ⟨rfl, q2, ⟨q3, q4⟩, n0 _ (by omega), fun h => by omega, fun h => by omega, fun _ _ => q5⟩)
        · refine QT.bnd (Q := fun k : Int32 × ST => k = (1, w.2)) (QT.ite (fun h => absurd h hw1) (fun _ => QT.bndR hb0 (fun k' hk' => ?_))) (fun k hk => by rw [hk]; exact hz)
          dsimp only
          refine QT.ieq (fun h => ?_) (fun _ => QT.ret rfl)
          exfalso
          rcases hk with hk | hk
          · omega
          · rcases hk' with hk' | hk'
            · exact hk'.2 hk.2
            · omega
  refine QT.sw ?_
  refine QT.ieq (fun h => absurd h s2) (fun _ => ?_)
  refine QT.sw ?_
  refine QT.ieq (fun s3 => ?_) (fun s3 => ?_)
  · -- a whole number
    refine QT.sw ?_
    refine QT.ieq (fun _ => ?_) (fun h => by omega)
    refine QT.sw ?_
    rw [e64]
    refine QT.bnd2 (rd_number hb (σ.1 b 5) σ _ h0) (fun q w hqw => ?_)
    refine QT.ieq (fun h => by omega) (fun _ => ?_)
    refine cont q.2 w 0 q.1 ?_
    rcases hqw with hq | ⟨q1, q2, q3, q5⟩
    · exact .inl hq
    · exact .inr ⟨q1, q2, q3, n0 _ (by omega), fun h => by omega, fun h => by omega, fun _ _ => q5⟩
  refine QT.sw ?_
  refine QT.ieq (fun h => absurd h s3) (fun _ => ?_)
  refine QT.sw ?_
  refine QT.ieq (fun s4 => ?_) (fun s4 => ?_)
  · -- a real
    refine QT.sw ?_
    refine QT.ieq (fun _ => ?_) (fun h => by omega)
    refine QT.sw ?_
    refine QT.bnd2 (rd_real hb σ _ h0) (fun q w hqw => ?_)
    refine cont q.2 w 0 q.1 ?_
    rcases hqw with hq | ⟨q1, q2, q3, q5⟩
    · exact .inl hq
    · exact .inr ⟨q1, q2, q3, n0 _ (by omega), fun h => by omega, fun _ => q5, fun h => absurd (by omega) h⟩
  refine QT.sw ?_
  refine QT.ieq (fun h => absurd h s4) (fun _ => ?_)
  refine QT.sw ?_
  refine QT.ieq (fun s5 => ?_) (fun s5 => ?_)
  · -- a text
    refine QT.sw ?_
    refine QT.ieq (fun _ => ?_) (fun h => by omega)
    refine QT.sw ?_
    rw [e64]
    have e : ((f_X4_takeCount b t (σ.1 b 5) 12 σ).bind fun q24 => (f_X4_takeLetters b t (σ.1 b 5) q24.1 q24.2).bind fun q26 => f_X4_takePlain_137 b t s y p2 p3 q24.1 q26.1 q26.2) = (((f_X4_takeCount b t (σ.1 b 5) 12 σ).bind fun q24 => (f_X4_takeLetters b t (σ.1 b 5) q24.1 q24.2).bind fun q26 => some ((q24.1, q26.1), q26.2)).bind fun z => f_X4_takePlain_137 b t s y p2 p3 z.1.1 z.1.2 z.2) := by
      rw [Option.bind_assoc]
      congr 1
      funext q24
      rw [Option.bind_assoc]
      rfl
    rw [e]
    refine QT.bnd2 (rd_text hb (σ.1 b 5) σ _ h0) (fun q w hqw => ?_)
    refine cont q.2 w q.1.1 q.1.2 ?_
    rcases hqw with hq | ⟨q1, q2, q3, q5, q6⟩
    · exact .inl hq
    · refine .inr ⟨q1, q2, q3, ?_, fun _ => ?_, fun h => absurd h (by omega), fun _ h => absurd (by omega) h⟩
      · rw [if_pos (by omega), q6]
      · rw [q6]
        exact q5
  · -- nothing
    refine QT.sw ?_
    refine QT.ieq (fun h => absurd h s5) (fun _ => ?_)
    refine QT.sw ?_
    refine cont σ (1, stL τ 0 70 0) 0 0 (.inr ⟨rfl, h0, ⟨PMA.rf, PMB.rf⟩, n0 _ (by omega), fun h => by omega, fun h => by omega, fun _ _ => ?_⟩)
    exact stL_at
