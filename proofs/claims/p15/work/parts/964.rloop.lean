/-! the reader's fields that one field of the writer is for, both sides -/
/-- which of the reader's fields are there, as the writer's i-th is read, up to the reader's j-th -/
def PLJ (z : Nat → Int32) (mR i j : Nat) (k : Nat) : Prop := k < mR ∧ 0 ≤ (z k).toInt ∧ ((z k).toInt < i ∨ (z k).toInt = i ∧ k < j)
theorem FLQ.none {b : Nat} {cont : ST → Option (Int32 × ST)} {RES : ST → ST → Prop} {s : ST} : FLQ b Option.none cont RES s := by
  by_cases h : s.1 b 7 = 0
  · exact .inr ⟨h, fun _ _ => QT.none⟩
  · exact .inl ⟨h, QT.none⟩
theorem FLQ.imp {b : Nat} {B : Option (Int32 × ST)} {cont : ST → Option (Int32 × ST)} {RES RES' : ST → ST → Prop} {s : ST} (h : FLQ b B cont RES s) (k : ∀ w, RES s w → RES' s w) : FLQ b B cont RES' s := by
  rcases h with h | ⟨h1, h2⟩
  · exact .inl h
  · exact .inr ⟨h1, fun P hP => h2 P (fun w hw => hP w (k w hw))⟩
/-- where both stand behind a field -/
def RFE (b t m q : Nat) (S T : ST) (L R x mR : Nat) (n0 : Int32) (a t1 : ST) (z : Nat → Int32) (Pl : Nat → Prop) (σ s w : ST) : Prop := ∃ (e : Nat) (l : List EN), RCX b t m S T s w e ∧ (∀ j, j < mR → s.1 (b + 2) (8 * L + j) = z j) ∧ RLR t q S T L R x n0 a t1 Pl s w e l ∧ SRK b L σ s
theorem r_fld12 {b t m p q : Nat} {S T : ST} {rT rF rL rO rR : FTK} {rb : FRD} {rI rS : Int32 → Int32 → Int32 → Int32 → ST → Option (Int32 × ST)} (hS : RST p q S T) (hT : cTK b t m p q S T rT rb) {L : Nat} (hL : L ≤ 30) (xR yR u uB lev x5 x6 fi x8 row : Int32) {w r mW mR i x : Nat} (hP : RPR p q T xR yR u uB w r mW mR) (hlev : lev.toInt = L) (hx5 : x5.toInt = 6 * (p : Int) + w) (hx6 : x6.toInt = 6 * (q : Int) + r) (hfi : fi.toInt = i) (hi : i < mW) (hx8 : x8.toInt = 8 * (6 * (p : Int) + w) + i) (hrow : row.toInt = x) (hu : 0 ≤ u.toInt ∧ u.toInt < 800) (huB : 0 ≤ uB.toInt ∧ uB.toInt < 800) (z : Nat → Int32) (hz : ∀ j, j < mR → SRJ T p q w r mW (T.1 3 u.toNatClampNeg) j (z j)) (n0 : Int32) (a t1 : ST) (p0 : Int32) (k43 : Int32 → Int32 → Int32 → Int32 → Int32 → Int32 → Int32 → ST → Option (Int32 × ST)) : ∀ (n M j : Nat) (x7 x10 x11 : Int32) (σ τ : ST) (e : Nat) (l : List EN), RCX b t m S T σ τ e → (∀ j, j < mR → σ.1 (b + 2) (8 * L + j) = z j) → RLR t q S T L (6 * q + r) x n0 a t1 (PLJ z mR i j) σ τ e l → x11.toInt = j → j ≤ mR → (x7 = 0 ∧ x10 = 0 ∨ ¬ x7 = 0 ∧ 1 ≤ x10.toInt ∧ x10.toInt ≤ j) → (0 ≤ p0.toInt ∧ p0.toInt ≤ (T.1 0 65).toInt) → QT (f_X4_takeField_12 rT rF rL rO rR b t n (S.1 13 (8 * (6 * p + w) + i)) fi yR row lev p0 x7 x11 σ) (fun s => FLQ b (f_X11_readsRecord_83 rb rI rS k43 M u uB lev row x5 x6 fi x8 p0 x10 x11 τ) (fun w' => f_X11_readsRecord_198 rb rI rS k43 u uB lev row x5 x6 fi w') (RFE b t m q S T L (6 * q + r) x mR n0 a t1 z (PLJ z mR (i + 1) 0) σ) s) := by
  have l0 := li_0
  have l1 := li_1
  have lm := li_m1
  have l8 := li_8
  have el := il_addE (x := lev) (y := 1) (by omega) (by omega)
  have hP' := hP
  obtain ⟨⟨hx, hy⟩, ⟨hw, hr⟩, ⟨hu3, huB3⟩, ⟨hmW, hmR⟩, hPR⟩ := hP'
  have acP := hS.1.2.2.1.1.acc hw
  have acQ := hS.1.2.2.1.2.acc hr
  have cP := hS.1.2.2.1.1.cnt
  have cQ := hS.1.2.2.1.2.cnt
  have hp6 := hS.1.1
  have mW8 : mW ≤ 8 := by
    have := acP.2.2.1.2
    rw [hmW] at this
    omega
  have mR8 : mR ≤ 8 := by
    have := acQ.2.2.1.2
    rw [hmR] at this
    omega
  obtain ⟨⟨_, _⟩, _, hTu, _⟩ := acP.2.2.2.2 i (by omega)
  have hTu : TY p (T.1 8 p).toInt S T 4 (S.1 13 (8 * (6 * p + w) + i)) (T.1 15 (8 * (6 * p + w) + i)) := hTu
  have n8 : x8.toNatClampNeg = 8 * (6 * p + w) + i := nC (by omega)
  have n6 : x6.toNatClampNeg = 6 * q + r := nC (by omega)
  intro n
  induction n with
  | zero =>
    intro M j x7 x10 x11 σ τ e l _ _ _ _ _ _ _
    rw [f_X4_takeField_12]
    exact QT.none
  | succ n ih =>
    intro M j x7 x10 x11 σ τ e l hC hzσ hR h11 hj hfl hp0
    cases M with
    | zero =>
      refine fun s _ => ?_
      rw [f_X11_readsRecord_83]
      exact FLQ.none
    | succ M =>
      have k7 := (hC.1.1.kta 7 (by omega) (by omega)).1
      have e11 := hC.1.2.fl.2.1
      have e3 : τ.1 3 = T.1 3 := hC.1.2.ty.2.1
      have e15 : τ.1 15 = T.1 15 := hC.1.2.fl.2.2.1
      have hm : (σ.1 7 (6 * q + r)).toInt = mR := by rw [k7, acQ.2.1]; exact hmR
      rw [f_X4_takeField_12, f_X11_readsRecord_83, a4_fieldsOf yR σ (r := 6 * q + r) (by omega) (by omega), sbnd]
      dsimp only
      rw [if_neg (fun h => by have := il_lt h; omega : ¬ uB < 0), if_pos (⟨by omega, by omega⟩ : 0 ≤ x6.toInt ∧ x6.toInt < 72), n6, e11]
      refine QT.ile (fun hle => ?_) (fun hlt => ?_)
      · have hle' : T.1 11 (6 * q + r) ≤ x11 := Int32.le_iff_toInt_le.mpr (by omega)
        rw [if_pos hle']
        have hR' : RLR t q S T L (6 * q + r) x n0 a t1 (PLJ z mR (i + 1) 0) σ τ e l := hR.iff (fun k => by
          unfold PLJ
          omega)
        unfold f_X4_takeField_82 f_X11_readsRecord_171
        rcases hfl with ⟨f7, f10⟩ | ⟨f7, f10, f10'⟩
        · rw [if_pos f7, if_pos f10, n8, e15, if_pos (⟨by omega, by omega⟩ : 0 ≤ x8.toInt ∧ x8.toInt < 576)]
          refine QT.bnd ((hT _ _ (lev + 1) (L + 1) 4 e σ τ hTu (by omega) (by omega) (by omega) hC).1 (-1) 0 (-1) 0) (fun s hs => QT.ret ?_)
          rcases ROUT.cases hs (fun w' h => h.1.2.1.1.1) with ⟨g1, g2⟩ | ⟨g1, g2⟩
          · exact .inl ⟨g1, QT.bnd g2 (fun w' hw' => QT.ite (fun _ => QT.ret rfl) (fun h => absurd hw' h))⟩
          · refine .inr ⟨g1, fun P hP => QT.bnd g2 (fun w' hw' => QT.ite (fun h => by rw [hw'.1] at h; exact absurd h one_ne) (fun _ => ?_))⟩
            obtain ⟨_, hK⟩ := hw'
            exact hP _ ⟨e, l, hK.1, fun j hj => (hK.2.2 _ (by omega)).trans (hzσ j hj), hR'.tre hK.2.1, hK.2.2.wk (by omega)⟩
        · rw [if_neg f7, if_neg (fun h => by rw [h] at f10; omega : ¬ x10 = 0)]
          exact QT.ret (.inr ⟨hC.2.1.1.1, fun P hP => hP _ ⟨e, l, hC, hzσ, hR', SRK.rf⟩⟩)
      · have hjm : j < mR := by omega
        have hlt' : ¬ T.1 11 (6 * q + r) ≤ x11 := fun h => by have := il_le h; omega
        rw [if_neg hlt', if_pos hu]
        refine QT.ite (fun _ => ?_) (fun h => absurd hC.2.1.1.1 h)
        rw [a_sourceAt b t lev x11 σ hL hlev h11 (by omega), sbnd]
        dsimp only
        rw [hzσ j hjm]
        have em := mlE (k := 8) (y := x6) 8 l8 (by omega) (by omega)
        have ea := il_addE (x := 8 * x6) (y := x11) (by omega) (by omega)
        have na : (8 * x6 + x11).toNatClampNeg = 8 * (6 * q + r) + j := nC (by omega)
        have hf : (8 * x6 + x11).toInt = 8 * (6 * (q : Int) + r) + j := by omega
        obtain ⟨y, y1, y2⟩ := hz j hjm (8 * x6 + x11) hf
        rw [e3, hC.1.2.ff' y1, sbnd]
        dsimp only
        have e9 := il_addE (x := x11) (y := 1) (by omega) (by omega)
        by_cases hzi : z j = fi
        · have hy8 : y = x8 := by
            rcases y2 with ⟨g1, _⟩ | ⟨i', _, g2, g3⟩
            · rw [hzi] at g1
              omega
            · rw [hzi] at g2
              exact Int32.toInt_inj.mp (by omega)
          rw [if_pos hzi, if_pos hy8, if_pos (⟨by omega, by omega⟩ : 0 ≤ x8.toInt ∧ x8.toInt < 576), if_pos (⟨by omega, by omega⟩ : 0 ≤ (8 * x6 + x11).toInt ∧ (8 * x6 + x11).toInt < 576), n8, na]
          obtain ⟨hC1, hT1, hs1⟩ := hC.back (p0 := p0) ⟨hp0.1, by rw [hC.1.2.2.1 65 (by omega) (by omega) (by omega) (by omega) (by omega) (by omega) (by omega)]; exact hp0.2⟩
          have hR1 := hR.tre hT1
          have hzσ1 : ∀ j, j < mR → (stI σ b 5 p0).1 (b + 2) (8 * L + j) = z j := fun j hj => (hs1 _).trans (hzσ j hj)
          have e15' : (stI τ 0 64 p0).1 15 = T.1 15 := (stI_ne (by omega)).trans e15
          rw [e15']
          generalize stI σ b 5 p0 = σ1 at hC1 hT1 hs1 hR1 hzσ1
          generalize stI τ 0 64 p0 = τ1 at hC1 hT1 hR1 e15'
          rw [a4_typeOf yR x11 σ1 (r := 6 * q + r) (j := j) (by omega) h11 (by omega) (by omega), sbnd]
          dsimp only
          have k13 := (hC1.1.1.kta 13 (by omega) (by omega)).1
          rw [k13]
          obtain ⟨⟨_, _⟩, _, hTv, _⟩ := acQ.2.2.2.2 j (by omega)
          have hTv : TY q (T.1 8 q).toInt S T 4 (S.1 13 (8 * (6 * q + r) + j)) (T.1 15 (8 * (6 * q + r) + j)) := hTv
          have rv := hTv.rng.1
          have hnP : ¬ PLJ z mR i j j := fun h => by
            have := h.2.2
            rw [hzi] at this
            omega
          obtain ⟨l1, l2, ell, g1, g2, hPar⟩ := hR1.split hnP (by omega) hrow h11
          have hMS : MS T (T.1 15 (8 * (6 * p + w) + i)) (T.1 15 (8 * (6 * q + r) + j)) := by
            have e53 := hS.1.2.1.1
            have e54 := hS.1.2.1.2
            have n54 : (T.1 0 54).toNatClampNeg = q := nC e54
            have wn : (T.1 3 u.toNatClampNeg).toNatClampNeg = w := nC hu3
            have rn : (T.1 3 uB.toNatClampNeg).toNatClampNeg = r := nC huB3
            obtain ⟨_, _, hx9⟩ := hS.2.2.2.2.1 (T.1 3 u.toNatClampNeg) (T.1 3 uB.toNatClampNeg) (by omega) (by omega) (by omega) (by omega) (by rw [wn, rn]; exact hPR)
            have hk := (hx9 j (8 * x6 + x11) y (by rw [n54, rn, hmR]; omega) (by omega) y1).1 (by rw [hy8]; omega)
            rw [hy8, n8, na] at hk
            exact hk
          subst ell
          refine QT.bnd ((hT _ _ (lev + 1) (L + 1) 4 e σ1 τ1 hTu (by omega) (by omega) (by omega) hC1).2 _ _ row x11 4 l1 l2 (fun h => by rw [h] at rv; omega) hTv (by omega) hMS hPar) (fun s hs => ?_)
          unfold f_X4_takeField_76
          rcases ROUT.cases hs (fun w' h => by obtain ⟨e', h1, _⟩ := h; exact h1.2.1.1.1) with ⟨f1, f2⟩ | ⟨f1, f2⟩
          · refine (ad_fld12 hC.1.1.1 _ fi yR row lev p0 1 one_ne f1 n _).mono (fun s2 hs2 => ?_)
            exact .inl ⟨hs2, QT.bnd f2 (fun w' hw' => QT.ite (fun _ => QT.ret rfl) (fun h => absurd hw' h))⟩
          · intro s2 es2
            -- the reference goes on from each of its states
            have key : ∀ w' : Int32 × ST, (w'.1 = 1 ∧ RVP b t m q (L + 1) S T (S.1 13 (8 * (6 * q + r) + j)) (T.1 15 (8 * (6 * q + r) + j)) e row x11 l1 l2 σ1 τ1 s w'.2) → FLQ b (f_X11_readsRecord_83 rb rI rS k43 M u uB lev row x5 x6 fi x8 p0 (x10 + 1) (x11 + 1) w'.2) (fun w' => f_X11_readsRecord_198 rb rI rS k43 u uB lev row x5 x6 fi w') (RFE b t m q S T L (6 * q + r) x mR n0 a t1 z (PLJ z mR (i + 1) 0) σ) s2 := fun w' hw' => by
              have hlen := hR1.len (m := 8) (fun j h => by have := h.1; omega)
              obtain ⟨e', hC2, hR2, hS2⟩ := hR1.add g1 g2 hrow h11 hL (by omega) hw'.2
              have hb10 : 0 ≤ x10.toInt ∧ x10.toInt ≤ j := by
                rcases hfl with ⟨_, h⟩ | ⟨_, h⟩
                · rw [h]
                  omega
                · omega
              have e10 := il_addE (x := x10) (y := 1) (by omega) (by omega)
              have hR3 : RLR t q S T L (6 * q + r) x n0 a t1 (PLJ z mR i (j + 1)) s w'.2 e' _ := hR2.iff (fun k => by
                unfold PLJ
                constructor
                · rintro (h | h)
                  · omega
                  · subst h
                    rw [hzi]
                    omega
                · intro h
                  by_cases e9 : k = j
                  · exact .inr e9
                  · exact .inl (by omega))
              have hS3 : SRK b L σ s := fun i hi => (hS2 i (by omega)).trans (hs1 i)
              exact (ih M (j + 1) 1 (x10 + 1) (x11 + 1) s w'.2 e' _ hC2 (fun j hj => (hS2 _ (by omega)).trans (hzσ1 j hj)) hR3 (by omega) (by omega) (.inr ⟨one_ne, by omega, by omega⟩) hp0 s2 es2).imp (fun w'' h => by
                obtain ⟨e3', l3, a1, a2, a3, a4⟩ := h
                exact ⟨e3', l3, a1, a2, a3, hS3.trans a4⟩)
            by_cases h7 : s2.1 b 7 = 0
            · refine .inr ⟨h7, fun P hP => QT.bnd f2 (fun w' hw' => QT.ite (fun h => by rw [hw'.1] at h; exact absurd h one_ne) (fun _ => ?_))⟩
              unfold f_X11_readsRecord_165
              rcases key w' hw' with ⟨k1, _⟩ | ⟨_, k2⟩
              · exact absurd h7 k1
              · exact k2 P hP
            · refine .inl ⟨h7, QT.bnd f2 (fun w' hw' => QT.ite (fun h => by rw [hw'.1] at h; exact absurd h one_ne) (fun _ => ?_))⟩
              unfold f_X11_readsRecord_165
              rcases key w' hw' with ⟨_, k1⟩ | ⟨k1, _⟩
              · exact k1
              · exact absurd k1 h7
        · have hy8 : ¬ y = x8 := fun h => by
            rcases y2 with ⟨_, g1⟩ | ⟨i', _, g2, g3⟩
            · rw [h] at g1
              omega
            · rw [h] at g3
              exact hzi (Int32.toInt_inj.mp (by omega))
          rw [if_neg hzi, if_neg hy8]
          unfold f_X4_takeField_76 f_X11_readsRecord_165
          have hR3 : RLR t q S T L (6 * q + r) x n0 a t1 (PLJ z mR i (j + 1)) σ τ e l := hR.iff (fun k => by
            unfold PLJ
            constructor
            · intro h
              omega
            · intro h
              by_cases e9 : k = j
              · subst e9
                have h9 : ¬ (z k).toInt = fi.toInt := fun h => hzi (Int32.toInt_inj.mp h)
                omega
              · omega)
          exact ih M (j + 1) x7 x10 (x11 + 1) σ τ e l hC hzσ hR3 (by omega) (by omega) (hfl.imp id (fun h => ⟨h.1, h.2.1, by omega⟩)) hp0
