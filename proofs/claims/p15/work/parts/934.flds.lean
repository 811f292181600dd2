/-! the fields of a record, as they are told -/
/-- the reference's end of the fields told -/
theorem q_parts0 {ri rp : Int32 → Int32 → Int32 → Int32 → ST → Option ((Int32 × ST) × Nat)} {rv : Int32 → Int32 → Int32 → Int32 → Int32 → ST → Option ((Int32 × ST) × Nat)} (n : Nat) (x1 x3 x4 x5 : Int32) (b : ST) (h : ¬ (b.1 0 13).toInt = 125) : QT (f_X11_parts_139 ri rp rv (f_X11_parts_33 ri rp rv n) x1 x3 x4 x5 0 b) (fun q => q.1.1 = 0) := by
  have l125 : (125 : Int32).toInt = 125 := by decide
  unfold f_X11_parts_139
  refine QT.ite (fun _ => ?_) (fun h => absurd rfl h)
  cases n with
  | zero =>
    rw [f_X11_parts_33]
    exact QT.none
  | succ n =>
    rw [f_X11_parts_33]
    refine QT.ite (fun _ => ?_) (fun h => absurd rfl h)
    refine QT.ieq (fun e => absurd (e.trans l125) h) (fun _ => qb_wr 1 b)
theorem ab_end {rF rI : Int32 → Int32 → Int32 → ST → Option (Int32 × ST)} {rV : Int32 → Int32 → Int32 → Int32 → ST → Option (Int32 × ST)} {ri rp : Int32 → Int32 → Int32 → Int32 → ST → Option ((Int32 × ST) × Nat)} {rv : Int32 → Int32 → Int32 → Int32 → Int32 → ST → Option ((Int32 × ST) × Nat)} {p : Nat} {rm : Int} {S T : ST} {L R m x v : Nat} {wB xA xB : Int32} {a t : ST} (hR : REC p rm S T R m) (hw : wB.toInt = v) (hxA : xA.toInt = R) (hxB : xB.toInt = R) {w : Nat} {σ τ : ST} {e f : Nat} {l : List EN} (hI : RLI p S T L R m x v a t w 0 (1000 + L + 1 + 1) σ τ e f l) (h125 : (σ.1 2 4).toInt = 125) (n' : Nat) (x1 x3 : Int32) : QT (f_X8_parseFields_210 rF rI rV xA (Int32.ofNat w) σ) (fun qa => QT (f_X11_parts_33 ri rp rv n' x1 x3 wB xB 0 τ) (fun qb => VOUT L (PPO p S T L R m x v a t) qa qb.1)) := by
  have l0 := li_0
  have l125 : (125 : Int32).toInt = 125 := by decide
  have hK := hI.1.1.2.1.1.2.2.1
  cases n' with
  | zero =>
    rw [f_X11_parts_33]
    exact fun _ _ => QT.none
  | succ n' =>
    rw [f_X11_parts_33]
    refine QT.sw ?_
    refine QT.ite (fun _ => ?_) (fun h => absurd rfl h)
    refine QT.ieq (fun _ => ?_) (fun h => absurd (((hK.sg (by omega)).mpr h125).trans l125.symm) h)
    refine QT.sw ?_
    unfold f_X8_parseFields_210 f_X8_closeRecord
    refine QT.bnd (ab_close hR hw hxA hxB FU FU 0 w 0 0 σ τ e f l l0 l0 (by omega) hI h125) (fun q hq => QT.grd (fun _ => QT.ret hq))
theorem ab_flds25 {rF rI : Int32 → Int32 → Int32 → ST → Option (Int32 × ST)} {rV : Int32 → Int32 → Int32 → Int32 → ST → Option (Int32 × ST)} {ri rp : Int32 → Int32 → Int32 → Int32 → ST → Option ((Int32 × ST) × Nat)} {rv : Int32 → Int32 → Int32 → Int32 → Int32 → ST → Option ((Int32 × ST) × Nat)} {p : Nat} {rm : Int} {S T : ST} (hV : VTP p rm S T rV rv) (hN : NUV rv) {L R m x v : Nat} {lev dp row wB xA xB P32 : Int32} {a t : ST} (hL : L ≤ 30) (hlev : lev.toInt = L) (hdp : dp.toInt = L) (hP : P32.toInt = p) (hR : REC p rm S T R m) (hr : row.toInt = x) (hw : wB.toInt = v) (hxA : xA.toInt = R) (hxB : xB.toInt = R) : ∀ (n n' k w : Nat) (x5 x6 : Int32) (σ τ : ST) (e f : Nat) (l : List EN) (F : Int), x6.toInt = k → l.length = k → RLI p S T L R m x v a t w 0 F σ τ e f l → (x5 = 0 ∧ (σ.1 2 4).toInt = 125 ∧ F = 1000 + L + 1 + 1 ∨ x5 = 1 ∧ F = 1000 + L + 1) → QT (f_X8_parseFields_25 rF rI rV n xA row lev (Int32.ofNat w) x5 x6 σ) (fun qa => QT (f_X11_parts_33 ri rp rv n' P32 dp wB xB x5 τ) (fun qb => VOUT L (PPO p S T L R m x v a t) qa qb.1)) := by
  have l0 := li_0
  have l1 := li_1
  have l3 := li_3
  have l8 := li_8
  have lm := li_m1
  have l44 : (44 : Int32).toInt = 44 := by decide
  have l125 : (125 : Int32).toInt = 125 := by decide
  obtain ⟨hR36, ⟨hm1, hm2, hm8⟩, hELH, hFLH⟩ := id hR
  intro n
  induction n with
  | zero =>
    intro n' k w x5 x6 σ τ e f l F _ _ _ _
    rw [f_X8_parseFields_25]
    exact QT.none
  | succ n ih =>
    intro n' k w x5 x6 σ τ e f l F h6 hlk hI h5
    have hlen := hI.len
    rw [f_X8_parseFields_25]
    refine QT.ilt (fun h => by omega) (fun _ => ?_)
    rcases h5 with ⟨h5, h125, hF⟩ | ⟨h5, hF⟩
    · subst h5
      subst hF
      refine QT.ite (fun _ => ?_) (fun h => absurd rfl h)
      exact ab_end hR hw hxA hxB hI h125 n' P32 dp
    · subst h5
      subst hF
      refine QT.ite (fun h => absurd h one_ne) (fun _ => ?_)
      have hC := hI.1.1
      have kA := hC.1.1
      have kB := hC.1.2
      have hX := hC.2.1.1
      have hK := hX.2.2.1
      obtain ⟨_, ⟨k11, k15, k16, _⟩, k12, _⟩ := kB.t
      obtain ⟨⟨k4, k7⟩, ⟨_, k13⟩, _, _, _, k11A⟩ := kA.t
      have nA : xA.toNatClampNeg = R := nC hxA
      have nB : xB.toNatClampNeg = R := nC hxB
      cases n' with
      | zero =>
        rw [f_X11_parts_33]
        exact fun _ _ => QT.none
      | succ n' =>
        rw [f_X11_parts_33]
        refine QT.sw ?_
        refine QT.ite (fun h => absurd h one_ne) (fun _ => ?_)
        refine QT.bndK (b_isName τ) (fun c y hc => QT.kac ?_)
        dsimp only
        refine QT.sw ?_
        refine QT.ieq (fun hk3 => ?_) (fun hk3 => ?_)
        rotate_left
        · -- no name
          refine (qa_ref 1 σ).mono (fun u hu => ?_)
          refine QT.ieq (fun _ => (qb_wr 1 τ).mono (fun y hy => .inl ⟨hu, .inl hy⟩)) (fun h => ?_)
          exfalso
          rcases hc with hc | hc
          · have := hc.1
            omega
          · exact hk3 ((hK.nm.mp hc.2).trans l3.symm)
        · have hNM : NM τ := hK.nm.mpr (by omega)
          have hWL : WL (σ.2.1 2 7) (τ.2.1 0 7) := (hK.wd (by rw [sv_3 (by omega)]; omega)).2.2
          have names : ∀ i, i < m → (σ.2.1 11 (8 * R + i) = σ.2.1 2 7 ↔ τ.2.1 12 (8 * R + i) = τ.2.1 0 7) := fun i hi => by
            rw [k11A, k12]
            exact WL.iff (hFLH i hi).1.1 hWL
          refine QT.sw ?_
          refine QT.ieq (fun h => ?_) (fun _ => ?_)
          · exfalso
            rcases hc with hc | hc
            · exact hc.2 hNM
            · have := hc.1
              omega
          refine QT.sw ?_
          refine QT.bndR (a4_fieldNamed xA (σ.2.1 2 7) σ R m hR36 hxA (by rw [k7]; exact hm1) hm8) (fun zA hzA => ?_)
          dsimp only
          refine QT.sw ?_
          refine QT.bndR (by_fieldOf xB (τ.2.1 0 7) τ R m (by omega) hxB (by rw [k11]; exact hm2) hm8) (fun zB hzB => ?_)
          dsimp only
          refine QT.sw ?_
          have bad : ∀ s : ST, QT (f_X8_parseFields_90 rF rI rV σ) (fun qa => QT (f_X11_parts_85 ri rp rv s) (fun qb => VOUT L (PPO p S T L R m x v a t) qa qb.1)) := fun s => by
            unfold f_X8_parseFields_90 f_X11_parts_85
            exact (qa_ref 3 σ).mono (fun u hu => (qb_wr 3 s).mono (fun y hy => .inl ⟨hu, .inl hy⟩))
          rcases FIX.uniq names hzA hzB with ⟨e1, e2⟩ | ⟨j, hj, e1, e2⟩
          · refine QT.ieq (fun _ => ?_) (fun h => absurd (e1.trans lm.symm) h)
            refine QT.sw ?_
            refine QT.ilt (fun _ => ?_) (fun h => by omega)
            exact QT.sw (bad τ)
          · refine QT.ieq (fun h => by omega) (fun _ => ?_)
            refine QT.sw ?_
            refine QT.ilt (fun h => by omega) (fun _ => ?_)
            have e8 := mlE (k := 8) (y := xB) 8 l8 (by omega) (by omega)
            have esub : (zB - 8 * xB).toInt = j := by
              rw [il_subE (by omega) (by omega)]
              omega
            have hpl : ∀ y, y ∈ l → (τ.1 25 y.2.2.1).toInt = y.1 := fun y hy => ((hI.2.2.2.1.2.2.2 y hy).2.2.pl).2
            refine QT.bnd (q_hasChild wB (zB - 8 * xB) τ (l := l) hw esub hI.2.2.2.1.1.2.1 hpl) (fun q hq => ?_)
            obtain ⟨c2, s⟩ := q
            obtain ⟨es, hq⟩ := hq
            have es : s = τ := es
            subst es
            have hq : c2.toInt = 0 ∧ (∀ y, y ∈ l → ¬ y.1 = j) ∨ c2.toInt = 1 ∧ ∃ y, y ∈ l ∧ y.1 = j := hq
            dsimp only
            have hbit := a_bit (w := w) (j := j) hI.2.2.1.1 (by omega) zA e1
            have alla : ∀ y, y ∈ l → inA y = true := fun y hy => by
              cases hb : inA y with
              | true => rfl
              | false =>
                have := (hI.2.2.1.2.1 y hy).2 hb
                omega
            refine QT.ieq (fun hc0 => ?_) (fun hc0 => ?_)
            rotate_left
            · -- told before
              have hwb : w.testBit j = true := by
                rcases hq with hq | ⟨_, y, hy, e9⟩
                · have := hq.1
                  omega
                · exact (hI.2.2.1.2.2.1 j (by omega)).mpr ⟨y, hy, alla y hy, e9⟩
              rw [hwb, if_pos rfl] at hbit
              refine QT.sw ?_
              refine QT.ieq (fun h => by omega) (fun _ => ?_)
              exact bad s
            · have hno : ∀ y, y ∈ l → ¬ y.1 = j := by
                rcases hq with hq | hq
                · exact hq.2
                · have := hq.1
                  omega
              have hwb : w.testBit j = false := by
                cases hb : w.testBit j with
                | false => rfl
                | true =>
                  obtain ⟨y, hy, _, e9⟩ := (hI.2.2.1.2.2.1 j (by omega)).mp hb
                  exact absurd e9 (hno y hy)
              rw [hwb, if_neg (by decide)] at hbit
              refine QT.sw ?_
              refine QT.ieq (fun _ => ?_) (fun h => by omega)
              refine QT.bnd2 (Q := fun s1 z => CA σ s1 ∧ GOF s s1 z ((uT s : Int) - 1)) ((ab_gof σ s hX (by omega) (by omega)).mono (fun s1 hs => hs.2.mono (fun z hz => ⟨hs.1, hz⟩))) (fun s1 z hg => ?_)
              have hI1 := hI.go hg.1 hg.2
              rw [show (1000 + (L : Int) + 1 - 1) = 1000 + L by omega] at hI1
              have hC1 := hI1.1.1
              have z15 : z.1 15 = T.1 15 := (hC1.1.2.t).2.1.2.1
              have s13 : s1.1 13 = S.1 13 := (hC1.1.1.t).2.1.2
              have nzB : zB.toNatClampNeg = 8 * R + j := nC (by omega)
              rw [a4_typeOf xA zA s1 (r := R) (j := j) hxA e1 hR36 (by omega)]
              rw [sbnd]
              dsimp only
              refine QT.sw ?_
              refine QT.grd (fun _ => ?_)
              refine QT.sw ?_
              rw [nzB, z15, s13]
              obtain ⟨l1', l2', el, hl1, hl2⟩ := spt_list l hI.2.2.2.1.2.1.2 j hno
              subst el
              have el := il_addE (x := lev) (y := 1) (by omega) (by omega)
              have ed := il_addE (x := dp) (y := 1) (by omega) (by omega)
              have e6 := il_addE (x := x6) (y := 1) (by omega) (by omega)
              obtain ⟨d', hG⟩ := TG.ex (hFLH j hj).2.2.1
              have ezz : zB - 8 * xB = zA := Int32.toInt_inj.mp (by omega)
              rw [ezz]
              have hCx : CXT S T s1 z e f (1000 + (L + 1 : Nat)) := by
                obtain ⟨c1, c2, c3, c4, c5, c6⟩ := hC1
                exact ⟨c1, c2, c3, c4, by omega, c6⟩
              refine QT.bnd2 (hV (L + 1) (lev + 1) (dp + 1) _ _ row wB zA P32 d' l1' l2' s1 z e f (by omega) (by omega) (by omega) hP hG hCx (hI1.par hr hw e1 (by omega) hl1 hl2)) (fun qa qb hq => ?_)
              rcases hq with ⟨ha, hb⟩ | ⟨ha, hb, hPo⟩
              · refine QT.ieq (fun _ => QT.ret ?_) (fun h => absurd (ha.trans l0.symm) h)
                refine QT.kac ?_
                refine QT.ite (fun _ => QT.ret (.inl ⟨l0, .inl rfl⟩)) (fun hne => ?_)
                rcases hb with hb | ⟨_, hb⟩
                · exact absurd hb hne
                · exact (dm_parts hN L n' P32 dp wB xB qb.1.2 (hb.of (by omega))).mono (fun z hz => .inl ⟨l0, hz⟩)
              · obtain ⟨e', f', hI2⟩ := hI1.add hr hw e1 hj hm8 hl1 hl2 hwb hL hPo
                obtain ⟨tb1, tb2, _⟩ := tb_set hI.2.2.1.1 (by omega : j < 9) hwb
                have hX2 := hI2.1.1.2.1.1
                have hK2 := hX2.2.2.1
                have hlen2 : (l1' ++ (j, (e, e'), (f, f')) :: l2').length = k + 1 := by
                  simp only [List.length_append, List.length_cons] at hlk ⊢
                  omega
                refine QT.ieq (fun h => by omega) (fun _ => ?_)
                refine QT.sw ?_
                refine QT.kac ?_
                refine QT.ieq (fun h => by omega) (fun _ => ?_)
                refine QT.sw ?_
                rw [intOf e1 (by omega), tb1]
                have hF2 : (1000 + ((L + 1 : Nat) : Int) + 1) = 1000 + (L : Int) + 1 + 1 := by omega
                rw [hF2] at hI2
                refine QT.ieq (fun h44 => ?_) (fun h44 => ?_)
                · -- another field
                  have hs : (qb.1.2.1 0 13).toInt = 44 := (hK2.sg (by omega)).mpr (by omega)
                  unfold f_X8_parseFields_173 f_X8_parseFields_190 f_X8_parseFields_204
                  refine QT.ieq (fun _ => ?_) (fun h => absurd h44 h)
                  refine QT.ite (fun h => absurd h one_ne) (fun _ => ?_)
                  refine QT.sw ?_
                  refine QT.ieq (fun _ => ?_) (fun h => by omega)
                  unfold f_X11_parts_139
                  refine QT.ite (fun h => absurd h one_ne) (fun _ => ?_)
                  refine QT.sw ?_
                  refine QT.bnd2 (Q := fun s2 z2 => CA qa.2 s2 ∧ GOF qb.1.2 s2 z2 ((uT qb.1.2 : Int) - 1)) ((ab_gof qa.2 qb.1.2 hX2 (by omega) (by omega)).mono (fun s2 hs => hs.2.mono (fun z2 hz => ⟨hs.1, hz⟩))) (fun s2 z2 hg2 => ?_)
                  have hI3 := hI2.go hg2.1 hg2.2
                  exact ih n' (k + 1) (w + 2 ^ j) 1 (x6 + 1) s2 z2 e' f' _ _ (by omega) hlen2 hI3 (.inr ⟨rfl, by omega⟩)
                · refine QT.ieq (fun h125 => ?_) (fun h125 => ?_)
                  · -- the last one
                    have hs : (qb.1.2.1 0 13).toInt = 125 := (hK2.sg (by omega)).mpr (by omega)
                    unfold f_X8_parseFields_173 f_X8_parseFields_190 f_X8_parseFields_204
                    refine QT.ieq (fun h => absurd h h44) (fun _ => ?_)
                    refine QT.ite (fun _ => ?_) (fun h => absurd rfl h)
                    refine QT.sw ?_
                    refine QT.ieq (fun h => by omega) (fun _ => ?_)
                    unfold f_X11_parts_139
                    refine QT.ite (fun _ => ?_) (fun h => absurd rfl h)
                    refine QT.sw ?_
                    exact ih n' (k + 1) (w + 2 ^ j) 0 (x6 + 1) qa.2 qb.1.2 e' f' _ _ (by omega) hlen2 hI2 (.inl ⟨rfl, by omega, rfl⟩)
                  · have hs1 : ¬ (qb.1.2.1 0 13).toInt = 44 := fun e => h44 (((hK2.sg (by omega)).mp e).trans l44.symm)
                    have hs2 : ¬ (qb.1.2.1 0 13).toInt = 125 := fun e => h125 (((hK2.sg (by omega)).mp e).trans l125.symm)
                    refine (qa_ref 1 qa.2).mono (fun u hu => ?_)
                    refine QT.ieq (fun h => by omega) (fun _ => ?_)
                    exact (q_parts0 n' P32 dp wB xB qb.1.2 hs2).mono (fun y hy => .inl ⟨hu, .inl hy⟩)
def PTP (p : Nat) (rm : Int) (S T : ST) (rF : Int32 → Int32 → Int32 → ST → Option (Int32 × ST)) (rp : Int32 → Int32 → Int32 → Int32 → ST → Option ((Int32 × ST) × Nat)) : Prop := ∀ (L R m x v : Nat) (lev dp xA u row w P32 : Int32) (a t : ST), L ≤ 30 → lev.toInt = L → dp.toInt = L → P32.toInt = p → p < 6 → REC p rm S T R m → xA.toInt = R → (0 ≤ u.toInt ∧ u.toInt < 800) → (0 ≤ (T.1 3 u.toNatClampNeg).toInt ∧ 6 * (p : Int) + (T.1 3 u.toNatClampNeg).toInt = R) → row.toInt = x → w.toInt = v → KVA S a → KVB T t → ((a.1 62 1).toInt = (x : Int) + 1 ∧ (a.1 62 0).toInt = 502 ∧ x < 502) → (t.1 0 46).toInt = (v : Int) + 1 → NEWA x a → NEWB v 7 t → QT (f_X11_go t) (fun b => GOF t a b (1000 + (L + 1 : Nat) - 2 * ((x : Int) + 1))) → QT (rF xA row lev a) (fun qa => QT (rp P32 u dp w t) (fun qb => VOUT L (PPO p S T L R m x v a t) qa qb.1))
theorem ab_parts {rF rI : Int32 → Int32 → Int32 → ST → Option (Int32 × ST)} {rV : Int32 → Int32 → Int32 → Int32 → ST → Option (Int32 × ST)} {ri rp : Int32 → Int32 → Int32 → Int32 → ST → Option ((Int32 × ST) × Nat)} {rv : Int32 → Int32 → Int32 → Int32 → Int32 → ST → Option ((Int32 × ST) × Nat)} {p : Nat} {rm : Int} {S T : ST} (hV : VTP p rm S T rV rv) (hN : NUV rv) : PTP p rm S T (f_X8_parseFields rF rI rV) (f_X11_parts ri rp rv) := by
  have l0 := li_0
  have l6 := li_6
  have l125 : (125 : Int32).toInt = 125 := by decide
  intro L R m x v lev dp xA u row w P32 a t hL hlev hdp hP hp6 hR hxA hu ⟨hT3, hT3R⟩ hr hw kA kB ⟨a1, a0, hx⟩ ht hNA hNB hgo
  have hR36 := hR.1
  unfold f_X8_parseFields f_X11_parts f_X8_parseFields_20 f_X11_parts_31
  refine QT.sw ?_
  refine QT.grd (fun _ => ?_)
  refine QT.bnd hgo (fun b hb => ?_)
  have kb := hb.2.1
  have hX := hb.2.2.1
  have hu9 := hb.2.2.2
  have hK := hX.1.2.2.1
  have b46 : (b.1 0 46).toInt = (v : Int) + 1 := by rw [hb.1.2.1]; exact ht
  have t3 : t.1 3 = T.1 3 := (kB.t).1.2.1
  rw [t3]
  have hxB : ((6 * P32) + T.1 3 u.toNatClampNeg).toInt = R := by
    have e1 := mlE (k := 6) (y := P32) 6 l6 (by omega) (by omega)
    rw [il_addE (by omega) (by omega)]
    omega
  have hNB2 : NEWB v 7 b := by
    unfold NEWB
    rw [hb.1.1 28 (by omega), hb.1.1 29 (by omega), hb.1.1 23 (by omega), hb.1.1 20 (by omega), hb.1.2.2 21 (by omega), hb.1.2.2 22 (by omega)]
    exact hNB
  have hC : ∀ F : Int, 1000 + (L : Int) + 1 ≤ F → CXT S T a b (x + 1) (v + 1) F := fun F hF => ⟨⟨kA, kB.trans kb⟩, hX, ⟨by omega, a0⟩, by omega, by omega, by omega⟩
  have hI : ∀ F : Int, 1000 + (L : Int) + 1 ≤ F → RLI p S T L R m x v a t 0 0 F a b (x + 1) (v + 1) [] := fun F hF => ⟨⟨hC F hF, by omega, by omega⟩, ⟨SUA.rf, hb.sub⟩, ⟨by omega, fun y hy => (by cases hy), fun j _ => ⟨fun h => (by rw [Nat.zero_testBit] at h; cases h), fun ⟨y, hy, _⟩ => (by cases hy)⟩, fun j hj => by omega⟩, kds_0 hNA hNB2, ⟨hNA.2.1, hNA.2.2⟩, ⟨hNB2.2.2.1, hNB2.2.2.2⟩, hNB2.2.1.2⟩
  have z0 : (0 : Int32) = Int32.ofNat 0 := rfl
  refine QT.ieq (fun hs => ?_) (fun hs => ?_)
  · have hk : (a.1 2 4).toInt = 125 := (hK.sg (by omega)).mp (by omega)
    refine QT.sw ?_
    refine QT.ieq (fun _ => ?_) (fun h => by omega)
    exact ab_flds25 hV hN hL hlev hdp hP hR hr hw hxA hxB FU FU 0 0 0 0 a b (x + 1) (v + 1) [] _ l0 rfl (hI _ (by omega)) (.inl ⟨rfl, hk, rfl⟩)
  · refine QT.sw ?_
    refine QT.ieq (fun h => absurd (((hK.sg (by omega)).mpr (h.trans l125)).trans l125.symm) hs) (fun _ => ?_)
    exact ab_flds25 hV hN hL hlev hdp hP hR hr hw hxA hxB FU FU 0 0 1 0 a b (x + 1) (v + 1) [] _ l0 rfl (hI _ (by omega)) (.inr ⟨rfl, rfl⟩)
