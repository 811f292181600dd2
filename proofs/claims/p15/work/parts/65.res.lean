/-! the records that were asked for: both find them, or both do not -/
def AR (σ0 σ : ST) : Prop := (∀ c, c ≠ 32 → σ.1 c = σ0.1 c) ∧ σ.2.1 = σ0.2.1
def B3 (lo : Nat) (τ0 τ : ST) : Prop := (∀ c, c ≠ 3 → τ.1 c = τ0.1 c) ∧ (∀ q, q < lo ∨ ¬ (τ0.1 2 q).toInt = 7 → τ.1 3 q = τ0.1 3 q) ∧ τ.2.1 = τ0.2.1
def D7 (lo j m : Nat) (τ : ST) : Prop := ∀ q : Nat, lo ≤ q → q < j → (τ.1 2 q).toInt = 7 → 0 ≤ (τ.1 3 q).toInt ∧ (τ.1 3 q).toInt < m
/-- the records that are asked for, on both sides, and the rows below are as they were -/
def E7 (P lo j k : Nat) (τ0 σ0 σ τ : ST) : Prop := (∀ q : Nat, lo ≤ q → q < j → (τ.1 2 q).toInt = 7 → (σ.1 32 (q + P - 400)).toInt = 6 * (k : Int) + (τ.1 3 q).toInt) ∧ ∀ i : Nat, (i < lo + P - 400 ∨ ¬ (τ0.1 2 (i + 400 - P)).toInt = 7) → σ.1 32 i = σ0.1 32 i
def RES (P k lo t m : Nat) (σ0 τ0 : ST) (qa qb : Int32 × ST) : Prop := ((0 ≤ qa.1.toInt ∧ qa.1.toInt < 262) ∧ qa.1.toInt < (qa.2.1 20 1).toInt ∧ qb.1.toInt = 0 ∧ ∃ b', B3 lo τ0 b' ∧ CH [] [12] b' qb.2) ∨ (qa.1.toInt = -1 ∧ qb.1.toInt = 1 ∧ AR σ0 qa.2 ∧ B3 lo τ0 qb.2 ∧ D7 lo t m qb.2 ∧ E7 P lo t k τ0 σ0 qa.2 qb.2)
theorem ab_res_loop (P lo t k m : Nat) (pA pB : Int32) (σ0 τ0 : ST) (hp : PB_ P lo t k m σ0 τ0) (h21 : (σ0.1 21 k).toInt = m) (h8 : (τ0.1 8 (6 + k)).toInt = m) (hm : m ≤ 6) (ht : t ≤ 650) (hA : pA.toInt = k) (hB : pB.toInt = 6 + (k : Int)) : ∀ (f g j : Nat) (x2 x3 : Int32) (σ τ : ST), t < f + j → t < g + j → lo ≤ j → j ≤ t → x2.toInt = (j : Int) + P - 400 → x3.toInt = j → AR σ0 σ → B3 lo τ0 τ → D7 lo j m τ → E7 P lo j k τ0 σ0 σ τ → OK (f_X5_resolve_6 20 f pA x2 σ) (fun qa => OK (f_X11_ends_2 g pB x3 τ) (RES P k lo t m σ0 τ0 qa)) := by
  intro f
  have l0 := li_0
  have l1 := li_1
  have l7 := li_7
  have lm := li_m1
  obtain ⟨⟨p1, p2, p3, p4, p5⟩, ⟨p6, p7, pa, pb⟩, p8, p9, pX⟩ := hp
  induction f with
  | zero => intro g j x2 x3 σ τ h1 h2 h3 h4; omega
  | succ f ih =>
    intro g j x2 x3 σ τ hf hg hlo hjt hx2 hx3 hAR hB3 hD hE
    cases g with
    | zero => omega
    | succ g =>
    rw [f_X5_resolve_6, f_X11_ends_2]
    have c20 : (σ.1 20 1).toInt = (t : Int) + P - 400 := by rw [hAR.1 20 (by decide)]; exact p4
    have c34 : (τ.1 0 34).toInt = t := by rw [hB3.1 0 (by decide)]; exact p3
    by_cases hj : j = t
    · subst hj
      refine OK.ile (fun _ => ?_) (fun h => by omega)
      refine OK.ret ?_
      refine OK.ile (fun _ => ?_) (fun h => by omega)
      exact OK.ret (.inr ⟨lm, l1, hAR, hB3, hD, hE⟩)
    refine OK.ile (fun h => by omega) (fun _ => ?_)
    refine OK.bndR (a_isType x2 σ (j + P - 400) (by omega) (by omega) (by omega)) (fun v hv => ?_)
    dsimp only
    refine OK.ieq (fun h => by omega) (fun _ => ?_)
    refine OK.grd ⟨by omega, by omega⟩ ?_
    have n2 : x2.toNatClampNeg = j + P - 400 := nC (by omega)
    have n3 : x3.toNatClampNeg = j := nC hx3
    rw [n2, n3]
    obtain ⟨r1, r2, r3, r4⟩ := p8 j hlo (by omega)
    have e34 : σ.2.1 (20 + 14) (j + P - 400) = σ0.2.1 34 (j + P - 400) := by rw [hAR.2]
    have t2 : τ.1 2 j = τ0.1 2 j := by rw [hB3.1 2 (by decide)]
    have ex2 := il_addE (x := x2) (y := 1) (by omega) (by omega)
    have ex3 := il_addE (x := x3) (y := 1) (by omega) (by omega)
    unfold f_X5_resolve_62 f_X11_ends_59
    by_cases h7 : (τ0.1 2 j).toInt = 7
    · obtain ⟨w, wn⟩ := r2 h7
      rw [if_neg (fun h => wn (by rw [← e34]; exact (lg_cmp_eq _ _).mp h))]
      refine OK.bndR (a_recordNamed pA _ σ k m (by omega) hA (by rw [hAR.1 21 (by decide)]; exact h21) hm) (fun va hva => ?_)
      dsimp only
      have e9 : (stI σ (20 + 12) (j + P - 400) va).1 (20 + 12) = upd (σ.1 (20 + 12)) (j + P - 400) va := rfl
      rw [e9, upd_at]
      refine OK.sw ?_
      refine OK.ile (fun h => by omega) (fun _ => ?_)
      refine OK.grd ⟨by omega, by omega⟩ ?_
      refine OK.ieq (fun _ => ?_) (fun h => by rw [t2] at h; omega)
      refine OK.bndR (bx_recordOf pB _ τ (6 + k) m (by omega) (by omega) (by rw [hB3.1 8 (by decide)]; exact h8) hm) (fun vb hvb => ?_)
      dsimp only
      have e10 : (stI τ 3 j vb).1 3 = upd (τ.1 3) j vb := rfl
      have e11 : (stI τ 3 j vb).1 3 j = vb := by rw [e10, upd_at]
      rw [e11]
      have nms : ∀ i : Nat, i < m → (σ.2.1 24 (6 * k + i) = σ.2.1 (20 + 14) (j + P - 400) ↔ τ.2.1 9 (6 * (6 + k) + i) = τ.2.1 6 j) := fun i hi => by
        have e : 6 * (6 + k) + i = 36 + (6 * k + i) := by omega
        rw [e34, hAR.2, hB3.2.2, e]
        exact (p9 i hi).1.1.iff w
      have b3 : B3 lo τ0 (stI τ 3 j vb) := ⟨fun c hc => by rw [stI_ne hc]; exact hB3.1 c hc, fun q hq => by rw [e10, upd_no (fun e => by subst e; exact hq.elim (fun h => by omega) (fun h => h h7))]; exact hB3.2.1 q hq, hB3.2.2⟩
      have ar : AR σ0 (stI σ (20 + 12) (j + P - 400) va) := ⟨fun c hc => by rw [stI_ne hc]; exact hAR.1 c hc, hAR.2⟩
      by_cases hex : ∃ i : Nat, i < m ∧ τ.2.1 9 (6 * (6 + k) + i) = τ.2.1 6 j
      · have hsame : va.toInt = 6 * (k : Int) + vb.toInt := by
          rcases hva with hv | ⟨ia, hia, ea, hv⟩
          · obtain ⟨i, hi, e⟩ := hex
            exact absurd ((nms i hi).mpr e) (hv.2 i hi)
          rcases hvb with hw | ⟨ib, hib, eb, hw⟩
          · obtain ⟨i, hi, e⟩ := hex
            exact absurd e (hw.2 i hi)
          have : ia = ib := by
            rcases Nat.lt_trichotomy ia ib with h9 | h9 | h9
            · exact absurd ((nms ia hia).mp ea.1) (eb.2 ia h9)
            · exact h9
            · exact absurd ((nms ib hib).mpr eb.1) (ea.2 ib h9)
          omega
        have hvb0 : 0 ≤ vb.toInt ∧ vb.toInt < m := by
          rcases hvb with hv | ⟨i, hi, _, hv⟩
          · obtain ⟨i, hi, e⟩ := hex
            exact absurd e (hv.2 i hi)
          · omega
        have hva0 : 0 ≤ va.toInt := by
          rcases hva with hv | ⟨i, hi, _, hv⟩
          · obtain ⟨i, hi, e⟩ := hex
            exact absurd ((nms i hi).mpr e) (hv.2 i hi)
          · omega
        clear hva hvb hex
        refine OK.ile (fun _ => ?_) (fun h => by omega)
        refine OK.sw ?_
        refine OK.ieq (fun h => by omega) (fun _ => ?_)
        refine ih g (j + 1) (x2 + 1) (x3 + 1) _ _ (by omega) (by omega) (by omega) (by omega) (by omega) (by omega) ar b3 (fun q h1 h2 h3 => ?_) ⟨fun q h1 h2 h3 => ?_, fun q hq => ?_⟩
        by_cases e : q = j
        · subst e
          rw [e11]
          exact hvb0
        · rw [e10, upd_no e]
          exact hD q h1 (by omega) h3
        · by_cases e : q = j
          · subst e
            rw [e11, e9, upd_at]
            exact hsame
          · rw [e10, upd_no e, e9, upd_no (by omega)]
            exact hE.1 q h1 (by omega) h3
        · rw [e9, upd_no (fun e => by
            rcases hq with hq | hq
            · omega
            · apply hq
              have e5 : q + 400 - P = j := by omega
              rw [e5]
              exact h7)]
          exact hE.2 q hq
      · have hvb1 : vb.toInt = -1 := by
          rcases hvb with hv | ⟨i, hi, e, _⟩
          · exact hv.1
          · exact absurd ⟨i, hi, e.1⟩ hex
        have hva1 : va.toInt = -1 := by
          rcases hva with hv | ⟨i, hi, e, _⟩
          · exact hv.1
          · exact absurd ⟨i, hi, (nms i hi).mp e.1⟩ hex
        clear hva hvb hex
        refine OK.ile (fun h => by omega) (fun _ => ?_)
        refine OK.bndC (b_wrong 3 _ _) (fun v2 s2 c2 hv2 => ?_)
        refine OK.grd (b01 (.inl hv2)) ?_
        refine OK.ret ?_
        refine OK.ieq (fun _ => ?_) (fun h => by omega)
        exact OK.ret (.inl ⟨⟨by show 0 ≤ x2.toInt; omega, by show x2.toInt < 262; omega⟩, by show x2.toInt < (σ.1 20 1).toInt; omega, hv2, _, b3, c2⟩)
    · have a0 := r3 h7
      rw [if_pos ((lg_cmp_eq _ _).mpr (e34.trans a0))]
      refine OK.sw ?_
      refine OK.ile (fun h => by omega) (fun _ => ?_)
      refine OK.grd ⟨by omega, by omega⟩ ?_
      refine OK.ieq (fun h => by rw [t2] at h; omega) (fun _ => ?_)
      refine OK.sw ?_
      refine ih g (j + 1) (x2 + 1) (x3 + 1) σ τ (by omega) (by omega) (by omega) (by omega) (by omega) (by omega) hAR hB3 (fun q h1 h2 h3 => ?_) ⟨fun q h1 h2 h3 => ?_, hE.2⟩
      · by_cases e : q = j
        · subst e
          rw [t2] at h3
          exact absurd h3 h7
        · exact hD q h1 (by omega) h3
      · by_cases e : q = j
        · subst e
          rw [t2] at h3
          exact absurd h3 h7
        · exact hE.1 q h1 (by omega) h3
def RSV (P k lo t m : Nat) (σ0 τ0 : ST) (qa qb : Int32 × ST) : Prop := (qa.1.toInt = 0 ∧ qb.1.toInt = 0 ∧ ∃ b', B3 lo τ0 b' ∧ CH [] [12] b' qb.2) ∨ (qa.1.toInt = 1 ∧ qb.1.toInt = 1 ∧ AR σ0 qa.2 ∧ B3 lo τ0 qb.2 ∧ D7 lo t m qb.2 ∧ E7 P lo t k τ0 σ0 qa.2 qb.2)
theorem ab_resolve (P lo t k m : Nat) (pA pB xl : Int32) (σ τ : ST) (hp : PB_ P lo t k m σ τ) (h21 : (σ.1 21 k).toInt = m) (h8 : (τ.1 8 (6 + k)).toInt = m) (hm : m ≤ 6) (ht : t ≤ 650) (hA : pA.toInt = k) (hB : pB.toInt = 6 + (k : Int)) (hl : xl.toInt = lo) : OK (f_X3_resolve pA σ) (fun qa => OK (f_X11_ends pB xl τ) (RSV P k lo t m σ τ qa)) := by
  unfold f_X3_resolve f_X11_ends f_X5_resolve
  have l0 := li_0
  have l1 := li_1
  have l6 := li_6
  have lm := li_m1
  have lu := FUi
  obtain ⟨⟨p1, p2, p3, p4, p5⟩, ⟨p6, p7, pa, pb⟩, p8, p9, pX⟩ := hp
  have nA : pA.toNatClampNeg = k := nC hA
  have er : f_X5_rootType 20 pA σ = some (σ.1 22 k, σ) := by
    unfold f_X5_rootType
    rw [if_neg (by rw [Int32.lt_iff_toInt_lt]; omega), if_neg (by rw [Int32.le_iff_toInt_le]; omega), if_pos ⟨by omega, by omega⟩, nA]
  rw [er]
  have e1 := il_addE (x := σ.1 22 k) (y := 1) (by omega) (by omega)
  have ef : FU = 99999 + 1 := rfl
  have es : f_X5_resolve_6 20 FU pA (σ.1 22 k) σ = f_X5_resolve_6 20 99999 pA (σ.1 22 k + 1) σ := by
    rw [ef, f_X5_resolve_6]
    obtain ⟨q, eq, hq1, hq2⟩ := a_isType (σ.1 22 k) σ (lo + k - 400) (by omega) (by omega) (by omega)
    have nr : (σ.1 22 k).toNatClampNeg = lo + k - 400 := nC (by omega)
    rw [if_neg (by rw [Int32.le_iff_toInt_le]; omega), eq]
    show (if q.1 = 0 then _ else _) = _
    rw [if_neg (fun e => by rw [e] at hq2; omega), if_pos ⟨by omega, by omega⟩, nr, if_pos ((lg_cmp_eq _ _).mpr (by rw [hq1]; exact p7)), hq1]
    rfl
  obtain ⟨qa, ea, hq⟩ := ab_res_loop P lo t k m pA pB σ τ ⟨⟨p1, p2, p3, p4, p5⟩, ⟨p6, p7, pa, pb⟩, p8, p9, pX⟩ h21 h8 hm ht hA hB 99999 FU lo (σ.1 22 k + 1) xl σ τ (by omega) (by omega) (Nat.le_refl _) p2.2 (by omega) hl ⟨fun _ _ => rfl, rfl⟩ ⟨fun _ _ => rfl, fun _ _ => rfl, rfl⟩ (fun q h1 h2 => by omega) ⟨fun q h1 h2 => by omega, fun _ _ => rfl⟩
  have ee : ((some (σ.1 22 k, σ) : Option (Int32 × ST)).bind fun q1 => f_X5_resolve_6 20 FU pA q1.1 q1.2) = some qa := es.trans ea
  rw [ee]
  refine OK.lt (fun z hz => ?_)
  rw [hz]
  unfold f_X3_resolve_33
  by_cases h1 : qa.1.toInt = -1
  · refine OK.ieq (fun _ => ?_) (fun h => by omega)
    refine OK.ret (hq.mono (fun qb hb => ?_))
    rcases hb with hb | hb
    · have := hb.1.1
      omega
    · exact .inr ⟨l1, hb.2⟩
  · refine OK.ieq (fun h => by omega) (fun _ => ?_)
    obtain ⟨qb, eb, hb⟩ := hq
    have hb : ((0 ≤ qa.1.toInt ∧ qa.1.toInt < 262) ∧ qa.1.toInt < (qa.2.1 20 1).toInt ∧ qb.1.toInt = 0 ∧ ∃ b', B3 lo τ b' ∧ CH [] [12] b' qb.2) := hb.elim id (fun h => absurd h.1 h1)
    obtain ⟨h2, h3, h4⟩ := hb
    have ha : OK (f_X5_askedPlace 20 qa.1 qa.2) (fun _ => True) := by
      unfold f_X5_askedPlace
      refine OK.bndR (a_isType qa.1 qa.2 qa.1.toInt.toNat (by omega) (by omega) (by omega)) (fun v hv => ?_)
      dsimp only
      refine OK.ieq (fun h => by omega) (fun _ => ?_)
      exact OK.grd ⟨by omega, by omega⟩ (OK.ret trivial)
    have hr : ∀ (p0 p1 : Int32) (s : ST), OK (f_X6_refuseAt p0 p1 s) (fun q => q.1.toInt = 0) := fun p0 p1 s => by
      unfold f_X6_refuseAt
      exact OK.ite (fun _ => OK.ret l0) (fun _ => OK.ret l0)
    refine OK.bnd ha (fun q3 _ => ?_)
    refine OK.bnd (hr _ _ _) (fun q5 h5 => ?_)
    refine OK.ieq (fun _ => ?_) (fun h => by omega)
    exact OK.ret ⟨qb, eb, .inl ⟨l0, h4⟩⟩
