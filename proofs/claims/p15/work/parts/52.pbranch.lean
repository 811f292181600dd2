/-! the branches of an either: both read the same ones -/
theorem a_sortOf (p0 : Int32) (σ : ST) (c : Nat) (h : p0.toInt = c) (hc : c < 262) (hn : (c : Int) < (σ.1 20 1).toInt) : OK (f_X5_sortOf 20 p0 σ) (RO σ fun v => v = σ.1 31 c) := by
  unfold f_X5_sortOf
  have l0 := li_0
  have nc : p0.toNatClampNeg = c := nC h
  refine OK.bndR (a_isType p0 σ c h hc hn) (fun v hv => ?_)
  dsimp only
  refine OK.ieq (fun h => by omega) (fun _ => ?_)
  refine OK.grd ⟨by omega, by omega⟩ ?_
  rw [nc]
  exact OK.roret rfl
theorem a_setBranchAfter (p0 p1 : Int32) (σ : ST) (c : Nat) (h : p0.toInt = c) (hc : c < 262) (hn : (c : Int) < (σ.1 20 1).toInt) : f_X5_setBranchAfter 20 p0 p1 σ = some (stI σ 33 c p1) := by
  unfold f_X5_setBranchAfter
  obtain ⟨⟨v, s⟩, e, e2, hv⟩ := a_isType p0 σ c h hc hn
  have e2 : s = σ := e2
  subst e2
  have hv : v.toInt = 1 := hv
  have l0 := li_0
  have nc : p0.toNatClampNeg = c := nC h
  rw [e]
  show (if v = 0 then some s else if 0 ≤ p0.toInt ∧ p0.toInt < 262 then some (stI s (20 + 13) p0.toNatClampNeg p1) else none) = _
  rw [if_neg (fun e9 => by rw [e9] at hv; omega), if_pos ⟨by omega, by omega⟩, nc]
/-- what the branches so far are -/
def BI (P t t1 m d : Nat) (σ τ : ST) : Prop := (τ.1 2 t).toInt = 8 ∧ (τ.1 4 t).toInt = m ∧ σ.1 31 (t + P - 400) = τ.1 2 t ∧ σ.2.1 34 (t + P - 400) = 0 ∧ (∀ k : Nat, k < m → VD (t + 1) t1 (τ.1 2) (τ.1 3) (τ.1 4) (τ.1 5) d (τ.1 5 (4 * t + k)) ∧ ¬ (τ.1 2 (τ.1 5 (4 * t + k)).toNatClampNeg).toInt = 8) ∧ (∀ j k : Nat, j < k → k < m → ¬ (τ.1 2 (τ.1 5 (4 * t + j)).toNatClampNeg).toInt = (τ.1 2 (τ.1 5 (4 * t + k)).toNatClampNeg).toInt) ∧ (1 ≤ m → (σ.1 32 (t + P - 400)).toInt = (τ.1 5 (4 * t)).toInt + P - 400) ∧ RWS P (t + 1) t1 σ τ
/-- how the branches so far hang together; the last one's row -/
def BX (P t t1 m : Nat) (xl : Int32) (σ τ : ST) : Prop := RX P (t + 1) t1 σ τ ∧ (σ.1 33 (t + P - 400)).toInt = -1 ∧ (∀ k : Nat, k < m → (t : Int) < (τ.1 5 (4 * t + k)).toInt ∧ (τ.1 5 (4 * t + k)).toInt < t1 ∧ (k + 1 < m → (τ.1 5 (4 * t + k)).toInt + P - 400 < xl.toInt ∧ (σ.1 33 ((τ.1 5 (4 * t + k)).toNatClampNeg + P - 400)).toInt = (τ.1 5 (4 * t + k + 1)).toInt + P - 400) ∧ (k + 1 = m → xl.toInt = (τ.1 5 (4 * t + k)).toInt + P - 400 ∧ (σ.1 33 ((τ.1 5 (4 * t + k)).toNatClampNeg + P - 400)).toInt = -1)) ∧ (∀ j k : Nat, t < j → j < t1 → (j : Int) + P - 400 < xl.toInt → (τ.1 2 j).toInt = 8 → (k : Int) < (τ.1 4 j).toInt → (τ.1 5 (4 * j + k)).toInt + P - 400 < xl.toInt)
/-- the branches are all: the type is there -/
theorem BI.ts {P t t1 m d : Nat} {σ0 τ0 σ τ : ST} {xA xB xl : Int32} (h : BI P t t1 m d σ τ) (hx : BX P t t1 m xl σ τ) (hm : 1 ≤ m ∧ m ≤ 4) (ht : 400 ≤ t ∧ t < t1) (hA : xA.toInt = (t : Int) + P - 400) (hB : xB.toInt = t) (hc : (τ.1 0 34).toInt = t1 ∧ (σ.1 20 1).toInt = (t1 : Int) + P - 400) (hF : FA (t + P - 400) σ0 σ) (hX : LX σ τ) (hL : (∀ c, c ∉ [0, 6] → τ.2.1 c = τ0.2.1 c) ∧ ∀ j, j < t → τ.2.1 6 j = τ0.2.1 6 j) (h4 : 4 * ((t1 : Int) - 400) ≤ (τ.1 0 4).toInt + 1) (h5 : (τ.1 0 6).toInt = 1 → 4 * ((t1 : Int) - 400) ≤ (τ.1 0 4).toInt) : TS P t (d + 1) 8 σ0 τ0 xA σ xB τ := by
  obtain ⟨b1, b2, b3, b4, b5, b6, b7, b8⟩ := h
  refine ⟨t1, ⟨hA, hB, ht.2, hc.1, hc.2⟩, hF, hX, hL, ?_, ?_, b1, h4, h5, ?_, hx.2.1⟩
  · intro j hj1 hj2
    by_cases e : j = t
    · subst e
      exact ⟨b3, fun h => by omega, fun _ => b4, fun _ => b7 hm.1, by omega⟩
    · exact b8 j (by omega) hj2
  · have nx : xB.toNatClampNeg = t := nC hB
    refine ⟨by omega, by rw [nx]; omega, fun h => by rw [nx] at h; omega, fun _ => ?_⟩
    rw [nx]
    refine ⟨by omega, fun k hk => ⟨?_, (b5 k (by omega)).2⟩, fun j k hjk hk => b6 j k hjk (by omega)⟩
    exact VD.ext (by omega) (by omega) (Int.le_refl _) (fun j _ _ => ⟨rfl, fun _ => rfl, rfl, fun _ _ => rfl⟩) _ _ (b5 k (by omega)).1
  · intro j hj1 hj2
    by_cases e : j = t
    rotate_left
    · exact hx.1 j (by omega) hj2
    subst e
    refine ⟨fun h => by omega, fun h => absurd b1 h, fun _ k hk => ?_⟩
    obtain ⟨x1, x2, x3, x4⟩ := hx.2.2.1 k (by omega)
    exact ⟨⟨x1, x2⟩, fun h => (x3 (by omega)).2, fun h => (x4 (by omega)).2⟩
theorem LX.at {σ τ : ST} (h : LX σ τ) : (τ.1 0 4).toInt ≤ 1001 := by
  obtain ⟨_, hn2, _, pp, ss, hpp, hss, hTT⟩ := h
  have n2 := hn2.2
  have e4 := hTT.1
  have hl := hTT.left hn2 hpp hss
  have hl1 := hl.1.2
  rcases hTT.2 with h | h | h | h | h
  · omega
  · have hL := h.1
    have hlt := (bt_rng (T := τ.1 1) (n := (τ.1 0 3).toInt) (k := ss)).2.2.mp (by unfold isL at hL; omega)
    clear h; omega
  · have hD := h.1
    have hlt := (bt_rng (T := τ.1 1) (n := (τ.1 0 3).toInt) (k := ss)).2.2.mp (by unfold isD at hD; omega)
    clear h; omega
  · have h34 := h.1
    have hlt := (bt_rng (T := τ.1 1) (n := (τ.1 0 3).toInt) (k := ss)).2.2.mp (by omega)
    clear h; omega
  · have h9 := h.1.1
    have hlt := (bt_rng (T := τ.1 1) (n := (τ.1 0 3).toInt) (k := ss)).2.2.mp h9
    clear h; omega
theorem BI.ext {P t t1 m d : Nat} {σ τ a b : ST} (h : BI P t t1 m d σ τ) (a1 : a.1 31 = σ.1 31) (a2 : a.1 32 = σ.1 32) (a3 : a.2.1 34 = σ.2.1 34) (b2 : b.1 2 = τ.1 2) (b3 : b.1 3 = τ.1 3) (b4 : b.1 4 = τ.1 4) (b5 : b.1 5 = τ.1 5) (b6 : b.2.1 6 = τ.2.1 6) : BI P t t1 m d a b := by
  unfold BI RWS at h ⊢
  simp only [a1, a2, a3, b2, b3, b4, b5, b6]
  exact h
theorem BX.ext {P t t1 m : Nat} {xl : Int32} {σ τ a b : ST} (h : BX P t t1 m xl σ τ) (a1 : a.1 32 = σ.1 32) (a2 : a.1 33 = σ.1 33) (b2 : b.1 2 = τ.1 2) (b3 : b.1 3 = τ.1 3) (b4 : b.1 4 = τ.1 4) (b5 : b.1 5 = τ.1 5) : BX P t t1 m xl a b := by
  unfold BX RX at h ⊢
  rw [a1, a2, b2, b3, b4, b5]
  exact h
def BLP (P t : Nat) (lev x4 xB : Int32) (σ0 τ0 τ : ST) (qa : Int32 × ST) (qb : (Int32 × ST) × Nat) : Prop := FG t τ0 qb.1.2 ∧ ((qa.1.toInt = 0 ∧ qb.1.1.toInt = 0 ∧ qb.2 + 40 * uT qb.1.2 ≤ 40 * uT τ + 23) ∨ (qa.1.toInt = 1 ∧ qb.1.1.toInt = 1 ∧ TS P t (4 - lev.toInt).toNat 8 σ0 τ0 x4 qa.2 xB qb.1.2 ∧ qb.2 + 40 * uT qb.1.2 ≤ 40 * uT τ))
theorem ab_br_loop {N : Nat} {rbA rtA : Int32 → Int32 → ST → Option (Int32 × ST)} {rbB rtB : Int32 → Int32 → ST → Option ((Int32 × ST) × Nat)} (ht : cTY N rtA rtB) (P t : Nat) (lev xA xB : Int32) (σ0 τ0 : ST) (h400 : 400 ≤ t) (hlev : 0 ≤ lev.toInt ∧ lev.toInt ≤ 3) (hxA : xA.toInt = (t : Int) + P - 400) (hxB : xB.toInt = t) (hN : 2 * (4 - lev.toInt) ≤ (N : Int)) : ∀ (f m w t1 : Nat) (x3 xl x5 : Int32) (σ τ : ST), 6 < f + m → m ≤ 4 → PRE P t1 σ τ → t < t1 → x3 = Int32.ofNat w → x5.toInt = m → (m = 0 ∧ xl.toInt = -1 ∨ 1 ≤ m ∧ (t : Int) + P - 400 < xl.toInt ∧ xl.toInt < (t1 : Int) + P - 400) → MK w xB t1 τ → BI P t t1 m (3 - lev.toInt).toNat σ τ → BX P t t1 m xl σ τ → FA (t + P - 400) σ0 σ → FG t τ0 τ → ((∀ c, c ∉ [0, 6] → τ.2.1 c = τ0.2.1 c) ∧ ∀ j, j < t → τ.2.1 6 j = τ0.2.1 6 j) → OK (f_X3_parseBranches_10 rbA rtA f xA lev x3 xl x5 σ) (fun qa => OK (f_X11_branches_2 rbB rtB f xB lev 1 τ) (BLP P t lev xA xB σ0 τ0 τ qa)) := by
  intro f
  induction f with
  | zero => intro m w t1 x3 xl x5 σ τ h1 h2; omega
  | succ f ih =>
    intro m w t1 x3 xl x5 σ τ hf hm4 hpre htt hx3 hx5 hxl hMK hBI hBX hFA hFG hLL
    have lm := li_m1
    have l0 := li_0
    have l1 := li_1
    have l4 := li_4
    have l6 := li_6
    have elev := il_addE (x := lev) (y := 1) (by omega) (by omega)
    have e51 := il_addE (x := x5) (y := 1) (by omega) (by omega)
    have hty := ht P t1 w (lev + 1) x3 xB σ τ hpre (by omega) hx3 hMK (by omega)
    have ed : (4 - (lev + 1).toInt).toNat = (3 - lev.toInt).toNat := by omega
    have ed2 : (4 - lev.toInt).toNat = (3 - lev.toInt).toNat + 1 := by omega
    obtain ⟨hP, ⟨ht0, hcB, hcA⟩, hLX, hb4, hb2⟩ := hpre
    have hK := hLX.2.2.1
    have rng := sv_rng hK
    have nB : xB.toNatClampNeg = t := nC hxB
    rw [f_X3_parseBranches_10, f_X11_branches_2]
    refine OK.ilt (fun h => by omega) (fun _ => ?_)
    refine OK.sw ?_
    refine OK.ieq (fun h => by omega) (fun _ => ?_)
    refine OK.sw ?_
    refine OK.bnd2 hty (fun qa qb hq => ?_)
    obtain ⟨fq, hq⟩ := hq
    have FGq : FG t τ0 qb.1.2 := hFG.trans fq (by omega)
    rcases hq with ⟨qa0, qb0, qc⟩ | ⟨g, hTS, qc⟩
    · refine OK.ieq (fun _ => ?_) (fun h => by omega)
      refine OK.ret ?_
      refine OK.kac ?_
      refine OK.ile (fun h => by omega) (fun _ => ?_)
      exact OK.ret ⟨FGq, .inl ⟨l0, l0, by show qb.2 + 0 + 40 * uT qb.1.2 ≤ _; omega⟩⟩
    -- one more branch
    obtain ⟨t2, ⟨i1, i2, i3, i4, i5⟩, iF, iX, iL, iR, iV, iS, iB, iB2, iRX, i33⟩ := hTS
    rw [ed] at iV
    obtain ⟨hw, hMK⟩ := hMK
    obtain ⟨g1, _, g3, gb⟩ := g
    rcases hMK with ⟨h9, _⟩ | ⟨hp1, w8, m', hm', _, hpc, hbr, hbit⟩
    · omega
    obtain ⟨B1, B2, B3, B4, B5, B6, B7, B8⟩ := hBI
    rw [nB] at hm' hbr hbit
    have em : m' = m := by omega
    subst em
    have hm3 : m' ≤ 3 := by omega
    have s8 : SV σ < 8 := by
      by_cases e : SV σ = 8
      · have e8 : (SV σ).toNat = 8 := by omega
        rw [e8, w8] at gb
        cases gb
      · omega
    have hat := iX.at
    have t250 : t2 ≤ 650 := by omega
    have eo : kwV 6 = v_or := rfl
    have q4 : (qb.1.2.1 4 t).toInt = m' := by rw [(fq.2.2.1 t (by omega)).2.2]; exact B2
    have q2 : qb.1.2.1 2 t = τ.1 2 t := (fq.2.2.1 t (by omega)).1
    have rA := iF.2.2.2 (t + P - 400) (by omega)
    have q5 : ∀ k : Nat, k < 4 → qb.1.2.1 5 (4 * t + k) = τ.1 5 (4 * t + k) := fun k hk => fq.2.2.2.1 _ (by omega)
    have srt1 : qa.2.1 31 (t1 + P - 400) = qb.1.2.1 2 t1 := (iR t1 (Nat.le_refl _) i3).1
    have cont : ∀ a3 : ST, (∀ c, c ∉ [32, 33] → a3.1 c = qa.2.1 c) → a3.2.1 = qa.2.2.1 → (∀ i, i ≠ t + P - 400 → a3.1 32 i = qa.2.1 32 i) → (m' = 0 → a3.1 32 (t + P - 400) = qa.1) → (1 ≤ m' → a3.1 32 (t + P - 400) = qa.2.1 32 (t + P - 400)) → (m' = 0 → a3.1 33 = qa.2.1 33) → (1 ≤ m' → a3.1 33 = upd (qa.2.1 33) xl.toNatClampNeg qa.1) → OK (f_X3_parseBranches_64 rbA rtA (f_X3_parseBranches_10 rbA rtA f) xA lev x3 x5 qa.1 a3) (fun u => OK (ac qb.2 (if 0 ≤ qb.1.1 then (if 0 ≤ xB.toInt ∧ xB.toInt < 800 then (if 0 ≤ ((4 * xB) + (qb.1.2.1 4 xB.toNatClampNeg)).toInt ∧ ((4 * xB) + (qb.1.2.1 4 xB.toNatClampNeg)).toInt < 3200 then ((some (stI (stI qb.1.2 5 ((4 * xB) + (qb.1.2.1 4 xB.toNatClampNeg)).toNatClampNeg qb.1.1) 4 xB.toNatClampNeg (((stI qb.1.2 5 ((4 * xB) + (qb.1.2.1 4 xB.toNatClampNeg)).toNatClampNeg qb.1.1).1 4 xB.toNatClampNeg) + 1))).bind fun z5 => if (z5.1 4 xB.toNatClampNeg) = 1 then ((f_X11_isOr z5).bind fun q6 => ac q6.2 (if q6.1.1 = 0 then ((f_X11_wrongHere 1 q6.1.2).bind fun q8 => if q8.1 = 0 ∨ q8.1 = 1 then some ((q8.1, q8.2), 0) else none) else (f_X11_branches_73 rbB rtB (f_X11_branches_2 rbB rtB f) xB lev q6.1.2))) else (f_X11_branches_73 rbB rtB (f_X11_branches_2 rbB rtB f) xB lev z5)) else none) else none) else (some ((0, qb.1.2), 0)))) (BLP P t lev xA xB σ0 τ0 τ u)) := by
      intro a3 hc3 hl3 h32 hm0 hm1 h330 h331
      refine OK.sw ?_
      refine OK.kac ?_
      refine OK.ile (fun _ => ?_) (fun h => by omega)
      refine OK.grd ⟨by omega, by omega⟩ ?_
      rw [nB]
      have e4x := mlE (k := 4) (y := xB) 4 l4 (by omega) (by omega)
      have e5x := il_addE (x := 4 * xB) (y := qb.1.2.1 4 t) (by omega) (by omega)
      have n5 : (4 * xB + qb.1.2.1 4 t).toNatClampNeg = 4 * t + m' := nC (by omega)
      refine OK.grd ⟨by omega, by omega⟩ ?_
      rw [n5]
      have em1 := il_addE (x := qb.1.2.1 4 t) (y := 1) (by omega) (by omega)
      refine OK.lt (fun z hz => ?_)
      have z2 : z.1 2 = qb.1.2.1 2 := by rw [hz]; rfl
      have z3 : z.1 3 = qb.1.2.1 3 := by rw [hz]; rfl
      have z4 : z.1 4 = upd (qb.1.2.1 4) t (qb.1.2.1 4 t + 1) := by rw [hz]; rfl
      have z5 : z.1 5 = upd (qb.1.2.1 5) (4 * t + m') qb.1.1 := by rw [hz]; rfl
      have z0 : z.1 0 = qb.1.2.1 0 := by rw [hz]; rfl
      have z1 : z.1 1 = qb.1.2.1 1 := by rw [hz]; rfl
      have zL : z.2.1 = qb.1.2.2.1 := by rw [hz]; rfl
      have zF : FG t qb.1.2 z := by
        refine ⟨fun c hc => ?_, fun i _ => by rw [z0], fun j hj => ⟨by rw [z2], by rw [z3], by rw [z4, upd_no (by omega)]⟩, fun j hj => by rw [z5, upd_no (by omega)], L5.eq zL⟩
        simp only [List.mem_cons, List.not_mem_nil, or_false, not_or] at hc
        rw [hz, stI_ne hc.2.2.2.1, stI_ne hc.2.2.2.2.1]
      clear hz
      have FGz : FG t τ0 z := FGq.trans zF (Nat.le_refl _)
      have uz : uT z = uT qb.1.2 := uT_eq (by rw [z0]) (by rw [z0]) (by rw [z0])
      have LXz : LX a3 z := iX.ext (hc3 1 (by decide)) (hc3 2 (by decide)) (by rw [hl3]) (by rw [hl3]) z1 (fun i _ => by rw [z0]) (by rw [zL])
      have zm : (z.1 4 t).toInt = ((m' + 1 : Nat) : Int) := by rw [z4, upd_at]; omega
      have zt : ∀ k : Nat, k < m' → z.1 5 (4 * t + k) = τ.1 5 (4 * t + k) := fun k hk => by rw [z5, upd_no (by omega)]; exact q5 k (by omega)
      have zv : z.1 5 (4 * t + m') = qb.1.1 := by rw [z5, upd_at]
      have n1 : qb.1.1.toNatClampNeg = t1 := nC i2
      have srt : ∀ k : Nat, k < m' → (z.1 2 (τ.1 5 (4 * t + k)).toNatClampNeg) = τ.1 2 (τ.1 5 (4 * t + k)).toNatClampNeg := fun k hk => by
        have r := (B5 k hk).1.rng
        have n9 := nN_ (x := τ.1 5 (4 * t + k)) (by omega)
        rw [z2]
        exact (fq.2.2.1 _ (by omega)).1
      have h33 : ∀ i : Nat, (1 ≤ m' → ¬ (i : Int) = xl.toInt) → a3.1 33 i = qa.2.1 33 i := fun i hi => by
        by_cases e : m' = 0
        · rw [h330 e]
        · have n9 := nN_ (x := xl) (by omega)
          have hi := hi (by omega)
          rw [h331 (by omega), upd_no (by omega)]
      have c3A : FA (t + P - 400) σ0 a3 := by
        refine (hFA.trans iF (by omega)).trans (c1 := t + P - 400) ⟨fun c hc => ?_, fun i hi => by rw [hc3 20 (by decide)], fun c _ => by rw [hl3], fun i hi => ⟨by rw [hc3 31 (by decide)], h32 i (by omega), by rw [hl3], h33 i (fun h9 => by have := nN_ (x := xl) (by omega); omega)⟩⟩ (Nat.le_refl _)
        simp only [List.mem_cons, List.not_mem_nil, or_false, not_or] at hc
        exact hc3 c (by simp only [List.mem_cons, List.not_mem_nil, or_false, not_or]; exact ⟨hc.2.2.2.1, hc.2.2.2.2.1⟩)
      have lLz : (∀ c, c ∉ [0, 6] → z.2.1 c = τ0.2.1 c) ∧ ∀ j, j < t → z.2.1 6 j = τ0.2.1 6 j := ⟨fun c hc => by rw [zL, iL.1 c hc, hLL.1 c hc], fun j hj => by rw [zL, iL.2 j (by omega), hLL.2 j hj]⟩
      have BIz : BI P t t2 (m' + 1) (3 - lev.toInt).toNat a3 z := by
        refine ⟨by rw [z2, q2]; exact B1, zm, ?_, ?_, ?_, ?_, ?_, ?_⟩
        · rw [hc3 31 (by decide), rA.1, z2, q2]
          exact B3
        · rw [hl3, rA.2.2.1]
          exact B4
        · intro k hk
          by_cases e : k = m'
          · subst e
            rw [zv, n1, z2]
            refine ⟨VD.ext (by omega) (by omega) (Int.le_refl _) (fun j hj1 hj2 => ⟨rfl, fun _ => by rw [z3], by rw [z4, upd_no (by omega)], fun i hi => by rw [z5, upd_no (by omega)]⟩) _ _ iV, by omega⟩
          · rw [zt k (by omega), srt k (by omega)]
            refine ⟨VD.ext (by omega) (Int.le_refl _) (by omega) (fun j hj1 hj2 => ?_) _ _ (B5 k (by omega)).1, (B5 k (by omega)).2⟩
            have r := fq.2.2.1 j (by omega)
            exact ⟨by rw [z2, r.1], fun _ => by rw [z3, r.2.1], by rw [z4, upd_no (by omega), r.2.2], fun i hi => by rw [z5, upd_no (by omega)]; exact fq.2.2.2.1 _ (by omega)⟩
        · intro j k hjk hk
          by_cases e : k = m'
          · subst e
            rw [zv, n1, zt j hjk, srt j hjk, z2, iS]
            intro h9
            have e7 : (SV σ).toNat < 8 := by omega
            have := (hbit (SV σ).toNat e7).mpr ⟨j, hjk, by omega⟩
            rw [gb] at this
            cases this
          · rw [zt k (by omega), srt k (by omega), zt j (by omega), srt j (by omega)]
            exact B6 j k hjk (by omega)
        · intro _
          by_cases e : m' = 0
          · rw [hm0 e]
            have zv' := zv
            rw [e] at zv'
            have zv' : z.1 5 (4 * t) = qb.1.1 := zv'
            rw [zv']
            omega
          · have e0 := zt 0 (by omega)
            have e0 : z.1 5 (4 * t) = τ.1 5 (4 * t) := e0
            rw [hm1 (by omega), rA.2.1, e0]
            exact B7 (by omega)
        · intro j hj1 hj2
          by_cases e : j < t1
          · obtain ⟨x1, x2, x3', x4'⟩ := B8 j hj1 e
            have rj := fq.2.2.1 j e
            have ra := iF.2.2.2 (j + P - 400) (by omega)
            have e5 : z.1 5 (4 * j) = τ.1 5 (4 * j) := by rw [z5, upd_no (by omega)]; exact fq.2.2.2.1 _ (by omega)
            have e4 : z.1 4 j = τ.1 4 j := by rw [z4, upd_no (by omega)]; exact rj.2.2
            rw [hc3 31 (by decide), hl3, h32 _ (by omega), zL, z2, e5, e4, rj.1, ra.1, ra.2.1, ra.2.2.1, iL.2 j e]
            exact ⟨x1, x2, x3', x4'⟩
          · obtain ⟨x1, x2, x3', x4'⟩ := iR j (by omega) hj2
            have e5 : z.1 5 (4 * j) = qb.1.2.1 5 (4 * j) := by rw [z5, upd_no (by omega)]
            have e4 : z.1 4 j = qb.1.2.1 4 j := by rw [z4, upd_no (by omega)]
            rw [hc3 31 (by decide), hl3, h32 _ (by omega), zL, z2, e5, e4]
            exact ⟨x1, x2, x3', x4'⟩
      have BXz : BX P t t2 (m' + 1) qa.1 a3 z := by
        obtain ⟨X1, X2, X3, X4⟩ := hBX
        have zo : ∀ j : Nat, t < j → z.1 4 j = qb.1.2.1 4 j ∧ ∀ k : Nat, k < 4 → z.1 5 (4 * j + k) = qb.1.2.1 5 (4 * j + k) := fun j hj => ⟨by rw [z4, upd_no (by omega)], fun k hk => by rw [z5, upd_no (by omega)]⟩
        have old : ∀ i : Nat, i < t1 + P - 400 → (1 ≤ m' → ¬ (i : Int) = xl.toInt) → a3.1 33 i = σ.1 33 i := fun i h1 h2 => (h33 i h2).trans (iF.2.2.2 i h1).2.2.2
        refine ⟨RX.join (t := t1) (X1.ext0 (fun j h1 h2 => (B8 j h1 h2).2.2.2.2.2) (fun j h1 h2 _ => ?_) (fun j k h1 h2 h8 hk y1 y2 => ?_) (fun j h1 h2 => ?_)) (iRX.ext0 (fun j h1 h2 => (iR j h1 h2).2.2.2.2.2) (fun j h1 h2 _ => h32 _ (by omega)) (fun j k h1 h2 h8 hk y1 y2 => ?_) (fun j h1 h2 => ?_)) (by omega), ?_, fun k hk => ?_, fun j k h1 h2 h3 h8 hk => ?_⟩
        · rw [h32 _ (by omega)]
          exact (iF.2.2.2 (j + P - 400) (by omega)).2.1
        · have n9 := nN_ (x := τ.1 5 (4 * j + k)) (by omega)
          refine old _ (by omega) (fun hm => ?_)
          by_cases e : (j : Int) + P - 400 < xl.toInt
          · have := X4 j k (by omega) h2 e h8 hk
            omega
          · omega
        · have rj := fq.2.2.1 j h2
          obtain ⟨o1, o2⟩ := zo j (by omega)
          refine ⟨by rw [z2, rj.1], fun _ => by rw [z3, rj.2.1], by rw [o1, rj.2.2], fun k hk => ?_⟩
          rw [o2 k hk]
          exact fq.2.2.2.1 _ (by omega)
        · have n9 := nN_ (x := qb.1.2.1 5 (4 * j + k)) (by omega)
          exact h33 _ (fun hm => by omega)
        · obtain ⟨o1, o2⟩ := zo j (by omega)
          exact ⟨by rw [z2], fun _ => by rw [z3], o1, o2⟩
        · rw [old _ (by omega) (fun hm => by omega)]
          exact X2
        · by_cases e : k = m'
          · subst e
            rw [zv, n1]
            refine ⟨by omega, by omega, fun h => by omega, fun _ => ⟨by omega, ?_⟩⟩
            rw [h33 _ (fun hm => by omega)]
            exact i33
          · obtain ⟨x1, x2, x3, x4⟩ := X3 k (by omega)
            have n9 := nN_ (x := τ.1 5 (4 * t + k)) (by omega)
            rw [zt k (by omega)]
            refine ⟨x1, by omega, fun _ => ⟨by omega, ?_⟩, fun h => by omega⟩
            by_cases e2 : k + 1 = m'
            · obtain ⟨y1, y2⟩ := x4 e2
              have e3 : 4 * t + k + 1 = 4 * t + m' := by omega
              have e4 : xl.toNatClampNeg = (τ.1 5 (4 * t + k)).toNatClampNeg + P - 400 := nC (by omega)
              rw [e3, zv, h331 (by omega), e4, upd_at]
              omega
            · obtain ⟨y1, y2⟩ := x3 (by omega)
              have e3 := zt (k + 1) (by omega)
              rw [← Nat.add_assoc] at e3
              rw [e3, old _ (by omega) (fun hm => by omega)]
              exact y2
        · have hj1 : j < t1 := by omega
          have rj := fq.2.2.1 j hj1
          obtain ⟨o1, o2⟩ := zo j (by omega)
          rw [z2, rj.1] at h8
          rw [o1, rj.2.2] at hk
          have hk4 := (B8 j (by omega) hj1).2.2.2.2.2
          rw [o2 k (by omega), fq.2.2.2.1 _ (by omega)]
          have := ((X1 j (by omega) hj1).2.2 h8 k hk).1
          omega
      have hKz := LXz.2.2.1
      have c20 : (a3.1 20 1).toInt = (t2 : Int) + P - 400 := by rw [hc3 20 (by decide)]; exact i5
      have c34 : (z.1 0 34).toInt = t2 := by rw [z0]; exact i4
      have at0 : z.1 0 4 = qb.1.2.1 0 4 := by rw [z0]
      have tk0 : z.1 0 6 = qb.1.2.1 0 6 := by rw [z0]
      rw [← at0] at iB iB2
      rw [← tk0] at iB2
      -- the class: its sort, and whether one more comes
      refine OK.sw ?_
      unfold f_X3_parseBranches_64 f_X3_parseBranches_110
      refine OK.bndR (a_sortOf qa.1 a3 (t1 + P - 400) (by omega) (by omega) (by omega)) (fun sv hsv => ?_)
      dsimp only
      have hsv2 : sv.toInt = SV σ := by rw [hsv, hc3 31 (by decide), srt1]; exact iS
      refine OK.bndR (a_isKeyword 6 a3 z hKz (k := 6) (by omega) l6) (fun u hu => ?_)
      dsimp only
      rw [eo] at hu
      -- the reference goes on, or ends
      have more : W_ z v_or → ∀ xc : Nat, xc ≤ 1 → OK ((f_X6_advance a3).bind fun q5 => f_X3_parseBranches_10 rbA rtA f xA lev (x3 ||| (1 <<< (sv &&& 31))) qa.1 (x5 + 1) q5) (fun v => OK (f_X11_branches_73 rbB rtB (f_X11_branches_2 rbB rtB f) xB lev z) (fun y => BLP P t lev xA xB σ0 τ0 τ v (y.1, qb.2 + (xc + y.2)))) := by
        intro hW xc hxc
        have hg : a3.1 2 3 = z.1 0 5 := by
          have w1 := hW.1
          obtain ⟨_, h | h | h | h | h | h⟩ := hKz
          · omega
          · have := h.2.2
            omega
          · exact h.2.2.1
          · omega
          · omega
          · omega
        obtain ⟨sz, hsz, hTz⟩ := LXz.tb
        have hlen := hTz.len hW.1 (k := 6) (by omega) hW.2
        have eM : (kwM 6 : Int) = 2 := by decide
        rw [eM] at hlen
        have u1 : uT z = ((z.1 0 3).toInt - (z.1 0 5).toInt).toNat + 1 := by
          unfold uT
          have w1 := hW.1
          rw [if_neg (by omega)]
        unfold f_X11_branches_73
        refine OK.sw ?_
        refine OK.bndK (b_isOr z) (fun v x hv hx => ?_)
        refine OK.kac ?_
        dsimp only
        have hv1 : v.toInt = 1 := by
          rcases hv with hv | hv
          · exact absurd hW hv.2
          · exact hv.1
        refine OK.ieq (fun h => by omega) (fun _ => ?_)
        have ev : v = 1 := Int32.toInt_inj.mp (by omega)
        subst ev
        refine OK.sw ?_
        refine OK.bnd2 (ab_go a3 z LXz hg) (fun a4 b4 hq => ?_)
        obtain ⟨ca, cb, cL, hLX4, hat4, hadj4, hu4⟩ := hq
        have d2 : b4.1 2 = z.1 2 := cb.1 2 (by decide) (by decide)
        have d3 : b4.1 3 = z.1 3 := cb.1 3 (by decide) (by decide)
        have d4 : b4.1 4 = z.1 4 := cb.1 4 (by decide) (by decide)
        have d5 : b4.1 5 = z.1 5 := cb.1 5 (by decide) (by decide)
        have at4 := iB2 hW.1
        have mo := mk_or w hw (SV σ).toNat (by omega) gb
        have esv : sv = Int32.ofNat (SV σ).toNat := intOf (by omega) (by omega)
        have BI4 : BI P t t2 (m' + 1) (3 - lev.toInt).toNat a4 b4 := BIz.ext (ca.1 31 (by decide)) (ca.1 32 (by decide)) (ca.2.2.1 34 (by decide)) d2 d3 d4 d5 (cL 6 (by decide))
        have BX4 : BX P t t2 (m' + 1) qa.1 a4 b4 := BXz.ext (ca.1 32 (by decide)) (ca.1 33 (by decide)) d2 d3 d4 d5
        have MK4 : MK (w + 2 ^ (SV σ).toNat) xB t2 b4 := by
          refine ⟨mo.2.1, .inr ⟨by omega, ?_, m' + 1, ?_, by omega, by omega, ?_, ?_⟩⟩
          · rw [mo.2.2.2 8 (by omega), w8]
            rfl
          · rw [nB, d4]
            exact zm
          · intro k hk
            rw [nB]
            have r := (BI4.2.2.2.2.1 k hk).1.rng
            omega
          · intro s hs
            rw [nB, mo.2.2.2 s (by omega), d5, d2]
            constructor
            · intro h
              rcases Bool.or_eq_true _ _ ▸ h with h | h
              · obtain ⟨k, hk, ek⟩ := (hbit s hs).mp h
                exact ⟨k, by omega, by rw [zt k hk, srt k hk]; exact ek⟩
              · have e : s = (SV σ).toNat := by simpa using h
                refine ⟨m', by omega, ?_⟩
                rw [zv, n1, z2, iS]
                omega
            · rintro ⟨k, hk, ek⟩
              by_cases e : k = m'
              · rw [e, zv, n1, z2, iS] at ek
                have e2 : s = (SV σ).toNat := by omega
                rw [e2]
                simp
              · rw [zt k (by omega), srt k (by omega)] at ek
                rw [(hbit s hs).mpr ⟨k, by omega, ek⟩]
                rfl
        have hxor : x3 ||| (1 <<< (sv &&& 31)) = Int32.ofNat (w + 2 ^ (SV σ).toNat) := by
          rw [hx3, esv]
          exact mo.1
        refine (ih (m' + 1) (w + 2 ^ (SV σ).toNat) t2 _ qa.1 (x5 + 1) a4 b4 (by omega) (by omega) ⟨hP, ⟨by omega, by rw [cb.2.1 34 (by decide)]; exact c34, by rw [ca.1 20 (by decide)]; exact c20⟩, hLX4, by omega, fun h9 => by have := hadj4 hW.1 h9; omega⟩ (by omega) hxor (by omega) (.inr ⟨by omega, by omega, by omega⟩) MK4 BI4 BX4 (c3A.trans ca.fa (Nat.le_refl _)) (FGz.trans (cb.fg (by decide)) (Nat.le_refl _)) ⟨fun c hc => ?_, fun j hj => ?_⟩).mono2 (fun u y hy => ?_)
        · have hc' := hc
          simp only [List.mem_cons, List.not_mem_nil, or_false, not_or] at hc'
          rw [cL c hc'.1]
          exact lLz.1 c hc
        · rw [cL 6 (by decide)]
          exact lLz.2 j hj
        · obtain ⟨y1, y2⟩ := hy
          refine ⟨y1, ?_⟩
          rcases y2 with ⟨r1, r2, r3⟩ | ⟨r1, r2, r3, r4⟩
          · refine .inl ⟨r1, r2, ?_⟩
            show qb.2 + (xc + (x + y.2)) + 40 * uT y.1.2 ≤ _
            omega
          · refine .inr ⟨r1, r2, r3, ?_⟩
            show qb.2 + (xc + (x + y.2)) + 40 * uT y.1.2 ≤ _
            omega
      refine OK.ieq (fun hu0 => ?_) (fun hu1 => ?_)
      · have hnW : ¬ W_ z v_or := by
          rcases hu with hu | hu
          · exact hu.2
          · omega
        refine OK.ilt (fun hx => ?_) (fun hx => ?_)
        · have hTS : TS P t (4 - lev.toInt).toNat 8 σ0 τ0 xA a3 xB z := by
            rw [ed2]
            exact BIz.ts BXz (by omega) (by omega) hxA hxB ⟨c34, c20⟩ c3A LXz lLz iB iB2
          refine OK.ret ?_
          refine OK.ieq (fun h => by omega) (fun _ => ?_)
          unfold f_X11_branches_73
          refine OK.bndK (b_isOr z) (fun v x hv hx => ?_)
          refine OK.kac ?_
          dsimp only
          refine OK.ieq (fun hv0 => ?_) (fun h => ?_)
          · cases f with
            | zero => omega
            | succ f =>
              rw [f_X11_branches_2]
              refine OK.ieq (fun _ => ?_) (fun h => absurd hv0 h)
              refine OK.ret ⟨FGz, .inr ⟨l1, l1, hTS, ?_⟩⟩
              show qb.2 + (x + 0) + 40 * uT z ≤ _
              omega
          · rcases hv with hv | hv
            · exact absurd hv.1 h
            · exact absurd hv.2 hnW
        · refine OK.bnd (a_refuse _ _) (fun q hq => ?_)
          refine OK.ieq (fun _ => ?_) (fun h => by omega)
          refine OK.ret ?_
          refine OK.ieq (fun _ => ?_) (fun h => by omega)
          refine OK.bndK (b_isOr z) (fun v x hv hx => ?_)
          refine OK.kac ?_
          dsimp only
          refine OK.ieq (fun hv0 => ?_) (fun h => ?_)
          · refine OK.bndC (b_wrongHere 1 z) (fun v2 s2 c2 hv2 => ?_)
            refine OK.grd (b01 (.inl hv2)) ?_
            refine OK.ret ⟨FGz.trans (c2.fg (by decide)) (Nat.le_refl _), .inl ⟨l0, hv2, ?_⟩⟩
            show qb.2 + (x + 0) + 40 * uT s2 ≤ _
            rw [uT_eq (c2.2.1 3 (by decide)) (c2.2.1 5 (by decide)) (c2.2.1 6 (by decide))]
            omega
          · rcases hv with hv | hv
            · exact absurd hv.1 h
            · exact absurd hv.2 hnW
      · have hW : W_ z v_or := by
          rcases hu with hu | hu
          · exact absurd hu.1 hu1
          · exact hu.2
        refine OK.sw ?_
        refine OK.ieq (fun _ => ?_) (fun _ => ?_)
        · refine OK.bndK (b_isOr z) (fun v x hv hx => ?_)
          refine OK.kac ?_
          dsimp only
          refine OK.ieq (fun h => ?_) (fun _ => ?_)
          · rcases hv with hv | hv
            · exact absurd hW hv.2
            · omega
          · exact OK.sw (more hW x hx)
        · refine OK.sw ((more hW 0 (by omega)).mono2 (fun v y h => ?_))
          rw [Nat.zero_add] at h
          exact h
    refine OK.ieq (fun h => by omega) (fun _ => ?_)
    refine OK.ieq (fun hl => ?_) (fun hl => ?_)
    · rw [a_setInner xA qa.1 qa.2 (t + P - 400) (by omega) (by omega) (by omega)]
      refine cont _ (fun c hc => ?_) rfl (fun i hi => ?_) (fun _ => ?_) (fun h => by omega) (fun _ => rfl) (fun h => by omega)
      · simp only [List.mem_cons, List.not_mem_nil, or_false, not_or] at hc
        rw [stI_ne hc.1]
      · show upd (qa.2.1 32) _ _ i = _
        rw [upd_no hi]
      · have e9 : (stI qa.2 32 (t + P - 400) qa.1).1 32 = upd (qa.2.1 32) (t + P - 400) qa.1 := rfl
        rw [e9, upd_at]
    · rw [a_setBranchAfter xl qa.1 qa.2 xl.toNatClampNeg (nN_ (by omega)).symm (by have := nN_ (x := xl) (by omega); omega) (by have := nN_ (x := xl) (by omega); omega)]
      refine cont _ (fun c hc => ?_) rfl (fun i hi => rfl) (fun h => by omega) (fun _ => rfl) (fun h => by omega) (fun _ => rfl)
      simp only [List.mem_cons, List.not_mem_nil, or_false, not_or] at hc
      rw [stI_ne hc.2]
theorem ab_br_top {N : Nat} {rbA rtA : Int32 → Int32 → ST → Option (Int32 × ST)} {rbB rtB : Int32 → Int32 → ST → Option ((Int32 × ST) × Nat)} (ht : cTY N rtA rtB) : cBR (N + 1) (f_X3_parseBranches rbA rtA) (f_X11_branches rbB rtB) := by
  intro P t lev x4 xB σ τ hpre h400 hlev hx4 hxB h2 h31 h34 h33 h4 hN
  unfold f_X3_parseBranches f_X11_branches
  have lu := FUi
  have nB : xB.toNatClampNeg = t := nC hxB
  refine (ab_br_loop ht P t lev x4 xB σ τ h400 hlev hx4 hxB (by omega) FU 0 256 (t + 1) 256 (-1) 0 σ τ (by omega) (by omega) hpre (by omega) (by decide) li_0 (.inl ⟨rfl, li_m1⟩) ⟨by omega, .inr ⟨by omega, by decide, 0, by rw [nB]; omega, by omega, by decide, fun k hk => by omega, fun s hs => ?_⟩⟩ ⟨h2, by omega, h31, h34, fun k hk => by omega, fun j k hjk hk => by omega, fun h => by omega, fun j hj1 hj2 => by omega⟩ ⟨fun j hj1 hj2 => by omega, h33, fun k hk => by omega, fun j k h1 h2 => by omega⟩ FA.rf FG.rf ⟨fun _ _ => rfl, fun _ _ => rfl⟩)
  constructor
  · intro h
    exfalso
    have z : ∀ s : Nat, s < 8 → ¬ (256 : Nat).testBit s = true := by decide
    exact z s hs h
  · rintro ⟨k, hk, _⟩
    omega
theorem ab_RT : ∀ N M : Nat, N ≤ M → cBR N (R_X3_parseBranches N).1 (R_X11_branches M).1 ∧ cTY N (R_X3_parseBranches N).2 (R_X11_branches M).2 := by
  intro N
  induction N with
  | zero =>
    intro M _
    refine ⟨?_, ?_⟩
    · intro P t lev x4 xB σ τ _ _ hl _ _ _ _ _ _ _ hN
      omega
    · intro P t0 w lev pA pB σ τ _ hl _ _ hN
      omega
  | succ N ih =>
    intro M hM
    cases M with
    | zero => omega
    | succ M =>
      have h := ih M (by omega)
      exact ⟨ab_br_top h.2, ab_type_top h.1 h.2⟩
