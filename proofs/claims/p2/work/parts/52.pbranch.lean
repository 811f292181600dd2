/-! the branches of an either: both read the same ones -/
theorem a_sortOf (p0 : Int32) (σ : ST) (c : Nat) (h : p0.toInt = c) (hc : c < 262) (hn : (c : Int) < (σ.1 20 1).toInt) : OK (f_X5_sortOf 20 p0 σ) (RO σ fun v => v = σ.1 31 c) := by
  unfold f_X5_sortOf
  have l0 := li_0
  have nc : p0.toNatClampNeg = c := nC h
  refine OK.bndR (a_isType p0 σ c h hc hn) (fun v hv => ?_)
  dsimp only
  refine OK.ieq (fun h => by omega) (fun _ => ?_)
  refine OK.grd ⟨by omega, by omega⟩ ?_
  rw [nc]
  exact OK.roret rfl
theorem a_setBranchAfter (p0 p1 : Int32) (σ : ST) (c : Nat) (h : p0.toInt = c) (hc : c < 262) (hn : (c : Int) < (σ.1 20 1).toInt) : f_X5_setBranchAfter 20 p0 p1 σ = some (stI σ 33 c p1) := by
  unfold f_X5_setBranchAfter
  obtain ⟨⟨v, s⟩, e, e2, hv⟩ := a_isType p0 σ c h hc hn
  have e2 : s = σ := e2
  subst e2
  have hv : v.toInt = 1 := hv
  have l0 := li_0
  have nc : p0.toNatClampNeg = c := nC h
  rw [e]
  show (if v = 0 then some s else if 0 ≤ p0.toInt ∧ p0.toInt < 262 then some (stI s (20 + 13) p0.toNatClampNeg p1) else none) = _
  rw [if_neg (fun e9 => by rw [e9] at hv; omega), if_pos ⟨by omega, by omega⟩, nc]
/-- what the branches so far are -/
def BI (P t t1 m d : Nat) (σ τ : ST) : Prop := (τ.1 2 t).toInt = 8 ∧ (τ.1 4 t).toInt = m ∧ σ.1 31 (t + P - 400) = τ.1 2 t ∧ σ.2.1 34 (t + P - 400) = 0 ∧ (∀ k : Nat, k < m → VD (t + 1) t1 (τ.1 2) (τ.1 3) (τ.1 4) (τ.1 5) d (τ.1 5 (4 * t + k)) ∧ ¬ (τ.1 2 (τ.1 5 (4 * t + k)).toNatClampNeg).toInt = 8) ∧ (∀ j k : Nat, j < k → k < m → ¬ (τ.1 2 (τ.1 5 (4 * t + j)).toNatClampNeg).toInt = (τ.1 2 (τ.1 5 (4 * t + k)).toNatClampNeg).toInt) ∧ (1 ≤ m → (σ.1 32 (t + P - 400)).toInt = (τ.1 5 (4 * t)).toInt + P - 400) ∧ RWS P (t + 1) t1 σ τ
/-- the branches are all: the type is there -/
theorem BI.ts {P t t1 m d : Nat} {σ0 τ0 σ τ : ST} {xA xB : Int32} (h : BI P t t1 m d σ τ) (hm : 1 ≤ m ∧ m ≤ 4) (ht : 400 ≤ t ∧ t < t1) (hA : xA.toInt = (t : Int) + P - 400) (hB : xB.toInt = t) (hc : (τ.1 0 34).toInt = t1 ∧ (σ.1 20 1).toInt = (t1 : Int) + P - 400) (hF : FA (t + P - 400) σ0 σ) (hX : LX σ τ) (hL : (∀ c, c ∉ [0, 6] → τ.2.1 c = τ0.2.1 c) ∧ ∀ j, j < t → τ.2.1 6 j = τ0.2.1 6 j) (h4 : 4 * ((t1 : Int) - 400) ≤ (τ.1 0 4).toInt + 1) (h5 : (τ.1 0 6).toInt = 1 → 4 * ((t1 : Int) - 400) ≤ (τ.1 0 4).toInt) : TS P t (d + 1) 8 σ0 τ0 xA σ xB τ := by
  obtain ⟨b1, b2, b3, b4, b5, b6, b7, b8⟩ := h
  refine ⟨t1, ⟨hA, hB, ht.2, hc.1, hc.2⟩, hF, hX, hL, ?_, ?_, b1, h4, h5⟩
  · intro j hj1 hj2
    by_cases e : j = t
    · subst e
      exact ⟨b3, fun h => by omega, fun _ => b4, fun _ => b7 hm.1⟩
    · exact b8 j (by omega) hj2
  · have nx : xB.toNatClampNeg = t := nC hB
    refine ⟨by omega, by rw [nx]; omega, fun h => by rw [nx] at h; omega, fun _ => ?_⟩
    rw [nx]
    refine ⟨by omega, fun k hk => ⟨?_, (b5 k (by omega)).2⟩, fun j k hjk hk => b6 j k hjk (by omega)⟩
    exact VD.ext (by omega) (by omega) (Int.le_refl _) (fun j _ _ => ⟨rfl, fun _ => rfl, rfl, fun _ _ => rfl⟩) _ _ (b5 k (by omega)).1
def BLP (P t : Nat) (lev x4 xB : Int32) (σ0 τ0 τ : ST) (qa : Int32 × ST) (qb : (Int32 × ST) × Nat) : Prop := FG t τ0 qb.1.2 ∧ ((qa.1.toInt = 0 ∧ qb.1.1.toInt = 0 ∧ qb.2 + 40 * uT qb.1.2 ≤ 40 * uT τ + 23) ∨ (qa.1.toInt = 1 ∧ qb.1.1.toInt = 1 ∧ TS P t (4 - lev.toInt).toNat 8 σ0 τ0 x4 qa.2 xB qb.1.2 ∧ qb.2 + 40 * uT qb.1.2 ≤ 40 * uT τ))
theorem ab_br_loop {N : Nat} {rbA rtA : Int32 → Int32 → ST → Option (Int32 × ST)} {rbB rtB : Int32 → Int32 → ST → Option ((Int32 × ST) × Nat)} (ht : cTY N rtA rtB) (P t : Nat) (lev xA xB : Int32) (σ0 τ0 : ST) (h400 : 400 ≤ t) (hlev : 0 ≤ lev.toInt ∧ lev.toInt ≤ 3) (hxA : xA.toInt = (t : Int) + P - 400) (hxB : xB.toInt = t) (hN : 2 * (4 - lev.toInt) ≤ (N : Int)) : ∀ (f m w t1 : Nat) (x3 xl x5 : Int32) (σ τ : ST), 6 < f + m → m ≤ 4 → PRE P t1 σ τ → t < t1 → x3 = Int32.ofNat w → x5.toInt = m → (m = 0 ∧ xl.toInt = -1 ∨ 1 ≤ m ∧ (t : Int) + P - 400 < xl.toInt ∧ xl.toInt < (t1 : Int) + P - 400) → MK w xB t1 τ → BI P t t1 m (3 - lev.toInt).toNat σ τ → FA (t + P - 400) σ0 σ → FG t τ0 τ → ((∀ c, c ∉ [0, 6] → τ.2.1 c = τ0.2.1 c) ∧ ∀ j, j < t → τ.2.1 6 j = τ0.2.1 6 j) → OK (f_X3_parseBranches_10 rbA rtA f xA lev x3 xl x5 σ) (fun qa => OK (f_X11_branches_2 rbB rtB f xB lev 1 τ) (BLP P t lev xA xB σ0 τ0 τ qa)) := by
  intro f
  induction f with
  | zero => intro m w t1 x3 xl x5 σ τ h1 h2; omega
  | succ f ih =>
    intro m w t1 x3 xl x5 σ τ hf hm4 hpre htt hx3 hx5 hxl hMK hBI hFA hFG hLL
    have lm := li_m1
    have l0 := li_0
    have l1 := li_1
    have l4 := li_4
    have l6 := li_6
    have elev := il_addE (x := lev) (y := 1) (by omega) (by omega)
    have e51 := il_addE (x := x5) (y := 1) (by omega) (by omega)
    have hty := ht P t1 w (lev + 1) x3 xB σ τ hpre (by omega) hx3 hMK (by omega)
    have ed : (4 - (lev + 1).toInt).toNat = (3 - lev.toInt).toNat := by omega
    have ed2 : (4 - lev.toInt).toNat = (3 - lev.toInt).toNat + 1 := by omega
    obtain ⟨hP, ⟨ht0, hcB, hcA⟩, hLX, hb4, hb2⟩ := hpre
    have hK := hLX.2.2.1
    have rng := sv_rng hK
    have nB : xB.toNatClampNeg = t := nC hxB
    rw [f_X3_parseBranches_10, f_X11_branches_2]
    refine OK.ilt (fun h => by omega) (fun _ => ?_)
    refine OK.sw ?_
    refine OK.ieq (fun h => by omega) (fun _ => ?_)
    refine OK.sw ?_
    refine OK.bnd2 hty (fun qa qb hq => ?_)
    obtain ⟨fq, hq⟩ := hq
    have FGq : FG t τ0 qb.1.2 := hFG.trans fq (by omega)
    rcases hq with ⟨qa0, qb0, qc⟩ | ⟨g, hTS, qc⟩
    · refine OK.ieq (fun _ => ?_) (fun h => by omega)
      refine OK.ret ?_
      refine OK.kac ?_
      refine OK.ile (fun h => by omega) (fun _ => ?_)
      exact OK.ret ⟨FGq, .inl ⟨l0, l0, by show qb.2 + 0 + 40 * uT qb.1.2 ≤ _; omega⟩⟩
    -- one more branch
    obtain ⟨t2, ⟨i1, i2, i3, i4, i5⟩, iF, iX, iL, iR, iV, iS, iB, iB2⟩ := hTS
    rw [ed] at iV
    obtain ⟨hw, hMK⟩ := hMK
    obtain ⟨g1, _, g3, gb⟩ := g
    rcases hMK with ⟨h9, _⟩ | ⟨hp1, w8, m', hm', _, hpc, hbr, hbit⟩
    · omega
    obtain ⟨B1, B2, B3, B4, B5, B6, B7, B8⟩ := hBI
    rw [nB] at hm' hbr hbit
    have em : m' = m := by omega
    subst em
    have hm3 : m' ≤ 3 := by omega
    have s8 : SV σ < 8 := by
      by_cases e : SV σ = 8
      · have e8 : (SV σ).toNat = 8 := by omega
        rw [e8, w8] at gb
        cases gb
      · omega
    have t250 : t2 ≤ 651 := by
      obtain ⟨sB, hsB, hTB⟩ := iX.tb
      have hn2 := iX.2.1
      have n2 := hn2.2
      obtain ⟨_, _, _, pp, ss, hpp, hss, hTT⟩ := hLX
      have hw1 := (hK.wd g1).1
      obtain ⟨hL, m9, hR, h5, _, _⟩ := hTT.word hw1
      sorry
    sorry
