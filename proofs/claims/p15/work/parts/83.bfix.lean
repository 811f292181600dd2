/-! the reference's pairs: the greatest set in which each pair holds -/
theorem mt.mono {hi : Int} {S A M B PR PR' : Nat → Int32} {a b : Int} (ha : a ≤ 6) (hb : b ≤ 6) (hp : ∀ k, k < 36 → ¬ PR k = 0 → ¬ PR' k = 0) : ∀ {n d e : Nat} {w r : Int32}, VT hi S A M B a d w → VT hi S A M B b e r → mt S A M B PR n w r → mt S A M B PR' n w r := by
  intro n
  induction n with
  | zero => intro d e w r hw hr h; exact h.elim
  | succ n ih =>
    intro d e w r hw hr h
    rcases h with ⟨h1, k, hk, h2⟩ | ⟨h1, h2, k, hk, h3⟩ | ⟨h1, h2, ⟨h3, h4, h5⟩ | ⟨h3, h4, h5⟩ | h⟩
    · exact .inl ⟨h1, k, hk, ih ((hw.eit h1).2.2.1 k hk).1 hr h2⟩
    · exact .inr (.inl ⟨h1, h2, k, hk, ih hw ((hr.eit h2).2.2.1 k hk).1 h3⟩)
    · exact .inr (.inr ⟨h1, h2, .inl ⟨h3, h4, ih (hw.lst h3).2 (hr.lst h4).2 h5⟩⟩)
    · have x := hw.rcd h3
      have y := hr.rcd h4
      have n1 := nN_ x.1
      have n2 := nN_ y.1
      exact .inr (.inr ⟨h1, h2, .inr (.inl ⟨h3, h4, hp _ (by omega) h5⟩)⟩)
    · exact .inr (.inr ⟨h1, h2, .inr (.inr h)⟩)
theorem MT.mono {hi : Int} {S A M B PR PR' : Nat → Int32} {a b : Int} {d e : Nat} {w r : Int32} (h : MT S A M B PR w r) (ha : a ≤ 6) (hb : b ≤ 6) (hp : ∀ k, k < 36 → ¬ PR k = 0 → ¬ PR' k = 0) (hw : VT hi S A M B a d w) (hr : VT hi S A M B b e r) : MT S A M B PR' w r := by
  obtain ⟨n, h⟩ := h
  exact ⟨n, mt.mono ha hb hp hw hr h⟩
theorem MT.same {hi : Int} {S A M B PR PR' : Nat → Int32} {a b : Int} {d e : Nat} {w r : Int32} (ha : a ≤ 6) (hb : b ≤ 6) (hp : ∀ k, k < 36 → (PR k = 0 ↔ PR' k = 0)) (hw : VT hi S A M B a d w) (hr : VT hi S A M B b e r) : MT S A M B PR w r ↔ MT S A M B PR' w r := ⟨fun h => h.mono ha hb (fun k hk h1 h2 => h1 ((hp k hk).mpr h2)) hw hr, fun h => h.mono ha hb (fun k hk h1 h2 => h1 ((hp k hk).mp h2)) hw hr⟩
theorem CH.symm {C I : List Nat} {σ τ : ST} (h : CH C I σ τ) : CH C I τ σ := ⟨fun c h0 hc => (h.1 c h0 hc).symm, fun i hi => (h.2.1 i hi).symm, h.2.2.1.symm, h.2.2.2.1.symm, h.2.2.2.2.1.symm, h.2.2.2.2.2.1.symm, h.2.2.2.2.2.2.symm⟩
/-- two records whose names let them pair -/
def NYS (σ : ST) (w r : Int32) : Prop := (w.toInt = 0 ∧ r.toInt = 0) ∨ σ.2.1 9 (6 * (σ.1 0 53).toNatClampNeg + w.toNatClampNeg) = σ.2.1 9 (6 * (σ.1 0 54).toNatClampNeg + r.toNatClampNeg)
/-- whose fields fit, if the pairs that stand are PR -/
def HXP (σ : ST) (PR : Nat → Int32) (w r : Int32) : Prop := ∀ (k : Nat) (f v : Int32), (k : Int) < (σ.1 11 (6 * (σ.1 0 54).toNatClampNeg + r.toNatClampNeg)).toInt → f.toInt = 8 * (6 * (σ.1 0 54).toInt + r.toInt) + k → f_X11_fieldFor w f σ = some (v, σ) → (0 ≤ v.toInt → MT (σ.1 2) (σ.1 3) (σ.1 4) (σ.1 5) PR (σ.1 15 v.toNatClampNeg) (σ.1 15 f.toNatClampNeg)) ∧ (v.toInt < 0 → ¬ σ.1 16 f.toNatClampNeg = 0)
/-- each pair of PR holds -/
def PSX (σ : ST) (PR : Nat → Int32) : Prop := ∀ (w r : Int32), 0 ≤ w.toInt → w.toInt < 6 → 0 ≤ r.toInt → r.toInt < 6 → ¬ PR (6 * w.toNatClampNeg + r.toNatClampNeg) = 0 → (w.toInt < rmW σ ∧ r.toInt < rmR σ) ∧ NYS σ w r ∧ HXP σ PR w r
/-- no pair of such a set is wanting in PR -/
def GMX (σ : ST) (PR : Nat → Int32) : Prop := ∀ PR', PSX σ PR' → ∀ k, k < 36 → ¬ PR' k = 0 → ¬ PR k = 0
def GFX (σ : ST) (PR : Nat → Int32) : Prop := PSX σ PR ∧ GMX σ PR
theorem GFX.uniq {σ : ST} {P Q : Nat → Int32} (h : GFX σ P) (k : GFX σ Q) : ∀ i, i < 36 → (P i = 0 ↔ Q i = 0) := fun i hi => by
  have a := k.2 P h.1 i hi
  have b := h.2 Q k.1 i hi
  by_cases h1 : P i = 0 <;> by_cases h2 : Q i = 0 <;> simp_all
theorem NYS.tr {C I : List Nat} {σ t : ST} {w r : Int32} (h : NYS σ w r) (c : CH C I σ t) (h53 : 53 ∉ I) (h54 : 54 ∉ I) : NYS t w r := by
  unfold NYS
  rw [c.2.2.1, c.2.1 53 h53, c.2.1 54 h54]
  exact h
theorem HXP.tr {C I : List Nat} {σ t : ST} {PR : Nat → Int32} {w r : Int32} (h : HXP σ PR w r) (c : CH C I σ t) (hC : ∀ c, c ∈ [2, 3, 4, 5, 11, 15, 16] → c ∉ C) (h53 : 53 ∉ I) (h54 : 54 ∉ I) : HXP t PR w r := by
  intro k f v k1 k2 k3
  rw [c.2.1 54 h54] at k1 k2
  rw [c.1 11 (by decide) (hC 11 (by decide))] at k1
  rw [c.1 2 (by decide) (hC 2 (by decide)), c.1 3 (by decide) (hC 3 (by decide)), c.1 4 (by decide) (hC 4 (by decide)), c.1 5 (by decide) (hC 5 (by decide)), c.1 15 (by decide) (hC 15 (by decide)), c.1 16 (by decide) (hC 16 (by decide))]
  exact h k f v k1 k2 (ff_tr (c.2.1 53 h53).symm (c.1 11 (by decide) (hC 11 (by decide))).symm c.2.2.2.1.symm c.2.2.2.2.1.symm w f v k3)
theorem PSX.tr {C I : List Nat} {σ t : ST} {PR : Nat → Int32} (h : PSX σ PR) (c : CH C I σ t) (hC : ∀ c, c ∈ [2, 3, 4, 5, 8, 11, 15, 16] → c ∉ C) (h53 : 53 ∉ I) (h54 : 54 ∉ I) : PSX t PR := by
  intro w r a1 a2 a3 a4 a5
  obtain ⟨x1, x2, x3⟩ := h w r a1 a2 a3 a4 a5
  obtain ⟨e1, e2⟩ := rm_ch c (hC 8 (by decide)) h53 h54
  rw [e1, e2]
  exact ⟨x1, x2.tr c h53 h54, x3.tr c (fun d hd => hC d (by revert hd; simp only [List.mem_cons, List.not_mem_nil, or_false]; omega)) h53 h54⟩
theorem GFX.tr {C I : List Nat} {σ t : ST} {PR : Nat → Int32} (h : GFX σ PR) (c : CH C I σ t) (hC : ∀ c, c ∈ [2, 3, 4, 5, 8, 11, 15, 16] → c ∉ C) (h53 : 53 ∉ I) (h54 : 54 ∉ I) : GFX t PR := ⟨h.1.tr c hC h53 h54, fun Q hQ => h.2 Q (hQ.tr c.symm hC h53 h54)⟩
theorem HXP.mono {σ : ST} {PR PR' : Nat → Int32} {w r : Int32} (hM : ME σ) (hw : wrec σ w) (hr : rrec σ r) (hp : ∀ k, k < 36 → ¬ PR k = 0 → ¬ PR' k = 0) (h : HXP σ PR w r) : HXP σ PR' w r := by
  intro k f v k1 k2 k3
  obtain ⟨x, y⟩ := h k f v k1 k2 k3
  refine ⟨fun h0 => ?_, y⟩
  obtain ⟨b1, b2, b3, b4⟩ := hM.w
  obtain ⟨c1, c2⟩ := hM.rf hr
  have r1 := hr.1
  have r2 : r.toInt < rmR σ := hr.2
  have n1 := nN_ b2.1
  have n2 := nN_ r1
  have b21 := b2.1
  have b22 := b2.2
  have c12 := c1.2
  obtain ⟨⟨u, s⟩, ef, es, hv⟩ := hM.ff hw (f := f) (by omega)
  rw [k3] at ef
  have ev : v = u := (Prod.mk.inj (Option.some.inj ef)).1
  have hv : u.toInt = -1 ∨ (0 ≤ u.toInt ∧ u.toInt < 576) ∧ VS σ (rmW σ) 4 (σ.1 15 u.toNatClampNeg) := hv
  rw [← ev] at hv
  rcases hv with hv | hv
  · omega
  have hc := c2 k k1
  have e5 : f.toNatClampNeg = 8 * (6 * (σ.1 0 54).toNatClampNeg + r.toNatClampNeg) + k := nC (by omega)
  rw [← e5] at hc
  exact (x h0).mono (by omega) (by omega) hp hv.2 hc
theorem HXP.same {σ : ST} {PR PR' : Nat → Int32} {w r : Int32} (hM : ME σ) (hw : wrec σ w) (hr : rrec σ r) (hp : ∀ k, k < 36 → (PR k = 0 ↔ PR' k = 0)) : HXP σ PR w r ↔ HXP σ PR' w r := ⟨HXP.mono hM hw hr (fun k hk h1 h2 => h1 ((hp k hk).mpr h2)), HXP.mono hM hw hr (fun k hk h1 h2 => h1 ((hp k hk).mp h2))⟩
theorem bx_namesMay (p0 p1 : Int32) (σ : ST) (h0 : 0 ≤ p0.toInt ∧ p0.toInt < 6) (h1 : 0 ≤ p1.toInt ∧ p1.toInt < 6) (hw : bI (σ.1 0 53) 0 5) (hr : bI (σ.1 0 54) 0 5) : OK (f_X11_namesMay p0 p1 σ) (RO σ fun v => v.toInt = 0 ∧ ¬ NYS σ p0 p1 ∨ v.toInt = 1 ∧ NYS σ p0 p1) := by
  obtain ⟨w1, w2⟩ := hw
  obtain ⟨r1, r2⟩ := hr
  have lt_0 := li_0
  have lt_1 := li_1
  have lt_6 := li_6
  have e1 := mlE (k := 6) (y := σ.1 0 53) 6 li_6 (by omega) (by omega)
  have e2 := il_addE (x := 6 * σ.1 0 53) (y := p0) (by omega) (by omega)
  have e3 := mlE (k := 6) (y := σ.1 0 54) 6 li_6 (by omega) (by omega)
  have e4 := il_addE (x := 6 * σ.1 0 54) (y := p1) (by omega) (by omega)
  have n1 := nN_ w1
  have n2 := nN_ r1
  have n3 := nN_ h0.1
  have n4 := nN_ h1.1
  have i1 : (6 * σ.1 0 53 + p0).toNatClampNeg = 6 * (σ.1 0 53).toNatClampNeg + p0.toNatClampNeg := nC (by omega)
  have i2 : (6 * σ.1 0 54 + p1).toNatClampNeg = 6 * (σ.1 0 54).toNatClampNeg + p1.toNatClampNeg := nC (by omega)
  have h8 : ¬ (p0.toInt = 0 ∧ p1.toInt = 0) → OK (f_X11_namesMay_8 p0 p1 σ) (RO σ fun v => v.toInt = 0 ∧ ¬ NYS σ p0 p1 ∨ v.toInt = 1 ∧ NYS σ p0 p1) := fun hn => by
    unfold f_X11_namesMay_8 f_X11_namesMay_40
    refine OK.grd ⟨by omega, by omega⟩ ?_
    refine OK.grd ⟨by omega, by omega⟩ ?_
    rw [i1, i2]
    refine OK.ite (fun h => ?_) (fun h => ?_)
    · rw [lg_cmp_eq] at h
      exact OK.roret (.inr ⟨lt_1, .inr h⟩)
    · rw [lg_cmp_eq] at h
      exact OK.roret (.inl ⟨lt_0, fun h9 => h9.elim hn h⟩)
  unfold f_X11_namesMay f_X11_namesMay_40
  refine OK.ieq (fun _ => ?_) (fun _ => h8 (by omega))
  exact OK.ieq (fun _ => OK.roret (.inr ⟨lt_1, .inl ⟨by omega, by omega⟩⟩)) (fun _ => h8 (by omega))
theorem bx_holds_24 (w r x3 : Int32) (σ : ST) (hM : ME σ) (hw : wrec σ w) (hr : rrec σ r) (h3 : x3.toInt = 6 * (σ.1 0 54).toInt + r.toInt) : ∀ (n : Nat) (x4 : Int32), (0 ≤ x4.toInt ∧ x4.toInt ≤ 8 ∧ (8 : Int) - x4.toInt < n) → (∀ (k : Nat) (f v : Int32), (k : Int) < x4.toInt → f.toInt = 8 * (6 * (σ.1 0 54).toInt + r.toInt) + k → f_X11_fieldFor w f σ = some (v, σ) → (0 ≤ v.toInt → MS σ (σ.1 15 v.toNatClampNeg) (σ.1 15 f.toNatClampNeg)) ∧ (v.toInt < 0 → ¬ σ.1 16 f.toNatClampNeg = 0)) → OK (f_X11_holds_24 n w x3 x4 σ) (RO σ fun v => v.toInt = 0 ∧ ¬ HXP σ (σ.1 35) w r ∨ v.toInt = 1 ∧ HXP σ (σ.1 35) w r) := by
  intro n
  obtain ⟨b1, b2, b3, b4⟩ := hM.w
  have r1 := hr.1
  have r2 : r.toInt < rmR σ := hr.2
  obtain ⟨c1, c2⟩ := hM.rf hr
  have n1 := nN_ b2.1
  have n2 := nN_ r1
  have b11 := b2.1
  have b12 := b2.2
  have c11 := c1.1
  have c12 := c1.2
  have e3 : x3.toNatClampNeg = 6 * (σ.1 0 54).toNatClampNeg + r.toNatClampNeg := nC (by omega)
  have lt_0 := li_0
  have lt_1 := li_1
  have lt_8 := li_8
  induction n with
  | zero => intro x4 h; omega
  | succ n ih =>
    intro x4 h4 hk
    rw [f_X11_holds_24]
    unfold f_X11_holds_94
    have a1 := mlE (k := 8) (y := x3) 8 li_8 (by omega) (by omega)
    have a2 := il_addE (x := 8 * x3) (y := x4) (by omega) (by omega)
    have a3 := il_addE (x := x4) (y := 1) (by omega) (by omega)
    have n4 := nN_ h4.1
    have e5 : (8 * x3 + x4).toNatClampNeg = 8 * (6 * (σ.1 0 54).toNatClampNeg + r.toNatClampNeg) + x4.toNatClampNeg := nC (by omega)
    refine OK.grd ⟨by omega, by omega⟩ ?_
    rw [e3]
    refine OK.ile (fun h => OK.roret (.inr ⟨by omega, ?_⟩)) (fun h => ?_)
    · intro k f v k1 k2 k3
      exact hk k f v (by omega) k2 k3
    have hf := hM.ff hw (f := 8 * x3 + x4) (by omega)
    obtain ⟨⟨v, s⟩, ef, es, hv⟩ := hf
    have es : s = σ := es
    subst es
    rw [ef]
    show OK (if (0 : Int32) ≤ v then _ else _) _
    have bad : ¬ ((0 ≤ v.toInt → MS s (s.1 15 v.toNatClampNeg) (s.1 15 (8 * x3 + x4).toNatClampNeg)) ∧ (v.toInt < 0 → ¬ s.1 16 (8 * x3 + x4).toNatClampNeg = 0)) → ¬ HXP s (s.1 35) w r := fun hm h9 => hm (h9 x4.toNatClampNeg (8 * x3 + x4) v (by omega) (by omega) ef)
    have next : ((0 ≤ v.toInt → MS s (s.1 15 v.toNatClampNeg) (s.1 15 (8 * x3 + x4).toNatClampNeg)) ∧ (v.toInt < 0 → ¬ s.1 16 (8 * x3 + x4).toNatClampNeg = 0)) → OK (f_X11_holds_24 n w x3 (x4 + 1) s) (RO s fun v => v.toInt = 0 ∧ ¬ HXP s (s.1 35) w r ∨ v.toInt = 1 ∧ HXP s (s.1 35) w r) := fun hm => by
      refine ih (x4 + 1) (by omega) (fun k f u k1 k2 k3 => ?_)
      by_cases e : (k : Int) < x4.toInt
      · exact hk k f u e k2 k3
      · have ef2 : f = 8 * x3 + x4 := Int32.toInt_inj.mp (by omega)
        rw [ef2] at k3 ⊢
        rw [ef] at k3
        have ev : v = u := (Prod.mk.inj (Option.some.inj k3)).1
        rw [← ev]
        exact hm
    refine OK.ile (fun h0 => ?_) (fun h0 => ?_)
    · have hv' : (0 ≤ v.toInt ∧ v.toInt < 576) ∧ VS s (rmW s) 4 (s.1 15 v.toNatClampNeg) := by
        rcases hv with hv | hv
        · have hv : v.toInt = -1 := hv
          omega
        · exact hv
      refine OK.grd hv'.1 ?_
      refine OK.grd ⟨by omega, by omega⟩ ?_
      have hc := c2 x4.toNatClampNeg (by omega)
      rw [← e5] at hc
      refine OK.bndR (bT_match _ _ s (by omega) (by omega) hM.2.2 hv'.2 hc (by omega) (by omega)) (fun u hu => ?_)
      dsimp only
      refine OK.ieq (fun _ => OK.roret (.inl ⟨by omega, bad (fun h9 => ?_)⟩)) (fun _ => next ⟨fun _ => ?_, fun _ => by omega⟩)
      · rcases hu with hu | hu
        · exact hu.2 (h9.1 (by omega))
        · omega
      · rcases hu with hu | hu
        · omega
        · exact hu.2
    · refine OK.grd ⟨by omega, by omega⟩ ?_
      refine OK.ieq (fun hz => OK.roret (.inl ⟨by omega, bad (fun h9 => h9.2 (by omega) (Int32.toInt_inj.mp hz))⟩)) (fun hz => next ⟨fun h9 => by omega, fun _ h9 => hz (by rw [h9])⟩)
theorem bx_holds (w r : Int32) (σ : ST) (hM : ME σ) (hw : wrec σ w) (hr : rrec σ r) : OK (f_X11_holds w r σ) (RO σ fun v => v.toInt = 0 ∧ ¬ (NYS σ w r ∧ HXP σ (σ.1 35) w r) ∨ v.toInt = 1 ∧ NYS σ w r ∧ HXP σ (σ.1 35) w r) := by
  unfold f_X11_holds
  obtain ⟨b1, b2, b3, b4⟩ := hM.w
  have w1 := hw.1
  have w2 : w.toInt < rmW σ := hw.2
  have r1 := hr.1
  have r2 : r.toInt < rmR σ := hr.2
  have b21 := b2.1
  have b22 := b2.2
  have lt_0 := li_0
  have lt_6 := li_6
  have lu := FUi
  have a1 := mlE (k := 6) (y := σ.1 0 54) 6 li_6 (by omega) (by omega)
  have a2 := il_addE (x := 6 * σ.1 0 54) (y := r) (by omega) (by omega)
  refine OK.bndR (bx_namesMay w r σ (by omega) (by omega) b1 b2) (fun v hv => ?_)
  dsimp only
  refine OK.ieq (fun _ => OK.roret (.inl ⟨by omega, fun h9 => ?_⟩)) (fun _ => ?_)
  · rcases hv with hv | hv
    · exact hv.2 h9.1
    · omega
  have hN : NYS σ w r := by
    rcases hv with hv | hv
    · omega
    · exact hv.2
  refine (bx_holds_24 w r _ σ hM hw hr (by omega) FU 0 (by omega) (fun k f v k1 => by omega)).roq (fun u hu => ?_)
  rcases hu with hu | hu
  · exact .inl ⟨hu.1, fun h9 => hu.2 h9.2⟩
  · exact .inr ⟨hu.1, hN, hu.2⟩
/-- what laying the pairs ends with -/
def PPX (σ : ST) : Prop := ME σ ∧ PC σ 36 ∧ GFX σ (σ.1 35)
theorem bx_lp_72 {k63 : Int32 → ST → Option ST} {P : ST → Prop} (c0 : Nat) : ∀ (n : Nat) (x3 x4 : Int32) (σ : ST), ME σ → PC σ 36 → GMX σ (σ.1 35) → (0 ≤ x4.toInt ∧ x4.toInt ≤ 36 ∧ (36 : Int) - x4.toInt < n) → (x3.toInt = 0 ∨ x3.toInt = 1) → cnt36 σ ≤ c0 → (x3.toInt = 1 → cnt36 σ + 1 ≤ c0) → (x3.toInt = 0 → ∀ (w r : Int32), 0 ≤ w.toInt → w.toInt < 6 → 0 ≤ r.toInt → r.toInt < 6 → 6 * w.toInt + r.toInt < x4.toInt → ¬ σ.1 35 (6 * w.toNatClampNeg + r.toNatClampNeg) = 0 → NYS σ w r ∧ HXP σ (σ.1 35) w r) → (∀ (x3 : Int32) (t : ST), CH [35] [] σ t → ME t → PC t 36 → GMX t (t.1 35) → (x3.toInt = 0 ∧ PPX t ∨ x3.toInt = 1 ∧ cnt36 t + 1 ≤ c0) → OK (k63 x3 t) P) → OK (f_X11_laysPairs_72 k63 n x3 x4 σ) P := by
  intro n
  induction n with
  | zero => intro x3 x4 σ hM hC hG h4; omega
  | succ n ih =>
    intro x3 x4 σ hM hC hG h4 h3 hc hc1 hh hk
    rw [f_X11_laysPairs_72]
    unfold f_X11_laysPairs_116
    have lt_0 := li_0
    have lt_1 := li_1
    have lt_36 := li_36
    refine OK.ile (fun h => ?_) (fun h => ?_)
    · refine hk x3 σ CH.rf hM hC hG ?_
      rcases h3 with h3 | h3
      · refine .inl ⟨h3, hM, hC, fun w r a1 a2 a3 a4 a5 => ?_, hG⟩
        have n1 := nN_ a1
        have n2 := nN_ a3
        have := hC (6 * w.toNatClampNeg + r.toNatClampNeg) (by omega) a5
        exact ⟨⟨by omega, by omega⟩, hh h3 w r a1 a2 a3 a4 (by omega) a5⟩
      · exact .inr ⟨h3, hc1 h3⟩
    have a3 := il_addE (x := x4) (y := 1) (by omega) (by omega)
    obtain ⟨d1, d2⟩ := d6 (x := x4) h4.1 (by omega)
    have n4 := nN_ h4.1
    have n5 := nN_ (x := x4 / 6) (by omega)
    have n6 := nN_ (x := x4 - x4 / 6 * 6) (by omega)
    have same : ∀ w r : Int32, 0 ≤ w.toInt → w.toInt < 6 → 0 ≤ r.toInt → r.toInt < 6 → 6 * w.toInt + r.toInt = x4.toInt → w = x4 / 6 ∧ r = x4 - x4 / 6 * 6 := fun w r a1 a2 a3 a4 a5 => ⟨Int32.toInt_inj.mp (by omega), Int32.toInt_inj.mp (by omega)⟩
    have e66 : 6 * (x4 / 6).toNatClampNeg + (x4 - x4 / 6 * 6).toNatClampNeg = x4.toNatClampNeg := by omega
    refine OK.grd ⟨by omega, by omega⟩ ?_
    refine OK.ite (fun h0 => ?_) (fun h0 => ?_)
    · refine ih _ _ _ hM hC hG (by omega) h3 hc hc1 (fun h30 w r a1 a2 a3 a4 a5 a6 => ?_) hk
      by_cases e : 6 * w.toInt + r.toInt = x4.toInt
      · obtain ⟨rfl, rfl⟩ := same w r a1 a2 a3 a4 e
        rw [e66] at a6
        exact absurd h0 a6
      · exact hh h30 w r a1 a2 a3 a4 (by omega) a6
    · have hp := hC x4.toNatClampNeg (by omega) h0
      have hw : wrec σ (x4 / 6) := wrec_i (by omega) (by omega)
      have hr : rrec σ (x4 - x4 / 6 * 6) := rrec_i (by omega) (by omega)
      refine OK.bndR (bx_holds _ _ σ hM hw hr) (fun v hv => ?_)
      dsimp only
      refine OK.ieq (fun hv0 => ?_) (fun hv0 => ?_)
      · have v0 : (vp_nar .boolean (0 : Int32)) = 0 := rfl
        rw [v0]
        have ch : CH [35] [] σ (stI σ 35 x4.toNatClampNeg 0) := CH.rf.i (by decide) (by decide)
        have hM1 : ME (stI σ 35 x4.toNatClampNeg 0) := ⟨hM.1, hM.2.1, hM.2.2.up (by omega)⟩
        have mono : ∀ k, ¬ (stI σ 35 x4.toNatClampNeg 0).1 35 k = 0 → ¬ σ.1 35 k = 0 := fun k hk => by
          have hk : ¬ upd (σ.1 35) x4.toNatClampNeg 0 k = 0 := hk
          unfold upd at hk
          split at hk
          · exact absurd rfl hk
          · exact hk
        have hlt : cnt36 (stI σ 35 x4.toNatClampNeg 0) + 1 ≤ cnt36 σ := cntZ_lt (p := fun k => ¬ (stI σ 35 x4.toNatClampNeg 0).1 35 k = 0) (q := fun k => ¬ σ.1 35 k = 0) mono (c := x4.toNatClampNeg) (fun h9 => h9 (show upd (σ.1 35) x4.toNatClampNeg 0 x4.toNatClampNeg = 0 from upd_at)) h0 36 (by omega)
        have hG1 : GMX (stI σ 35 x4.toNatClampNeg 0) ((stI σ 35 x4.toNatClampNeg 0).1 35) := by
          intro Q hQ k hk h1
          have hQ0 : PSX σ Q := hQ.tr ch.symm (by decide) (by decide) (by decide)
          have h2 := hG Q hQ0 k hk h1
          show ¬ upd (σ.1 35) x4.toNatClampNeg 0 k = 0
          by_cases e : k = x4.toNatClampNeg
          · subst e
            exfalso
            rw [← e66] at h1
            obtain ⟨y1, y2, y3⟩ := hQ0 _ _ (by omega) (by omega) (by omega) (by omega) h1
            rcases hv with hv | hv
            · exact hv.2 ⟨y2, y3.mono hM hw hr (fun k hk h => hG Q hQ0 k hk h)⟩
            · omega
          · rw [upd_no e]
            exact h2
        refine ih 1 _ _ hM1 (fun k k1 k2 => hC k k1 (mono k k2)) hG1 (by omega) (by omega) (by omega) (fun _ => by omega) (fun h9 => by omega) (fun y t ct => ?_)
        exact hk y t (ch.trans ct)
      · have hH : NYS σ (x4 / 6) (x4 - x4 / 6 * 6) ∧ HXP σ (σ.1 35) (x4 / 6) (x4 - x4 / 6 * 6) := by
          rcases hv with hv | hv
          · omega
          · exact hv.2
        refine ih _ _ _ hM hC hG (by omega) h3 hc hc1 (fun h30 w r a1 a2 a3 a4 a5 a6 => ?_) hk
        by_cases e : 6 * w.toInt + r.toInt = x4.toInt
        · obtain ⟨rfl, rfl⟩ := same w r a1 a2 a3 a4 e
          exact hH
        · exact hh h30 w r a1 a2 a3 a4 (by omega) a6
theorem bx_lp_63 : ∀ (n : Nat) (x3 : Int32) (σ : ST), ME σ → PC σ 36 → GMX σ (σ.1 35) → (x3.toInt = 0 ∧ PPX σ ∨ x3.toInt = 1 ∧ cnt36 σ + 1 < n) → 0 < n → OK (f_X11_laysPairs_63 n x3 σ) (RZ [35] [] σ PPX) := by
  intro n
  induction n with
  | zero => intro x3 σ hM hC hG h h0; omega
  | succ n ih =>
    intro x3 σ hM hC hG h h0
    rw [f_X11_laysPairs_63]
    have lt_0 := li_0
    have lu := FUi
    refine OK.ieq (fun h3 => ?_) (fun h3 => ?_)
    · rcases h with h | h
      · exact OK.zret CH.rf h.2
      · omega
    · have h1 : cnt36 σ + 1 < n + 1 := by omega
      refine bx_lp_72 (cnt36 σ) FU 0 0 σ hM hC hG (by omega) (by omega) (Nat.le_refl _) (fun h9 => by omega) (fun _ w r a1 a2 a3 a4 a5 => by omega) (fun y t ct hMt hCt hGt hy => ?_)
      refine OK.trZ (ih y t hMt hCt hGt ?_ (by omega)) ct (fun _ h => h) (fun _ h => h) (fun _ _ h => h)
      rcases hy with hy | hy
      · exact .inl hy
      · exact .inr ⟨hy.1, by omega⟩
theorem bx_lp_12 (x1 x2 : Int32) : ∀ (n : Nat) (x3 : Int32) (σ : ST), ME σ → x1 = σ.1 0 53 → x2 = σ.1 0 54 → PC σ x3.toInt → (∀ k : Nat, (k : Int) < x3.toInt → ((k : Int) / 6) < rmW σ → ((k : Int) % 6) < rmR σ → ¬ σ.1 35 k = 0) → (0 ≤ x3.toInt ∧ x3.toInt ≤ 36 ∧ (36 : Int) - x3.toInt < n) → OK (f_X11_laysPairs_12 n x1 x2 x3 σ) (RZ [35] [] σ PPX) := by
  intro n
  induction n with
  | zero => intro x3 σ hM h1 h2 hC hD h3; omega
  | succ n ih =>
    intro x3 σ hM h1 h2 hC hD h3
    rw [f_X11_laysPairs_12]
    unfold f_X11_laysPairs_53
    have lt_0 := li_0
    have lt_1 := li_1
    have lt_36 := li_36
    have lu := FUi
    obtain ⟨⟨b11, b12⟩, ⟨b21, b22⟩, b3, b4⟩ := hM.w
    refine OK.ile (fun h => ?_) (fun h => ?_)
    · have e : x3.toInt = 36 := by omega
      rw [e] at hC hD
      have := cntZ_le (p := fun k => ¬ σ.1 35 k = 0) 36
      have e2 : cnt36 σ = cntZ (fun k => ¬ σ.1 35 k = 0) 36 := rfl
      refine bx_lp_63 FU 1 σ hM hC (fun Q hQ k hk h9 => ?_) (.inr ⟨by omega, by omega⟩) (by omega)
      obtain ⟨w, hw⟩ : ∃ w : Nat, w = k / 6 := ⟨_, rfl⟩
      obtain ⟨r, hr⟩ : ∃ r : Nat, r = k % 6 := ⟨_, rfl⟩
      have e6 : k = 6 * w + r := by omega
      have iw := ofNatI (w := w) (by omega)
      have ir := ofNatI (w := r) (by omega)
      have nw : (Int32.ofNat w).toNatClampNeg = w := nC iw
      have nr : (Int32.ofNat r).toNatClampNeg = r := nC ir
      have := hQ (Int32.ofNat w) (Int32.ofNat r) (by omega) (by omega) (by omega) (by omega) (by rw [nw, nr, ← e6]; exact h9)
      exact hD k (by omega) (by omega) (by omega)
    have a3 := il_addE (x := x3) (y := 1) (by omega) (by omega)
    obtain ⟨d1, d2⟩ := d6 (x := x3) h3.1 (by omega)
    have n3 := nN_ h3.1
    have e53 : rmW σ = (σ.1 8 x1.toNatClampNeg).toInt := by rw [h1]; rfl
    have e54 : rmR σ = (σ.1 8 x2.toNatClampNeg).toInt := by rw [h2]; rfl
    have hx1 : x1.toInt = (σ.1 0 53).toInt := by rw [h1]
    have hx2 : x2.toInt = (σ.1 0 54).toInt := by rw [h2]
    have k54 : ∀ y0 : Int32, (y0 = 0 ∧ ¬ ((x3.toInt / 6) < rmW σ ∧ (x3.toInt % 6) < rmR σ) ∨ y0 = 1 ∧ (x3.toInt / 6) < rmW σ ∧ (x3.toInt % 6) < rmR σ) → OK (f_X11_laysPairs_54 (f_X11_laysPairs_12 n) x1 x2 x3 y0 x3 σ) (RZ [35] [] σ PPX) := fun y0 hy => by
      unfold f_X11_laysPairs_54
      have v0 : vp_nar .boolean y0 = y0 := by
        rcases hy with hy | hy
        · rw [hy.1]; rfl
        · rw [hy.1]; rfl
      rw [v0]
      refine OK.grd ⟨by omega, by omega⟩ ?_
      have ch : CH [35] [] σ (stI σ 35 x3.toNatClampNeg y0) := CH.rf.i (by decide) (by decide)
      have yb : y0.toInt = 0 ∨ y0.toInt = 1 := by
        rcases hy with hy | hy
        · rw [hy.1]; omega
        · rw [hy.1]; omega
      refine OK.trZ (ih (x3 + 1) (stI σ 35 x3.toNatClampNeg y0) ⟨hM.1, hM.2.1, hM.2.2.up yb⟩ h1 h2 (fun k k1 k2 => ?_) (fun k k1 k2 k3 => ?_) (by omega)) ch (fun _ h => h) (fun _ h => h) (fun _ _ h => h)
      · have k2 : ¬ upd (σ.1 35) x3.toNatClampNeg y0 k = 0 := k2
        show ((k : Int) / 6) < rmW σ ∧ ((k : Int) % 6) < rmR σ
        unfold upd at k2
        split at k2
        · rename_i e
          rcases hy with hy | hy
          · exact absurd hy.1 k2
          · have : (k : Int) = x3.toInt := by omega
            rw [this]; exact hy.2
        · rename_i e
          exact hC k (by omega) k2
      · have k2 : ((k : Int) / 6) < rmW σ := k2
        have k3 : ((k : Int) % 6) < rmR σ := k3
        show ¬ upd (σ.1 35) x3.toNatClampNeg y0 k = 0
        unfold upd
        split
        · rename_i e
          rcases hy with hy | hy
          · exfalso
            apply hy.2
            have : (k : Int) = x3.toInt := by omega
            rw [← this]
            exact ⟨k2, k3⟩
          · rw [hy.1]; decide
        · rename_i e
          exact hD k (by omega) k2 k3
    refine OK.grd ⟨by omega, by omega⟩ ?_
    refine OK.ile (fun _ => k54 0 (.inl ⟨rfl, by omega⟩)) (fun g1 => ?_)
    refine OK.grd ⟨by omega, by omega⟩ ?_
    refine OK.ile (fun _ => k54 0 (.inl ⟨rfl, by omega⟩)) (fun g2 => ?_)
    exact k54 1 (.inr ⟨rfl, by omega, by omega⟩)
theorem bx_laysPairs (p0 p1 : Int32) (σ : ST) (hP : PLs σ) (hB : PB σ) (h0 : 0 ≤ p0.toInt ∧ p0.toInt < (σ.1 0 32).toInt) (h1 : 0 ≤ p1.toInt ∧ p1.toInt < (σ.1 0 32).toInt) : OK (f_X11_laysPairs p0 p1 σ) (RZ [35] [53, 54] σ fun t => PPX t ∧ t.1 0 53 = p0 ∧ t.1 0 54 = p1) := by
  unfold f_X11_laysPairs
  have lt_0 := li_0
  have lu := FUi
  have hM : ME (stI (stI σ 0 53 p0) 0 54 p1) := ⟨hP.of rfl rfl rfl rfl rfl rfl rfl rfl rfl, ⟨h0, h1⟩, hB⟩
  refine OK.trZ (bx_lp_12 p0 p1 FU 0 (stI (stI σ 0 53 p0) 0 54 p1) hM rfl rfl (fun k k1 => by omega) (fun k k1 => by omega) (by omega)) ((CH.rf.o (by decide)).o (by decide)) (fun _ h => h) (fun _ h => by cases h) (fun t ct hPP => ⟨hPP, ?_, ?_⟩)
  · rw [ct.2.1 53 (by decide)]; rfl
  · rw [ct.2.1 54 (by decide)]; rfl
