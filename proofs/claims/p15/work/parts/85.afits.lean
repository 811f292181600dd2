/-! what the class's matcher answers of two types -/
/-- the first that is alike, else the first: as far as k -/
def CHI (k : Nat) (m e : Nat → Prop) (val : Nat → Int) (z : Int) : Prop := (∀ j, j < k → ¬ (m j ∧ e j)) ∧ (z = -1 ∧ (∀ j, j < k → ¬ m j) ∨ ∃ i, i < k ∧ z = val i ∧ m i ∧ ∀ j, j < i → ¬ m j)
/-- and in the end -/
def CHR (M : Nat) (m e : Nat → Prop) (val : Nat → Int) (z : Int) : Prop := z = -1 ∧ (∀ j, j < M → ¬ m j) ∨ ∃ i, i < M ∧ z = val i ∧ m i ∧ (e i ∧ (∀ j, j < i → ¬ (m j ∧ e j)) ∨ (∀ j, j < M → ¬ (m j ∧ e j)) ∧ ∀ j, j < i → ¬ m j)
theorem CHI.zero {m e : Nat → Prop} {val : Nat → Int} : CHI 0 m e val (-1) := ⟨fun j h => by omega, .inl ⟨rfl, fun j h => by omega⟩⟩
theorem CHI.fin {M : Nat} {m e : Nat → Prop} {val : Nat → Int} {z : Int} (h : CHI M m e val z) : CHR M m e val z := by
  obtain ⟨h1, h2 | ⟨i, a, b, c, d⟩⟩ := h
  · exact .inl h2
  · exact .inr ⟨i, a, b, c, .inr ⟨h1, d⟩⟩
theorem CHI.hit {k M : Nat} {m e : Nat → Prop} {val : Nat → Int} {z y : Int} (h : CHI k m e val z) (hk : k < M) (hm : m k) (he : e k) (hy : y = val k) : CHR M m e val y := .inr ⟨k, hk, hy, hm, .inl ⟨he, h.1⟩⟩
theorem CHI.miss {k : Nat} {m e : Nat → Prop} {val : Nat → Int} {z : Int} (h : CHI k m e val z) (hm : ¬ m k) : CHI (k + 1) m e val z := by
  obtain ⟨h1, h2⟩ := h
  refine ⟨fun j hj => ?_, ?_⟩
  · by_cases e : j = k
    · subst e
      exact fun h => hm h.1
    · exact h1 j (by omega)
  · rcases h2 with ⟨a, b⟩ | ⟨i, a, b, c, d⟩
    · refine .inl ⟨a, fun j hj => ?_⟩
      by_cases e : j = k
      · subst e
        exact hm
      · exact b j (by omega)
    · exact .inr ⟨i, by omega, b, c, d⟩
theorem CHI.take {k : Nat} {m e : Nat → Prop} {val : Nat → Int} {z y : Int} (h : CHI k m e val z) (hm : m k) (he : ¬ e k) (h0 : ∀ i, i < k → 0 ≤ val i) (hy : z = -1 → y = val k) (hn : ¬ z = -1 → y = z) : CHI (k + 1) m e val y := by
  obtain ⟨h1, h2⟩ := h
  refine ⟨fun j hj => ?_, ?_⟩
  · by_cases e : j = k
    · subst e
      exact fun h => he h.2
    · exact h1 j (by omega)
  · rcases h2 with ⟨a, b⟩ | ⟨i, a, b, c, d⟩
    · exact .inr ⟨k, by omega, hy a, hm, b⟩
    · have := h0 i a
      exact .inr ⟨i, by omega, (hn (by omega)).trans b, c, d⟩
theorem CHR.uniq {M : Nat} {m e : Nat → Prop} {u v : Nat → Int} {z y : Int} (h : CHR M m e u z) (k : CHR M m e v y) : z = -1 ∧ y = -1 ∨ ∃ i, i < M ∧ z = u i ∧ y = v i ∧ m i := by
  rcases h with ⟨a, b⟩ | ⟨i, a, b, c, d⟩
  · rcases k with ⟨a', b'⟩ | ⟨i', a', b', c', d'⟩
    · exact .inl ⟨a, a'⟩
    · exact absurd c' (b i' a')
  · rcases k with ⟨a', b'⟩ | ⟨i', a', b', c', d'⟩
    · exact absurd c (b' i a)
    · have e : i = i' := by
        rcases d with ⟨d1, d2⟩ | ⟨d1, d2⟩ <;> rcases d' with ⟨d1', d2'⟩ | ⟨d1', d2'⟩
        · by_cases h1 : i < i'
          · exact absurd ⟨c, d1⟩ (d2' i h1)
          · by_cases h2 : i' < i
            · exact absurd ⟨c', d1'⟩ (d2 i' h2)
            · omega
        · exact absurd ⟨c, d1⟩ (d1' i a)
        · exact absurd ⟨c', d1'⟩ (d1 i' a')
        · by_cases h1 : i < i'
          · exact absurd c (d2' i h1)
          · by_cases h2 : i' < i
            · exact absurd c' (d2 i' h2)
            · omega
      subst e
      exact .inr ⟨i, a, b, b', c⟩
/-- two types of the reference, the pairs being PR -/
abbrev MTt (τ : ST) (PR : Nat → Int32) (w r : Int32) : Prop := MT (τ.1 2) (τ.1 3) (τ.1 4) (τ.1 5) PR w r
def cFits (N : Nat) (rf : Int32 → Int32 → Int32 → ST → Option (Int32 × ST)) (p q : Nat) (a b : Int) (σ τ : ST) (PR : Nat → Int32) : Prop := ∀ (x y u v lev : Int32) (d e : Nat), TY p a σ τ d x u → TY q b σ τ e y v → 0 ≤ lev.toInt → lev.toInt + d + 2 * e ≤ 13 → d + 2 * e ≤ N → OK (rf x y lev σ) (RO σ fun z => z.toInt = 0 ∧ ¬ MTt τ PR u v ∨ z.toInt = 1 ∧ MTt τ PR u v)
def cChn (N : Nat) (rc : Int32 → Int32 → Int32 → ST → Option (Int32 × ST)) (p q : Nat) (a b : Int) (σ τ : ST) (PR : Nat → Int32) : Prop := ∀ (x y u v lev : Int32) (d e : Nat), TY p a σ τ d x u → TY q b σ τ e y v → (τ.1 2 v.toNatClampNeg).toInt = 8 → 0 ≤ lev.toInt → lev.toInt + d + 2 * e ≤ 14 → d + 2 * e ≤ N + 1 → OK (rc x y lev σ) (RO σ fun z => CHR (τ.1 4 v.toNatClampNeg).toInt.toNat (fun k => MTt τ PR u (τ.1 5 (4 * v.toNatClampNeg + k))) (fun k => (τ.1 2 (τ.1 5 (4 * v.toNatClampNeg + k)).toNatClampNeg).toInt = (τ.1 2 u.toNatClampNeg).toInt) (fun k => (chn (σ.1 17) (σ.1 16 y.toNatClampNeg) k).toInt) z.toInt)
theorem chn_v {q e : Nat} {b : Int} {σ τ : ST} {y v : Int32} (h : TY q b σ τ e y v) (h8 : (τ.1 2 v.toNatClampNeg).toInt = 8) : ∃ m : Nat, 1 ≤ m ∧ m ≤ 4 ∧ 1 ≤ e ∧ (τ.1 4 v.toNatClampNeg).toInt = m ∧ (∀ k : Nat, k < m → TY q b σ τ (e - 1) (chn (σ.1 17) (σ.1 16 y.toNatClampNeg) k) (τ.1 5 (4 * v.toNatClampNeg + k)) ∧ ¬ (τ.1 2 (τ.1 5 (4 * v.toNatClampNeg + k)).toNatClampNeg).toInt = 8) ∧ (chn (σ.1 17) (σ.1 16 y.toNatClampNeg) m).toInt = -1 := by
  cases e with
  | zero => exact h.elim
  | succ e =>
    obtain ⟨u1, u2, u3, _⟩ := h.2.2.2.2.2.2 h8
    obtain ⟨m, hm⟩ : ∃ m : Nat, (τ.1 4 v.toNatClampNeg).toInt = m := ⟨_, (Int.toNat_of_nonneg (by omega)).symm⟩
    have em : (τ.1 4 v.toNatClampNeg).toInt.toNat = m := by omega
    rw [em] at u3
    exact ⟨m, by omega, by omega, by omega, hm, fun k hk => u2 k (by omega), u3⟩
theorem TY.sort {q e : Nat} {b : Int} {σ τ : ST} {y v : Int32} (h : TY q b σ τ e y v) (hn : (σ.1 4 1).toInt ≤ 262) : f_X5_sortOf 4 y σ = some (τ.1 2 v.toNatClampNeg, σ) ∧ f_X5_innerOf 4 y σ = some (σ.1 16 y.toNatClampNeg, σ) ∧ (0 ≤ (τ.1 2 v.toNatClampNeg).toInt ∧ (τ.1 2 v.toNatClampNeg).toInt ≤ 8) ∧ 1 ≤ e := by
  cases e with
  | zero => exact h.elim
  | succ e =>
    obtain ⟨⟨h1, h2⟩, h3, h4, _⟩ := h
    exact ⟨by rw [a4_sortOf y σ h1 hn, h3], a4_innerOf y σ h1 hn, h4, by omega⟩
theorem a_chosen_16 {N p q : Nat} {a b : Int} {σ τ : ST} {PR : Nat → Int32} {rc rf : Int32 → Int32 → Int32 → ST → Option (Int32 × ST)} (hf : cFits N rf p q a b σ τ PR) (hn : (σ.1 4 1).toInt ≤ 262) (x u y v lev : Int32) (d e m : Nat) (hx : TY p a σ τ d x u) (hm : m ≤ 4) (hM : (τ.1 4 v.toNatClampNeg).toInt = m) (hv : ∀ k : Nat, k < m → TY q b σ τ e (chn (σ.1 17) (σ.1 16 y.toNatClampNeg) k) (τ.1 5 (4 * v.toNatClampNeg + k)) ∧ ¬ (τ.1 2 (τ.1 5 (4 * v.toNatClampNeg + k)).toNatClampNeg).toInt = 8) (hz : (chn (σ.1 17) (σ.1 16 y.toNatClampNeg) m).toInt = -1) (hl : 0 ≤ lev.toInt) (hl2 : lev.toInt + d + 2 * e ≤ 12) (hN : d + 2 * e ≤ N) : ∀ (n k : Nat) (x4 x6 : Int32), x6.toInt = k → k ≤ m → m < n + k → CHI k (fun k => MTt τ PR u (τ.1 5 (4 * v.toNatClampNeg + k))) (fun k => (τ.1 2 (τ.1 5 (4 * v.toNatClampNeg + k)).toNatClampNeg).toInt = (τ.1 2 u.toNatClampNeg).toInt) (fun k => (chn (σ.1 17) (σ.1 16 y.toNatClampNeg) k).toInt) x4.toInt → OK (f_X0_chosenWithin_16 rc rf n x lev x4 (chn (σ.1 17) (σ.1 16 y.toNatClampNeg) k) x6 σ) (RO σ fun z => CHR m (fun k => MTt τ PR u (τ.1 5 (4 * v.toNatClampNeg + k))) (fun k => (τ.1 2 (τ.1 5 (4 * v.toNatClampNeg + k)).toNatClampNeg).toInt = (τ.1 2 u.toNatClampNeg).toInt) (fun k => (chn (σ.1 17) (σ.1 16 y.toNatClampNeg) k).toInt) z.toInt) := by
  intro n
  have l0 := li_0
  have lm := li_m1
  have l1 := li_1
  have l4 := li_4
  induction n with
  | zero => intro k x4 x6 h1 h2 h3; omega
  | succ n ih =>
    intro k x4 x6 h1 h2 h3 hI
    rw [f_X0_chosenWithin_16]
    unfold f_X0_chosenWithin_77 f_X0_chosenWithin_79
    by_cases ek : k = m
    · subst ek
      refine OK.ile (fun _ => OK.roret hI.fin) (fun _ => ?_)
      exact OK.ieq (fun _ => OK.roret hI.fin) (fun h => by omega)
    obtain ⟨t1, t2⟩ := hv k (by omega)
    have r1 := t1.rng
    refine OK.ile (fun h => by omega) (fun _ => ?_)
    refine OK.ieq (fun h => by omega) (fun _ => ?_)
    have el := il_addE (x := lev) (y := 1) (by omega) (by omega)
    have e6 := il_addE (x := x6) (y := 1) (by omega) (by omega)
    refine OK.bndR (hf x _ u _ (lev + 1) d e hx t1 (by omega) (by omega) (by omega)) (fun w hw => ?_)
    dsimp only
    have hba := a4_branchAfter _ σ r1.1 hn
    have nx : ∀ z, CHI (k + 1) (fun k => MTt τ PR u (τ.1 5 (4 * v.toNatClampNeg + k))) (fun k => (τ.1 2 (τ.1 5 (4 * v.toNatClampNeg + k)).toNatClampNeg).toInt = (τ.1 2 u.toNatClampNeg).toInt) (fun k => (chn (σ.1 17) (σ.1 16 y.toNatClampNeg) k).toInt) (Int32.toInt z) → OK (f_X0_chosenWithin_16 rc rf n x lev z (σ.1 17 (chn (σ.1 17) (σ.1 16 y.toNatClampNeg) k).toNatClampNeg) (x6 + 1) σ) (RO σ fun z => CHR m (fun k => MTt τ PR u (τ.1 5 (4 * v.toNatClampNeg + k))) (fun k => (τ.1 2 (τ.1 5 (4 * v.toNatClampNeg + k)).toNatClampNeg).toInt = (τ.1 2 u.toNatClampNeg).toInt) (fun k => (chn (σ.1 17) (σ.1 16 y.toNatClampNeg) k).toInt) z.toInt) := fun z hz => ih (k + 1) z (x6 + 1) (by omega) (by omega) (by omega) hz
    have s1 := (t1.sort hn).1
    have s2 := (hx.sort hn).1
    refine OK.ieq (fun hw0 => ?_) (fun hw0 => ?_)
    · rw [hba, sbnd]
      refine nx x4 (hI.miss ?_)
      rcases hw with hw | hw
      · exact hw.2
      · omega
    have hmt : MTt τ PR u (τ.1 5 (4 * v.toNatClampNeg + k)) := by
      rcases hw with hw | hw
      · omega
      · exact hw.2
    rw [s1, sbnd]
    dsimp only
    rw [s2, sbnd]
    dsimp only
    have h0 : ∀ i, i < k → 0 ≤ (chn (σ.1 17) (σ.1 16 y.toNatClampNeg) i).toInt := fun i hi => (hv i (by omega)).1.rng.1.1
    refine OK.ieq (fun he => OK.roret (hI.hit (by omega) hmt he rfl)) (fun he => ?_)
    refine OK.ieq (fun hz => ?_) (fun hz => ?_)
    · rw [hba, sbnd]
      exact nx _ (hI.take hmt he h0 (fun _ => rfl) (fun h => by omega))
    · rw [hba, sbnd]
      exact nx _ (hI.take hmt he h0 (fun h => by omega) (fun _ => rfl))
theorem a_chosen_top {N p q : Nat} {a b : Int} {σ τ : ST} {PR : Nat → Int32} {rc rf : Int32 → Int32 → Int32 → ST → Option (Int32 × ST)} (hf : cFits N rf p q a b σ τ PR) (hn : (σ.1 4 1).toInt ≤ 262) : cChn (N + 1) (f_X0_chosenWithin rc rf) p q a b σ τ PR := by
  intro x y u v lev d e hx hy h8 hl hl2 hN
  unfold f_X0_chosenWithin
  obtain ⟨m, m1, m2, m3, m4, m5, m6⟩ := chn_v hy h8
  have lu := FUi
  rw [(hy.sort hn).2.1, sbnd]
  dsimp only
  have em : (τ.1 4 v.toNatClampNeg).toInt.toNat = m := by omega
  rw [em]
  exact a_chosen_16 hf hn x u y v lev d (e - 1) m hx m2 m4 m5 m6 hl (by omega) (by omega) FU 0 (-1) 0 li_0 (by omega) (by omega) (by rw [li_m1]; exact CHI.zero)
theorem a_fits_48 {N p q : Nat} {a b : Int} {σ τ : ST} {PR : Nat → Int32} {rc rf : Int32 → Int32 → Int32 → ST → Option (Int32 × ST)} (hf : cFits N rf p q a b σ τ PR) (hn : (σ.1 4 1).toInt ≤ 262) (x u y v lev : Int32) (d e m : Nat) (hy : TY q b σ τ e y v) (hm : m ≤ 4) (hv : ∀ k : Nat, k < m → TY p a σ τ d (chn (σ.1 17) (σ.1 16 x.toNatClampNeg) k) (τ.1 5 (4 * u.toNatClampNeg + k)) ∧ ¬ (τ.1 2 (τ.1 5 (4 * u.toNatClampNeg + k)).toNatClampNeg).toInt = 8) (hz : (chn (σ.1 17) (σ.1 16 x.toNatClampNeg) m).toInt = -1) (hl : 0 ≤ lev.toInt) (hl2 : lev.toInt + d + 2 * e ≤ 12) (hN : d + 2 * e ≤ N) : ∀ (n k : Nat) (x7 : Int32), x7.toInt = k → k ≤ m → m < n + k → (∀ j, j < k → ¬ MTt τ PR (τ.1 5 (4 * u.toNatClampNeg + j)) v) → OK (f_X0_fitsWithin_48 rc rf n y lev (chn (σ.1 17) (σ.1 16 x.toNatClampNeg) k) x7 σ) (RO σ fun z => z.toInt = 0 ∧ (∀ j, j < m → ¬ MTt τ PR (τ.1 5 (4 * u.toNatClampNeg + j)) v) ∨ z.toInt = 1 ∧ ∃ j, j < m ∧ MTt τ PR (τ.1 5 (4 * u.toNatClampNeg + j)) v) := by
  intro n
  have l0 := li_0
  have lm := li_m1
  have l1 := li_1
  have l4 := li_4
  induction n with
  | zero => intro k x7 h1 h2 h3; omega
  | succ n ih =>
    intro k x7 h1 h2 h3 hI
    rw [f_X0_fitsWithin_48]
    by_cases ek : k = m
    · subst ek
      refine OK.ile (fun _ => OK.roret (.inl ⟨l0, hI⟩)) (fun _ => ?_)
      exact OK.ieq (fun _ => OK.roret (.inl ⟨l0, hI⟩)) (fun h => by omega)
    obtain ⟨t1, t2⟩ := hv k (by omega)
    have r1 := t1.rng
    refine OK.ile (fun h => by omega) (fun _ => ?_)
    refine OK.ieq (fun h => by omega) (fun _ => ?_)
    have el := il_addE (x := lev) (y := 1) (by omega) (by omega)
    have e6 := il_addE (x := x7) (y := 1) (by omega) (by omega)
    refine OK.bndR (hf _ y _ v (lev + 1) d e t1 hy (by omega) (by omega) (by omega)) (fun w hw => ?_)
    dsimp only
    refine OK.ieq (fun hw0 => ?_) (fun hw0 => ?_)
    · rw [a4_branchAfter _ σ r1.1 hn, sbnd]
      refine ih (k + 1) (x7 + 1) (by omega) (by omega) (by omega) (fun j hj => ?_)
      by_cases e : j = k
      · subst e
        rcases hw with hw | hw
        · exact hw.2
        · omega
      · exact hI j (by omega)
    · refine OK.roret (.inr ⟨l1, k, by omega, ?_⟩)
      rcases hw with hw | hw
      · omega
      · exact hw.2
theorem a_plainFits (p0 p1 : Int32) (σ : ST) (h0 : 0 ≤ p0.toInt) (h6 : p0.toInt ≤ 5 ∨ ¬ p0.toInt = p1.toInt) (h8 : ¬ p0.toInt = 8) : OK (f_X0_plainFits p0 p1 σ) (RO σ fun z => z.toInt = 0 ∧ ¬ (p0.toInt = p1.toInt ∨ p0.toInt = 2 ∧ (p1.toInt = 3 ∨ p1.toInt = 4) ∨ p0.toInt = 3 ∧ p1.toInt = 4) ∨ z.toInt = 1 ∧ (p0.toInt = p1.toInt ∨ p0.toInt = 2 ∧ (p1.toInt = 3 ∨ p1.toInt = 4) ∨ p0.toInt = 3 ∧ p1.toInt = 4)) := by
  unfold f_X0_plainFits f_X0_plainFits_31 f_X0_plainFits_41
  have l0 := li_0
  have l1 := li_1
  have l2 := li_2
  have l3 := li_3
  have l4 := li_4
  have l5 := li_5
  refine OK.ilt (fun h => by omega) (fun _ => ?_)
  refine OK.ile (fun h => ?_) (fun h => OK.roret (.inl ⟨l0, by omega⟩))
  refine OK.ieq (fun h1 => OK.roret (.inr ⟨l1, by omega⟩)) (fun h1 => ?_)
  refine OK.ieq (fun h2 => ?_) (fun h2 => ?_)
  · refine OK.ieq (fun h3 => OK.roret (.inr ⟨l1, by omega⟩)) (fun h3 => ?_)
    refine OK.ieq (fun h4 => OK.roret (.inr ⟨l1, by omega⟩)) (fun h4 => ?_)
    refine OK.ieq (fun h5 => ?_) (fun h5 => OK.roret (.inl ⟨l0, by omega⟩))
    exact OK.ieq (fun h3 => OK.roret (.inr ⟨l1, by omega⟩)) (fun h3 => OK.roret (.inl ⟨l0, by omega⟩))
  · refine OK.ieq (fun h5 => ?_) (fun h5 => OK.roret (.inl ⟨l0, by omega⟩))
    exact OK.ieq (fun h3 => OK.roret (.inr ⟨l1, by omega⟩)) (fun h3 => OK.roret (.inl ⟨l0, by omega⟩))
theorem a_fits_top {N p q : Nat} {a b : Int} {σ τ : ST} {PR : Nat → Int32} {rc rf : Int32 → Int32 → Int32 → ST → Option (Int32 × ST)} (hf : cFits N rf p q a b σ τ PR) (hc : cChn N rc p q a b σ τ PR) (hn : (σ.1 4 1).toInt ≤ 262) (hp : p < 6) (hq : q < 6) (ha : a ≤ 6) (hb : b ≤ 6) (hPR : ∀ k, k < 36 → (PR k = 0 ↔ lbt (σ.2.1 41 4) k = false)) : cFits (N + 1) (f_X0_fitsWithin rc rf) p q a b σ τ PR := by
  intro x y u v lev d e hx hy hl hl2 hN
  unfold f_X0_fitsWithin
  obtain ⟨x1, x2, x3, x4⟩ := hx.sort hn
  obtain ⟨y1, y2, y3, y4⟩ := hy.sort hn
  have l0 := li_0
  have l1 := li_1
  have lm := li_m1
  have l6 := li_6
  have l7 := li_7
  have l8 := li_8
  have l10 := li_10
  have lu := FUi
  have el := il_addE (x := lev) (y := 1) (by omega) (by omega)
  refine OK.ile (fun _ => ?_) (fun h => by omega)
  rw [x1, sbnd]
  dsimp only
  rw [y1, sbnd]
  dsimp only
  refine OK.ieq (fun hw8 => ?_) (fun hw8 => ?_)
  · have hw8 : (τ.1 2 u.toNatClampNeg).toInt = 8 := by omega
    obtain ⟨m, m1, m2, m3, m4, m5, m6⟩ := chn_v hx hw8
    rw [x2, sbnd]
    dsimp only
    refine (a_fits_48 hf hn x u y v lev (d - 1) e m hy m2 m5 m6 hl (by omega) (by omega) FU 0 0 l0 (by omega) (by omega) (fun j hj => by omega)).roq (fun z hz => ?_)
    rcases hz with ⟨z1, z2⟩ | ⟨z1, j, z2, z3⟩
    · refine .inl ⟨z1, fun h => ?_⟩
      obtain ⟨k, k1, k2⟩ := (MT.iffW hw8).mp h
      exact z2 k (by omega) k2
    · exact .inr ⟨z1, (MT.iffW hw8).mpr ⟨j, by omega, z3⟩⟩
  have hw8 : ¬ (τ.1 2 u.toNatClampNeg).toInt = 8 := by omega
  refine OK.ieq (fun hv8 => ?_) (fun hv8 => ?_)
  · have hv8 : (τ.1 2 v.toNatClampNeg).toInt = 8 := by omega
    obtain ⟨m, m1, m2, m3, m4, m5, m6⟩ := chn_v hy hv8
    refine OK.bndR (hc x y u v (lev + 1) d e hx hy hv8 (by omega) (by omega) (by omega)) (fun z hz => ?_)
    dsimp only
    have em : (τ.1 4 v.toNatClampNeg).toInt.toNat = m := by omega
    rw [em] at hz
    refine OK.ieq (fun hz0 => OK.roret (.inl ⟨l0, fun h => ?_⟩)) (fun hz0 => OK.roret (.inr ⟨l1, ?_⟩))
    · obtain ⟨k, k1, k2⟩ := (MT.iffR hw8 hv8).mp h
      rcases hz with ⟨_, hz⟩ | ⟨i, i1, i2, _⟩
      · exact hz k (by omega) k2
      · have i2 : z.toInt = (chn (σ.1 17) (σ.1 16 y.toNatClampNeg) i).toInt := i2
        have := (m5 i i1).1.rng
        omega
    · rcases hz with ⟨hz, _⟩ | ⟨i, i1, i2, i3, _⟩
      · omega
      · exact (MT.iffR hw8 hv8).mpr ⟨i, by omega, i3⟩
  have hv8 : ¬ (τ.1 2 v.toNatClampNeg).toInt = 8 := by omega
  have h158 : ¬ ((τ.1 2 u.toNatClampNeg).toInt = 6 ∧ (τ.1 2 v.toNatClampNeg).toInt = 6) → OK (f_X0_fitsWithin_158 rc rf x y (τ.1 2 u.toNatClampNeg) (τ.1 2 v.toNatClampNeg) σ) (RO σ fun z => z.toInt = 0 ∧ ¬ MTt τ PR u v ∨ z.toInt = 1 ∧ MTt τ PR u v) := fun h66 => by
    unfold f_X0_fitsWithin_158 f_X0_fitsWithin_207
    have h207 : ¬ ((τ.1 2 u.toNatClampNeg).toInt = 7 ∧ (τ.1 2 v.toNatClampNeg).toInt = 7) → OK ((f_X0_plainFits (τ.1 2 u.toNatClampNeg) (τ.1 2 v.toNatClampNeg) σ).bind fun q1 => if q1.1 = 0 ∨ q1.1 = 1 then some (q1.1, q1.2) else none) (RO σ fun z => z.toInt = 0 ∧ ¬ MTt τ PR u v ∨ z.toInt = 1 ∧ MTt τ PR u v) := fun h77 => by
      refine OK.bndR (a_plainFits _ _ σ x3.1 (by omega) hw8) (fun z hz => ?_)
      dsimp only
      refine OK.grd (b01 (hz.elim (fun h => .inl h.1) (fun h => .inr h.1))) ?_
      refine OK.roret ?_
      rcases hz with ⟨z1, z2⟩ | ⟨z1, z2⟩
      · exact .inl ⟨z1, fun h => z2 ((MT.iffE hw8 hv8 h66 h77).mp h)⟩
      · exact .inr ⟨z1, (MT.iffE hw8 hv8 h66 h77).mpr z2⟩
    refine OK.ieq (fun hw7 => ?_) (fun hw7 => h207 (by omega))
    refine OK.ieq (fun hv7 => ?_) (fun hv7 => h207 (by omega))
    have hw7 : (τ.1 2 u.toNatClampNeg).toInt = 7 := by omega
    have hv7 : (τ.1 2 v.toNatClampNeg).toInt = 7 := by omega
    rw [x2, sbnd]
    dsimp only
    rw [y2, sbnd]
    dsimp only
    have rx : (0 ≤ (τ.1 3 u.toNatClampNeg).toInt ∧ (τ.1 3 u.toNatClampNeg).toInt < a) ∧ (σ.1 16 x.toNatClampNeg).toInt = 6 * (p : Int) + (τ.1 3 u.toNatClampNeg).toInt := by
      cases d with
      | zero => exact hx.elim
      | succ d => exact hx.2.2.2.2.1 hw7
    have ry : (0 ≤ (τ.1 3 v.toNatClampNeg).toInt ∧ (τ.1 3 v.toNatClampNeg).toInt < b) ∧ (σ.1 16 y.toNatClampNeg).toInt = 6 * (q : Int) + (τ.1 3 v.toNatClampNeg).toInt := by
      cases e with
      | zero => exact hy.elim
      | succ e => exact hy.2.2.2.2.1 hv7
    have n1 := nN_ rx.1.1
    have n2 := nN_ ry.1.1
    rw [a_bitOf _ _ σ (a := 6 * p + (τ.1 3 u.toNatClampNeg).toNatClampNeg) (b := 6 * q + (τ.1 3 v.toNatClampNeg).toNatClampNeg) (by omega) (by omega) (by omega) (by omega), sbnd]
    dsimp only
    have ek : 6 * ((6 * p + (τ.1 3 u.toNatClampNeg).toNatClampNeg) % 6) + (6 * q + (τ.1 3 v.toNatClampNeg).toNatClampNeg) % 6 = 6 * (τ.1 3 u.toNatClampNeg).toNatClampNeg + (τ.1 3 v.toNatClampNeg).toNatClampNeg := by omega
    rw [ek]
    have hk := hPR (6 * (τ.1 3 u.toNatClampNeg).toNatClampNeg + (τ.1 3 v.toNatClampNeg).toNatClampNeg) (by omega)
    refine OK.ite (fun h => OK.roret (.inl ⟨l0, fun h9 => ?_⟩)) (fun h => OK.roret (.inr ⟨l1, ?_⟩))
    · rw [a_has (by omega)] at h
      exact (MT.iffP hw7 hv7).mp h9 (hk.mpr h)
    · rw [a_has (by omega)] at h
      exact (MT.iffP hw7 hv7).mpr (fun h9 => h (hk.mp h9))
  refine OK.ieq (fun hw6 => ?_) (fun hw6 => h158 (by omega))
  refine OK.ieq (fun hv6 => ?_) (fun hv6 => h158 (by omega))
  have hw6 : (τ.1 2 u.toNatClampNeg).toInt = 6 := by omega
  have hv6 : (τ.1 2 v.toNatClampNeg).toInt = 6 := by omega
  rw [x2, sbnd]
  dsimp only
  rw [y2, sbnd]
  dsimp only
  have tx : TY p a σ τ (d - 1) (σ.1 16 x.toNatClampNeg) (τ.1 3 u.toNatClampNeg) := by
    cases d with
    | zero => exact hx.elim
    | succ d => exact hx.2.2.2.1 hw6
  have ty : TY q b σ τ (e - 1) (σ.1 16 y.toNatClampNeg) (τ.1 3 v.toNatClampNeg) := by
    cases e with
    | zero => exact hy.elim
    | succ e => exact hy.2.2.2.1 hv6
  refine OK.bndR (hf _ _ _ _ (lev + 1) (d - 1) (e - 1) tx ty (by omega) (by omega) (by omega)) (fun z hz => ?_)
  dsimp only
  refine OK.grd (b01 (hz.elim (fun h => .inl h.1) (fun h => .inr h.1))) ?_
  refine OK.roret ?_
  rcases hz with ⟨z1, z2⟩ | ⟨z1, z2⟩
  · exact .inl ⟨z1, fun h => z2 ((MT.iffL hw6 hv6).mp h)⟩
  · exact .inr ⟨z1, (MT.iffL hw6 hv6).mpr z2⟩
theorem a_RF {p q : Nat} {a b : Int} {σ τ : ST} {PR : Nat → Int32} (hn : (σ.1 4 1).toInt ≤ 262) (hp : p < 6) (hq : q < 6) (ha : a ≤ 6) (hb : b ≤ 6) (hPR : ∀ k, k < 36 → (PR k = 0 ↔ lbt (σ.2.1 41 4) k = false)) : ∀ N : Nat, cChn N (R_X0_chosenWithin N).1 p q a b σ τ PR ∧ cFits N (R_X0_chosenWithin N).2 p q a b σ τ PR := by
  intro N
  induction N with
  | zero =>
    refine ⟨fun x y u v lev d e hx hy h8 _ _ hN => ?_, fun x y u v lev d e hx hy _ _ hN => ?_⟩
    · have := (hx.sort hn).2.2.2
      have := (hy.sort hn).2.2.2
      omega
    · have := (hx.sort hn).2.2.2
      omega
  | succ N ih => exact ⟨a_chosen_top ih.2 hn, a_fits_top ih.2 ih.1 hn hp hq ha hb hPR⟩
/-- the class at a pair of plans that hold, its pairs being PR -/
theorem aT_fits {p q : Nat} {a b : Int} {σ τ : ST} {PR : Nat → Int32} (hn : (σ.1 4 1).toInt ≤ 262) (hp : p < 6) (hq : q < 6) (ha : a ≤ 6) (hb : b ≤ 6) (hPR : ∀ k, k < 36 → (PR k = 0 ↔ lbt (σ.2.1 41 4) k = false)) (x y u v : Int32) (d e : Nat) (hx : TY p a σ τ d x u) (hy : TY q b σ τ e y v) (hd : d ≤ 4) (he : e ≤ 4) : OK (f_T_X0_fitsWithin x y 0 σ) (RO σ fun z => z.toInt = 0 ∧ ¬ MTt τ PR u v ∨ z.toInt = 1 ∧ MTt τ PR u v) := (a_RF hn hp hq ha hb hPR FR).2 x y u v 0 d e hx hy (by rw [li_0]; omega) (by rw [li_0]; omega) (by have : FR = 160 := rfl; omega)
theorem ax_fits {p q : Nat} {a b : Int} {σ τ : ST} {PR : Nat → Int32} (hn : (σ.1 4 1).toInt ≤ 262) (hp : p < 6) (hq : q < 6) (ha : a ≤ 6) (hb : b ≤ 6) (hPR : ∀ k, k < 36 → (PR k = 0 ↔ lbt (σ.2.1 41 4) k = false)) (x y u v : Int32) (d e : Nat) (hx : TY p a σ τ d x u) (hy : TY q b σ τ e y v) (hd : d ≤ 4) (he : e ≤ 4) : OK (f_X0_fits x y σ) (RO σ fun z => z.toInt = 0 ∧ ¬ MTt τ PR u v ∨ z.toInt = 1 ∧ MTt τ PR u v) := by
  unfold f_X0_fits
  refine OK.bndR (aT_fits hn hp hq ha hb hPR x y u v d e hx hy hd he) (fun z hz => ?_)
  dsimp only
  exact OK.grd (b01 (hz.elim (fun h => .inl h.1) (fun h => .inr h.1))) (OK.roret hz)
theorem ax_chosen {p q : Nat} {a b : Int} {σ τ : ST} {PR : Nat → Int32} (hn : (σ.1 4 1).toInt ≤ 262) (hp : p < 6) (hq : q < 6) (ha : a ≤ 6) (hb : b ≤ 6) (hPR : ∀ k, k < 36 → (PR k = 0 ↔ lbt (σ.2.1 41 4) k = false)) (x y u v : Int32) (d e : Nat) (hx : TY p a σ τ d x u) (hy : TY q b σ τ e y v) (h8 : (τ.1 2 v.toNatClampNeg).toInt = 8) (hd : d ≤ 4) (he : e ≤ 4) : OK (f_X0_chosen x y σ) (RO σ fun z => CHR (τ.1 4 v.toNatClampNeg).toInt.toNat (fun k => MTt τ PR u (τ.1 5 (4 * v.toNatClampNeg + k))) (fun k => (τ.1 2 (τ.1 5 (4 * v.toNatClampNeg + k)).toNatClampNeg).toInt = (τ.1 2 u.toNatClampNeg).toInt) (fun k => (chn (σ.1 17) (σ.1 16 y.toNatClampNeg) k).toInt) z.toInt) := by
  unfold f_X0_chosen
  refine OK.bndR ((a_RF hn hp hq ha hb hPR FR).1 x y u v 0 d e hx hy h8 (by rw [li_0]; omega) (by rw [li_0]; omega) (by have : FR = 160 := rfl; omega)) (fun z hz => ?_)
  exact OK.roret hz
