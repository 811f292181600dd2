/-! what the class's matcher answers of two types -/
/-- the first that is alike, else the first: as far as k -/
def CHI (k : Nat) (m e : Nat → Prop) (val : Nat → Int) (z : Int) : Prop := (∀ j, j < k → ¬ (m j ∧ e j)) ∧ (z = -1 ∧ (∀ j, j < k → ¬ m j) ∨ ∃ i, i < k ∧ z = val i ∧ m i ∧ ∀ j, j < i → ¬ m j)
/-- and in the end -/
def CHR (M : Nat) (m e : Nat → Prop) (val : Nat → Int) (z : Int) : Prop := z = -1 ∧ (∀ j, j < M → ¬ m j) ∨ ∃ i, i < M ∧ z = val i ∧ m i ∧ (e i ∧ (∀ j, j < i → ¬ (m j ∧ e j)) ∨ (∀ j, j < M → ¬ (m j ∧ e j)) ∧ ∀ j, j < i → ¬ m j)
theorem CHI.zero {m e : Nat → Prop} {val : Nat → Int} : CHI 0 m e val (-1) := ⟨fun j h => by omega, .inl ⟨rfl, fun j h => by omega⟩⟩
theorem CHI.fin {M : Nat} {m e : Nat → Prop} {val : Nat → Int} {z : Int} (h : CHI M m e val z) : CHR M m e val z := by
  obtain ⟨h1, h2 | ⟨i, a, b, c, d⟩⟩ := h
  · exact .inl h2
  · exact .inr ⟨i, a, b, c, .inr ⟨h1, d⟩⟩
theorem CHI.hit {k M : Nat} {m e : Nat → Prop} {val : Nat → Int} {z y : Int} (h : CHI k m e val z) (hk : k < M) (hm : m k) (he : e k) (hy : y = val k) : CHR M m e val y := .inr ⟨k, hk, hy, hm, .inl ⟨he, h.1⟩⟩
theorem CHI.miss {k : Nat} {m e : Nat → Prop} {val : Nat → Int} {z : Int} (h : CHI k m e val z) (hm : ¬ m k) : CHI (k + 1) m e val z := by
  obtain ⟨h1, h2⟩ := h
  refine ⟨fun j hj => ?_, ?_⟩
  · by_cases e : j = k
    · subst e
      exact fun h => hm h.1
    · exact h1 j (by omega)
  · rcases h2 with ⟨a, b⟩ | ⟨i, a, b, c, d⟩
    · refine .inl ⟨a, fun j hj => ?_⟩
      by_cases e : j = k
      · subst e
        exact hm
      · exact b j (by omega)
    · exact .inr ⟨i, by omega, b, c, d⟩
theorem CHI.take {k : Nat} {m e : Nat → Prop} {val : Nat → Int} {z y : Int} (h : CHI k m e val z) (hm : m k) (he : ¬ e k) (h0 : ∀ i, i < k → 0 ≤ val i) (hy : z = -1 → y = val k) (hn : ¬ z = -1 → y = z) : CHI (k + 1) m e val y := by
  obtain ⟨h1, h2⟩ := h
  refine ⟨fun j hj => ?_, ?_⟩
  · by_cases e : j = k
    · subst e
      exact fun h => he h.2
    · exact h1 j (by omega)
  · rcases h2 with ⟨a, b⟩ | ⟨i, a, b, c, d⟩
    · exact .inr ⟨k, by omega, hy a, hm, b⟩
    · have := h0 i a
      exact .inr ⟨i, by omega, (hn (by omega)).trans b, c, d⟩
theorem CHR.uniq {M : Nat} {m e : Nat → Prop} {u v : Nat → Int} {z y : Int} (h : CHR M m e u z) (k : CHR M m e v y) : z = -1 ∧ y = -1 ∨ ∃ i, i < M ∧ z = u i ∧ y = v i ∧ m i := by
  rcases h with ⟨a, b⟩ | ⟨i, a, b, c, d⟩
  · rcases k with ⟨a', b'⟩ | ⟨i', a', b', c', d'⟩
    · exact .inl ⟨a, a'⟩
    · exact absurd c' (b i' a')
  · rcases k with ⟨a', b'⟩ | ⟨i', a', b', c', d'⟩
    · exact absurd c (b' i a)
    · have e : i = i' := by
        rcases d with ⟨d1, d2⟩ | ⟨d1, d2⟩ <;> rcases d' with ⟨d1', d2'⟩ | ⟨d1', d2'⟩
        · by_cases h1 : i < i'
          · exact absurd ⟨c, d1⟩ (d2' i h1)
          · by_cases h2 : i' < i
            · exact absurd ⟨c', d1'⟩ (d2 i' h2)
            · omega
        · exact absurd ⟨c, d1⟩ (d1' i a)
        · exact absurd ⟨c', d1'⟩ (d1 i' a')
        · by_cases h1 : i < i'
          · exact absurd c (d2' i h1)
          · by_cases h2 : i' < i
            · exact absurd c' (d2 i' h2)
            · omega
      subst e
      exact .inr ⟨i, a, b, b', c⟩
/-- two types of the reference, the pairs being PR -/
abbrev MTt (τ : ST) (PR : Nat → Int32) (w r : Int32) : Prop := MT (τ.1 2) (τ.1 3) (τ.1 4) (τ.1 5) PR w r
def cFits (N : Nat) (rf : Int32 → Int32 → Int32 → ST → Option (Int32 × ST)) (p q : Nat) (a b : Int) (σ τ : ST) (PR : Nat → Int32) : Prop := ∀ (x y u v lev : Int32) (d e : Nat), TY p a σ τ d x u → TY q b σ τ e y v → 0 ≤ lev.toInt → lev.toInt + d + 2 * e ≤ 13 → d + 2 * e ≤ N → OK (rf x y lev σ) (RO σ fun z => z.toInt = 0 ∧ ¬ MTt τ PR u v ∨ z.toInt = 1 ∧ MTt τ PR u v)
def cChn (N : Nat) (rc : Int32 → Int32 → Int32 → ST → Option (Int32 × ST)) (p q : Nat) (a b : Int) (σ τ : ST) (PR : Nat → Int32) : Prop := ∀ (x y u v lev : Int32) (d e : Nat), TY p a σ τ d x u → TY q b σ τ e y v → (τ.1 2 v.toNatClampNeg).toInt = 8 → 0 ≤ lev.toInt → lev.toInt + d + 2 * e ≤ 14 → d + 2 * e ≤ N + 1 → OK (rc x y lev σ) (RO σ fun z => CHR (τ.1 4 v.toNatClampNeg).toInt.toNat (fun k => MTt τ PR u (τ.1 5 (4 * v.toNatClampNeg + k))) (fun k => (τ.1 2 (τ.1 5 (4 * v.toNatClampNeg + k)).toNatClampNeg).toInt = (τ.1 2 u.toNatClampNeg).toInt) (fun k => (chn (σ.1 17) (σ.1 16 y.toNatClampNeg) k).toInt) z.toInt)
theorem chn_v {q e : Nat} {b : Int} {σ τ : ST} {y v : Int32} (h : TY q b σ τ e y v) (h8 : (τ.1 2 v.toNatClampNeg).toInt = 8) : ∃ m : Nat, 1 ≤ m ∧ m ≤ 4 ∧ 1 ≤ e ∧ (τ.1 4 v.toNatClampNeg).toInt = m ∧ (∀ k : Nat, k < m → TY q b σ τ (e - 1) (chn (σ.1 17) (σ.1 16 y.toNatClampNeg) k) (τ.1 5 (4 * v.toNatClampNeg + k)) ∧ ¬ (τ.1 2 (τ.1 5 (4 * v.toNatClampNeg + k)).toNatClampNeg).toInt = 8) ∧ (chn (σ.1 17) (σ.1 16 y.toNatClampNeg) m).toInt = -1 := by
  cases e with
  | zero => exact h.elim
  | succ e =>
    obtain ⟨u1, u2, u3, _⟩ := h.2.2.2.2.2.2 h8
    obtain ⟨m, hm⟩ : ∃ m : Nat, (τ.1 4 v.toNatClampNeg).toInt = m := ⟨_, (Int.toNat_of_nonneg (by omega)).symm⟩
    have em : (τ.1 4 v.toNatClampNeg).toInt.toNat = m := by omega
    rw [em] at u3
    exact ⟨m, by omega, by omega, by omega, hm, fun k hk => u2 k (by omega), u3⟩
theorem TY.sort {q e : Nat} {b : Int} {σ τ : ST} {y v : Int32} (h : TY q b σ τ e y v) (hn : (σ.1 4 1).toInt ≤ 262) : f_X5_sortOf 4 y σ = some (τ.1 2 v.toNatClampNeg, σ) ∧ f_X5_innerOf 4 y σ = some (σ.1 16 y.toNatClampNeg, σ) ∧ (0 ≤ (τ.1 2 v.toNatClampNeg).toInt ∧ (τ.1 2 v.toNatClampNeg).toInt ≤ 8) ∧ 1 ≤ e := by
  cases e with
  | zero => exact h.elim
  | succ e =>
    obtain ⟨⟨h1, h2⟩, h3, h4, _⟩ := h
    exact ⟨by rw [a4_sortOf y σ h1 hn, h3], a4_innerOf y σ h1 hn, h4, by omega⟩
theorem a_chosen_16 {N p q : Nat} {a b : Int} {σ τ : ST} {PR : Nat → Int32} {rc rf : Int32 → Int32 → Int32 → ST → Option (Int32 × ST)} (hf : cFits N rf p q a b σ τ PR) (hn : (σ.1 4 1).toInt ≤ 262) (x u y v lev : Int32) (d e m : Nat) (hx : TY p a σ τ d x u) (hm : m ≤ 4) (hM : (τ.1 4 v.toNatClampNeg).toInt = m) (hv : ∀ k : Nat, k < m → TY q b σ τ e (chn (σ.1 17) (σ.1 16 y.toNatClampNeg) k) (τ.1 5 (4 * v.toNatClampNeg + k)) ∧ ¬ (τ.1 2 (τ.1 5 (4 * v.toNatClampNeg + k)).toNatClampNeg).toInt = 8) (hz : (chn (σ.1 17) (σ.1 16 y.toNatClampNeg) m).toInt = -1) (hl : 0 ≤ lev.toInt) (hl2 : lev.toInt + d + 2 * e ≤ 12) (hN : d + 2 * e ≤ N) : ∀ (n k : Nat) (x4 x6 : Int32), x6.toInt = k → k ≤ m → m < n + k → CHI k (fun k => MTt τ PR u (τ.1 5 (4 * v.toNatClampNeg + k))) (fun k => (τ.1 2 (τ.1 5 (4 * v.toNatClampNeg + k)).toNatClampNeg).toInt = (τ.1 2 u.toNatClampNeg).toInt) (fun k => (chn (σ.1 17) (σ.1 16 y.toNatClampNeg) k).toInt) x4.toInt → OK (f_X0_chosenWithin_16 rc rf n x lev x4 (chn (σ.1 17) (σ.1 16 y.toNatClampNeg) k) x6 σ) (RO σ fun z => CHR m (fun k => MTt τ PR u (τ.1 5 (4 * v.toNatClampNeg + k))) (fun k => (τ.1 2 (τ.1 5 (4 * v.toNatClampNeg + k)).toNatClampNeg).toInt = (τ.1 2 u.toNatClampNeg).toInt) (fun k => (chn (σ.1 17) (σ.1 16 y.toNatClampNeg) k).toInt) z.toInt) := by
  intro n
  have l0 := li_0
  have lm := li_m1
  have l1 := li_1
  have l4 := li_4
  induction n with
  | zero => intro k x4 x6 h1 h2 h3; omega
  | succ n ih =>
    intro k x4 x6 h1 h2 h3 hI
    rw [f_X0_chosenWithin_16]
    unfold f_X0_chosenWithin_77 f_X0_chosenWithin_79
    by_cases ek : k = m
    · subst ek
      refine OK.ile (fun _ => OK.roret hI.fin) (fun _ => ?_)
      exact OK.ieq (fun _ => OK.roret hI.fin) (fun h => by omega)
    obtain ⟨t1, t2⟩ := hv k (by omega)
    have r1 := t1.rng
    refine OK.ile (fun h => by omega) (fun _ => ?_)
    refine OK.ieq (fun h => by omega) (fun _ => ?_)
    have el := il_addE (x := lev) (y := 1) (by omega) (by omega)
    have e6 := il_addE (x := x6) (y := 1) (by omega) (by omega)
    refine OK.bndR (hf x _ u _ (lev + 1) d e hx t1 (by omega) (by omega) (by omega)) (fun w hw => ?_)
    dsimp only
    have hba := a4_branchAfter _ σ r1.1 hn
    have nx : ∀ z, CHI (k + 1) (fun k => MTt τ PR u (τ.1 5 (4 * v.toNatClampNeg + k))) (fun k => (τ.1 2 (τ.1 5 (4 * v.toNatClampNeg + k)).toNatClampNeg).toInt = (τ.1 2 u.toNatClampNeg).toInt) (fun k => (chn (σ.1 17) (σ.1 16 y.toNatClampNeg) k).toInt) (Int32.toInt z) → OK (f_X0_chosenWithin_16 rc rf n x lev z (σ.1 17 (chn (σ.1 17) (σ.1 16 y.toNatClampNeg) k).toNatClampNeg) (x6 + 1) σ) (RO σ fun z => CHR m (fun k => MTt τ PR u (τ.1 5 (4 * v.toNatClampNeg + k))) (fun k => (τ.1 2 (τ.1 5 (4 * v.toNatClampNeg + k)).toNatClampNeg).toInt = (τ.1 2 u.toNatClampNeg).toInt) (fun k => (chn (σ.1 17) (σ.1 16 y.toNatClampNeg) k).toInt) z.toInt) := fun z hz => ih (k + 1) z (x6 + 1) (by omega) (by omega) (by omega) hz
    have s1 := (t1.sort hn).1
    have s2 := (hx.sort hn).1
    refine OK.ieq (fun hw0 => ?_) (fun hw0 => ?_)
    · rw [hba, sbnd]
      refine nx x4 (hI.miss ?_)
      rcases hw with hw | hw
      · exact hw.2
      · omega
    have hmt : MTt τ PR u (τ.1 5 (4 * v.toNatClampNeg + k)) := by
      rcases hw with hw | hw
      · omega
      · exact hw.2
    rw [s1, sbnd]
    dsimp only
    rw [s2, sbnd]
    dsimp only
    have h0 : ∀ i, i < k → 0 ≤ (chn (σ.1 17) (σ.1 16 y.toNatClampNeg) i).toInt := fun i hi => (hv i (by omega)).1.rng.1.1
    refine OK.ieq (fun he => OK.roret (hI.hit (by omega) hmt he rfl)) (fun he => ?_)
    refine OK.ieq (fun hz => ?_) (fun hz => ?_)
    · rw [hba, sbnd]
      exact nx _ (hI.take hmt he h0 (fun _ => rfl) (fun h => by omega))
    · rw [hba, sbnd]
      exact nx _ (hI.take hmt he h0 (fun h => by omega) (fun _ => rfl))
theorem a_chosen_top {N p q : Nat} {a b : Int} {σ τ : ST} {PR : Nat → Int32} {rc rf : Int32 → Int32 → Int32 → ST → Option (Int32 × ST)} (hf : cFits N rf p q a b σ τ PR) (hn : (σ.1 4 1).toInt ≤ 262) : cChn (N + 1) (f_X0_chosenWithin rc rf) p q a b σ τ PR := by
  intro x y u v lev d e hx hy h8 hl hl2 hN
  unfold f_X0_chosenWithin
  obtain ⟨m, m1, m2, m3, m4, m5, m6⟩ := chn_v hy h8
  have lu := FUi
  rw [(hy.sort hn).2.1, sbnd]
  dsimp only
  have em : (τ.1 4 v.toNatClampNeg).toInt.toNat = m := by omega
  rw [em]
  exact a_chosen_16 hf hn x u y v lev d (e - 1) m hx m2 m4 m5 m6 hl (by omega) (by omega) FU 0 (-1) 0 li_0 (by omega) (by omega) (by rw [li_m1]; exact CHI.zero)
theorem a_fits_48 {N p q : Nat} {a b : Int} {σ τ : ST} {PR : Nat → Int32} {rc rf : Int32 → Int32 → Int32 → ST → Option (Int32 × ST)} (hf : cFits N rf p q a b σ τ PR) (hn : (σ.1 4 1).toInt ≤ 262) (x u y v lev : Int32) (d e m : Nat) (hy : TY q b σ τ e y v) (hm : m ≤ 4) (hv : ∀ k : Nat, k < m → TY p a σ τ d (chn (σ.1 17) (σ.1 16 x.toNatClampNeg) k) (τ.1 5 (4 * u.toNatClampNeg + k)) ∧ ¬ (τ.1 2 (τ.1 5 (4 * u.toNatClampNeg + k)).toNatClampNeg).toInt = 8) (hz : (chn (σ.1 17) (σ.1 16 x.toNatClampNeg) m).toInt = -1) (hl : 0 ≤ lev.toInt) (hl2 : lev.toInt + d + 2 * e ≤ 12) (hN : d + 2 * e ≤ N) : ∀ (n k : Nat) (x7 : Int32), x7.toInt = k → k ≤ m → m < n + k → (∀ j, j < k → ¬ MTt τ PR (τ.1 5 (4 * u.toNatClampNeg + j)) v) → OK (f_X0_fitsWithin_48 rc rf n y lev (chn (σ.1 17) (σ.1 16 x.toNatClampNeg) k) x7 σ) (RO σ fun z => z.toInt = 0 ∧ (∀ j, j < m → ¬ MTt τ PR (τ.1 5 (4 * u.toNatClampNeg + j)) v) ∨ z.toInt = 1 ∧ ∃ j, j < m ∧ MTt τ PR (τ.1 5 (4 * u.toNatClampNeg + j)) v) := by
  intro n
  have l0 := li_0
  have lm := li_m1
  have l1 := li_1
  have l4 := li_4
  induction n with
  | zero => intro k x7 h1 h2 h3; omega
  | succ n ih =>
    intro k x7 h1 h2 h3 hI
    rw [f_X0_fitsWithin_48]
    by_cases ek : k = m
    · subst ek
      refine OK.ile (fun _ => OK.roret (.inl ⟨l0, hI⟩)) (fun _ => ?_)
      exact OK.ieq (fun _ => OK.roret (.inl ⟨l0, hI⟩)) (fun h => by omega)
    obtain ⟨t1, t2⟩ := hv k (by omega)
    have r1 := t1.rng
    refine OK.ile (fun h => by omega) (fun _ => ?_)
    refine OK.ieq (fun h => by omega) (fun _ => ?_)
    have el := il_addE (x := lev) (y := 1) (by omega) (by omega)
    have e6 := il_addE (x := x7) (y := 1) (by omega) (by omega)
    refine OK.bndR (hf _ y _ v (lev + 1) d e t1 hy (by omega) (by omega) (by omega)) (fun w hw => ?_)
    dsimp only
    refine OK.ieq (fun hw0 => ?_) (fun hw0 => ?_)
    · rw [a4_branchAfter _ σ r1.1 hn, sbnd]
      refine ih (k + 1) (x7 + 1) (by omega) (by omega) (by omega) (fun j hj => ?_)
      by_cases e : j = k
      · subst e
        rcases hw with hw | hw
        · exact hw.2
        · omega
      · exact hI j (by omega)
    · refine OK.roret (.inr ⟨l1, k, by omega, ?_⟩)
      rcases hw with hw | hw
      · omega
      · exact hw.2
theorem a_plainFits (p0 p1 : Int32) (σ : ST) (h0 : 0 ≤ p0.toInt) (h6 : p0.toInt ≤ 5 ∨ ¬ p0.toInt = p1.toInt) (h8 : ¬ p0.toInt = 8) : OK (f_X0_plainFits p0 p1 σ) (RO σ fun z => z.toInt = 0 ∧ ¬ (p0.toInt = p1.toInt ∨ p0.toInt = 2 ∧ (p1.toInt = 3 ∨ p1.toInt = 4) ∨ p0.toInt = 3 ∧ p1.toInt = 4) ∨ z.toInt = 1 ∧ (p0.toInt = p1.toInt ∨ p0.toInt = 2 ∧ (p1.toInt = 3 ∨ p1.toInt = 4) ∨ p0.toInt = 3 ∧ p1.toInt = 4)) := by
  unfold f_X0_plainFits f_X0_plainFits_31 f_X0_plainFits_41
  have l0 := li_0
  have l1 := li_1
  have l2 := li_2
  have l3 := li_3
  have l4 := li_4
  have l5 := li_5
  refine OK.ilt (fun h => by omega) (fun _ => ?_)
  refine OK.ile (fun h => ?_) (fun h => OK.roret (.inl ⟨l0, by omega⟩))
  refine OK.ieq (fun h1 => OK.roret (.inr ⟨l1, by omega⟩)) (fun h1 => ?_)
  refine OK.ieq (fun h2 => ?_) (fun h2 => ?_)
  · refine OK.ieq (fun h3 => OK.roret (.inr ⟨l1, by omega⟩)) (fun h3 => ?_)
    refine OK.ieq (fun h4 => OK.roret (.inr ⟨l1, by omega⟩)) (fun h4 => ?_)
    refine OK.ieq (fun h5 => ?_) (fun h5 => OK.roret (.inl ⟨l0, by omega⟩))
    exact OK.ieq (fun h3 => OK.roret (.inr ⟨l1, by omega⟩)) (fun h3 => OK.roret (.inl ⟨l0, by omega⟩))
  · refine OK.ieq (fun h5 => ?_) (fun h5 => OK.roret (.inl ⟨l0, by omega⟩))
    exact OK.ieq (fun h3 => OK.roret (.inr ⟨l1, by omega⟩)) (fun h3 => OK.roret (.inl ⟨l0, by omega⟩))
theorem a_fits_top {N p q : Nat} {a b : Int} {σ τ : ST} {PR : Nat → Int32} {rc rf : Int32 → Int32 → Int32 → ST → Option (Int32 × ST)} (hf : cFits N rf p q a b σ τ PR) (hc : cChn N rc p q a b σ τ PR) (hn : (σ.1 4 1).toInt ≤ 262) (hp : p < 6) (hq : q < 6) (ha : a ≤ 6) (hb : b ≤ 6) (hPR : ∀ k, k < 36 → (PR k = 0 ↔ lbt (σ.2.1 41 4) k = false)) : cFits (N + 1) (f_X0_fitsWithin rc rf) p q a b σ τ PR := by
  intro x y u v lev d e hx hy hl hl2 hN
  unfold f_X0_fitsWithin
  obtain ⟨x1, x2, x3, x4⟩ := hx.sort hn
  obtain ⟨y1, y2, y3, y4⟩ := hy.sort hn
  have l0 := li_0
  have l1 := li_1
  have lm := li_m1
  have l6 := li_6
  have l7 := li_7
  have l8 := li_8
  have l10 := li_10
  have lu := FUi
  have el := il_addE (x := lev) (y := 1) (by omega) (by omega)
  refine OK.ile (fun _ => ?_) (fun h => by omega)
  rw [x1, sbnd]
  dsimp only
  rw [y1, sbnd]
  dsimp only
  refine OK.ieq (fun hw8 => ?_) (fun hw8 => ?_)
  · have hw8 : (τ.1 2 u.toNatClampNeg).toInt = 8 := by omega
    obtain ⟨m, m1, m2, m3, m4, m5, m6⟩ := chn_v hx hw8
    rw [x2, sbnd]
    dsimp only
    refine (a_fits_48 hf hn x u y v lev (d - 1) e m hy m2 m5 m6 hl (by omega) (by omega) FU 0 0 l0 (by omega) (by omega) (fun j hj => by omega)).roq (fun z hz => ?_)
    rcases hz with ⟨z1, z2⟩ | ⟨z1, j, z2, z3⟩
    · refine .inl ⟨z1, fun h => ?_⟩
      obtain ⟨k, k1, k2⟩ := (MT.iffW hw8).mp h
      exact z2 k (by omega) k2
    · exact .inr ⟨z1, (MT.iffW hw8).mpr ⟨j, by omega, z3⟩⟩
  have hw8 : ¬ (τ.1 2 u.toNatClampNeg).toInt = 8 := by omega
  refine OK.ieq (fun hv8 => ?_) (fun hv8 => ?_)
  · have hv8 : (τ.1 2 v.toNatClampNeg).toInt = 8 := by omega
    obtain ⟨m, m1, m2, m3, m4, m5, m6⟩ := chn_v hy hv8
    refine OK.bndR (hc x y u v (lev + 1) d e hx hy hv8 (by omega) (by omega) (by omega)) (fun z hz => ?_)
    dsimp only
    have em : (τ.1 4 v.toNatClampNeg).toInt.toNat = m := by omega
    rw [em] at hz
    refine OK.ieq (fun hz0 => OK.roret (.inl ⟨l0, fun h => ?_⟩)) (fun hz0 => OK.roret (.inr ⟨l1, ?_⟩))
    · obtain ⟨k, k1, k2⟩ := (MT.iffR hw8 hv8).mp h
      rcases hz with ⟨_, hz⟩ | ⟨i, i1, i2, _⟩
      · exact hz k (by omega) k2
      · have i2 : z.toInt = (chn (σ.1 17) (σ.1 16 y.toNatClampNeg) i).toInt := i2
        have := (m5 i i1).1.rng
        omega
    · rcases hz with ⟨hz, _⟩ | ⟨i, i1, i2, i3, _⟩
      · omega
      · exact (MT.iffR hw8 hv8).mpr ⟨i, by omega, i3⟩
  have hv8 : ¬ (τ.1 2 v.toNatClampNeg).toInt = 8 := by omega
  have h158 : ¬ ((τ.1 2 u.toNatClampNeg).toInt = 6 ∧ (τ.1 2 v.toNatClampNeg).toInt = 6) → OK (f_X0_fitsWithin_158 rc rf x y (τ.1 2 u.toNatClampNeg) (τ.1 2 v.toNatClampNeg) σ) (RO σ fun z => z.toInt = 0 ∧ ¬ MTt τ PR u v ∨ z.toInt = 1 ∧ MTt τ PR u v) := fun h66 => by
    unfold f_X0_fitsWithin_158 f_X0_fitsWithin_207
    have h207 : ¬ ((τ.1 2 u.toNatClampNeg).toInt = 7 ∧ (τ.1 2 v.toNatClampNeg).toInt = 7) → OK ((f_X0_plainFits (τ.1 2 u.toNatClampNeg) (τ.1 2 v.toNatClampNeg) σ).bind fun q1 => if q1.1 = 0 ∨ q1.1 = 1 then some (q1.1, q1.2) else none) (RO σ fun z => z.toInt = 0 ∧ ¬ MTt τ PR u v ∨ z.toInt = 1 ∧ MTt τ PR u v) := fun h77 => by
      refine OK.bndR (a_plainFits _ _ σ x3.1 (by omega) hw8) (fun z hz => ?_)
      dsimp only
      refine OK.grd (b01 (hz.elim (fun h => .inl h.1) (fun h => .inr h.1))) ?_
      refine OK.roret ?_
      rcases hz with ⟨z1, z2⟩ | ⟨z1, z2⟩
      · exact .inl ⟨z1, fun h => z2 ((MT.iffE hw8 hv8 h66 h77).mp h)⟩
      · exact .inr ⟨z1, (MT.iffE hw8 hv8 h66 h77).mpr z2⟩
    refine OK.ieq (fun hw7 => ?_) (fun hw7 => h207 (by omega))
    refine OK.ieq (fun hv7 => ?_) (fun hv7 => h207 (by omega))
    have hw7 : (τ.1 2 u.toNatClampNeg).toInt = 7 := by omega
    have hv7 : (τ.1 2 v.toNatClampNeg).toInt = 7 := by omega
    rw [x2, sbnd]
    dsimp only
    rw [y2, sbnd]
    dsimp only
    have rx : (0 ≤ (τ.1 3 u.toNatClampNeg).toInt ∧ (τ.1 3 u.toNatClampNeg).toInt < a) ∧ (σ.1 16 x.toNatClampNeg).toInt = 6 * (p : Int) + (τ.1 3 u.toNatClampNeg).toInt := by
      cases d with
      | zero => exact hx.elim
      | succ d => exact hx.2.2.2.2.1 hw7
    have ry : (0 ≤ (τ.1 3 v.toNatClampNeg).toInt ∧ (τ.1 3 v.toNatClampNeg).toInt < b) ∧ (σ.1 16 y.toNatClampNeg).toInt = 6 * (q : Int) + (τ.1 3 v.toNatClampNeg).toInt := by
      cases e with
      | zero => exact hy.elim
      | succ e => exact hy.2.2.2.2.1 hv7
    have n1 := nN_ rx.1.1
    have n2 := nN_ ry.1.1
    rw [a_bitOf _ _ σ (a := 6 * p + (τ.1 3 u.toNatClampNeg).toNatClampNeg) (b := 6 * q + (τ.1 3 v.toNatClampNeg).toNatClampNeg) (by omega) (by omega) (by omega) (by omega), sbnd]
    dsimp only
    have ek : 6 * ((6 * p + (τ.1 3 u.toNatClampNeg).toNatClampNeg) % 6) + (6 * q + (τ.1 3 v.toNatClampNeg).toNatClampNeg) % 6 = 6 * (τ.1 3 u.toNatClampNeg).toNatClampNeg + (τ.1 3 v.toNatClampNeg).toNatClampNeg := by omega
    rw [ek]
    have hk := hPR (6 * (τ.1 3 u.toNatClampNeg).toNatClampNeg + (τ.1 3 v.toNatClampNeg).toNatClampNeg) (by omega)
    refine OK.ite (fun h => OK.roret (.inl ⟨l0, fun h9 => ?_⟩)) (fun h => OK.roret (.inr ⟨l1, ?_⟩))
    · rw [a_has (by omega)] at h
      exact (MT.iffP hw7 hv7).mp h9 (hk.mpr h)
    · rw [a_has (by omega)] at h
      exact (MT.iffP hw7 hv7).mpr (fun h9 => h (hk.mp h9))
  refine OK.ieq (fun hw6 => ?_) (fun hw6 => h158 (by omega))
  refine OK.ieq (fun hv6 => ?_) (fun hv6 => h158 (by omega))
  have hw6 : (τ.1 2 u.toNatClampNeg).toInt = 6 := by omega
  have hv6 : (τ.1 2 v.toNatClampNeg).toInt = 6 := by omega
  rw [x2, sbnd]
  dsimp only
  rw [y2, sbnd]
  dsimp only
  have tx : TY p a σ τ (d - 1) (σ.1 16 x.toNatClampNeg) (τ.1 3 u.toNatClampNeg) := by
    cases d with
    | zero => exact hx.elim
    | succ d => exact hx.2.2.2.1 hw6
  have ty : TY q b σ τ (e - 1) (σ.1 16 y.toNatClampNeg) (τ.1 3 v.toNatClampNeg) := by
    cases e with
    | zero => exact hy.elim
    | succ e => exact hy.2.2.2.1 hv6
  refine OK.bndR (hf _ _ _ _ (lev + 1) (d - 1) (e - 1) tx ty (by omega) (by omega) (by omega)) (fun z hz => ?_)
  dsimp only
  refine OK.grd (b01 (hz.elim (fun h => .inl h.1) (fun h => .inr h.1))) ?_
  refine OK.roret ?_
  rcases hz with ⟨z1, z2⟩ | ⟨z1, z2⟩
  · exact .inl ⟨z1, fun h => z2 ((MT.iffL hw6 hv6).mp h)⟩
  · exact .inr ⟨z1, (MT.iffL hw6 hv6).mpr z2⟩
theorem a_RF {p q : Nat} {a b : Int} {σ τ : ST} {PR : Nat → Int32} (hn : (σ.1 4 1).toInt ≤ 262) (hp : p < 6) (hq : q < 6) (ha : a ≤ 6) (hb : b ≤ 6) (hPR : ∀ k, k < 36 → (PR k = 0 ↔ lbt (σ.2.1 41 4) k = false)) : ∀ N : Nat, cChn N (R_X0_chosenWithin N).1 p q a b σ τ PR ∧ cFits N (R_X0_chosenWithin N).2 p q a b σ τ PR := by
  intro N
  induction N with
  | zero =>
    refine ⟨fun x y u v lev d e hx hy h8 _ _ hN => ?_, fun x y u v lev d e hx hy _ _ hN => ?_⟩
    · have := (hx.sort hn).2.2.2
      have := (hy.sort hn).2.2.2
      omega
    · have := (hx.sort hn).2.2.2
      omega
  | succ N ih => exact ⟨a_chosen_top ih.2 hn, a_fits_top ih.2 ih.1 hn hp hq ha hb hPR⟩
/-- the class at a pair of plans that hold, its pairs being PR -/
theorem aT_fits {p q : Nat} {a b : Int} {σ τ : ST} {PR : Nat → Int32} (hn : (σ.1 4 1).toInt ≤ 262) (hp : p < 6) (hq : q < 6) (ha : a ≤ 6) (hb : b ≤ 6) (hPR : ∀ k, k < 36 → (PR k = 0 ↔ lbt (σ.2.1 41 4) k = false)) (x y u v : Int32) (d e : Nat) (hx : TY p a σ τ d x u) (hy : TY q b σ τ e y v) (hd : d ≤ 4) (he : e ≤ 4) : OK (f_T_X0_fitsWithin x y 0 σ) (RO σ fun z => z.toInt = 0 ∧ ¬ MTt τ PR u v ∨ z.toInt = 1 ∧ MTt τ PR u v) := (a_RF hn hp hq ha hb hPR FR).2 x y u v 0 d e hx hy (by rw [li_0]; omega) (by rw [li_0]; omega) (by have : FR = 160 := rfl; omega)
theorem ax_fits {p q : Nat} {a b : Int} {σ τ : ST} {PR : Nat → Int32} (hn : (σ.1 4 1).toInt ≤ 262) (hp : p < 6) (hq : q < 6) (ha : a ≤ 6) (hb : b ≤ 6) (hPR : ∀ k, k < 36 → (PR k = 0 ↔ lbt (σ.2.1 41 4) k = false)) (x y u v : Int32) (d e : Nat) (hx : TY p a σ τ d x u) (hy : TY q b σ τ e y v) (hd : d ≤ 4) (he : e ≤ 4) : OK (f_X0_fits x y σ) (RO σ fun z => z.toInt = 0 ∧ ¬ MTt τ PR u v ∨ z.toInt = 1 ∧ MTt τ PR u v) := by
  unfold f_X0_fits
  refine OK.bndR (aT_fits hn hp hq ha hb hPR x y u v d e hx hy hd he) (fun z hz => ?_)
  dsimp only
  exact OK.grd (b01 (hz.elim (fun h => .inl h.1) (fun h => .inr h.1))) (OK.roret hz)
theorem ax_chosen {p q : Nat} {a b : Int} {σ τ : ST} {PR : Nat → Int32} (hn : (σ.1 4 1).toInt ≤ 262) (hp : p < 6) (hq : q < 6) (ha : a ≤ 6) (hb : b ≤ 6) (hPR : ∀ k, k < 36 → (PR k = 0 ↔ lbt (σ.2.1 41 4) k = false)) (x y u v : Int32) (d e : Nat) (hx : TY p a σ τ d x u) (hy : TY q b σ τ e y v) (h8 : (τ.1 2 v.toNatClampNeg).toInt = 8) (hd : d ≤ 4) (he : e ≤ 4) : OK (f_X0_chosen x y σ) (RO σ fun z => CHR (τ.1 4 v.toNatClampNeg).toInt.toNat (fun k => MTt τ PR u (τ.1 5 (4 * v.toNatClampNeg + k))) (fun k => (τ.1 2 (τ.1 5 (4 * v.toNatClampNeg + k)).toNatClampNeg).toInt = (τ.1 2 u.toNatClampNeg).toInt) (fun k => (chn (σ.1 17) (σ.1 16 y.toNatClampNeg) k).toInt) z.toInt) := by
  unfold f_X0_chosen
  refine OK.bndR ((a_RF hn hp hq ha hb hPR FR).1 x y u v 0 d e hx hy h8 (by rw [li_0]; omega) (by rw [li_0]; omega) (by have : FR = 160 := rfl; omega)) (fun z hz => ?_)
  exact OK.roret hz
/-! the class's fields of a pair of records, beside the reference's -/
theorem PHB.acc {p : Nat} {σ τ : ST} (h : PHB 4 p σ τ) {i : Nat} (hi : (i : Int) < (τ.1 8 p).toInt) : WL (σ.2.1 8 (6 * p + i)) (τ.2.1 9 (6 * p + i)) ∧ σ.1 7 (6 * p + i) = τ.1 11 (6 * p + i) ∧ bI (τ.1 11 (6 * p + i)) 0 8 ∧ ELH 4 (6 * p + i) (τ.1 11 (6 * p + i)).toInt.toNat σ τ ∧ ∀ j : Nat, (j : Int) < (τ.1 11 (6 * p + i)).toInt → FLH 4 p (τ.1 8 p).toInt (8 * (6 * p + i) + j) σ τ := by
  obtain ⟨⟨x1, _⟩, _, ⟨x2, x3⟩, x4, x5⟩ := h.2.2.2 i hi
  exact ⟨x1, x2, x3, x4, x5⟩
theorem PHB.cnt {p : Nat} {σ τ : ST} (h : PHB 4 p σ τ) : σ.1 5 p = τ.1 8 p ∧ (1 ≤ (τ.1 8 p).toInt ∧ (τ.1 8 p).toInt ≤ 6) ∧ (σ.1 4 1).toInt ≤ 262 := ⟨h.1.1, h.1.2, h.2.2.1⟩
/-- the first of so many -/
def FIX (m : Nat) (P : Nat → Prop) (val : Nat → Int) (z : Int) : Prop := z = -1 ∧ (∀ i, i < m → ¬ P i) ∨ ∃ i, i < m ∧ z = val i ∧ P i ∧ ∀ j, j < i → ¬ P j
theorem FIX.uniq {m : Nat} {P Q : Nat → Prop} {u v : Nat → Int} {z y : Int} (hPQ : ∀ i, i < m → (P i ↔ Q i)) (h : FIX m P u z) (k : FIX m Q v y) : z = -1 ∧ y = -1 ∨ ∃ i, i < m ∧ z = u i ∧ y = v i := by
  rcases h with ⟨a, b⟩ | ⟨i, a, b, c, d⟩
  · rcases k with ⟨a', b'⟩ | ⟨i', a', b', c', d'⟩
    · exact .inl ⟨a, a'⟩
    · exact absurd ((hPQ i' a').mpr c') (b i' a')
  · rcases k with ⟨a', b'⟩ | ⟨i', a', b', c', d'⟩
    · exact absurd ((hPQ i a).mp c) (b' i a)
    · have e : i = i' := by
        by_cases h1 : i < i'
        · exact absurd ((hPQ i a).mp c) (d' i h1)
        · by_cases h2 : i' < i
          · exact absurd ((hPQ i' a').mpr c') (d i' h2)
          · omega
      subst e
      exact .inr ⟨i, a, b, b'⟩
theorem a4_fieldNamed_29 (x2 : Int64) (x4 x5 : Int32) (σ : ST) (r m : Nat) (hr : r < 36) (h4 : x4.toInt = 8 * (r : Int)) (h5 : x5.toInt = m) (hm : m ≤ 8) : ∀ (f k : Nat) (x6 : Int32), x6.toInt = k → k ≤ m → m < f + k → (∀ i : Nat, i < k → ¬ σ.2.1 11 (8 * r + i) = x2) → OK (f_X5_fieldNamed_29 4 f x2 x4 x5 x6 σ) (RO σ fun v => FIX m (fun i => σ.2.1 11 (8 * r + i) = x2) (fun i => i) v.toInt) := by
  intro f
  induction f with
  | zero => intro k x6 h1 h2 h3; omega
  | succ f ih =>
    intro k x6 h6 hk hf hn
    rw [f_X5_fieldNamed_29]
    have lm := li_m1
    have l1 := li_1
    have l8 := li_8
    refine OK.ile (fun h => OK.roret (.inl ⟨lm, fun i hi => hn i (by omega)⟩)) (fun h => ?_)
    refine OK.ile (fun h => by omega) (fun _ => ?_)
    have e := il_addE (x := x4) (y := x6) (by omega) (by omega)
    have e1 := il_addE (x := x6) (y := 1) (by omega) (by omega)
    have np : (x4 + x6).toNatClampNeg = 8 * r + k := nC (by omega)
    refine OK.grd ⟨by omega, by omega⟩ ?_
    rw [np]
    refine OK.ite (fun h9 => ?_) (fun h9 => ?_)
    · rw [lg_cmp_eq] at h9
      exact OK.roret (.inr ⟨k, by omega, h6, h9, hn⟩)
    · rw [lg_cmp_eq] at h9
      refine ih (k + 1) (x6 + 1) (by omega) (by omega) (by omega) (fun i hi => ?_)
      by_cases e9 : i = k
      · rw [e9]; exact h9
      · exact hn i (by omega)
theorem a4_fieldNamed (p0 : Int32) (p1 : Int64) (σ : ST) (r m : Nat) (hr : r < 36) (h0 : p0.toInt = r) (hm : (σ.1 7 r).toInt = m) (hm8 : m ≤ 8) : OK (f_X5_fieldNamed 4 p0 p1 σ) (RO σ fun v => FIX m (fun i => σ.2.1 11 (8 * r + i) = p1) (fun i => i) v.toInt) := by
  unfold f_X5_fieldNamed f_X5_fieldNamed_24
  have l0 := li_0
  have l8 := li_8
  have lu := FUi
  have nr : p0.toNatClampNeg = r := nC h0
  have e8 : (p0 * 8).toInt = 8 * p0.toInt := by
    rw [Int32.mul_comm]
    exact mlE (k := 8) (y := p0) 8 l8 (by omega) (by omega)
  refine OK.bndR (a_isFieldOf p0 0 σ ⟨by omega, by omega⟩ (by omega)) (fun v hv => ?_)
  dsimp only
  refine OK.ieq (fun h => by omega) (fun _ => ?_)
  refine OK.grd ⟨by omega, by omega⟩ ?_
  rw [nr]
  exact a4_fieldNamed_29 p1 (p0 * 8) (σ.1 7 r) σ r m hr (by omega) hm hm8 FU 0 0 l0 (by omega) (by omega) (fun i hi => by omega)
theorem by_fieldOf_3 (x1 : Int32) (x2 : Int64) (τ : ST) (r m : Nat) (hr : r < 72) (h1 : x1.toInt = r) (hm : (τ.1 11 r).toInt = m) (hm8 : m ≤ 8) : ∀ (f k : Nat) (x4 : Int32), x4.toInt = k → k ≤ m → m < f + k → (∀ i : Nat, i < k → ¬ τ.2.1 12 (8 * r + i) = x2) → OK (f_X11_fieldOf_3 f x1 x2 x4 τ) (RO τ fun v => FIX m (fun i => τ.2.1 12 (8 * r + i) = x2) (fun i => 8 * (r : Int) + i) v.toInt) := by
  intro f
  induction f with
  | zero => intro k x4 h1 h2 h3; omega
  | succ f ih =>
    intro k x4 h4 hk hf hn
    rw [f_X11_fieldOf_3]
    have lm := li_m1
    have l1 := li_1
    have l8 := li_8
    have nr : x1.toNatClampNeg = r := nC h1
    refine OK.grd ⟨by omega, by omega⟩ ?_
    rw [nr]
    refine OK.ile (fun h => OK.roret (.inl ⟨lm, fun i hi => hn i (by omega)⟩)) (fun h => ?_)
    have em := mlE (k := 8) (y := x1) 8 l8 (by omega) (by omega)
    have e := il_addE (x := 8 * x1) (y := x4) (by omega) (by omega)
    have e1 := il_addE (x := x4) (y := 1) (by omega) (by omega)
    have np : (8 * x1 + x4).toNatClampNeg = 8 * r + k := nC (by omega)
    refine OK.grd ⟨by omega, by omega⟩ ?_
    rw [np]
    refine OK.ite (fun h9 => ?_) (fun h9 => ?_)
    · rw [lg_cmp_eq] at h9
      exact OK.roret (.inr ⟨k, by omega, by show (8 * x1 + x4).toInt = 8 * (r : Int) + (k : Int); omega, h9, hn⟩)
    · rw [lg_cmp_eq] at h9
      refine ih (k + 1) (x4 + 1) (by omega) (by omega) (by omega) (fun i hi => ?_)
      by_cases e9 : i = k
      · rw [e9]; exact h9
      · exact hn i (by omega)
theorem by_fieldOf (p0 : Int32) (p1 : Int64) (τ : ST) (r m : Nat) (hr : r < 72) (h0 : p0.toInt = r) (hm : (τ.1 11 r).toInt = m) (hm8 : m ≤ 8) : OK (f_X11_fieldOf p0 p1 τ) (RO τ fun v => FIX m (fun i => τ.2.1 12 (8 * r + i) = p1) (fun i => 8 * (r : Int) + i) v.toInt) := by
  have lu := FUi
  unfold f_X11_fieldOf
  exact by_fieldOf_3 p0 p1 τ r m hr h0 hm hm8 FU 0 0 li_0 (by omega) (by omega) (fun i hi => by omega)
/-- two plans, both sides -/
def PQ (p q : Nat) (σ τ : ST) : Prop := (p < 6 ∧ q < 6) ∧ ((τ.1 0 53).toInt = p ∧ (τ.1 0 54).toInt = q) ∧ (PHB 4 p σ τ ∧ PHB 4 q σ τ) ∧ ME τ
theorem PQ.rm {p q : Nat} {σ τ : ST} (h : PQ p q σ τ) : rmW τ = (τ.1 8 p).toInt ∧ rmR τ = (τ.1 8 q).toInt := by
  have e1 : (τ.1 0 53).toNatClampNeg = p := nC h.2.1.1
  have e2 : (τ.1 0 54).toNatClampNeg = q := nC h.2.1.2
  unfold rmW rmR
  rw [e1, e2]
  exact ⟨rfl, rfl⟩
theorem ab_source {p q : Nat} {σ τ : ST} (h : PQ p q σ τ) (p0 p1 p2 wi f : Int32) (w r j : Nat) (hw : (w : Int) < (τ.1 8 p).toInt) (hr : (r : Int) < (τ.1 8 q).toInt) (hj : (j : Int) < (τ.1 11 (6 * q + r)).toInt) (h0 : p0.toInt = 6 * (p : Int) + w) (h1 : p1.toInt = 6 * (q : Int) + r) (h2 : p2.toInt = j) (hwi : wi.toInt = w) (hf : f.toInt = 8 * (6 * (q : Int) + r) + j) : OK (f_X5_sourceOf 4 p0 p1 p2 σ) (RO σ fun z => ∃ y : Int32, f_X11_fieldFor wi f τ = some (y, τ) ∧ (z.toInt = -1 ∧ y.toInt = -1 ∨ ∃ i : Nat, (i : Int) < (τ.1 11 (6 * p + w)).toInt ∧ z.toInt = i ∧ y.toInt = 8 * (6 * (p : Int) + w) + i)) := by
  obtain ⟨⟨hp, hq⟩, ⟨e53, e54⟩, ⟨hP, hQ⟩, hM⟩ := h
  obtain ⟨a1, a2, a3, a4, a5⟩ := hP.acc hw
  obtain ⟨b1, b2, b3, b4, b5⟩ := hQ.acc hr
  have cP := hP.cnt
  have cQ := hQ.cnt
  have g3 := a3.1
  have g4 := a3.2
  have g5 := b3.1
  have g6 := b3.2
  obtain ⟨m, hm⟩ : ∃ m : Nat, (τ.1 11 (6 * p + w)).toInt = m := ⟨_, (Int.toNat_of_nonneg (by omega)).symm⟩
  obtain ⟨⟨n1, n2⟩, n3, n4, n5⟩ := b5 j hj
  have n1 : WL (σ.2.1 11 (8 * (6 * q + r) + j)) (τ.2.1 12 (8 * (6 * q + r) + j)) := n1
  have n3 : FMR (σ.2.1 12 (8 * (6 * q + r) + j)) (τ.2.1 14 (8 * (6 * q + r) + j)) := n3
  have nf : f.toNatClampNeg = 8 * (6 * q + r) + j := nC (by omega)
  have l0 := li_0
  have lm := li_m1
  have l6 := li_6
  have m7 : (σ.1 7 (6 * p + w)).toInt = m := by rw [a2]; exact hm
  have wl : ∀ {x y : Int64}, WL x y → ∀ i, i < m → (σ.2.1 11 (8 * (6 * p + w) + i) = x ↔ τ.2.1 12 (8 * (6 * p + w) + i) = y) := fun {x y} hx i hi => by
    have hh : WL (σ.2.1 11 (8 * (6 * p + w) + i)) (τ.2.1 12 (8 * (6 * p + w) + i)) := (a5 i (by omega)).1.1
    exact hh.iff hx
  have x1 := mlE (k := 6) (y := τ.1 0 53) 6 l6 (by omega) (by omega)
  have x2 := il_addE (x := 6 * τ.1 0 53) (y := wi) (by omega) (by omega)
  have fo : ∀ x : Int64, OK (f_X11_fieldOf (6 * τ.1 0 53 + wi) x τ) (RO τ fun v => FIX m (fun i => τ.2.1 12 (8 * (6 * p + w) + i) = x) (fun i => 8 * ((6 * p + w : Nat) : Int) + i) v.toInt) := fun x => by_fieldOf _ x τ (6 * p + w) m (by omega) (by omega) hm (by omega)
  unfold f_X5_sourceOf
  rw [a4_fieldName p1 p2 σ (r := 6 * q + r) (j := j) (by omega) h2 (by omega) (by omega), sbnd]
  dsimp only
  refine OK.bndR (a4_fieldNamed p0 _ σ (6 * p + w) m (by omega) (by omega) m7 (by omega)) (fun z hz => ?_)
  dsimp only
  rw [a4_formerName p1 p2 σ (r := 6 * q + r) (j := j) (by omega) h2 (by omega) (by omega), sbnd]
  dsimp only
  have hB : f_X11_fieldFor wi f τ = (f_X11_fieldOf (6 * τ.1 0 53 + wi) (τ.2.1 12 (8 * (6 * q + r) + j)) τ).bind fun q2 => if 0 ≤ q2.1 then (some (q2.1, q2.2)) else (if (lg_cmp (q2.2.2.1 14 (8 * (6 * q + r) + j)) 0) ≤ 0 then (some (q2.1, q2.2)) else ((f_X11_fieldOf ((6 * (q2.2.1 0 53)) + wi) (q2.2.2.1 14 (8 * (6 * q + r) + j)) q2.2).bind fun q4 => some (q4.1, q4.2))) := by
    unfold f_X11_fieldFor
    rw [if_pos ⟨by omega, by omega⟩, nf]
  obtain ⟨⟨y, s⟩, ey, es, hy⟩ := fo (τ.2.1 12 (8 * (6 * q + r) + j))
  have es : s = τ := es
  subst es
  have hy : FIX m (fun i => s.2.1 12 (8 * (6 * p + w) + i) = s.2.1 12 (8 * (6 * q + r) + j)) (fun i => 8 * ((6 * p + w : Nat) : Int) + i) y.toInt := hy
  rw [ey, sbnd] at hB
  dsimp only at hB
  rcases hz.uniq (wl n1) hy with ⟨z1, y1⟩ | ⟨i, i1, i2, i3⟩
  rotate_left
  · rw [if_pos (by rw [Int32.le_iff_toInt_le]; omega)] at hB
    refine OK.ieq (fun h => by omega) (fun _ => ?_)
    exact OK.roret ⟨y, hB, .inr ⟨i, by omega, i2, by omega⟩⟩
  rw [if_neg (by rw [Int32.le_iff_toInt_le]; omega)] at hB
  have hpos := n3.pos
  refine OK.ieq (fun _ => ?_) (fun h => by omega)
  have hle : (lg_cmp (s.2.1 14 (8 * (6 * q + r) + j)) 0) ≤ 0 ↔ ¬ 0 < (s.2.1 14 (8 * (6 * q + r) + j)).toInt := by
    rw [lg_cmp_le, Int64.le_iff_toInt_le, l64_0]
    omega
  refine OK.ite (fun h => ?_) (fun h => ?_)
  · rw [lg_cmp_eq] at h
    rw [if_pos (hle.mpr (hpos.mp h))] at hB
    exact OK.roret ⟨y, hB, .inl ⟨z1, y1⟩⟩
  · rw [lg_cmp_eq] at h
    rw [if_neg (fun h9 => h (hpos.mpr (hle.mp h9)))] at hB
    have n3 : WL (σ.2.1 12 (8 * (6 * q + r) + j)) (s.2.1 14 (8 * (6 * q + r) + j)) := by
      rcases n3 with n3 | n3
      · exact absurd n3.1 h
      · exact n3.1
    refine OK.bndR (a4_fieldNamed p0 _ σ (6 * p + w) m (by omega) (by omega) m7 (by omega)) (fun z2 hz2 => ?_)
    dsimp only
    obtain ⟨⟨y2, t⟩, ey2, es2, hy2⟩ := fo (s.2.1 14 (8 * (6 * q + r) + j))
    have es2 : t = s := es2
    subst es2
    have hy2 : FIX m (fun i => t.2.1 12 (8 * (6 * p + w) + i) = t.2.1 14 (8 * (6 * q + r) + j)) (fun i => 8 * ((6 * p + w : Nat) : Int) + i) y2.toInt := hy2
    rw [ey2, sbnd] at hB
    refine OK.roret ⟨y2, hB, ?_⟩
    rcases hz2.uniq (wl n3) hy2 with h9 | ⟨i, i1, i2, i3⟩
    · exact .inl h9
    · exact .inr ⟨i, by omega, i2, by omega⟩
theorem ab_mayPair {p q : Nat} {σ τ : ST} (h : PQ p q σ τ) (p0 p1 wi ri : Int32) (w r : Nat) (hw : (w : Int) < (τ.1 8 p).toInt) (hr : (r : Int) < (τ.1 8 q).toInt) (h0 : p0.toInt = 6 * (p : Int) + w) (h1 : p1.toInt = 6 * (q : Int) + r) (hwi : wi.toInt = w) (hri : ri.toInt = r) : OK (f_X0_mayPair p0 p1 σ) (RO σ fun z => z.toInt = 0 ∧ ¬ NYS τ wi ri ∨ z.toInt = 1 ∧ NYS τ wi ri) := by
  obtain ⟨⟨hp, hq⟩, ⟨e53, e54⟩, ⟨hP, hQ⟩, hM⟩ := h
  have a1 := (hP.acc hw).1
  have b1 := (hQ.acc hr).1
  have cP := hP.cnt
  have cQ := hQ.cnt
  have l0 := li_0
  have l1 := li_1
  have n53 : (τ.1 0 53).toNatClampNeg = p := nC e53
  have n54 : (τ.1 0 54).toNatClampNeg = q := nC e54
  have nw : wi.toNatClampNeg = w := nC hwi
  have nr : ri.toNatClampNeg = r := nC hri
  have h18 : ¬ (w = 0 ∧ r = 0) → OK (f_X0_mayPair_18 p0 p1 σ) (RO σ fun z => z.toInt = 0 ∧ ¬ NYS τ wi ri ∨ z.toInt = 1 ∧ NYS τ wi ri) := fun hn => by
    unfold f_X0_mayPair_18 f_X0_mayPair_38
    rw [a4_recordName p0 σ (r := 6 * p + w) (by omega) (by omega), sbnd]
    dsimp only
    rw [a4_recordName p1 σ (r := 6 * q + r) (by omega) (by omega), sbnd]
    dsimp only
    have hi := a1.iff b1
    have hN : NYS τ wi ri ↔ σ.2.1 8 (6 * p + w) = σ.2.1 8 (6 * q + r) := by
      unfold NYS
      rw [n53, n54, nw, nr, hi]
      exact ⟨fun h => h.elim (fun h => absurd ⟨by omega, by omega⟩ hn) id, .inr⟩
    refine OK.ite (fun h => ?_) (fun h => ?_)
    · rw [lg_cmp_eq] at h
      exact OK.roret (.inr ⟨l1, hN.mpr h⟩)
    · rw [lg_cmp_eq] at h
      exact OK.roret (.inl ⟨l0, fun h9 => h (hN.mp h9)⟩)
  unfold f_X0_mayPair f_X0_mayPair_38
  obtain ⟨v1, ev1, hv1⟩ := a_floorMod p0 σ (k := 6 * p + w) (by omega) (by omega)
  obtain ⟨v2, ev2, hv2⟩ := a_floorMod p1 σ (k := 6 * q + r) (by omega) (by omega)
  rw [ev1, sbnd]
  dsimp only
  refine OK.ieq (fun hz1 => ?_) (fun hz1 => h18 (by omega))
  rw [ev2, sbnd]
  dsimp only
  exact OK.ieq (fun hz2 => OK.roret (.inr ⟨l1, .inl ⟨by omega, by omega⟩⟩)) (fun hz2 => h18 (by omega))
theorem ELH.has {r m : Nat} {σ τ : ST} (h : ELH 4 r m σ τ) (hr : r < 36) (p0 p1 : Int32) {j : Nat} (h0 : p0.toInt = r) (h1 : p1.toInt = j) (hj : j < m) (hj8 : j < 8) (hb : (τ.1 16 (8 * r + j)).toInt = 0 ∨ (τ.1 16 (8 * r + j)).toInt = 1) : OK (f_X5_hasElse 4 p0 p1 σ) (RO σ fun z => z.toInt = 0 ∧ τ.1 16 (8 * r + j) = 0 ∨ z.toInt = 1 ∧ ¬ τ.1 16 (8 * r + j) = 0) := by
  obtain ⟨w, w1, w2, w3⟩ := h
  rw [a4_hasElse p0 p1 σ h0 h1 hr hj8 w1 w2]
  refine OK.roret ?_
  have hk := w3 j (by omega)
  cases e : w.testBit j with
  | true =>
    have := (hk.mp e).2
    exact .inr ⟨li_1, fun h9 => by rw [h9] at this; revert this; decide⟩
  | false =>
    refine .inl ⟨li_0, ?_⟩
    rcases hb with hb | hb
    · exact Int32.toInt_inj.mp (hb.trans li_0.symm)
    · exact absurd (hk.mpr ⟨hj, hb⟩) (by rw [e]; decide)
theorem ab_fieldsFit_2 {p q : Nat} {σ τ : ST} {PR : Nat → Int32} (h : PQ p q σ τ) (hPR : ∀ k, k < 36 → (PR k = 0 ↔ lbt (σ.2.1 41 4) k = false)) (p0 p1 wi ri : Int32) (w r : Nat) (hw : (w : Int) < (τ.1 8 p).toInt) (hr : (r : Int) < (τ.1 8 q).toInt) (h0 : p0.toInt = 6 * (p : Int) + w) (h1 : p1.toInt = 6 * (q : Int) + r) (hwi : wi.toInt = w) (hri : ri.toInt = r) : ∀ (n j : Nat) (x3 : Int32), x3.toInt = j → (j : Int) ≤ (τ.1 11 (6 * q + r)).toInt → 9 < n + j → (∀ (k : Nat) (f v : Int32), k < j → f.toInt = 8 * (6 * (τ.1 0 54).toInt + ri.toInt) + k → f_X11_fieldFor wi f τ = some (v, τ) → (0 ≤ v.toInt → MTt τ PR (τ.1 15 v.toNatClampNeg) (τ.1 15 f.toNatClampNeg)) ∧ (v.toInt < 0 → ¬ τ.1 16 f.toNatClampNeg = 0)) → OK (f_X0_fieldsFit_2 n p0 p1 x3 σ) (RO σ fun z => z.toInt = 0 ∧ ¬ HXP τ PR wi ri ∨ z.toInt = 1 ∧ HXP τ PR wi ri) := by
  intro n
  have h' := h
  obtain ⟨⟨hp, hq⟩, ⟨e53, e54⟩, ⟨hP, hQ⟩, hM⟩ := h'
  obtain ⟨a1, a2, a3, a4, a5⟩ := hP.acc hw
  obtain ⟨b1, b2, b3, b4, b5⟩ := hQ.acc hr
  have cP := hP.cnt
  have cQ := hQ.cnt
  have g3 := a3.1
  have g4 := a3.2
  have g5 := b3.1
  have g6 := b3.2
  have l0 := li_0
  have l1 := li_1
  have lm := li_m1
  have n54 : (τ.1 0 54).toNatClampNeg = q := nC e54
  have nr : ri.toNatClampNeg = r := nC hri
  induction n with
  | zero => intro j x3 k1 k2 k3; omega
  | succ n ih =>
    intro j x3 k1 k2 k3 hI
    rw [f_X0_fieldsFit_2]
    unfold f_X0_fieldsFit_68
    rw [a4_fieldsOf p1 σ (r := 6 * q + r) (by omega) (by omega), sbnd]
    dsimp only
    rw [b2]
    refine OK.ile (fun hle => OK.roret (.inr ⟨l1, fun k f v kk1 kk2 kk3 => ?_⟩)) (fun hlt => ?_)
    · rw [n54, nr] at kk1
      exact hI k f v (by omega) kk2 kk3
    have hj : (j : Int) < (τ.1 11 (6 * q + r)).toInt := by omega
    have e3 := il_addE (x := x3) (y := 1) (by omega) (by omega)
    have hN : 8 * (6 * q + r) + j ≤ 1000 := by omega
    have iF := ofNatI hN
    have nF : (Int32.ofNat (8 * (6 * q + r) + j)).toNatClampNeg = 8 * (6 * q + r) + j := nC iF
    refine OK.bndR (ab_source h p0 p1 x3 wi (Int32.ofNat (8 * (6 * q + r) + j)) w r j hw hr hj h0 h1 k1 hwi (by omega)) (fun z hz => ?_)
    dsimp only
    obtain ⟨y, ey, hy⟩ := hz
    have bad : ¬ ((0 ≤ y.toInt → MTt τ PR (τ.1 15 y.toNatClampNeg) (τ.1 15 (8 * (6 * q + r) + j))) ∧ (y.toInt < 0 → ¬ τ.1 16 (8 * (6 * q + r) + j) = 0)) → ¬ HXP τ PR wi ri := fun hm h9 => by
      have x := h9 j _ y (by rw [n54, nr]; exact hj) (by omega) ey
      rw [nF] at x
      exact hm x
    have next : ((0 ≤ y.toInt → MTt τ PR (τ.1 15 y.toNatClampNeg) (τ.1 15 (8 * (6 * q + r) + j))) ∧ (y.toInt < 0 → ¬ τ.1 16 (8 * (6 * q + r) + j) = 0)) → OK (f_X0_fieldsFit_2 n p0 p1 (x3 + 1) σ) (RO σ fun z => z.toInt = 0 ∧ ¬ HXP τ PR wi ri ∨ z.toInt = 1 ∧ HXP τ PR wi ri) := fun hm => by
      refine ih (j + 1) (x3 + 1) (by omega) (by omega) (by omega) (fun k f v kk1 kk2 kk3 => ?_)
      by_cases e : k < j
      · exact hI k f v e kk2 kk3
      · have ef : f = Int32.ofNat (8 * (6 * q + r) + j) := Int32.toInt_inj.mp (by omega)
        rw [ef] at kk3 ⊢
        rw [ey] at kk3
        have ev : y = v := (Prod.mk.inj (Option.some.inj kk3)).1
        rw [← ev, nF]
        exact hm
    have b16 := (b5 j hj).2.2.2
    have b16 : (τ.1 16 (8 * (6 * q + r) + j)).toInt = 0 ∨ (τ.1 16 (8 * (6 * q + r) + j)).toInt = 1 := b16.elim .inl (fun h => .inr h.1)
    rcases hy with ⟨y1, y2⟩ | ⟨i, i1, i2, i3⟩
    · refine OK.ieq (fun _ => ?_) (fun h9 => by omega)
      refine OK.bndR (b4.has (by omega) p1 x3 (by omega) k1 (by omega) (by omega) b16) (fun u hu => ?_)
      dsimp only
      refine OK.ieq (fun hu0 => OK.roret (.inl ⟨l0, bad (fun h9 => ?_)⟩)) (fun hu0 => next ⟨fun h9 => by omega, fun _ => ?_⟩)
      · rcases hu with hu | hu
        · exact h9.2 (by omega) hu.2
        · omega
      · rcases hu with hu | hu
        · omega
        · exact hu.2
    · refine OK.ieq (fun h9 => by omega) (fun _ => ?_)
      rw [a4_typeOf p0 z σ (r := 6 * p + w) (j := i) (by omega) i2 (by omega) (by omega), sbnd]
      dsimp only
      rw [a4_typeOf p1 x3 σ (r := 6 * q + r) (j := j) (by omega) k1 (by omega) (by omega), sbnd]
      dsimp only
      have ny : y.toNatClampNeg = 8 * (6 * p + w) + i := nC (by omega)
      have tW : TY p (τ.1 8 p).toInt σ τ 4 (σ.1 13 (8 * (6 * p + w) + i)) (τ.1 15 (8 * (6 * p + w) + i)) := (a5 i i1).2.2.1
      have tR : TY q (τ.1 8 q).toInt σ τ 4 (σ.1 13 (8 * (6 * q + r) + j)) (τ.1 15 (8 * (6 * q + r) + j)) := (b5 j hj).2.2.1
      rw [ny] at bad next
      refine OK.bndR (aT_fits cP.2.2 hp hq cP.2.1.2 cQ.2.1.2 hPR _ _ _ _ 4 4 tW tR (by omega) (by omega)) (fun u hu => ?_)
      dsimp only
      refine OK.ieq (fun hu0 => OK.roret (.inl ⟨l0, bad (fun h9 => ?_)⟩)) (fun hu0 => next ⟨fun _ => ?_, fun h9 => by omega⟩)
      · rcases hu with hu | hu
        · exact hu.2 (h9.1 (by omega))
        · omega
      · rcases hu with hu | hu
        · omega
        · exact hu.2
theorem ab_fieldsFit {p q : Nat} {σ τ : ST} {PR : Nat → Int32} (h : PQ p q σ τ) (hPR : ∀ k, k < 36 → (PR k = 0 ↔ lbt (σ.2.1 41 4) k = false)) (p0 p1 wi ri : Int32) (w r : Nat) (hw : (w : Int) < (τ.1 8 p).toInt) (hr : (r : Int) < (τ.1 8 q).toInt) (h0 : p0.toInt = 6 * (p : Int) + w) (h1 : p1.toInt = 6 * (q : Int) + r) (hwi : wi.toInt = w) (hri : ri.toInt = r) : OK (f_X0_fieldsFit p0 p1 σ) (RO σ fun z => z.toInt = 0 ∧ ¬ HXP τ PR wi ri ∨ z.toInt = 1 ∧ HXP τ PR wi ri) := by
  unfold f_X0_fieldsFit
  have lu := FUi
  have b3 := (h.2.2.1.2.acc hr).2.2.1
  have g := b3.1
  exact ab_fieldsFit_2 h hPR p0 p1 wi ri w r hw hr h0 h1 hwi hri FU 0 0 li_0 (by omega) (by omega) (fun k f v hk => by omega)
/-! the class's relation of two plans: the reference's pairs -/
def K41 (σ s : ST) : Prop := s.1 = σ.1 ∧ s.2.2 = σ.2.2 ∧ (∀ c, c ≠ 41 → s.2.1 c = σ.2.1 c) ∧ ∀ i, i ≠ 4 → s.2.1 41 i = σ.2.1 41 i
theorem K41.rf {σ : ST} : K41 σ σ := ⟨rfl, rfl, fun _ _ => rfl, fun _ _ => rfl⟩
theorem K41.trans {a b c : ST} (h : K41 a b) (k : K41 b c) : K41 a c := ⟨k.1.trans h.1, k.2.1.trans h.2.1, fun d hd => (k.2.2.1 d hd).trans (h.2.2.1 d hd), fun i hi => (k.2.2.2 i hi).trans (h.2.2.2 i hi)⟩
theorem K41.l {σ : ST} {v : Int64} : K41 σ (stL σ 41 4 v) := ⟨rfl, rfl, fun c hc => stL_ne hc, fun i hi => by
  show vp_updL (σ.2.1 41) 4 v i = _
  rw [updL_no hi]⟩
theorem stL_at {σ : ST} {c i : Nat} {v : Int64} : (stL σ c i v).2.1 c i = v := by
  show (bif Nat.beq c c then vp_updL (σ.2.1 c) i v else σ.2.1 c) i = v
  rw [Nat.beq_refl]
  exact updL_at
theorem cntZ_eq {p q : Nat → Prop} [DecidablePred p] [DecidablePred q] : ∀ n : Nat, (∀ k, k < n → (p k ↔ q k)) → cntZ p n = cntZ q n := by
  intro n
  induction n with
  | zero => intro _; rfl
  | succ n ih =>
    intro h
    show cntZ p n + (if p n then 1 else 0) = cntZ q n + (if q n then 1 else 0)
    rw [ih (fun k hk => h k (by omega))]
    have hn := h n (by omega)
    by_cases e : p n
    · rw [if_pos e, if_pos (hn.mp e)]
    · rw [if_neg e, if_neg (fun h9 => e (hn.mpr h9))]
theorem K41.kta {σ s : ST} (h : K41 σ s) : KTA σ s := fun c h1 h2 => ⟨by rw [h.1], h.2.2.1 c (by omega)⟩
theorem KR.self {s : ST} : KR s s := KR.rf
theorem PQ.keep {p q : Nat} {σ s τ : ST} (h : PQ p q σ τ) (k : KTA σ s) : PQ p q s τ := ⟨h.1, h.2.1, ⟨h.2.2.1.1.keep h.1.1 k KR.rf, h.2.2.1.2.keep h.1.2 k KR.rf⟩, h.2.2.2⟩
def cnL (L : Int64) : Nat := cntZ (fun k => lbt L k = true) 36
/-- the pairs so far: in the tables' range, none wanting -/
def IVL (p q : Nat) (τ : ST) (L : Int64) : Prop := ∀ a b : Nat, a < 6 → b < 6 → lbt L (6 * a + b) = true → ((a : Int) < (τ.1 8 p).toInt ∧ (b : Int) < (τ.1 8 q).toInt) ∧ NYS τ (Int32.ofNat a) (Int32.ofNat b)
def JRL (p q : Nat) (L0 : Int64) (w r : Nat) (s τ : ST) : Prop := PQ p q s τ ∧ IVL p q τ (s.2.1 41 4) ∧ GMX τ (RBX (s.2.1 41 4)) ∧ (s.2.1 41 4 = L0 ∧ (∀ a b : Nat, a < 6 → b < 6 → (a < w ∨ a = w ∧ b < r) → lbt (s.2.1 41 4) (6 * a + b) = true → HXP τ (RBX (s.2.1 41 4)) (Int32.ofNat a) (Int32.ofNat b)) ∨ cnL (s.2.1 41 4) + 1 ≤ cnL L0)
theorem ar_121 {p q : Nat} {τ : ST} {L0 : Int64} {k87 : Int32 → Int32 → Int64 → Int32 → ST → Option ST} {k111 : Int32 → Int32 → Int64 → Int32 → Int32 → ST → Option ST} {P : ST → Prop} (x1 x2 : Int32) (x3 : Int64) (x5 x6 : Int32) (w : Nat) (h1 : x1.toInt = p) (h2 : x2.toInt = q) (h6 : x6.toInt = w) (hw : w < 6) : ∀ (n r : Nat) (x7 : Int32) (s : ST), x7.toInt = r → r ≤ 6 → 6 < n + r → JRL p q L0 w r s τ → (∀ t, K41 s t → JRL p q L0 (w + 1) 0 t τ → OK (k111 x1 x2 x3 x5 (x6 + 1) t) P) → OK (f_X0_relate_121 k87 k111 n x1 x2 x3 x5 x6 x7 s) P := by
  intro n
  have l1 := li_1
  have l0 := li_0
  have l6 := li_6
  induction n with
  | zero => intro r x7 s h7 h8 h9; omega
  | succ n ih =>
    intro r x7 s h7 hr hn hJ hk
    rw [f_X0_relate_121]
    unfold f_X0_relate_186
    obtain ⟨hPQ, hV, hG, hD⟩ := hJ
    by_cases er : r = 6
    · subst er
      refine OK.ile (fun _ => ?_) (fun h => by omega)
      refine hk s K41.rf ⟨hPQ, hV, hG, ?_⟩
      rcases hD with ⟨d1, d2⟩ | hD
      · exact .inl ⟨d1, fun a b ha hb hab => d2 a b ha hb (by omega)⟩
      · exact .inr hD
    refine OK.ile (fun h => by omega) (fun _ => ?_)
    have e7 := il_addE (x := x7) (y := 1) (by omega) (by omega)
    have hp6 := hPQ.1.1
    have hq6 := hPQ.1.2
    have ek : 6 * (w % 6) + r % 6 = 6 * w + r := by omega
    have hbit := a_bitOf x6 x7 s (a := w) (b := r) h6 h7 (by omega) (by omega)
    rw [ek] at hbit
    rw [hbit, sbnd]
    dsimp only
    have iw := ofNatI (w := w) (by omega)
    have ir := ofNatI (w := r) (by omega)
    have nw : (Int32.ofNat w).toNatClampNeg = w := nC iw
    have nr : (Int32.ofNat r).toNatClampNeg = r := nC ir
    refine OK.ite (fun hb => ?_) (fun hb => ?_)
    · rw [a_has (by omega)] at hb
      refine ih (r + 1) (x7 + 1) s (by omega) (by omega) (by omega) ⟨hPQ, hV, hG, ?_⟩ hk
      rcases hD with ⟨d1, d2⟩ | hD
      · refine .inl ⟨d1, fun a b ha hb' hab h9 => ?_⟩
        by_cases e : a = w ∧ b = r
        · rw [e.1, e.2] at h9
          rw [hb] at h9
          cases h9
        · exact d2 a b ha hb' (by omega) h9
      · exact .inr hD
    · rw [a_has (by omega)] at hb
      have hb1 : lbt (s.2.1 41 4) (6 * w + r) = true := by
        cases e : lbt (s.2.1 41 4) (6 * w + r) with
        | true => rfl
        | false => exact absurd e hb
      obtain ⟨⟨v1, v2⟩, v3⟩ := hV w r hw (by omega) hb1
      have m1 : (x1 * 6).toInt = 6 * x1.toInt := by
        rw [Int32.mul_comm]
        exact mlE (k := 6) (y := x1) 6 l6 (by omega) (by omega)
      have m2 : (x2 * 6).toInt = 6 * x2.toInt := by
        rw [Int32.mul_comm]
        exact mlE (k := 6) (y := x2) 6 l6 (by omega) (by omega)
      have m3 := il_addE (x := x1 * 6) (y := x6) (by omega) (by omega)
      have m4 := il_addE (x := x2 * 6) (y := x7) (by omega) (by omega)
      refine OK.bndR (ab_fieldsFit hPQ (PR := RBX (s.2.1 41 4)) (fun k _ => RBX_iff) (x1 * 6 + x6) (x2 * 6 + x7) (Int32.ofNat w) (Int32.ofNat r) w r v1 v2 (by omega) (by omega) iw ir) (fun z hz => ?_)
      dsimp only
      refine OK.ieq (fun hz0 => ?_) (fun hz0 => ?_)
      · have hno : ¬ HXP τ (RBX (s.2.1 41 4)) (Int32.ofNat w) (Int32.ofNat r) := by
          rcases hz with hz | hz
          · exact hz.2
          · omega
        rw [hbit, sbnd]
        dsimp only
        have ev : (stL s 41 4 (s.2.1 41 4 &&& (lb1 (6 * w + r) ^^^ -1))).2.1 41 4 = (s.2.1 41 4 &&& (lb1 (6 * w + r) ^^^ -1)) := stL_at
        have kk : K41 s (stL s 41 4 (s.2.1 41 4 &&& (lb1 (6 * w + r) ^^^ -1))) := K41.l
        have hoff : ∀ j, j < 64 → lbt (s.2.1 41 4 &&& (lb1 (6 * w + r) ^^^ -1)) j = (lbt (s.2.1 41 4) j && !decide (j = 6 * w + r)) := fun j hj => lbt_off (by omega) hj
        generalize stL s 41 4 (s.2.1 41 4 &&& (lb1 (6 * w + r) ^^^ -1)) = t at ev kk ⊢
        generalize (s.2.1 41 4 &&& (lb1 (6 * w + r) ^^^ -1)) = L' at ev hoff
        have hsub : ∀ j, j < 36 → lbt L' j = true → lbt (s.2.1 41 4) j = true ∧ ¬ j = 6 * w + r := fun j hj h9 => by
          rw [hoff j (by omega)] at h9
          simpa using h9
        have hcn : cnL L' + 1 ≤ cnL (s.2.1 41 4) := by
          have := cntZ_lt (p := fun k => k < 36 ∧ lbt L' k = true) (q := fun k => k < 36 ∧ lbt (s.2.1 41 4) k = true) (fun k hk => ⟨hk.1, (hsub k hk.1 hk.2).1⟩) (c := 6 * w + r) (fun h9 => (hsub _ h9.1 h9.2).2 rfl) ⟨by omega, hb1⟩ 36 (by omega)
          have z : ∀ M : Int64, cnL M = cntZ (fun k => k < 36 ∧ lbt M k = true) 36 := fun M => cntZ_eq 36 (fun k hk => ⟨fun h => ⟨hk, h⟩, fun h => h.2⟩)
          rw [z, z]
          exact this
        refine ih (r + 1) (x7 + 1) t (by omega) (by omega) (by omega) ⟨hPQ.keep kk.kta, ?_, ?_, ?_⟩ (fun u hu => hk u (kk.trans hu))
        · rw [ev]
          exact fun a b ha hb' h9 => hV a b ha hb' (hsub _ (by omega) h9).1
        · rw [ev]
          intro Q hQ k hk' h9
          have h8 := hG Q hQ k hk' h9
          intro h7'
          apply h8
          rw [RBX_iff] at h7' ⊢
          rw [hoff k (by omega)] at h7'
          by_cases e : k = 6 * w + r
          · exfalso
            rw [e] at h9
            have n1 : 6 * (Int32.ofNat w).toNatClampNeg + (Int32.ofNat r).toNatClampNeg = 6 * w + r := by rw [nw, nr]
            obtain ⟨y1, y2, y3⟩ := hQ (Int32.ofNat w) (Int32.ofNat r) (by omega) (by omega) (by omega) (by omega) (by rw [n1]; exact h9)
            have hrm := hPQ.rm
            exact hno (y3.mono hPQ.2.2.2 (wrec_i (by omega) y1.1) (rrec_i (by omega) y1.2) (fun k hk h => hG Q hQ k hk h))
          · simpa [e] using h7'
        · rw [ev]
          rcases hD with ⟨d1, _⟩ | hD
          · rw [← d1]
            exact .inr hcn
          · exact .inr (by omega)
      · have hyes : HXP τ (RBX (s.2.1 41 4)) (Int32.ofNat w) (Int32.ofNat r) := by
          rcases hz with hz | hz
          · omega
          · exact hz.2
        refine ih (r + 1) (x7 + 1) s (by omega) (by omega) (by omega) ⟨hPQ, hV, hG, ?_⟩ hk
        rcases hD with ⟨d1, d2⟩ | hD
        · refine .inl ⟨d1, fun a b ha hb' hab h9 => ?_⟩
          by_cases e : a = w ∧ b = r
          · rw [e.1, e.2]
            exact hyes
          · exact d2 a b ha hb' (by omega) h9
        · exact .inr hD
theorem ar_111 {p q : Nat} {τ : ST} {L0 : Int64} {k87 : Int32 → Int32 → Int64 → Int32 → ST → Option ST} {P : ST → Prop} (x1 x2 : Int32) (x3 : Int64) (x5 : Int32) (h1 : x1.toInt = p) (h2 : x2.toInt = q) : ∀ (n w : Nat) (x6 : Int32) (s : ST), x6.toInt = w → w ≤ 6 → 6 < n + w → JRL p q L0 w 0 s τ → (∀ t, K41 s t → JRL p q L0 6 0 t τ → OK (k87 x1 x2 x3 (x5 + 1) t) P) → OK (f_X0_relate_111 k87 n x1 x2 x3 x5 x6 s) P := by
  intro n
  have l1 := li_1
  have l0 := li_0
  have l6 := li_6
  have lu := FUi
  induction n with
  | zero => intro w x6 s h7 h8 h9; omega
  | succ n ih =>
    intro w x6 s h6 hw hn hJ hk
    rw [f_X0_relate_111]
    by_cases ew : w = 6
    · subst ew
      refine OK.ile (fun _ => hk s K41.rf hJ) (fun h => by omega)
    refine OK.ile (fun h => by omega) (fun _ => ?_)
    have e7 := il_addE (x := x6) (y := 1) (by omega) (by omega)
    exact ar_121 x1 x2 x3 x5 x6 w h1 h2 h6 (by omega) FU 0 0 s l0 (by omega) (by omega) hJ (fun t kt hJt => ih (w + 1) (x6 + 1) t (by omega) (by omega) (by omega) hJt (fun u ku hJu => hk u (kt.trans ku) hJu))
theorem ar_psx {p q : Nat} {s τ : ST} {L : Int64} (hPQ : PQ p q s τ) (hV : IVL p q τ L) (hH : ∀ a b : Nat, a < 6 → b < 6 → lbt L (6 * a + b) = true → HXP τ (RBX L) (Int32.ofNat a) (Int32.ofNat b)) : PSX τ (RBX L) := by
  intro w r a1 a2 a3 a4 a5
  obtain ⟨a, ea⟩ : ∃ a : Nat, w.toInt = a := ⟨_, (Int.toNat_of_nonneg a1).symm⟩
  obtain ⟨b, eb⟩ : ∃ b : Nat, r.toInt = b := ⟨_, (Int.toNat_of_nonneg a3).symm⟩
  have e1 : w = Int32.ofNat a := intOf ea (by omega)
  have e2 : r = Int32.ofNat b := intOf eb (by omega)
  have n1 : w.toNatClampNeg = a := nC ea
  have n2 : r.toNatClampNeg = b := nC eb
  rw [n1, n2] at a5
  have hb : lbt L (6 * a + b) = true := by
    cases e : lbt L (6 * a + b) with
    | true => rfl
    | false => exact absurd (RBX_iff.mpr e) a5
  obtain ⟨⟨v1, v2⟩, v3⟩ := hV a b (by omega) (by omega) hb
  have hrm := hPQ.rm
  have h9 := hH a b (by omega) (by omega) hb
  rw [e1, e2]
  have iw := ofNatI (w := a) (by omega)
  have ir := ofNatI (w := b) (by omega)
  exact ⟨⟨by omega, by omega⟩, v3, h9⟩
theorem ar_87 {p q : Nat} {τ : ST} (x1 x2 : Int32) (h1 : x1.toInt = p) (h2 : x2.toInt = q) : ∀ (n : Nat) (x3 : Int64) (x5 : Int32) (s : ST), 0 ≤ x5.toInt → x5.toInt ≤ 37 → (38 : Int) - x5.toInt < n → PQ p q s τ → IVL p q τ (s.2.1 41 4) → GMX τ (RBX (s.2.1 41 4)) → (PSX τ (RBX (s.2.1 41 4)) ∧ s.2.1 41 4 = x3 ∨ ¬ s.2.1 41 4 = x3 ∧ x5.toInt + cnL (s.2.1 41 4) ≤ 36) → OK (f_X0_relate_87 n x1 x2 x3 x5 s) (fun t => K41 s t ∧ GFX τ (RBX (t.2.1 41 4))) := by
  intro n
  have l1 := li_1
  have l0 := li_0
  have l36 := li_36
  have lu := FUi
  induction n with
  | zero => intro x3 x5 s a b c; omega
  | succ n ih =>
    intro x3 x5 s a b c hPQ hV hG hD
    rw [f_X0_relate_87]
    have e5 := il_addE (x := x5) (y := 1) (by omega) (by omega)
    refine OK.ilt (fun h => ?_) (fun h => ?_)
    · refine OK.ret ⟨K41.rf, ?_, hG⟩
      rcases hD with hD | hD
      · exact hD.1
      · omega
    refine OK.ite (fun h9 => ?_) (fun h9 => ?_)
    · rw [lg_cmp_eq] at h9
      refine OK.ret ⟨K41.rf, ?_, hG⟩
      rcases hD with hD | hD
      · exact hD.1
      · exact absurd h9 hD.1
    · rw [lg_cmp_eq] at h9
      have hD : ¬ s.2.1 41 4 = x3 ∧ x5.toInt + cnL (s.2.1 41 4) ≤ 36 := by
        rcases hD with hD | hD
        · exact absurd hD.2 h9
        · exact hD
      refine ar_111 x1 x2 (s.2.1 41 4) x5 h1 h2 FU 0 0 s l0 (by omega) (by omega) ⟨hPQ, hV, hG, .inl ⟨rfl, fun a b ha hb h => by omega⟩⟩ (fun t kt hJ => ?_)
      obtain ⟨tPQ, tV, tG, tD⟩ := hJ
      refine (ih (s.2.1 41 4) (x5 + 1) t (by omega) (by omega) (by omega) tPQ tV tG ?_).mono (fun u hu => ⟨kt.trans hu.1, hu.2⟩)
      rcases tD with ⟨d1, d2⟩ | d
      · exact .inl ⟨ar_psx tPQ tV (fun a b ha hb => d2 a b ha hb (by omega)), d1⟩
      · refine .inr ⟨fun e => ?_, by omega⟩
        rw [e] at d
        omega
def IVI (p q : Nat) (w r : Nat) (τ : ST) (L : Int64) : Prop := ∀ a b : Nat, a < 6 → b < 6 → (lbt L (6 * a + b) = true ↔ (a < w ∨ a = w ∧ b < r) ∧ ((a : Int) < (τ.1 8 p).toInt ∧ (b : Int) < (τ.1 8 q).toInt) ∧ NYS τ (Int32.ofNat a) (Int32.ofNat b))
theorem ar_22 {p q : Nat} {τ : ST} {k7 : Int32 → Int32 → Int32 → ST → Option ST} {P : ST → Prop} (x1 x2 x3 : Int32) (w : Nat) (h1 : x1.toInt = p) (h2 : x2.toInt = q) (h3 : x3.toInt = w) (hw : (w : Int) < (τ.1 8 p).toInt) : ∀ (n r : Nat) (x4 : Int32) (s : ST), x4.toInt = r → (r : Int) ≤ (τ.1 8 q).toInt → 7 < n + r → PQ p q s τ → IVI p q w r τ (s.2.1 41 4) → (∀ t, K41 s t → PQ p q t τ → IVI p q (w + 1) 0 τ (t.2.1 41 4) → OK (k7 x1 x2 (x3 + 1) t) P) → OK (f_X0_relate_22 k7 n x1 x2 x3 x4 s) P := by
  intro n
  have l1 := li_1
  have l0 := li_0
  have l6 := li_6
  induction n with
  | zero =>
    intro r x4 s h7 h8 h9 hPQ
    have := hPQ.2.2.1.2.cnt
    omega
  | succ n ih =>
    intro r x4 s h4 hr hn hPQ hI hk
    rw [f_X0_relate_22]
    unfold f_X0_relate_70
    have cP := hPQ.2.2.1.1.cnt
    have cQ := hPQ.2.2.1.2.cnt
    have hp6 := hPQ.1.1
    have hq6 := hPQ.1.2
    rw [a4_recordsOf x2 s h2 hq6, sbnd]
    dsimp only
    rw [cQ.1]
    refine OK.ile (fun h => ?_) (fun h => ?_)
    · refine hk s K41.rf hPQ (fun a b ha hb => ?_)
      rw [hI a b ha hb]
      exact ⟨fun h => ⟨by omega, h.2⟩, fun h => ⟨by omega, h.2⟩⟩
    have e4 := il_addE (x := x4) (y := 1) (by omega) (by omega)
    have m1 : (x1 * 6).toInt = 6 * x1.toInt := by
      rw [Int32.mul_comm]
      exact mlE (k := 6) (y := x1) 6 l6 (by omega) (by omega)
    have m2 : (x2 * 6).toInt = 6 * x2.toInt := by
      rw [Int32.mul_comm]
      exact mlE (k := 6) (y := x2) 6 l6 (by omega) (by omega)
    have m3 := il_addE (x := x1 * 6) (y := x3) (by omega) (by omega)
    have m4 := il_addE (x := x2 * 6) (y := x4) (by omega) (by omega)
    have iw := ofNatI (w := w) (by omega)
    have ir := ofNatI (w := r) (by omega)
    refine OK.bndR (ab_mayPair hPQ (x1 * 6 + x3) (x2 * 6 + x4) (Int32.ofNat w) (Int32.ofNat r) w r hw (by omega) (by omega) (by omega) iw ir) (fun z hz => ?_)
    dsimp only
    refine OK.ieq (fun hz0 => ?_) (fun hz0 => ?_)
    · refine ih (r + 1) (x4 + 1) s (by omega) (by omega) (by omega) hPQ (fun a b ha hb => ?_) hk
      rw [hI a b ha hb]
      by_cases e : a = w ∧ b = r
      · obtain ⟨rfl, rfl⟩ := e
        refine ⟨fun h => by omega, fun h => ?_⟩
        rcases hz with hz | hz
        · exact absurd h.2.2 hz.2
        · omega
      · exact ⟨fun h => ⟨by omega, h.2⟩, fun h => ⟨by omega, h.2⟩⟩
    · have hN : NYS τ (Int32.ofNat w) (Int32.ofNat r) := by
        rcases hz with hz | hz
        · omega
        · exact hz.2
      have ek : 6 * (w % 6) + r % 6 = 6 * w + r := by omega
      have hbit := a_bitOf x3 x4 s (a := w) (b := r) h3 h4 (by omega) (by omega)
      rw [ek] at hbit
      rw [hbit, sbnd]
      dsimp only
      have ev : (stL s 41 4 (s.2.1 41 4 ||| lb1 (6 * w + r))).2.1 41 4 = (s.2.1 41 4 ||| lb1 (6 * w + r)) := stL_at
      have kk : K41 s (stL s 41 4 (s.2.1 41 4 ||| lb1 (6 * w + r))) := K41.l
      have hon : ∀ j, lbt (s.2.1 41 4 ||| lb1 (6 * w + r)) j = (lbt (s.2.1 41 4) j || decide (j = 6 * w + r)) := fun j => lbt_or (by omega)
      generalize stL s 41 4 (s.2.1 41 4 ||| lb1 (6 * w + r)) = t at ev kk ⊢
      generalize (s.2.1 41 4 ||| lb1 (6 * w + r)) = L' at ev hon
      refine ih (r + 1) (x4 + 1) t (by omega) (by omega) (by omega) (hPQ.keep kk.kta) (fun a b ha hb => ?_) (fun u ku => hk u (kk.trans ku))
      rw [ev, hon]
      have h9 := hI a b ha hb
      by_cases e : a = w ∧ b = r
      · obtain ⟨rfl, rfl⟩ := e
        exact ⟨fun _ => ⟨by omega, ⟨hw, by omega⟩, hN⟩, fun _ => by simp⟩
      · have e2 : ¬ 6 * a + b = 6 * w + r := by omega
        simp only [e2, decide_false, Bool.or_false]
        rw [h9]
        exact ⟨fun h => ⟨by omega, h.2⟩, fun h => ⟨by omega, h.2⟩⟩
theorem ar_7 {p q : Nat} {τ : ST} (x1 x2 : Int32) (h1 : x1.toInt = p) (h2 : x2.toInt = q) : ∀ (n w : Nat) (x3 : Int32) (s : ST), x3.toInt = w → (w : Int) ≤ (τ.1 8 p).toInt → 7 < n + w → PQ p q s τ → IVI p q w 0 τ (s.2.1 41 4) → OK (f_X0_relate_7 n x1 x2 x3 s) (fun t => K41 s t ∧ GFX τ (RBX (t.2.1 41 4))) := by
  intro n
  have l1 := li_1
  have l0 := li_0
  have lu := FUi
  induction n with
  | zero =>
    intro w x3 s h7 h8 h9 hPQ
    have := hPQ.2.2.1.1.cnt
    omega
  | succ n ih =>
    intro w x3 s h3 hw hn hPQ hI
    rw [f_X0_relate_7]
    have cP := hPQ.2.2.1.1.cnt
    have cQ := hPQ.2.2.1.2.cnt
    have hp6 := hPQ.1.1
    rw [a4_recordsOf x1 s h1 hp6, sbnd]
    dsimp only
    rw [cP.1]
    have e3 := il_addE (x := x3) (y := 1) (by omega) (by omega)
    refine OK.ile (fun h => ?_) (fun h => ?_)
    · have hG : GMX τ (RBX (s.2.1 41 4)) := by
        intro Q hQ k hk h9 h8
        rw [RBX_iff] at h8
        obtain ⟨a, ea⟩ : ∃ a : Nat, a = k / 6 := ⟨_, rfl⟩
        obtain ⟨b, eb⟩ : ∃ b : Nat, b = k % 6 := ⟨_, rfl⟩
        have e6 : k = 6 * a + b := by omega
        have iw := ofNatI (w := a) (by omega)
        have ir := ofNatI (w := b) (by omega)
        have nw : (Int32.ofNat a).toNatClampNeg = a := nC iw
        have nr : (Int32.ofNat b).toNatClampNeg = b := nC ir
        obtain ⟨y1, y2, y3⟩ := hQ (Int32.ofNat a) (Int32.ofNat b) (by omega) (by omega) (by omega) (by omega) (by rw [nw, nr, ← e6]; exact h9)
        have hrm := hPQ.rm
        have h7 := (hI a b (by omega) (by omega)).mpr ⟨by omega, ⟨by omega, by omega⟩, y2⟩
        rw [e6, h7] at h8
        cases h8
      have hV : IVL p q τ (s.2.1 41 4) := fun a b ha hb h9 => ((hI a b ha hb).mp h9).2
      refine ar_87 x1 x2 h1 h2 FU 0 0 s (by omega) (by omega) (by omega) hPQ hV hG ?_
      by_cases e : s.2.1 41 4 = 0
      · refine .inl ⟨ar_psx hPQ hV (fun a b ha hb h9 => ?_), e⟩
        rw [e, lbt_0] at h9
        cases h9
      · have := cntZ_le (p := fun k => lbt (s.2.1 41 4) k = true) 36
        have e2 : cnL (s.2.1 41 4) = cntZ (fun k => lbt (s.2.1 41 4) k = true) 36 := rfl
        exact .inr ⟨e, by omega⟩
    · exact ar_22 x1 x2 x3 w h1 h2 h3 (by omega) FU 0 0 s l0 (by omega) (by omega) hPQ hI (fun t kt tPQ tI => (ih (w + 1) (x3 + 1) t (by omega) (by omega) (by omega) tPQ tI).mono (fun u hu => ⟨kt.trans hu.1, hu.2⟩))
/-- the class relates two plans as the reference pairs their records -/
theorem ab_relate {p q : Nat} {σ τ : ST} (h : PQ p q σ τ) (p0 p1 : Int32) (h0 : p0.toInt = p) (h1 : p1.toInt = q) : OK (f_X0_relate p0 p1 σ) (fun t => K41 σ t ∧ GFX τ (RBX (t.2.1 41 4))) := by
  unfold f_X0_relate
  have lu := FUi
  have cP := h.2.2.1.1.cnt
  have kk : K41 σ (stL σ 41 4 0) := K41.l
  have ev : (stL σ 41 4 0).2.1 41 4 = 0 := stL_at
  refine (ar_7 p0 p1 h0 h1 FU 0 0 (stL σ 41 4 0) li_0 (by omega) (by omega) (h.keep kk.kta) (fun a b ha hb => ?_)).mono (fun u hu => ⟨kk.trans hu.1, hu.2⟩)
  rw [ev, lbt_0]
  exact ⟨fun h => (by cases h), fun h => by omega⟩
/-! whatever a run answers, if it answers -/
def PT {α : Type} (o : Option α) (P : α → Prop) : Prop := ∀ q, o = some q → P q
theorem PT.none {α : Type} {P : α → Prop} : PT (none : Option α) P := fun _ h => by cases h
theorem PT.ret {α : Type} {q : α} {P : α → Prop} (h : P q) : PT (some q) P := fun z e => by
  cases e
  exact h
theorem PT.mono {α : Type} {o : Option α} {P Q : α → Prop} (h : PT o P) (k : ∀ q, P q → Q q) : PT o Q := fun q e => k q (h q e)
theorem PT.ok {α : Type} {o : Option α} {P : α → Prop} (h : OK o P) : PT o P := fun q e => by
  obtain ⟨z, e2, hz⟩ := h
  rw [e] at e2
  cases e2
  exact hz
theorem PT.ite {α : Type} {c : Prop} {i : Decidable c} {x y : Option α} {P : α → Prop} (h1 : c → PT x P) (h2 : ¬ c → PT y P) : PT (@_root_.ite (Option α) c i x y) P := by
  by_cases h : c
  · rw [if_pos h]; exact h1 h
  · rw [if_neg h]; exact h2 h
theorem PT.grd {α : Type} {c : Prop} {i : Decidable c} {x : Option α} {P : α → Prop} (h : c → PT x P) : PT (@_root_.ite (Option α) c i x Option.none) P := PT.ite h (fun _ => PT.none)
theorem PT.ilt {α : Type} {a b : Int32} {i : Decidable (a < b)} {x y : Option α} {P : α → Prop} (h1 : a.toInt < b.toInt → PT x P) (h2 : b.toInt ≤ a.toInt → PT y P) : PT (@_root_.ite (Option α) (a < b) i x y) P := PT.ite (fun h => h1 (il_lt h)) (fun h => h2 (il_nlt h))
theorem PT.ile {α : Type} {a b : Int32} {i : Decidable (a ≤ b)} {x y : Option α} {P : α → Prop} (h1 : a.toInt ≤ b.toInt → PT x P) (h2 : b.toInt < a.toInt → PT y P) : PT (@_root_.ite (Option α) (a ≤ b) i x y) P := PT.ite (fun h => h1 (il_le h)) (fun h => h2 (il_nle h))
theorem PT.ieq {α : Type} {a b : Int32} {i : Decidable (a = b)} {x y : Option α} {P : α → Prop} (h1 : a.toInt = b.toInt → PT x P) (h2 : ¬ a.toInt = b.toInt → PT y P) : PT (@_root_.ite (Option α) (a = b) i x y) P := PT.ite (fun h => h1 (il_eq h)) (fun h => h2 (il_ne h))
theorem PT.bnd {α β : Type} {o : Option α} {f : α → Option β} {Q : α → Prop} {P : β → Prop} (h : PT o Q) (k : ∀ q, Q q → PT (f q) P) : PT (o.bind f) P := by
  cases o with
  | none => exact PT.none
  | some x => exact k x (h x rfl)
theorem PT.lt {α β : Type} {e : α} {f : α → Option β} {P : β → Prop} (k : ∀ z, z = e → PT (f z) P) : PT ((some e).bind f) P := k e rfl
theorem PT.bndR {α β : Type} {o : Option (α × ST)} {f : α × ST → Option β} {s : ST} {Q : α → Prop} {P : β → Prop} (h : OK o (RO s Q)) (k : ∀ v, Q v → PT (f (v, s)) P) : PT (o.bind f) P := by
  obtain ⟨⟨v, t⟩, e, e2, hq⟩ := h
  have e2 : t = s := e2
  subst e2
  rw [e]
  exact k v hq
theorem PT.sw {α β : Type} {a : Option α} {b : Option β} {P : α → β → Prop} (h : PT b (fun y => PT a (fun x => P x y))) : PT a (fun x => PT b (fun y => P x y)) := fun x ex y ey => h y ey x ex
theorem PT.bnd2 {α β γ δ : Type} {a : Option α} {b : Option β} {f : α → Option γ} {g : β → Option δ} {Q : α → β → Prop} {P : γ → δ → Prop} (h : PT a (fun x => PT b (Q x))) (k : ∀ x y, Q x y → PT (f x) (fun u => PT (g y) (P u))) : PT (a.bind f) (fun u => PT (b.bind g) (P u)) := by
  cases a with
  | none => exact PT.none
  | some x =>
    cases b with
    | none => exact fun _ _ => PT.none
    | some y => exact k x y (h x rfl y rfl)
theorem PT.mono2 {α β : Type} {a : Option α} {b : Option β} {P Q : α → β → Prop} (h : PT a (fun x => PT b (P x))) (k : ∀ x y, P x y → Q x y) : PT a (fun x => PT b (Q x)) := fun x ex y ey => k x y (h x ex y ey)
theorem PT.pf {α : Type} {st : α → ST} {K : ST → Prop} {o : Option α} (h : PF st K o) : PT o (fun q => K (st q)) := h
/-- the reference's misses are full: they stay -/
def K20 (s σ : ST) : Prop := CH LC LI s σ ∧ ((s.1 0 61).toInt = 20 → (σ.1 0 61).toInt = 20 ∧ σ.1 37 = s.1 37 ∧ σ.1 38 = s.1 38 ∧ σ.1 39 = s.1 39)
theorem K20.i {s σ : ST} {c i : Nat} {v : Int32} (hc : c = 36 ∨ c = 40 ∨ c = 0 ∧ i = 57) (h : K20 s σ) : K20 s (stI σ c i v) := by
  rcases hc with e | e | ⟨e1, e2⟩
  · subst e
    exact ⟨h.1.i (by decide) (by decide), h.2⟩
  · subst e
    exact ⟨h.1.i (by decide) (by decide), h.2⟩
  · subst e1 e2
    exact ⟨h.1.o (by decide), h.2⟩
theorem bp_misses_35 : ∀ (n : Nat) (x2 : Int32) (σ : ST), PT (f_X11_misses_35 n x2 σ) (fun t => CH [39] [61] σ t) := by
  intro n
  induction n with
  | zero => intro x2 σ; exact PT.none
  | succ n ih =>
    intro x2 σ
    rw [f_X11_misses_35]
    refine PT.ile (fun _ => PT.ret (CH.rf.o (by decide))) (fun _ => ?_)
    refine PT.grd (fun _ => ?_)
    refine PT.grd (fun _ => ?_)
    exact (ih (x2 + 1) _).mono (fun t ct => (CH.rf.i (by decide) (by decide)).trans ct)
theorem w20_X11_misses {s : ST} {p0 : Int32} {σ : ST} (h : K20 s σ) : PF st0 (K20 s) (f_X11_misses p0 σ) := by
  have l20 := li_20
  unfold f_X11_misses
  show PT _ (fun q => K20 s q)
  refine PT.ieq (fun _ => PT.ret h) (fun hne => ?_)
  refine PT.grd (fun _ => ?_)
  refine PT.grd (fun _ => ?_)
  refine PT.lt (fun z hz => ?_)
  have c : CH [37, 38, 39] [61] σ z := by rw [hz]; exact (CH.rf.i (by decide) (by decide)).i (by decide) (by decide)
  refine (bp_misses_35 FU 0 z).mono (fun t ct => ⟨h.1.trans ((c.trans (ct.mono (by decide) (by decide))).mono (by decide) (by decide)), fun h9 => ?_⟩)
  have := (h.2 h9).1
  omega
theorem w20_X11_namesMay_40 {s : ST}  {σ : ST}   (h : K20 s σ) : PF st1 (K20 s) (f_X11_namesMay_40 σ) := by
  unfold f_X11_namesMay_40
  exact (PF.ret1 h)
theorem w20_X11_namesMay_8 {s : ST} {x1 : Int32} {x2 : Int32} {σ : ST}   (h : K20 s σ) : PF st1 (K20 s) (f_X11_namesMay_8 x1 x2 σ) := by
  unfold f_X11_namesMay_8
  exact (PF.ite (fun _ => (PF.ite (fun _ => (PF.ite (fun _ => (w20_X11_namesMay_40  h)) (fun _ => (PF.ret1 h)))) (fun _ => PF.none))) (fun _ => PF.none))
theorem w20_X11_namesMay {s : ST} {p0 : Int32} {p1 : Int32} {σ : ST}   (h : K20 s σ) : PF st1 (K20 s) (f_X11_namesMay p0 p1 σ) := by
  unfold f_X11_namesMay
  exact (PF.ite (fun _ => (PF.ite (fun _ => (w20_X11_namesMay_40  h)) (fun _ => (w20_X11_namesMay_8  h)))) (fun _ => (w20_X11_namesMay_8  h)))
theorem w20_X11_fieldOf_3 {s : ST}    : ∀ (n : Nat) (x1 : Int32) (x2 : Int64) (x3 : Int32) (σ : ST), K20 s σ → PF st1 (K20 s) (f_X11_fieldOf_3  n x1 x2 x3 σ) := by
  intro n
  induction n with
  | zero => intro x1 x2 x3 σ h; rw [f_X11_fieldOf_3]; exact PF.none
  | succ n ih =>
    intro x1 x2 x3 σ h
    rw [f_X11_fieldOf_3]
    exact (PF.ite (fun _ => (PF.ite (fun _ => (PF.ret1 h)) (fun _ => (PF.ite (fun _ => (PF.ite (fun _ => (PF.ret1 h)) (fun _ => (ih _ _ _ _ h)))) (fun _ => PF.none))))) (fun _ => PF.none))
theorem w20_X11_fieldOf {s : ST} {p0 : Int32} {p1 : Int64} {σ : ST}   (h : K20 s σ) : PF st1 (K20 s) (f_X11_fieldOf p0 p1 σ) := by
  unfold f_X11_fieldOf
  exact (w20_X11_fieldOf_3  _ _ _ _ _ h)
theorem w20_X11_fieldFor {s : ST} {p0 : Int32} {p1 : Int32} {σ : ST}   (h : K20 s σ) : PF st1 (K20 s) (f_X11_fieldFor p0 p1 σ) := by
  unfold f_X11_fieldFor
  exact (PF.ite (fun _ => (PF.bnd (w20_X11_fieldOf  h) (fun q2 hq2 => (PF.ite (fun _ => (PF.ret1 hq2)) (fun _ => (PF.ite (fun _ => (PF.ret1 hq2)) (fun _ => (PF.bnd (w20_X11_fieldOf  hq2) (fun q4 hq4 => (PF.ret1 hq4)))))))))) (fun _ => PF.none))
theorem w20_X11_chosen_69 {s : ST} {r_X11_chosen : Int32 → Int32 → ST → Option (Int32 × ST)} {r_X11_match : Int32 → Int32 → ST → Option (Int32 × ST)} {k5 : Int32 → Int32 → Int32 → Int32 → ST → Option (Int32 × ST)} {x1 : Int32} {x2 : Int32} {x3 : Int32} {x4 : Int32} {σ : ST} (h_r_X11_chosen : ∀ (x1 : Int32) (x2 : Int32) (σ : ST), K20 s σ → PF st1 (K20 s) (r_X11_chosen x1 x2 σ)) (h_r_X11_match : ∀ (x1 : Int32) (x2 : Int32) (σ : ST), K20 s σ → PF st1 (K20 s) (r_X11_match x1 x2 σ)) (h_k5 : ∀ (x1 : Int32) (x2 : Int32) (x3 : Int32) (x4 : Int32) (σ : ST), K20 s σ → PF st1 (K20 s) (k5 x1 x2 x3 x4 σ))  (h : K20 s σ) : PF st1 (K20 s) (f_X11_chosen_69 r_X11_chosen r_X11_match k5 x1 x2 x3 x4 σ) := by
  unfold f_X11_chosen_69
  exact (h_k5 _ _ _ _ _ h)
theorem w20_X11_chosen_68 {s : ST} {r_X11_chosen : Int32 → Int32 → ST → Option (Int32 × ST)} {r_X11_match : Int32 → Int32 → ST → Option (Int32 × ST)} {k5 : Int32 → Int32 → Int32 → Int32 → ST → Option (Int32 × ST)} {x1 : Int32} {x2 : Int32} {x4 : Int32} {y0 : Int32} {σ : ST} (h_r_X11_chosen : ∀ (x1 : Int32) (x2 : Int32) (σ : ST), K20 s σ → PF st1 (K20 s) (r_X11_chosen x1 x2 σ)) (h_r_X11_match : ∀ (x1 : Int32) (x2 : Int32) (σ : ST), K20 s σ → PF st1 (K20 s) (r_X11_match x1 x2 σ)) (h_k5 : ∀ (x1 : Int32) (x2 : Int32) (x3 : Int32) (x4 : Int32) (σ : ST), K20 s σ → PF st1 (K20 s) (k5 x1 x2 x3 x4 σ))  (h : K20 s σ) : PF st1 (K20 s) (f_X11_chosen_68 r_X11_chosen r_X11_match k5 x1 x2 x4 y0 σ) := by
  unfold f_X11_chosen_68
  exact (w20_X11_chosen_69 h_r_X11_chosen h_r_X11_match h_k5 h)
theorem w20_X11_chosen_5 {s : ST} {r_X11_chosen : Int32 → Int32 → ST → Option (Int32 × ST)} {r_X11_match : Int32 → Int32 → ST → Option (Int32 × ST)} (h_r_X11_chosen : ∀ (x1 : Int32) (x2 : Int32) (σ : ST), K20 s σ → PF st1 (K20 s) (r_X11_chosen x1 x2 σ)) (h_r_X11_match : ∀ (x1 : Int32) (x2 : Int32) (σ : ST), K20 s σ → PF st1 (K20 s) (r_X11_match x1 x2 σ))  : ∀ (n : Nat) (x1 : Int32) (x2 : Int32) (x3 : Int32) (x4 : Int32) (σ : ST), K20 s σ → PF st1 (K20 s) (f_X11_chosen_5 r_X11_chosen r_X11_match n x1 x2 x3 x4 σ) := by
  intro n
  induction n with
  | zero => intro x1 x2 x3 x4 σ h; rw [f_X11_chosen_5]; exact PF.none
  | succ n ih =>
    intro x1 x2 x3 x4 σ h
    rw [f_X11_chosen_5]
    exact (PF.ite (fun _ => (PF.ite (fun _ => (PF.ret1 h)) (fun _ => (PF.ite (fun _ => (PF.bnd (h_r_X11_match _ _ _ h) (fun q3 hq3 => (PF.ite (fun _ => (w20_X11_chosen_69 h_r_X11_chosen h_r_X11_match ih hq3)) (fun _ => (PF.ite (fun _ => (PF.ite (fun _ => (PF.ite (fun _ => (PF.ret1 hq3)) (fun _ => (PF.ite (fun _ => (w20_X11_chosen_68 h_r_X11_chosen h_r_X11_match ih hq3)) (fun _ => (w20_X11_chosen_68 h_r_X11_chosen h_r_X11_match ih hq3)))))) (fun _ => PF.none))) (fun _ => PF.none))))))) (fun _ => PF.none))))) (fun _ => PF.none))
theorem w20_X11_chosen {s : ST} {r_X11_chosen : Int32 → Int32 → ST → Option (Int32 × ST)} {r_X11_match : Int32 → Int32 → ST → Option (Int32 × ST)} {p0 : Int32} {p1 : Int32} {σ : ST} (h_r_X11_chosen : ∀ (x1 : Int32) (x2 : Int32) (σ : ST), K20 s σ → PF st1 (K20 s) (r_X11_chosen x1 x2 σ)) (h_r_X11_match : ∀ (x1 : Int32) (x2 : Int32) (σ : ST), K20 s σ → PF st1 (K20 s) (r_X11_match x1 x2 σ))  (h : K20 s σ) : PF st1 (K20 s) (f_X11_chosen r_X11_chosen r_X11_match p0 p1 σ) := by
  unfold f_X11_chosen
  exact (w20_X11_chosen_5 h_r_X11_chosen h_r_X11_match _ _ _ _ _ _ h)
theorem w20_X11_match_55 {s : ST} {r_X11_chosen : Int32 → Int32 → ST → Option (Int32 × ST)} {r_X11_match : Int32 → Int32 → ST → Option (Int32 × ST)} {k16 : Int32 → Int32 → Int32 → Int32 → ST → Option (Int32 × ST)} {x1 : Int32} {x2 : Int32} {x4 : Int32} {y0 : Int32} {σ : ST} (h_r_X11_chosen : ∀ (x1 : Int32) (x2 : Int32) (σ : ST), K20 s σ → PF st1 (K20 s) (r_X11_chosen x1 x2 σ)) (h_r_X11_match : ∀ (x1 : Int32) (x2 : Int32) (σ : ST), K20 s σ → PF st1 (K20 s) (r_X11_match x1 x2 σ)) (h_k16 : ∀ (x1 : Int32) (x2 : Int32) (x3 : Int32) (x4 : Int32) (σ : ST), K20 s σ → PF st1 (K20 s) (k16 x1 x2 x3 x4 σ))  (h : K20 s σ) : PF st1 (K20 s) (f_X11_match_55 r_X11_chosen r_X11_match k16 x1 x2 x4 y0 σ) := by
  unfold f_X11_match_55
  exact (h_k16 _ _ _ _ _ h)
theorem w20_X11_match_50 {s : ST} {r_X11_chosen : Int32 → Int32 → ST → Option (Int32 × ST)} {r_X11_match : Int32 → Int32 → ST → Option (Int32 × ST)} {k16 : Int32 → Int32 → Int32 → Int32 → ST → Option (Int32 × ST)} {x1 : Int32} {x2 : Int32} {x4 : Int32} {σ : ST} (h_r_X11_chosen : ∀ (x1 : Int32) (x2 : Int32) (σ : ST), K20 s σ → PF st1 (K20 s) (r_X11_chosen x1 x2 σ)) (h_r_X11_match : ∀ (x1 : Int32) (x2 : Int32) (σ : ST), K20 s σ → PF st1 (K20 s) (r_X11_match x1 x2 σ)) (h_k16 : ∀ (x1 : Int32) (x2 : Int32) (x3 : Int32) (x4 : Int32) (σ : ST), K20 s σ → PF st1 (K20 s) (k16 x1 x2 x3 x4 σ))  (h : K20 s σ) : PF st1 (K20 s) (f_X11_match_50 r_X11_chosen r_X11_match k16 x1 x2 x4 σ) := by
  unfold f_X11_match_50
  exact (w20_X11_match_55 h_r_X11_chosen h_r_X11_match h_k16 h)
theorem w20_X11_match_16 {s : ST} {r_X11_chosen : Int32 → Int32 → ST → Option (Int32 × ST)} {r_X11_match : Int32 → Int32 → ST → Option (Int32 × ST)} (h_r_X11_chosen : ∀ (x1 : Int32) (x2 : Int32) (σ : ST), K20 s σ → PF st1 (K20 s) (r_X11_chosen x1 x2 σ)) (h_r_X11_match : ∀ (x1 : Int32) (x2 : Int32) (σ : ST), K20 s σ → PF st1 (K20 s) (r_X11_match x1 x2 σ))  : ∀ (n : Nat) (x1 : Int32) (x2 : Int32) (x3 : Int32) (x4 : Int32) (σ : ST), K20 s σ → PF st1 (K20 s) (f_X11_match_16 r_X11_chosen r_X11_match n x1 x2 x3 x4 σ) := by
  intro n
  induction n with
  | zero => intro x1 x2 x3 x4 σ h; rw [f_X11_match_16]; exact PF.none
  | succ n ih =>
    intro x1 x2 x3 x4 σ h
    rw [f_X11_match_16]
    exact (PF.ite (fun _ => (PF.ite (fun _ => (PF.ite (fun _ => (PF.ret1 h)) (fun _ => PF.none))) (fun _ => (PF.ite (fun _ => (PF.ite (fun _ => (PF.bnd (h_r_X11_match _ _ _ h) (fun q3 hq3 => (PF.ite (fun _ => (w20_X11_match_55 h_r_X11_chosen h_r_X11_match ih hq3)) (fun _ => (w20_X11_match_50 h_r_X11_chosen h_r_X11_match ih hq3)))))) (fun _ => PF.none))) (fun _ => (w20_X11_match_50 h_r_X11_chosen h_r_X11_match ih h)))))) (fun _ => PF.none))
theorem w20_X11_match_204 {s : ST} {r_X11_chosen : Int32 → Int32 → ST → Option (Int32 × ST)} {r_X11_match : Int32 → Int32 → ST → Option (Int32 × ST)} {σ : ST} (h_r_X11_chosen : ∀ (x1 : Int32) (x2 : Int32) (σ : ST), K20 s σ → PF st1 (K20 s) (r_X11_chosen x1 x2 σ)) (h_r_X11_match : ∀ (x1 : Int32) (x2 : Int32) (σ : ST), K20 s σ → PF st1 (K20 s) (r_X11_match x1 x2 σ))  (h : K20 s σ) : PF st1 (K20 s) (f_X11_match_204 r_X11_chosen r_X11_match σ) := by
  unfold f_X11_match_204
  exact (PF.ret1 h)
theorem w20_X11_match_193 {s : ST} {r_X11_chosen : Int32 → Int32 → ST → Option (Int32 × ST)} {r_X11_match : Int32 → Int32 → ST → Option (Int32 × ST)} {x3 : Int32} {x4 : Int32} {σ : ST} (h_r_X11_chosen : ∀ (x1 : Int32) (x2 : Int32) (σ : ST), K20 s σ → PF st1 (K20 s) (r_X11_chosen x1 x2 σ)) (h_r_X11_match : ∀ (x1 : Int32) (x2 : Int32) (σ : ST), K20 s σ → PF st1 (K20 s) (r_X11_match x1 x2 σ))  (h : K20 s σ) : PF st1 (K20 s) (f_X11_match_193 r_X11_chosen r_X11_match x3 x4 σ) := by
  unfold f_X11_match_193
  exact (PF.ite (fun _ => (PF.ite (fun _ => (w20_X11_match_204 h_r_X11_chosen h_r_X11_match h)) (fun _ => (PF.ret1 h)))) (fun _ => (PF.ret1 h)))
theorem w20_X11_match_170 {s : ST} {r_X11_chosen : Int32 → Int32 → ST → Option (Int32 × ST)} {r_X11_match : Int32 → Int32 → ST → Option (Int32 × ST)} {x3 : Int32} {x4 : Int32} {σ : ST} (h_r_X11_chosen : ∀ (x1 : Int32) (x2 : Int32) (σ : ST), K20 s σ → PF st1 (K20 s) (r_X11_chosen x1 x2 σ)) (h_r_X11_match : ∀ (x1 : Int32) (x2 : Int32) (σ : ST), K20 s σ → PF st1 (K20 s) (r_X11_match x1 x2 σ))  (h : K20 s σ) : PF st1 (K20 s) (f_X11_match_170 r_X11_chosen r_X11_match x3 x4 σ) := by
  unfold f_X11_match_170
  exact (PF.ite (fun _ => (w20_X11_match_204 h_r_X11_chosen h_r_X11_match h)) (fun _ => (PF.ite (fun _ => (PF.ite (fun _ => (w20_X11_match_204 h_r_X11_chosen h_r_X11_match h)) (fun _ => (PF.ite (fun _ => (w20_X11_match_204 h_r_X11_chosen h_r_X11_match h)) (fun _ => (w20_X11_match_193 h_r_X11_chosen h_r_X11_match h)))))) (fun _ => (w20_X11_match_193 h_r_X11_chosen h_r_X11_match h)))))
theorem w20_X11_match_135 {s : ST} {r_X11_chosen : Int32 → Int32 → ST → Option (Int32 × ST)} {r_X11_match : Int32 → Int32 → ST → Option (Int32 × ST)} {x1 : Int32} {x2 : Int32} {x3 : Int32} {x4 : Int32} {σ : ST} (h_r_X11_chosen : ∀ (x1 : Int32) (x2 : Int32) (σ : ST), K20 s σ → PF st1 (K20 s) (r_X11_chosen x1 x2 σ)) (h_r_X11_match : ∀ (x1 : Int32) (x2 : Int32) (σ : ST), K20 s σ → PF st1 (K20 s) (r_X11_match x1 x2 σ))  (h : K20 s σ) : PF st1 (K20 s) (f_X11_match_135 r_X11_chosen r_X11_match x1 x2 x3 x4 σ) := by
  unfold f_X11_match_135
  exact (PF.ite (fun _ => (PF.ite (fun _ => (PF.ite (fun _ => (PF.ite (fun _ => (PF.ite (fun _ => (PF.ite (fun _ => (PF.ret1 h)) (fun _ => PF.none))) (fun _ => PF.none))) (fun _ => PF.none))) (fun _ => PF.none))) (fun _ => (w20_X11_match_170 h_r_X11_chosen h_r_X11_match h)))) (fun _ => (w20_X11_match_170 h_r_X11_chosen h_r_X11_match h)))
theorem w20_X11_match {s : ST} {r_X11_chosen : Int32 → Int32 → ST → Option (Int32 × ST)} {r_X11_match : Int32 → Int32 → ST → Option (Int32 × ST)} {p0 : Int32} {p1 : Int32} {σ : ST} (h_r_X11_chosen : ∀ (x1 : Int32) (x2 : Int32) (σ : ST), K20 s σ → PF st1 (K20 s) (r_X11_chosen x1 x2 σ)) (h_r_X11_match : ∀ (x1 : Int32) (x2 : Int32) (σ : ST), K20 s σ → PF st1 (K20 s) (r_X11_match x1 x2 σ))  (h : K20 s σ) : PF st1 (K20 s) (f_X11_match r_X11_chosen r_X11_match p0 p1 σ) := by
  unfold f_X11_match
  exact (PF.ite (fun _ => (PF.ite (fun _ => (w20_X11_match_16 h_r_X11_chosen h_r_X11_match _ _ _ _ _ _ h)) (fun _ => (PF.ite (fun _ => (PF.ite (fun _ => (PF.bnd (h_r_X11_chosen _ _ _ h) (fun q5 hq5 => (PF.ite (fun _ => (PF.ret1 hq5)) (fun _ => (PF.ret1 hq5)))))) (fun _ => (PF.ite (fun _ => (PF.ite (fun _ => (PF.bnd (h_r_X11_match _ _ _ h) (fun q3 hq3 => (PF.ite (fun _ => (PF.ret1 hq3)) (fun _ => PF.none))))) (fun _ => (w20_X11_match_135 h_r_X11_chosen h_r_X11_match h)))) (fun _ => (w20_X11_match_135 h_r_X11_chosen h_r_X11_match h)))))) (fun _ => PF.none))))) (fun _ => PF.none))
theorem w20R_X11_chosen {s : ST} : ∀ n : Nat, (∀ (p0 : Int32) (p1 : Int32) (σ : ST), K20 s σ → PF st1 (K20 s) ((R_X11_chosen n).1 p0 p1 σ)) ∧ (∀ (p0 : Int32) (p1 : Int32) (σ : ST), K20 s σ → PF st1 (K20 s) ((R_X11_chosen n).2 p0 p1 σ)) := by
  intro n
  induction n with
  | zero => exact ⟨fun _ _ _ _ => PF.none, fun _ _ _ _ => PF.none⟩
  | succ n ih => exact ⟨fun _ _ _ h => w20_X11_chosen (ih.1) (ih.2)  h, fun _ _ _ h => w20_X11_match (ih.1) (ih.2)  h⟩
theorem w20_T_X11_match {s : ST} {p0 : Int32} {p1 : Int32} {σ : ST} (h : K20 s σ) : PF st1 (K20 s) (f_T_X11_match p0 p1 σ) := (w20R_X11_chosen FRB).2 _ _ _  h
theorem w20_X11_enters {s : ST} {p0 : Int32} {σ : ST}   (h : K20 s σ) : PF st0 (K20 s) (f_X11_enters p0 σ) := by
  unfold f_X11_enters
  exact (PF.ite (fun _ => (PF.bnd (PF.ret0 (K20.i (by omega) (K20.i (by omega) h))) (fun z2 hz2 => (PF.ret0 hz2)))) (fun _ => PF.none))
theorem w20_X11_looksAt_69 {s : ST} {r_X11_looksAt : Int32 → Int32 → ST → Option (ST)} {r_X11_looksAtRecords : Int32 → Int32 → ST → Option (ST)} {k13 : Int32 → Int32 → Int32 → ST → Option (ST)} {x1 : Int32} {x2 : Int32} {x3 : Int32} {σ : ST} (h_r_X11_looksAt : ∀ (x1 : Int32) (x2 : Int32) (σ : ST), K20 s σ → PF st0 (K20 s) (r_X11_looksAt x1 x2 σ)) (h_r_X11_looksAtRecords : ∀ (x1 : Int32) (x2 : Int32) (σ : ST), K20 s σ → PF st0 (K20 s) (r_X11_looksAtRecords x1 x2 σ)) (h_k13 : ∀ (x1 : Int32) (x2 : Int32) (x3 : Int32) (σ : ST), K20 s σ → PF st0 (K20 s) (k13 x1 x2 x3 σ))  (h : K20 s σ) : PF st0 (K20 s) (f_X11_looksAt_69 r_X11_looksAt r_X11_looksAtRecords k13 x1 x2 x3 σ) := by
  unfold f_X11_looksAt_69
  exact (h_k13 _ _ _ _ (K20.i (by omega) h))
theorem w20_X11_looksAt_13 {s : ST} {r_X11_looksAt : Int32 → Int32 → ST → Option (ST)} {r_X11_looksAtRecords : Int32 → Int32 → ST → Option (ST)} (h_r_X11_looksAt : ∀ (x1 : Int32) (x2 : Int32) (σ : ST), K20 s σ → PF st0 (K20 s) (r_X11_looksAt x1 x2 σ)) (h_r_X11_looksAtRecords : ∀ (x1 : Int32) (x2 : Int32) (σ : ST), K20 s σ → PF st0 (K20 s) (r_X11_looksAtRecords x1 x2 σ))  : ∀ (n : Nat) (x1 : Int32) (x2 : Int32) (x3 : Int32) (σ : ST), K20 s σ → PF st0 (K20 s) (f_X11_looksAt_13 r_X11_looksAt r_X11_looksAtRecords n x1 x2 x3 σ) := by
  intro n
  induction n with
  | zero => intro x1 x2 x3 σ h; rw [f_X11_looksAt_13]; exact PF.none
  | succ n ih =>
    intro x1 x2 x3 σ h
    rw [f_X11_looksAt_13]
    exact (PF.ite (fun _ => (PF.ite (fun _ => (PF.ret0 h)) (fun _ => (PF.bnd (w20_X11_enters  h) (fun q2 hq2 => (PF.ite (fun _ => (PF.bnd (w20_T_X11_match hq2) (fun q5 hq5 => (PF.ite (fun _ => (PF.bnd (w20_X11_misses  hq5) (fun q7 hq7 => (w20_X11_looksAt_69 h_r_X11_looksAt h_r_X11_looksAtRecords ih hq7)))) (fun _ => (PF.bnd (h_r_X11_looksAt _ _ _ hq5) (fun q9 hq9 => (w20_X11_looksAt_69 h_r_X11_looksAt h_r_X11_looksAtRecords ih hq9)))))))) (fun _ => PF.none))))))) (fun _ => PF.none))
theorem w20_T_X11_chosen {s : ST} {p0 : Int32} {p1 : Int32} {σ : ST} (h : K20 s σ) : PF st1 (K20 s) (f_T_X11_chosen p0 p1 σ) := (w20R_X11_chosen FRB).1 _ _ _  h
theorem w20_X11_looksAt_253 {s : ST} {r_X11_looksAt : Int32 → Int32 → ST → Option (ST)} {r_X11_looksAtRecords : Int32 → Int32 → ST → Option (ST)} {x1 : Int32} {x2 : Int32} {σ : ST} (h_r_X11_looksAt : ∀ (x1 : Int32) (x2 : Int32) (σ : ST), K20 s σ → PF st0 (K20 s) (r_X11_looksAt x1 x2 σ)) (h_r_X11_looksAtRecords : ∀ (x1 : Int32) (x2 : Int32) (σ : ST), K20 s σ → PF st0 (K20 s) (r_X11_looksAtRecords x1 x2 σ))  (h : K20 s σ) : PF st0 (K20 s) (f_X11_looksAt_253 r_X11_looksAt r_X11_looksAtRecords x1 x2 σ) := by
  unfold f_X11_looksAt_253
  exact (PF.bnd (w20_T_X11_match h) (fun q1 hq1 => (PF.ite (fun _ => (PF.bnd (w20_X11_misses  hq1) (fun q3 hq3 => (PF.ret0 hq3)))) (fun _ => (PF.ret0 hq1)))))
theorem w20_X11_looksAt_196 {s : ST} {r_X11_looksAt : Int32 → Int32 → ST → Option (ST)} {r_X11_looksAtRecords : Int32 → Int32 → ST → Option (ST)} {x1 : Int32} {x2 : Int32} {σ : ST} (h_r_X11_looksAt : ∀ (x1 : Int32) (x2 : Int32) (σ : ST), K20 s σ → PF st0 (K20 s) (r_X11_looksAt x1 x2 σ)) (h_r_X11_looksAtRecords : ∀ (x1 : Int32) (x2 : Int32) (σ : ST), K20 s σ → PF st0 (K20 s) (r_X11_looksAtRecords x1 x2 σ))  (h : K20 s σ) : PF st0 (K20 s) (f_X11_looksAt_196 r_X11_looksAt r_X11_looksAtRecords x1 x2 σ) := by
  unfold f_X11_looksAt_196
  exact (PF.ite (fun _ => (PF.ite (fun _ => (PF.ite (fun _ => (PF.ite (fun _ => (PF.bnd (w20_X11_enters  h) (fun q3 hq3 => (PF.bnd (h_r_X11_looksAt _ _ _ hq3) (fun q5 hq5 => (PF.ret0 (K20.i (by omega) hq5))))))) (fun _ => (w20_X11_looksAt_253 h_r_X11_looksAt h_r_X11_looksAtRecords h)))) (fun _ => PF.none))) (fun _ => (w20_X11_looksAt_253 h_r_X11_looksAt h_r_X11_looksAtRecords h)))) (fun _ => PF.none))
theorem w20_X11_looksAt {s : ST} {r_X11_looksAt : Int32 → Int32 → ST → Option (ST)} {r_X11_looksAtRecords : Int32 → Int32 → ST → Option (ST)} {p0 : Int32} {p1 : Int32} {σ : ST} (h_r_X11_looksAt : ∀ (x1 : Int32) (x2 : Int32) (σ : ST), K20 s σ → PF st0 (K20 s) (r_X11_looksAt x1 x2 σ)) (h_r_X11_looksAtRecords : ∀ (x1 : Int32) (x2 : Int32) (σ : ST), K20 s σ → PF st0 (K20 s) (r_X11_looksAtRecords x1 x2 σ))  (h : K20 s σ) : PF st0 (K20 s) (f_X11_looksAt r_X11_looksAt r_X11_looksAtRecords p0 p1 σ) := by
  unfold f_X11_looksAt
  exact (PF.ite (fun _ => (PF.ite (fun _ => (w20_X11_looksAt_13 h_r_X11_looksAt h_r_X11_looksAtRecords _ _ _ _ _ h)) (fun _ => (PF.ite (fun _ => (PF.ite (fun _ => (PF.bnd (w20_T_X11_chosen h) (fun q7 hq7 => (PF.ite (fun _ => (PF.ite (fun _ => (PF.bnd (h_r_X11_looksAt _ _ _ hq7) (fun q10 hq10 => (PF.ret0 hq10)))) (fun _ => PF.none))) (fun _ => (PF.bnd (w20_X11_misses  hq7) (fun q12 hq12 => (PF.ret0 hq12)))))))) (fun _ => (PF.ite (fun _ => (PF.ite (fun _ => (PF.bnd (w20_X11_namesMay  h) (fun q3 hq3 => (PF.ite (fun _ => (w20_X11_looksAt_196 h_r_X11_looksAt h_r_X11_looksAtRecords hq3)) (fun _ => (PF.bnd (h_r_X11_looksAtRecords _ _ _ hq3) (fun q5 hq5 => (PF.ret0 hq5)))))))) (fun _ => (w20_X11_looksAt_196 h_r_X11_looksAt h_r_X11_looksAtRecords h)))) (fun _ => (w20_X11_looksAt_196 h_r_X11_looksAt h_r_X11_looksAtRecords h)))))) (fun _ => PF.none))))) (fun _ => PF.none))
theorem w20_X11_looksAtRecords_116 {s : ST} {r_X11_looksAt : Int32 → Int32 → ST → Option (ST)} {r_X11_looksAtRecords : Int32 → Int32 → ST → Option (ST)} {k40 : Int32 → Int32 → Int32 → ST → Option (ST)} {x1 : Int32} {x3 : Int32} {x4 : Int32} {σ : ST} (h_r_X11_looksAt : ∀ (x1 : Int32) (x2 : Int32) (σ : ST), K20 s σ → PF st0 (K20 s) (r_X11_looksAt x1 x2 σ)) (h_r_X11_looksAtRecords : ∀ (x1 : Int32) (x2 : Int32) (σ : ST), K20 s σ → PF st0 (K20 s) (r_X11_looksAtRecords x1 x2 σ)) (h_k40 : ∀ (x1 : Int32) (x2 : Int32) (x3 : Int32) (σ : ST), K20 s σ → PF st0 (K20 s) (k40 x1 x2 x3 σ))  (h : K20 s σ) : PF st0 (K20 s) (f_X11_looksAtRecords_116 r_X11_looksAt r_X11_looksAtRecords k40 x1 x3 x4 σ) := by
  unfold f_X11_looksAtRecords_116
  exact (h_k40 _ _ _ _ (K20.i (by omega) h))
theorem w20_X11_looksAtRecords_40 {s : ST} {r_X11_looksAt : Int32 → Int32 → ST → Option (ST)} {r_X11_looksAtRecords : Int32 → Int32 → ST → Option (ST)} (h_r_X11_looksAt : ∀ (x1 : Int32) (x2 : Int32) (σ : ST), K20 s σ → PF st0 (K20 s) (r_X11_looksAt x1 x2 σ)) (h_r_X11_looksAtRecords : ∀ (x1 : Int32) (x2 : Int32) (σ : ST), K20 s σ → PF st0 (K20 s) (r_X11_looksAtRecords x1 x2 σ))  : ∀ (n : Nat) (x1 : Int32) (x2 : Int32) (x3 : Int32) (σ : ST), K20 s σ → PF st0 (K20 s) (f_X11_looksAtRecords_40 r_X11_looksAt r_X11_looksAtRecords n x1 x2 x3 σ) := by
  intro n
  induction n with
  | zero => intro x1 x2 x3 σ h; rw [f_X11_looksAtRecords_40]; exact PF.none
  | succ n ih =>
    intro x1 x2 x3 σ h
    rw [f_X11_looksAtRecords_40]
    exact (PF.ite (fun _ => (PF.ite (fun _ => (PF.ret0 h)) (fun _ => (PF.bnd (w20_X11_fieldFor  h) (fun q2 hq2 => (PF.bnd (w20_X11_enters  hq2) (fun q4 hq4 => (PF.ite (fun _ => (PF.ite (fun _ => (PF.ite (fun _ => (PF.bnd (w20_X11_misses  hq4) (fun q7 hq7 => (w20_X11_looksAtRecords_116 h_r_X11_looksAt h_r_X11_looksAtRecords ih hq7)))) (fun _ => (w20_X11_looksAtRecords_116 h_r_X11_looksAt h_r_X11_looksAtRecords ih hq4)))) (fun _ => PF.none))) (fun _ => (PF.ite (fun _ => (PF.ite (fun _ => (PF.bnd (h_r_X11_looksAt _ _ _ hq4) (fun q11 hq11 => (w20_X11_looksAtRecords_116 h_r_X11_looksAt h_r_X11_looksAtRecords ih hq11)))) (fun _ => PF.none))) (fun _ => PF.none))))))))))) (fun _ => PF.none))
theorem w20_X11_looksAtRecords {s : ST} {r_X11_looksAt : Int32 → Int32 → ST → Option (ST)} {r_X11_looksAtRecords : Int32 → Int32 → ST → Option (ST)} {p0 : Int32} {p1 : Int32} {σ : ST} (h_r_X11_looksAt : ∀ (x1 : Int32) (x2 : Int32) (σ : ST), K20 s σ → PF st0 (K20 s) (r_X11_looksAt x1 x2 σ)) (h_r_X11_looksAtRecords : ∀ (x1 : Int32) (x2 : Int32) (σ : ST), K20 s σ → PF st0 (K20 s) (r_X11_looksAtRecords x1 x2 σ))  (h : K20 s σ) : PF st0 (K20 s) (f_X11_looksAtRecords r_X11_looksAt r_X11_looksAtRecords p0 p1 σ) := by
  unfold f_X11_looksAtRecords
  exact (PF.ite (fun _ => (PF.ite (fun _ => (PF.val (w20_X11_looksAtRecords_40 h_r_X11_looksAt h_r_X11_looksAtRecords _ _ _ _ _ (K20.i (by omega) h)))) (fun _ => (PF.ret0 h)))) (fun _ => PF.none))
theorem w20R_X11_looksAt {s : ST} : ∀ n : Nat, (∀ (p0 : Int32) (p1 : Int32) (σ : ST), K20 s σ → PF st0 (K20 s) ((R_X11_looksAt n).1 p0 p1 σ)) ∧ (∀ (p0 : Int32) (p1 : Int32) (σ : ST), K20 s σ → PF st0 (K20 s) ((R_X11_looksAt n).2 p0 p1 σ)) := by
  intro n
  induction n with
  | zero => exact ⟨fun _ _ _ _ => PF.none, fun _ _ _ _ => PF.none⟩
  | succ n ih => exact ⟨fun _ _ _ h => w20_X11_looksAt (ih.1) (ih.2)  h, fun _ _ _ h => w20_X11_looksAtRecords (ih.1) (ih.2)  h⟩
theorem w20_T_X11_looksAtRecords {s : ST} {p0 : Int32} {p1 : Int32} {σ : ST} (h : K20 s σ) : PF st0 (K20 s) (f_T_X11_looksAtRecords p0 p1 σ) := (w20R_X11_looksAt FRB).2 _ _ _  h
/-! both walks: one step in, one out, one miss -/
def KWK (σ s : ST) : Prop := (∀ c, c ∉ [41, 44, 45, 46, 47] → s.1 c = σ.1 c) ∧ (∀ i, i ∉ [6, 11] → s.1 41 i = σ.1 41 i) ∧ s.2.2 = σ.2.2 ∧ (∀ c, c ≠ 41 → s.2.1 c = σ.2.1 c) ∧ ∀ i, i ≠ 12 → s.2.1 41 i = σ.2.1 41 i
theorem KWK.rf {σ : ST} : KWK σ σ := ⟨fun _ _ => rfl, fun _ _ => rfl, rfl, fun _ _ => rfl, fun _ _ => rfl⟩
theorem KWK.trans {a b c : ST} (h : KWK a b) (k : KWK b c) : KWK a c := ⟨fun d hd => (k.1 d hd).trans (h.1 d hd), fun i hi => (k.2.1 i hi).trans (h.2.1 i hi), k.2.2.1.trans h.2.2.1, fun d hd => (k.2.2.2.1 d hd).trans (h.2.2.2.1 d hd), fun i hi => (k.2.2.2.2 i hi).trans (h.2.2.2.2 i hi)⟩
theorem KWK.i {σ s : ST} {c i : Nat} {v : Int32} (h : KWK σ s) (hc : c = 44 ∨ c = 45 ∨ c = 46 ∨ c = 47 ∨ c = 41 ∧ (i = 6 ∨ i = 11)) : KWK σ (stI s c i v) := by
  refine h.trans ⟨fun d hd => stI_ne (fun e => hd ?_), fun j hj => ?_, rfl, fun _ _ => rfl, fun _ _ => rfl⟩
  · simp only [List.mem_cons, List.not_mem_nil, or_false]
    omega
  · by_cases e : c = 41
    · subst e
      show upd (s.1 41) i v j = _
      refine upd_no (fun e2 => hj ?_)
      simp only [List.mem_cons, List.not_mem_nil, or_false]
      omega
    · rw [stI_ne (fun e2 => e e2.symm)]
theorem KWK.f {σ s : ST} {f : Nat → Int32} (h : KWK σ s) : KWK σ (stF s 46 f) := by
  refine h.trans ⟨fun d hd => ?_, fun j _ => rfl, rfl, fun _ _ => rfl, fun _ _ => rfl⟩
  rw [stF_ne5 (fun e => hd (by rw [e]; decide))]
theorem KWK.l {σ s : ST} {v : Int64} (h : KWK σ s) : KWK σ (stL s 41 12 v) := by
  refine h.trans ⟨fun _ _ => rfl, fun _ _ => rfl, rfl, fun c hc => stL_ne hc, fun i hi => ?_⟩
  show vp_updL (s.2.1 41) 12 v i = _
  rw [updL_no hi]
theorem KWK.kta {σ s : ST} (h : KWK σ s) : KTA σ s := fun c h1 h2 => ⟨h.1 c (fun e => by
  simp only [List.mem_cons, List.not_mem_nil, or_false] at e
  omega), h.2.2.2.1 c (by omega)⟩
/-- the misses told so far are the same -/
def LMX (σ τ : ST) : Prop := (σ.1 41 6).toInt = (τ.1 0 61).toInt ∧ (0 ≤ (τ.1 0 61).toInt ∧ (τ.1 0 61).toInt ≤ 20) ∧ ∀ i : Nat, (i : Int) < (τ.1 0 61).toInt → σ.1 44 i = τ.1 37 i ∧ σ.1 45 i = τ.1 38 i ∧ (0 ≤ (τ.1 38 i).toInt ∧ (τ.1 38 i).toInt ≤ 32) ∧ ∀ k : Nat, (k : Int) < (τ.1 38 i).toInt → σ.1 46 (32 * i + k) = τ.1 39 (256 * i + k)
/-- and the way to where both are -/
def LLX (σ τ : ST) : Prop := (σ.1 41 11).toInt = (τ.1 0 57).toInt ∧ 0 ≤ (τ.1 0 57).toInt ∧ (∀ k : Nat, (k : Int) < (τ.1 0 57).toInt → σ.1 47 k = τ.1 36 k) ∧ ∀ k : Nat, k < 36 → (lbt (σ.2.1 41 12) k = true ↔ ¬ τ.1 40 k = 0)
def XW (σ τ : ST) : Prop := LMX σ τ ∧ ((τ.1 0 61).toInt < 20 → LLX σ τ)
/-- both a step further in -/
def EW (σ τ s t : ST) : Prop := KWK σ s ∧ CH LC LI τ t ∧ XW s t ∧ t.1 0 61 = τ.1 0 61 ∧ t.1 40 = τ.1 40 ∧ ((τ.1 0 61).toInt < 20 → (t.1 0 57).toInt = (τ.1 0 57).toInt + 1)
/-- both where they were -/
def PWX (σ τ s t : ST) : Prop := KWK σ s ∧ CH LC LI τ t ∧ XW s t ∧ ((t.1 0 61).toInt < 20 → (τ.1 0 61).toInt < 20 ∧ t.1 0 57 = τ.1 0 57 ∧ ∀ k, t.1 40 k = 0 → τ.1 40 k = 0)
theorem PWX.rf {σ τ : ST} (h : XW σ τ) : PWX σ τ σ τ := ⟨KWK.rf, CH.rf, h, fun h => ⟨h, rfl, fun _ h => h⟩⟩
theorem PWX.trans {σ τ a b s t : ST} (h : PWX σ τ a b) (k : PWX a b s t) : PWX σ τ s t := ⟨h.1.trans k.1, h.2.1.trans k.2.1, k.2.2.1, fun h9 => by
  obtain ⟨x1, x2, x3⟩ := k.2.2.2 h9
  obtain ⟨y1, y2, y3⟩ := h.2.2.2 x1
  exact ⟨y1, x2.trans y2, fun j hj => y3 j (x3 j hj)⟩⟩
theorem xw_step (c : Int32) {σ τ : ST} (h : XW σ τ) (hb : (τ.1 0 61).toInt < 20 → (τ.1 0 57).toInt < 32) : PT (f_X0_step c σ) (fun s => PT (f_X11_enters c τ) (fun t => EW σ τ s t)) := by
  unfold f_X0_step f_X0_step_26 f_X11_enters
  have l0 := li_0
  have l1 := li_1
  have l32 := li_32
  refine PT.sw ?_
  refine PT.grd (fun hg => ?_)
  refine PT.lt (fun z hz => ?_)
  refine PT.ret ?_
  have e57 := il_addE (x := τ.1 0 57) (y := 1) (by omega) (by omega)
  have z57 : z.1 0 57 = τ.1 0 57 + 1 := by rw [hz]; rfl
  have z61 : z.1 0 61 = τ.1 0 61 := by rw [hz]; rfl
  have z40 : z.1 40 = τ.1 40 := by rw [hz]; rfl
  have z36 : z.1 36 = upd (τ.1 36) (τ.1 0 57).toNatClampNeg c := by rw [hz]; rfl
  have zc : CH LC LI τ z := by
    rw [hz]
    exact (CH.rf.i (by decide) (by decide)).o (by decide)
  have zm : z.1 37 = τ.1 37 ∧ z.1 38 = τ.1 38 ∧ z.1 39 = τ.1 39 := by rw [hz]; exact ⟨rfl, rfl, rfl⟩
  clear hz
  have lmx : ∀ s : ST, (∀ d, d ∈ [44, 45, 46] → s.1 d = σ.1 d) → s.1 41 6 = σ.1 41 6 → LMX s z := fun s hs h6 => by
    unfold LMX
    rw [h6, z61, zm.1, zm.2.1, zm.2.2, hs 44 (by decide), hs 45 (by decide), hs 46 (by decide)]
    exact h.1
  have dead : ∀ s : ST, KWK σ s → (∀ d, d ∈ [44, 45, 46] → s.1 d = σ.1 d) → s.1 41 6 = σ.1 41 6 → ¬ (τ.1 0 61).toInt < 20 → EW σ τ s z := fun s hk hs h6 hn => ⟨hk, zc, ⟨lmx s hs h6, fun h9 => by rw [z61] at h9; exact absurd h9 hn⟩, z61, z40, fun h9 => absurd h9 hn⟩
  refine PT.ilt (fun h1 => PT.ret (dead _ (KWK.rf.i (by omega)) (fun d hd => stI_ne (fun e => by rw [e] at hd; revert hd; decide)) rfl (fun h9 => ?_))) (fun h1 => ?_)
  · have := (h.2 h9)
    have := this.1
    omega
  refine PT.ile (fun h2 => PT.ret (dead _ (KWK.rf.i (by omega)) (fun d hd => stI_ne (fun e => by rw [e] at hd; revert hd; decide)) rfl (fun h9 => ?_))) (fun h2 => ?_)
  · have := (h.2 h9).1
    have := hb h9
    omega
  refine PT.grd (fun h3 => ?_)
  refine PT.ret ?_
  by_cases hn : (τ.1 0 61).toInt < 20
  rotate_left
  · refine dead _ ((KWK.rf.i (by omega)).i (by omega)) (fun d hd => ?_) rfl hn
    have : d = 44 ∨ d = 45 ∨ d = 46 := by simpa using hd
    rw [stI_ne (by omega), stI_ne (by omega)]
  obtain ⟨a1, a0, a2, a3⟩ := h.2 hn
  have e11 := il_addE (x := σ.1 41 11) (y := 1) (by omega) (by omega)
  have e11' : (stI σ 47 (σ.1 41 11).toNatClampNeg c).1 41 11 = σ.1 41 11 := rfl
  refine ⟨(KWK.rf.i (by omega)).i (by omega), zc, ⟨lmx _ (fun d hd => ?_) rfl, fun _ => ⟨?_, by rw [z57]; omega, fun k hk => ?_, fun k hk => ?_⟩⟩, z61, z40, fun _ => by rw [z57]; exact e57⟩
  · have : d = 44 ∨ d = 45 ∨ d = 46 := by simpa using hd
    rw [stI_ne (by omega), stI_ne (by omega)]
  · rw [z57, e57]
    show ((stI σ 47 (σ.1 41 11).toNatClampNeg c).1 41 11 + 1).toInt = _
    rw [e11', e11]
    omega
  · rw [z36]
    show upd (σ.1 47) (σ.1 41 11).toNatClampNeg c k = _
    have en : (σ.1 41 11).toNatClampNeg = (τ.1 0 57).toNatClampNeg := by
      have n1 := nN_ h3.1
      have n2 := nN_ a0
      omega
    rw [en]
    by_cases e : k = (τ.1 0 57).toNatClampNeg
    · rw [e, upd_at, upd_at]
    · rw [upd_no e, upd_no e]
      have n2 := nN_ a0
      rw [z57] at hk
      exact a2 k (by omega)
  · rw [z40]
    exact a3 k hk
theorem xw_leave {σ τ a b s t : ST} (h0 : XW σ τ) (h : EW σ τ a b) (k : PWX a b s t) : PWX σ τ (stI s 41 11 (s.1 41 11 - 1)) (stI t 0 57 (t.1 0 57 - 1)) := by
  obtain ⟨e1, e2, e3, e4, e5, e6⟩ := h
  obtain ⟨k1, k2, k3, k4⟩ := k
  have l1 := li_1
  have hm : LMX (stI s 41 11 (s.1 41 11 - 1)) (stI t 0 57 (t.1 0 57 - 1)) := k3.1
  refine ⟨(e1.trans k1).i (by omega), (e2.trans k2).o (by decide), ⟨hm, fun h9 => ?_⟩, fun h9 => ?_⟩
  · have h9 : (t.1 0 61).toInt < 20 := h9
    obtain ⟨x1, x2, x3⟩ := k4 h9
    rw [e4] at x1
    obtain ⟨a1, a0, a2, a3⟩ := k3.2 h9
    have y6 := e6 x1
    have y0 := (h0.2 x1).2.1
    rw [x2] at a1 a2
    have r1 := i_rng (b.1 0 57)
    have r2 := i_rng (s.1 41 11)
    have s1 := il_subE (x := s.1 41 11) (y := 1) (by omega) (by omega)
    have s2 := il_subE (x := t.1 0 57) (y := 1) (by rw [x2]; omega) (by rw [x2]; omega)
    rw [x2] at s2
    refine ⟨?_, ?_, fun k hk => ?_, a3⟩
    · show (s.1 41 11 - 1).toInt = (t.1 0 57 - 1).toInt
      rw [x2]
      omega
    · show 0 ≤ (t.1 0 57 - 1).toInt
      rw [x2]
      omega
    · have hk : (k : Int) < (t.1 0 57 - 1).toInt := hk
      rw [x2] at hk
      exact a2 k (by omega)
  · have h9 : (t.1 0 61).toInt < 20 := h9
    obtain ⟨x1, x2, x3⟩ := k4 h9
    rw [e4] at x1
    have y6 := e6 x1
    have y0 := (h0.2 x1).2.1
    refine ⟨x1, ?_, fun j hj => ?_⟩
    · show t.1 0 57 - 1 = _
      rw [x2]
      have r1 := i_rng (b.1 0 57)
      have s2 := il_subE (x := b.1 0 57) (y := 1) (by omega) (by omega)
      exact Int32.toInt_inj.mp (by omega)
    · have := x3 j hj
      rw [e5] at this
      exact this
theorem bq_misses_35 (m N : Nat) (hm : m < 20) (hN : N ≤ 32) : ∀ (n k : Nat) (x2 : Int32) (σ : ST), x2.toInt = k → k ≤ N → (σ.1 0 61).toInt = m → (σ.1 0 57).toInt = N → PT (f_X11_misses_35 n x2 σ) (fun t => (t.1 0 61).toInt = (m : Int) + 1 ∧ CH [39] [61] σ t ∧ (∀ i, k ≤ i → i < N → t.1 39 (256 * m + i) = σ.1 36 i) ∧ ∀ i, i < 256 * m + k → t.1 39 i = σ.1 39 i) := by
  intro n
  have l1 := li_1
  induction n with
  | zero => intro k x2 σ _ _ _ _; exact PT.none
  | succ n ih =>
    intro k x2 σ h2 hk h61 h57
    rw [f_X11_misses_35]
    have e1 := il_addE (x := σ.1 0 61) (y := 1) (by omega) (by omega)
    have e2 := il_addE (x := x2) (y := 1) (by omega) (by omega)
    have e3 := mlE (k := 256) (y := σ.1 0 61) 256 li_256 (by omega) (by omega)
    have e4 := il_addE (x := 256 * σ.1 0 61) (y := x2) (by omega) (by omega)
    have n4 : (256 * σ.1 0 61 + x2).toNatClampNeg = 256 * m + k := nC (by omega)
    have nk : x2.toNatClampNeg = k := nC h2
    refine PT.ile (fun h => PT.ret ⟨?_, CH.rf.o (by decide), fun i h1 h2 => by omega, fun i hi => rfl⟩) (fun h => ?_)
    · show (σ.1 0 61 + 1).toInt = _
      omega
    refine PT.grd (fun _ => ?_)
    refine PT.grd (fun _ => ?_)
    rw [n4, nk]
    refine (ih (k + 1) (x2 + 1) (stI σ 39 (256 * m + k) (σ.1 36 k)) (by omega) (by omega) h61 h57).mono (fun t ht => ?_)
    obtain ⟨t1, t2, t3, t4⟩ := ht
    refine ⟨t1, (CH.rf.i (by decide) (by decide)).trans t2, fun i h1 h2 => ?_, fun i hi => ?_⟩
    · by_cases e : i = k
      · subst e
        rw [t4 _ (by omega)]
        show upd (σ.1 39) (256 * m + i) (σ.1 36 i) (256 * m + i) = _
        rw [upd_at]
      · exact t3 i (by omega) h2
    · rw [t4 i (by omega)]
      show upd (σ.1 39) (256 * m + k) (σ.1 36 k) i = _
      rw [upd_no (by omega)]
theorem xw_miss (c : Int32) {σ τ : ST} (h : XW σ τ) (hb : (τ.1 0 61).toInt < 20 → (τ.1 0 57).toInt ≤ 32) : PT (f_X0_addMiss c σ) (fun s => PT (f_X11_misses c τ) (fun t => PWX σ τ s t)) := by
  unfold f_X0_addMiss f_X11_misses
  have l0 := li_0
  have l1 := li_1
  have l20 := li_20
  have l32 := li_32
  obtain ⟨⟨m1, ⟨m2, m3⟩, m4⟩, hL⟩ := h
  by_cases hn : (τ.1 0 61).toInt < 20
  rotate_left
  · refine PT.ilt (fun h => by omega) (fun _ => ?_)
    refine PT.ile (fun _ => ?_) (fun h => by omega)
    refine PT.ret ?_
    refine PT.ieq (fun _ => PT.ret (PWX.rf ⟨⟨m1, ⟨m2, m3⟩, m4⟩, hL⟩)) (fun h => by omega)
  obtain ⟨a1, a0, a2, a3⟩ := hL hn
  have hb := hb hn
  refine PT.ilt (fun h => by omega) (fun _ => ?_)
  refine PT.ile (fun h => by omega) (fun _ => ?_)
  refine PT.ilt (fun h => by omega) (fun _ => ?_)
  refine PT.ile (fun _ => ?_) (fun h => by omega)
  obtain ⟨m, em⟩ : ∃ m : Nat, (τ.1 0 61).toInt = m := ⟨_, (Int.toNat_of_nonneg m2).symm⟩
  obtain ⟨N, eN⟩ : ∃ N : Nat, (τ.1 0 57).toInt = N := ⟨_, (Int.toNat_of_nonneg a0).symm⟩
  have n6 : (σ.1 41 6).toNatClampNeg = m := nC (by omega)
  have n11 : (σ.1 41 11).toNatClampNeg = N := nC (by omega)
  have n61 : (τ.1 0 61).toNatClampNeg = m := nC em
  refine PT.grd (fun _ => ?_)
  rw [n6]
  have f6 : ((stI σ 44 m c).1 41 6) = σ.1 41 6 := rfl
  have f11 : ((stI σ 44 m c).1 41 11) = σ.1 41 11 := rfl
  rw [f6, f11, n6]
  refine PT.grd (fun _ => ?_)
  refine PT.lt (fun z hz => ?_)
  have z6 : z.1 41 6 = σ.1 41 6 := by rw [hz]; rfl
  have z11 : z.1 41 11 = σ.1 41 11 := by rw [hz]; rfl
  have z44 : z.1 44 = upd (σ.1 44) m c := by rw [hz]; rfl
  have z45 : z.1 45 = upd (σ.1 45) m (σ.1 41 11) := by rw [hz]; rfl
  have z46 : z.1 46 = σ.1 46 := by rw [hz]; rfl
  have z47 : z.1 47 = σ.1 47 := by rw [hz]; rfl
  have zL : z.2.1 = σ.2.1 := by rw [hz]; rfl
  have zk : KWK σ z := by
    rw [hz]
    exact (KWK.rf.i (by omega)).i (by omega)
  clear hz
  rw [z6, z11, z46, z47, n11]
  have e32 : (σ.1 41 6 * 32).toInt = 32 * (σ.1 41 6).toInt := by
    rw [Int32.mul_comm]
    exact mlE (k := 32) (y := σ.1 41 6) 32 l32 (by omega) (by omega)
  have n32 : (σ.1 41 6 * 32).toNatClampNeg = 32 * m := nC (by omega)
  have n00 : (0 : Int32).toNatClampNeg = 0 := rfl
  rw [n32, n00]
  refine PT.grd (fun _ => ?_)
  refine PT.lt (fun y hy => ?_)
  have y6 : y.1 41 6 = σ.1 41 6 := by rw [hy]; exact z6
  have y11 : y.1 41 11 = σ.1 41 11 := by rw [hy]; exact z11
  have y44 : y.1 44 = upd (σ.1 44) m c := by rw [hy]; exact z44
  have y45 : y.1 45 = upd (σ.1 45) m (σ.1 41 11) := by rw [hy]; exact z45
  have y46 : y.1 46 = va_cpy (σ.1 47) (σ.1 46) 0 (32 * m) N := by rw [hy]; rfl
  have y47 : y.1 47 = σ.1 47 := by rw [hy]; exact z47
  have yL : y.2.1 = σ.2.1 := by rw [hy]; exact zL
  have yk : KWK σ y := by
    rw [hy]
    exact zk.f
  clear hy z6 z11 z44 z45 z46 z47 zL zk
  refine PT.ret ?_
  refine PT.ieq (fun h => by omega) (fun _ => ?_)
  refine PT.grd (fun _ => ?_)
  rw [n61]
  have g61 : ((stI τ 37 m c).1 0 61) = τ.1 0 61 := rfl
  have g57 : ((stI τ 37 m c).1 0 57) = τ.1 0 57 := rfl
  rw [g61, g57, n61]
  refine PT.grd (fun _ => ?_)
  refine PT.lt (fun w hw => ?_)
  have w61 : w.1 0 61 = τ.1 0 61 := by rw [hw]; rfl
  have w57 : w.1 0 57 = τ.1 0 57 := by rw [hw]; rfl
  have w37 : w.1 37 = upd (τ.1 37) m c := by rw [hw]; rfl
  have w38 : w.1 38 = upd (τ.1 38) m (τ.1 0 57) := by rw [hw]; rfl
  have w39 : w.1 39 = τ.1 39 := by rw [hw]; rfl
  have w36 : w.1 36 = τ.1 36 := by rw [hw]; rfl
  have w40 : w.1 40 = τ.1 40 := by rw [hw]; rfl
  have wc : CH LC LI τ w := by rw [hw]; exact (CH.rf.i (by decide) (by decide)).i (by decide) (by decide)
  clear hw
  refine (bq_misses_35 m N (by omega) (by omega) FU 0 0 w l0 (by omega) (by rw [w61]; exact em) (by rw [w57]; exact eN)).mono (fun t ht => ?_)
  obtain ⟨t1, t2, t3, t4⟩ := ht
  have t57 : t.1 0 57 = τ.1 0 57 := by rw [t2.2.1 57 (by decide), w57]
  have t37 := t2.1 37 (by decide) (by decide)
  have t38 := t2.1 38 (by decide) (by decide)
  have t36 := t2.1 36 (by decide) (by decide)
  have t40 := t2.1 40 (by decide) (by decide)
  rw [w37] at t37
  rw [w38] at t38
  rw [w36] at t36 t3
  rw [w40] at t40
  rw [w39] at t4
  have e6 := il_addE (x := σ.1 41 6) (y := 1) (by omega) (by omega)
  refine ⟨yk.i (by omega), wc.trans (t2.mono (by decide) (by decide)), ⟨⟨?_, by omega, fun i hi => ?_⟩, fun h9 => ⟨?_, by rw [t57]; exact a0, fun k hk => ?_, fun k hk => ?_⟩⟩, fun h9 => ⟨hn, t57, fun k hk => by rw [← t40]; exact hk⟩⟩
  · show (y.1 41 6 + 1).toInt = _
    rw [y6]
    omega
  · show y.1 44 i = t.1 37 i ∧ y.1 45 i = t.1 38 i ∧ _ ∧ ∀ k : Nat, _ → y.1 46 (32 * i + k) = t.1 39 (256 * i + k)
    rw [y44, y45, y46, t37, t38]
    by_cases e : i = m
    · subst e
      rw [upd_at, upd_at, upd_at, upd_at]
      refine ⟨rfl, Int32.toInt_inj.mp a1, ⟨a0, hb⟩, fun k hk => ?_⟩
      rw [t3 k (by omega) (by omega), ← a2 k hk]
      unfold va_cpy
      have ek : 0 + (32 * i + k - 32 * i) = k := by omega
      rw [if_pos ⟨by omega, by omega⟩, ek]
    · rw [upd_no e, upd_no e, upd_no e, upd_no e]
      obtain ⟨b1, b2, b3, b4⟩ := m4 i (by omega)
      refine ⟨b1, b2, b3, fun k hk => ?_⟩
      rw [t4 _ (by omega), ← b4 k hk]
      unfold va_cpy
      rw [if_neg (by omega)]
  · show (y.1 41 11).toInt = _
    rw [y11, t57]
    exact a1
  · show y.1 47 k = _
    rw [y47, t36]
    rw [t57] at hk
    exact a2 k hk
  · show lbt (y.2.1 41 12) k = true ↔ _
    rw [yL, t40]
    exact a3 k hk
