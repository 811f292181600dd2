/-! reading: what stays all the while -/
theorem KRA.kta {b t : Nat} {S σ : ST} (h : KRA b t S σ) : KTA S σ := fun d h1 h2 => by
  have hb := h.1
  unfold BT at hb
  exact ⟨h.2.1 d (by omega) (by omega), h.2.2.2.1 d (by omega)⟩
theorem KRB.ch {T τ : ST} (h : KRB T τ) : CH [20, 23, 24, 25, 26, 27, 28, 29, 30, 36, 41] [46, 57, 64, 66, 67, 68, 72] T τ := by
  refine ⟨fun c h0 hc => ?_, fun i hi => ?_, h.2.2 9 (by omega) (by omega) (by omega), h.2.2 12 (by omega) (by omega) (by omega), h.2.2 14 (by omega) (by omega) (by omega), h.2.2 17 (by omega) (by omega) (by omega), h.2.2 18 (by omega) (by omega) (by omega)⟩
  · simp only [List.mem_cons, List.not_mem_nil, or_false, not_or] at hc
    exact h.1 c h0 (by omega) (by omega) (by omega) (by omega)
  · simp only [List.mem_cons, List.not_mem_nil, or_false, not_or] at hi
    exact h.2.1 i (by omega) (by omega) (by omega) (by omega) (by omega) (by omega) (by omega)
theorem KRB.kr {T τ : ST} (h : KRB T τ) : KR T τ := h.ch.kr (by decide)
/-- two plans of which the pairs of records that match are laid, both sides -/
def RST (p q : Nat) (S T : ST) : Prop := PQ p q S T ∧ (∀ k, k < 36 → (T.1 35 k = 0 ↔ lbt (S.2.1 41 4) k = false)) ∧ PPX T
theorem RST.at {p q b t : Nat} {S T σ τ : ST} (h : RST p q S T) (kA : KRA b t S σ) (kB : KRB T τ) : PQ p q σ τ ∧ ∀ k, k < 36 → (τ.1 35 k = 0 ↔ lbt (σ.2.1 41 4) k = false) := by
  obtain ⟨⟨a1, ⟨a2, a3⟩, ⟨a4, a5⟩, a6⟩, h2, _⟩ := h
  have hb := kA.1
  unfold BT at hb
  refine ⟨⟨a1, ⟨?_, ?_⟩, ⟨a4.keep a1.1 kA.kta kB.kr, a5.keep a1.2 kA.kta kB.kr⟩, a6.ch kB.ch (by decide) (by decide)⟩, fun k hk => ?_⟩
  · rw [kB.2.1 53 (by omega) (by omega) (by omega) (by omega) (by omega) (by omega) (by omega)]
    exact a2
  · rw [kB.2.1 54 (by omega) (by omega) (by omega) (by omega) (by omega) (by omega) (by omega)]
    exact a3
  · rw [kB.1 35 (by omega) (by omega) (by omega) (by omega) (by omega), kA.2.2.2.1 41 (by omega)]
    exact h2 k hk
theorem KRB.ty {T τ : ST} (h : KRB T τ) : τ.1 2 = T.1 2 ∧ τ.1 3 = T.1 3 ∧ τ.1 4 = T.1 4 ∧ τ.1 5 = T.1 5 ∧ τ.1 35 = T.1 35 := ⟨h.1 2 (by omega) (by omega) (by omega) (by omega) (by omega), h.1 3 (by omega) (by omega) (by omega) (by omega) (by omega), h.1 4 (by omega) (by omega) (by omega) (by omega) (by omega), h.1 5 (by omega) (by omega) (by omega) (by omega) (by omega), h.1 35 (by omega) (by omega) (by omega) (by omega) (by omega)⟩
theorem KRB.fl {T τ : ST} (h : KRB T τ) : τ.1 8 = T.1 8 ∧ τ.1 11 = T.1 11 ∧ τ.1 15 = T.1 15 ∧ τ.1 16 = T.1 16 ∧ τ.1 19 = T.1 19 := ⟨h.1 8 (by omega) (by omega) (by omega) (by omega) (by omega), h.1 11 (by omega) (by omega) (by omega) (by omega) (by omega), h.1 15 (by omega) (by omega) (by omega) (by omega) (by omega), h.1 16 (by omega) (by omega) (by omega) (by omega) (by omega), h.1 19 (by omega) (by omega) (by omega) (by omega) (by omega)⟩
theorem TY.at {p d : Nat} {rm : Int} {S T σ τ : ST} {x u : Int32} (h : TY p rm S T d x u) (k : KTA S σ) (kB : KRB T τ) : TY p rm σ τ d x u := by
  obtain ⟨e2, e3, e4, e5, _⟩ := kB.ty
  unfold TY
  rw [(k 4 (by omega) (by omega)).1, (k 15 (by omega) (by omega)).1, (k 16 (by omega) (by omega)).1, (k 17 (by omega) (by omega)).1, e2, e3, e4, e5]
  exact h
theorem TG.rA {p : Nat} {rm : Int} {S T σ : ST} {d : Nat} {x y : Int32} (h : TG p rm S T d x y) (hn : (S.1 4 1).toInt ≤ 262) (k : KTA S σ) : f_X5_sortOf 4 x σ = some (T.1 2 y.toNatClampNeg, σ) ∧ f_X5_innerOf 4 x σ = some (S.1 16 x.toNatClampNeg, σ) := by
  have k4 := (k 4 (by omega) (by omega)).1
  have k15 := (k 15 (by omega) (by omega)).1
  have k16 := (k 16 (by omega) (by omega)).1
  have hb : 0 ≤ x.toInt ∧ x.toInt < (σ.1 4 1).toInt := by rw [k4]; exact h.1.1
  have hn' : (σ.1 4 1).toInt ≤ 262 := by rw [k4]; exact hn
  refine ⟨?_, ?_⟩
  · rw [a4_sortOf x σ hb hn', k15, h.2.1]
  · rw [a4_innerOf x σ hb hn', k16]
/-- a branch by its number -/
theorem a4_branchOf_23 {σ : ST} (hn : (σ.1 4 1).toInt ≤ 262) (x0 kk : Int32) {k : Nat} (hk : kk.toInt = k) (hk4 : k < 4) (hv : ∀ j : Nat, j < k → 0 ≤ (chn (σ.1 17) x0 j).toInt ∧ (chn (σ.1 17) x0 j).toInt < (σ.1 4 1).toInt) : ∀ (f j : Nat) (x4 : Int32), x4.toInt = j → j ≤ k → k < f + j → f_X5_branchOf_23 4 f kk (chn (σ.1 17) x0 j) x4 σ = some (chn (σ.1 17) x0 k, σ) := by
  intro f
  have l1 := li_1
  have l4 := li_4
  induction f with
  | zero => intro j x4 h1 h2 h3; omega
  | succ f ih =>
    intro j x4 h1 h2 h3
    rw [f_X5_branchOf_23]
    by_cases e : j = k
    · subst e
      rw [if_pos (by rw [Int32.le_iff_toInt_le]; omega)]
    · have r := hv j (by omega)
      have ex := il_addE (x := x4) (y := 1) (by omega) (by omega)
      rw [if_neg (by rw [Int32.le_iff_toInt_le]; omega), if_neg (by rw [Int32.le_iff_toInt_le]; omega), a4_branchAfter _ σ r hn, sbnd]
      exact ih (j + 1) (x4 + 1) (by omega) (by omega) (by omega)
theorem a4_branchOf {p d : Nat} {rm : Int} {σ τ : ST} {x y : Int32} (hn : (σ.1 4 1).toInt ≤ 262) (h : TY p rm σ τ (d + 1) x y) (h8 : (τ.1 2 y.toNatClampNeg).toInt = 8) (kk : Int32) {k : Nat} (hk : kk.toInt = k) (hkm : (k : Int) < (τ.1 4 y.toNatClampNeg).toInt) : f_X5_branchOf 4 x kk σ = some (chn (σ.1 17) (σ.1 16 x.toNatClampNeg) k, σ) := by
  obtain ⟨⟨h1, h2⟩, h3, h4, h5, h6, h7, h8'⟩ := h
  obtain ⟨u1, u2, u3, _⟩ := h8' h8
  have l8 := li_8
  have lu := FUi
  unfold f_X5_branchOf f_X5_branchOf_19
  rw [a4_sortOf x σ h1 hn, sbnd]
  dsimp only
  rw [h3, if_pos (Int32.toInt_inj.mp (h8.trans l8.symm)), a4_innerOf x σ h1 hn, sbnd]
  exact a4_branchOf_23 hn (σ.1 16 x.toNatClampNeg) kk hk (by omega) (fun j hj => (u2 j (by omega)).1.rng.1) FU 0 0 li_0 (by omega) (by omega)
/-- do two types match, both sides -/
theorem rx_fits {p q b t : Nat} {S T σ τ : ST} (hS : RST p q S T) (kA : KRA b t S σ) (kB : KRB T τ) (x y u v : Int32) (d e : Nat) (hx : TY p (T.1 8 p).toInt S T d x u) (hy : TY q (T.1 8 q).toInt S T e y v) (hd : d ≤ 4) (he : e ≤ 4) : OK (f_X0_fits x y σ) (RO σ fun z => OK (f_T_X11_match u v τ) (RO τ fun k => z.toInt = 0 ∧ k.toInt = 0 ∨ z.toInt = 1 ∧ k.toInt = 1 ∧ MS T u v)) := by
  obtain ⟨⟨⟨hp, hq⟩, ⟨a2, a3⟩, ⟨a4, a5⟩, a6⟩, h2⟩ := hS.at kA kB
  have cP := a4.cnt
  have cQ := a5.cnt
  obtain ⟨e2, e3, e4, e5, e35⟩ := kB.ty
  have e8 := kB.fl.1
  rw [← e8] at hx hy
  have hx' := hx.at kA.kta kB
  have hy' := hy.at kA.kta kB
  refine (ax_fits (PR := τ.1 35) cP.2.2 hp hq cP.2.1.2 cQ.2.1.2 h2 x y u v d e hx' hy' hd he).roq (fun z hz => ?_)
  refine (bT_match u v τ cP.2.1.2 cQ.2.1.2 a6.2.2 hx'.vs hy'.vs (by omega) (by omega)).roq (fun k hk => ?_)
  have hm : MS τ u v ↔ MS T u v := by
    unfold MS
    rw [e2, e3, e4, e5, e35]
  rcases hz with hz | hz <;> rcases hk with hk | hk
  · exact .inl ⟨hz.1, hk.1⟩
  · exact absurd hk.2 hz.2
  · exact absurd hz.2 hk.2
  · exact .inr ⟨hz.1, hk.1, hm.mp hk.2⟩
/-- the branch that is chosen, both sides -/
theorem rx_chosen {p q b t : Nat} {S T σ τ : ST} (hS : RST p q S T) (kA : KRA b t S σ) (kB : KRB T τ) (x y u v : Int32) (d e : Nat) (hx : TY p (T.1 8 p).toInt S T d x u) (hy : TY q (T.1 8 q).toInt S T e y v) (hu : ¬ (T.1 2 u.toNatClampNeg).toInt = 8) (h8 : (T.1 2 v.toNatClampNeg).toInt = 8) (hd : d ≤ 4) (he : e ≤ 4) (hM : MS T u v) : OK (f_X0_chosen x y σ) (RO σ fun z => OK (f_T_X11_chosen u v τ) (RO τ fun k => ∃ i : Nat, (i : Int) < (T.1 4 v.toNatClampNeg).toInt ∧ z = chn (S.1 17) (S.1 16 y.toNatClampNeg) i ∧ k.toInt = i ∧ MS T u (T.1 5 (4 * v.toNatClampNeg + i)))) := by
  obtain ⟨⟨⟨hp, hq⟩, ⟨a2, a3⟩, ⟨a4, a5⟩, a6⟩, h2⟩ := hS.at kA kB
  have cP := a4.cnt
  have cQ := a5.cnt
  obtain ⟨e2, e3, e4, e5, e35⟩ := kB.ty
  have e8 := kB.fl.1
  have k16 := (kA.kta 16 (by omega) (by omega)).1
  have k17 := (kA.kta 17 (by omega) (by omega)).1
  rw [← e8] at hx hy
  have hx' := hx.at kA.kta kB
  have hy' := hy.at kA.kta kB
  have h8' : (τ.1 2 v.toNatClampNeg).toInt = 8 := by rw [e2]; exact h8
  refine (ax_chosen (PR := τ.1 35) cP.2.2 hp hq cP.2.1.2 cQ.2.1.2 h2 x y u v d e hx' hy' h8' hd he).roq (fun z hz => ?_)
  refine (bz_chosen u v τ cP.2.1.2 cQ.2.1.2 a6.2.2 hx'.vs hy'.vs (by omega) (by omega) h8').roq (fun k hk => ?_)
  have hM' : MS τ u v := by
    unfold MS
    rw [e2, e3, e4, e5, e35]
    exact hM
  have hb := MT.iff.mp hM'
  unfold mB at hb
  obtain ⟨k0, g1, g2⟩ : ∃ k : Nat, (k : Int) < (τ.1 4 v.toNatClampNeg).toInt ∧ MS τ u (τ.1 5 (4 * v.toNatClampNeg + k)) := by
    rcases hb with ⟨h9, _⟩ | ⟨_, _, k, g1, g2⟩ | ⟨_, h9, _⟩
    · rw [e2] at h9
      exact absurd h9 hu
    · exact ⟨k, g1, g2⟩
    · exact absurd h8' h9
  rcases hz.uniq hk with h | ⟨i, i1, i2, i3, _⟩
  · exfalso
    rcases hk with ⟨_, hk⟩ | ⟨j, _, hk, _⟩
    · exact hk k0 (by omega) g2
    · have hk : k.toInt = (j : Int) := hk
      omega
  · rcases hk with ⟨hk, _⟩ | ⟨j, j1, hk, j2, _⟩
    · omega
    · have hk : k.toInt = (j : Int) := hk
      have ej : j = i := by omega
      subst ej
      refine ⟨j, by rw [← e4]; omega, ?_, i3, ?_⟩
      · rw [← k16, ← k17]
        exact Int32.toInt_inj.mp i2
      · have j2 : MS τ u (τ.1 5 (4 * v.toNatClampNeg + j)) := j2
        unfold MS at j2
        rw [e2, e3, e4, e5, e35] at j2
        exact j2
