/-! all misses of two plans, side by side -/
theorem cntZ_none {B : Nat → Prop} [DecidablePred B] {a : Nat} : ∀ b : Nat, a ≤ b → (∀ i, a ≤ i → i < b → ¬ B i) → cntZ B b = cntZ B a := by
  intro b
  induction b with
  | zero =>
    intro h _
    have e : a = 0 := by omega
    rw [e]
  | succ b ih =>
    intro h hn
    by_cases e : a = b + 1
    · rw [e]
    · show cntZ B b + (if B b then 1 else 0) = _
      rw [if_neg (hn b (by omega) (by omega)), ih (by omega) (fun i h1 h2 => hn i h1 (by omega))]
      rfl
theorem cntZ_blk {B : Nat → Prop} [DecidablePred B] {a : Nat} : ∀ b : Nat, a ≤ b → (∀ i j, a ≤ i → i < j → j < b → B i → ¬ B j) → cntZ B b ≤ cntZ B a + 1 := by
  intro b
  induction b with
  | zero =>
    intro h _
    have e : a = 0 := by omega
    rw [e]
    omega
  | succ b ih =>
    intro h hn
    by_cases e : a = b + 1
    · rw [e]
      omega
    · show cntZ B b + (if B b then 1 else 0) ≤ _
      by_cases hB : B b
      · rw [if_pos hB, cntZ_none b (by omega) (fun i h1 h2 h3 => hn i b h1 h2 (by omega) h3 hB)]
        omega
      · rw [if_neg hB]
        have := ih (by omega) (fun i j h1 h2 h3 => hn i j h1 h2 (by omega))
        omega
theorem cntZ_or {A B C : Nat → Prop} [DecidablePred A] [DecidablePred B] [DecidablePred C] (h : ∀ k, A k → B k ∨ C k) : ∀ n : Nat, cntZ A n ≤ cntZ B n + cntZ C n := by
  intro n
  induction n with
  | zero => exact Nat.le_refl _
  | succ n ih =>
    show cntZ A n + (if A n then 1 else 0) ≤ cntZ B n + (if B n then 1 else 0) + (cntZ C n + (if C n then 1 else 0))
    by_cases hA : A n
    · rw [if_pos hA]
      rcases h n hA with hB | hC
      · rw [if_pos hB]; omega
      · rw [if_pos hC]; omega
    · rw [if_neg hA]; omega
/-- the names of a plan's records differ -/
def DNB (q : Nat) (τ : ST) : Prop := ∀ i j : Nat, i < j → (j : Int) < (τ.1 8 q).toInt → ¬ τ.2.1 9 (6 * q + i) = τ.2.1 9 (6 * q + j)
abbrev CNM (τ : ST) (k : Nat) : Prop := (((k / 6 : Nat) : Int) < rmW τ ∧ ((k % 6 : Nat) : Int) < rmR τ) ∧ τ.2.1 9 (6 * (τ.1 0 53).toNatClampNeg + (Int32.ofNat (k / 6)).toNatClampNeg) = τ.2.1 9 (6 * (τ.1 0 54).toNatClampNeg + (Int32.ofNat (k % 6)).toNatClampNeg)
theorem uP_7 {p q : Nat} {σ τ : ST} (h : PQ p q σ τ) (hD : DNB q τ) : uP τ ≤ 7 := by
  have hrm := h.rm
  have n54 : (τ.1 0 54).toNatClampNeg = q := nC h.2.1.2
  have a1 : uP τ ≤ cntZ (fun k => k = 0) 36 + cntZ (CNM τ) 36 := cntZ_or (A := CAN τ) (fun k hk => by
    obtain ⟨k1, k2, k3⟩ := hk
    rcases k3 with k3 | k3
    · by_cases h36 : k < 6000
      · have i1 := ofNatI (w := k / 6) (by omega)
        have i2 := ofNatI (w := k % 6) (by omega)
        exact .inl (by omega)
      · exfalso
        have cP := h.2.2.1.1.cnt
        omega
    · exact .inr ⟨k2, k3⟩) 36
  have a2 : cntZ (fun k => k = 0) 36 ≤ 1 := by decide
  have a3 : ∀ n : Nat, n ≤ 6 → cntZ (CNM τ) (6 * n) ≤ n := by
    intro n
    induction n with
    | zero => intro _; exact Nat.le_refl _
    | succ n ih =>
      intro hn
      have b1 := ih (by omega)
      have b2 := cntZ_blk (B := CNM τ) (a := 6 * n) (6 * (n + 1)) (by omega) (fun i j h1 h2 h3 hi hj => by
        have ei : i / 6 = n := by omega
        have ej : j / 6 = n := by omega
        obtain ⟨⟨_, i2⟩, i3⟩ := hi
        obtain ⟨⟨_, j2⟩, j3⟩ := hj
        rw [ei] at i3
        rw [ej] at j3
        have ii := ofNatI (w := i % 6) (by omega)
        have ij := ofNatI (w := j % 6) (by omega)
        have ni : (Int32.ofNat (i % 6)).toNatClampNeg = i % 6 := nC ii
        have nj : (Int32.ofNat (j % 6)).toNatClampNeg = j % 6 := nC ij
        rw [ni, n54] at i3
        rw [nj, n54] at j3
        exact hD (i % 6) (j % 6) (by omega) (by omega) (i3.symm.trans j3))
      omega
  have a4 := a3 6 (by omega)
  have e36 : 6 * 6 = 36 := rfl
  rw [e36] at a4
  omega
/-- the reference turned to two plans -/
def stt (y : ST) (p0 p1 : Int32) : ST := stI (stI y 0 53 p0) 0 54 p1
theorem stt_ch {y t : ST} {p0 p1 : Int32} (c : CH [35] [53, 54] y t) (h1 : t.1 0 53 = p0) (h2 : t.1 0 54 = p1) : CH [35] [] (stt y p0 p1) t := by
  refine ⟨fun d d0 dc => ?_, fun i _ => ?_, c.2.2⟩
  · rw [c.1 d d0 dc]
    show _ = (stI (stI y 0 53 p0) 0 54 p1).1 d
    rw [stI_ne d0, stI_ne d0]
  · show _ = upd (upd (y.1 0) 53 p0) 54 p1 i
    by_cases e : i = 54
    · rw [e, upd_at, h2]
    · rw [upd_no e]
      by_cases e2 : i = 53
      · rw [e2, upd_at, h1]
      · rw [upd_no e2]
        refine c.2.1 i (fun h9 => ?_)
        simp only [List.mem_cons, List.not_mem_nil, or_false] at h9
        omega
theorem bw_18 {P : ST → Prop} : ∀ (n k : Nat) (x3 : Int32) (τ : ST), x3.toInt = k → k ≤ 36 → (∀ i, i < k → τ.1 40 i = 0) → (∀ t, CH [40] [] τ t → (∀ i, i < 36 → t.1 40 i = 0) → PT (f_T_X11_looksAtRecords 0 0 t) P) → PT (f_X11_laysMisses_18 n x3 τ) P := by
  intro n
  have l1 := li_1
  have l36 := li_36
  induction n with
  | zero => intro k x3 τ _ _ _ _; exact PT.none
  | succ n ih =>
    intro k x3 τ h3 hk hz hT
    rw [f_X11_laysMisses_18]
    have e3 := il_addE (x := x3) (y := 1) (by omega) (by omega)
    have n3 : x3.toNatClampNeg = k := nC h3
    refine PT.ile (fun _ => ?_) (fun _ => ?_)
    · exact PT.bnd (hT τ CH.rf (fun i hi => hz i (by omega))) (fun t ht => PT.ret ht)
    · refine PT.grd (fun _ => ?_)
      rw [n3]
      have ch : CH [40] [] τ (stI τ 40 k (vp_nar .boolean 0)) := CH.rf.i (by decide) (by decide)
      refine ih (k + 1) (x3 + 1) _ (by omega) (by omega) (fun i hi => ?_) (fun t ct => hT t (ch.trans ct))
      show upd (τ.1 40) k (vp_nar .boolean 0) i = 0
      by_cases e : i = k
      · rw [e, upd_at]; rfl
      · rw [upd_no e]
        exact hz i (by omega)
/-- the class's root of a plan -/
theorem ab_root {p q : Nat} {rw_ rb rf : Int32 → Int32 → Int32 → ST → Option ST} {rr : Int32 → Int32 → ST → Option ST} {σ τ : ST} (hf : cWF p q rf rr) (h : STT p q σ τ) (hn : (τ.1 0 61).toInt < 20) (hl : LVB 0 τ 1) : PT (f_X0_walk rw_ rb rf (σ.1 6 p) (σ.1 6 q) 0 σ) (fun s => PT (rr 0 0 τ) (PWX σ τ s)) := by
  have h' := h
  obtain ⟨⟨⟨hp, hq⟩, ⟨a2, a3⟩, ⟨a4, a5⟩, a6⟩, _, _⟩ := h'
  have cP := a4.cnt
  have cQ := a5.cnt
  obtain ⟨_, ⟨⟨x1, x2⟩, x3, x4⟩, _, _⟩ := a4
  obtain ⟨_, ⟨⟨y1, y2⟩, y3, y4⟩, _, _⟩ := a5
  have x1 : 0 ≤ (σ.1 6 p).toInt := x1
  have x2 : (σ.1 6 p).toInt < (σ.1 4 1).toInt := x2
  have x3 : (σ.1 15 (σ.1 6 p).toNatClampNeg).toInt = 7 := x3
  have x4 : (σ.1 16 (σ.1 6 p).toNatClampNeg).toInt = 6 * (p : Int) := x4
  have y1 : 0 ≤ (σ.1 6 q).toInt := y1
  have y2 : (σ.1 6 q).toInt < (σ.1 4 1).toInt := y2
  have y3 : (σ.1 15 (σ.1 6 q).toNatClampNeg).toInt = 7 := y3
  have y4 : (σ.1 16 (σ.1 6 q).toNatClampNeg).toInt = 6 * (q : Int) := y4
  have l0 := li_0
  have l7 := li_7
  have l8 := li_8
  have l20 := li_20
  have l40 := li_40
  have m1 := h.2.2.1.1
  unfold f_X0_walk f_X0_walk_77
  refine PT.ilt (fun h9 => by omega) (fun _ => ?_)
  refine PT.ilt (fun _ => ?_) (fun h9 => by omega)
  rw [a4_sortOf _ σ ⟨x1, x2⟩ cP.2.2, sbnd]
  dsimp only
  refine PT.ieq (fun h9 => by omega) (fun _ => ?_)
  rw [a4_sortOf _ σ ⟨y1, y2⟩ cP.2.2, sbnd]
  dsimp only
  refine PT.ieq (fun h9 => by omega) (fun _ => ?_)
  rw [a4_sortOf _ σ ⟨y1, y2⟩ cP.2.2, sbnd]
  dsimp only
  rw [a4_innerOf _ σ ⟨x1, x2⟩ cP.2.2, sbnd]
  dsimp only
  rw [a4_innerOf _ σ ⟨y1, y2⟩ cP.2.2, sbnd]
  dsimp only
  refine PT.ieq (fun _ => ?_) (fun h9 => by omega)
  refine PT.ieq (fun _ => ?_) (fun h9 => by omega)
  have hN : NYS τ 0 0 := .inl ⟨l0, l0⟩
  refine PT.bndR (ab_mayPair h.1 _ _ 0 0 0 0 (by omega) (by omega) (by omega) (by omega) (by omega) (by omega)) (fun z hz => ?_)
  dsimp only
  refine PT.ieq (fun h9 => ?_) (fun _ => ?_)
  · exfalso
    rcases hz with hz | hz
    · exact hz.2 hN
    · omega
  · exact PT.bnd (hf _ _ 0 0 0 σ τ 0 0 h hn (by omega) (by omega) l0 l0 (by omega) (by omega) hN hl) (fun s hs => PT.ret hs)
/-- all misses: what the reference lays from any state in which the plans are those -/
theorem ab_lay {p q : Nat} {σ y : ST} {p0 p1 : Int32} (h0 : p0.toInt = p) (h1 : p1.toInt = q) (hp : (p : Int) < (y.1 0 32).toInt) (hq : (q : Int) < (y.1 0 32).toInt) (hB : IB y) (hT : PHB 4 p σ y ∧ PHB 4 q σ y) (hD : DNB q y) (hG : GFX (stt y p0 p1) (RBX (σ.2.1 41 4))) (z6 : σ.1 41 6 = 0) (z11 : σ.1 41 11 = 0) (z12 : σ.2.1 41 12 = 0) : PT (f_T_X0_walk (σ.1 6 p) (σ.1 6 q) 0 σ) (fun s => PT (f_X11_laysMisses p0 p1 y) (fun t => KWK σ s ∧ LMX s t ∧ (t.1 35 0 = 0 ↔ lbt (σ.2.1 41 4) 0 = false))) := by
  have b32 := hB.1.1
  have b321 := b32.1
  have b322 := b32.2
  have lu := FUi
  have l0 := li_0
  refine PT.sw ?_
  unfold f_X11_laysMisses
  refine PT.bnd (PT.ok (bx_laysPairs p0 p1 y hB.1 hB.2.1 (by omega) (by omega))) (fun t ht => ?_)
  obtain ⟨tc, ⟨tM, tC, tG⟩, t53, t54⟩ := ht
  have hG2 : GFX t (RBX (σ.2.1 41 4)) := hG.tr (stt_ch tc t53 t54) (by decide) (by decide) (by decide)
  have hE := tG.uniq hG2
  have hRE : ∀ k, k < 36 → (t.1 35 k = 0 ↔ lbt (σ.2.1 41 4) k = false) := fun k hk => (hE k hk).trans RBX_iff
  have kr := tc.kr (by decide)
  have tP := hT.1.keep (by omega) (show KTA σ σ from KTA.rf) kr
  have tQ := hT.2.keep (by omega) (show KTA σ σ from KTA.rf) kr
  have tD : DNB q t := by
    unfold DNB
    rw [tc.1 8 (by decide) (by decide), tc.2.2.1]
    exact hD
  refine bw_18 FU 0 0 (stI (stI t 0 61 0) 0 57 0) l0 (by omega) (fun i hi => by omega) (fun u uc uz => ?_)
  have c2 : CH [35, 40] [57, 61] t u := CH.trans ((CH.rf.o (by decide)).o (by decide)) (uc.mono (by decide) (by decide))
  have u61 : u.1 0 61 = 0 := by rw [uc.2.1 61 (by decide)]; rfl
  have u57 : u.1 0 57 = 0 := by rw [uc.2.1 57 (by decide)]; rfl
  have u35 : u.1 35 = t.1 35 := by
    rw [uc.1 35 (by decide) (by decide)]
    rfl
  have c3 : CH LC LI t u := CH.trans ((CH.rf.o (by decide)).o (by decide)) (uc.mono (by decide) (by decide))
  have kr2 := c3.kr (by decide)
  have uPQ : PQ p q σ u := ⟨⟨by omega, by omega⟩, ⟨by rw [c3.2.1 53 (by decide), t53]; exact h0, by rw [c3.2.1 54 (by decide), t54]; exact h1⟩, ⟨tP.keep (by omega) KTA.rf kr2, tQ.keep (by omega) KTA.rf kr2⟩, tM.ch c3 (by decide) (by decide)⟩
  have uD : DNB q u := by
    unfold DNB
    rw [c3.1 8 (by decide) (by decide), c3.2.2.1]
    exact tD
  have uX : XW σ u := by
    refine ⟨⟨by rw [z6, u61], by rw [u61]; omega, fun i hi => by rw [u61] at hi; omega⟩, fun _ => ⟨by rw [z11, u57], by rw [u57]; omega, fun k hk => by rw [u57] at hk; omega, fun k hk => ?_⟩⟩
    rw [z12, lbt_0, uz k hk]
    simp
  have uS : STT p q σ u := ⟨uPQ, fun k hk => by rw [u35]; exact hRE k hk, uX⟩
  have u7 := uP_7 uPQ uD
  refine PT.sw ?_
  show PT (f_X0_walk (R_X0_walk 159).1 (R_X0_walk 159).2.1 (R_X0_walk 159).2.2 (σ.1 6 p) (σ.1 6 q) 0 σ) _
  refine (ab_root (wz_R 159 FRB).2.2 uS (by rw [u61]; omega) (fun _ => ⟨by rw [u57], by rw [u57]; omega⟩)).mono (fun s hs => ?_)
  refine PT.mono (P := PWX σ u s) hs (fun v hv => ⟨hv.1, hv.2.2.1.1, ?_⟩)
  rw [hv.2.1.1 35 (by decide) (by decide), u35]
  exact hRE 0 (by omega)
