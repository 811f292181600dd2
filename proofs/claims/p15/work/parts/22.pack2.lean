/-- but for the packer's own cells the same -/
def SM (ρ σ : ST) : Prop := ∀ c, c ≠ 87 → c ≠ 88 → σ.1 c = ρ.1 c
theorem PK.sm {m : Int} {ρ σ q : ST} (h : PK m σ q) (k : SM ρ σ) : SM ρ q := fun c h1 h2 => (h.2.1 c h1 h2).trans (k c h1 h2)
def wS_50 (ρ : ST) : Nat := (ρ.1 50 1).toInt.toNat
def wP_50 (ρ : ST) : Nat → Int := fun c => (ρ.1 52 c).toInt
def wC_50 (ρ : ST) : Nat → Int := fun c => (ρ.1 53 c).toInt
/-- a child: none, or a row of that parent -/
def isC_50 (ρ : ST) (r : Nat) (x : Int32) : Prop := x.toInt = -1 ∨ 0 ≤ x.toInt ∧ x.toInt < (ρ.1 50 1).toInt ∧ (ρ.1 52 x.toNatClampNeg).toInt = (r : Int)
def lft_50 (ρ : ST) (d r : Nat) (x : Int32) : Nat := if x.toInt = -1 then 0 else Rm (wS_50 ρ) (wP_50 ρ) (wC_50 ρ) d (r : Int) x.toNatClampNeg
/-- one child further on -/
theorem next_50 {ρ σ : ST} (hI : IA σ) (hm : SM ρ σ) {d r : Nat} {x : Int32} (hx : isC_50 ρ r x) (h0 : ¬ x.toInt = -1) : OK (f_X7_nextOf 50 x σ) (RO σ fun v => isC_50 ρ r v ∧ lft_50 ρ d r v + Wt (wS_50 ρ) (wP_50 ρ) d x.toNatClampNeg ≤ lft_50 ρ d r x) := by
  have e1 : σ.1 50 = ρ.1 50 := hm 50 (by decide) (by decide)
  have e2 : σ.1 (50 + 2) = ρ.1 52 := hm 52 (by decide) (by decide)
  have e3 : σ.1 (50 + 3) = ρ.1 53 := hm 53 (by decide) (by decide)
  have e9 : σ.1 (50 + 9) = ρ.1 59 := hm 59 (by decide) (by decide)
  rcases hx with hx | ⟨x1, x2, x3⟩
  · exact absurd hx h0
  refine (k_X7_nextOf_50 x σ hI).roq (fun v hv => ?_)
  have nx := nN_ x1
  have hS : x.toNatClampNeg < wS_50 ρ := by unfold wS_50; omega
  rw [e1, e9] at hv
  have hv : v.toInt = (ρ.1 59 x.toNatClampNeg).toInt := by omega
  have hv2 : ρ.1 59 x.toNatClampNeg = v := (Int32.toInt_inj.mp hv).symm
  have eL : lft_50 ρ d r x = Rm (wS_50 ρ) (wP_50 ρ) (wC_50 ρ) d (r : Int) x.toNatClampNeg := if_neg h0
  have T := ((hI.t50).2.2 x.toNatClampNeg (by rw [e1]; omega)).2.2
  rw [e1, e2, e3, e9] at T
  dsimp only at T
  rw [hv2] at T
  rcases T with T | ⟨t1, t2, t3, t4⟩
  · refine ⟨.inl T, ?_⟩
    have e0 : lft_50 ρ d r v = 0 := if_pos T
    rw [e0, eL, Nat.zero_add]
    exact Rm_last hS x3
  · have t1 : 0 ≤ v.toInt := t1
    have nv := nN_ t1
    have t3 : (ρ.1 52 v.toNatClampNeg).toInt = (ρ.1 52 x.toNatClampNeg).toInt := t3
    have t4 : wC_50 ρ x.toNatClampNeg < wC_50 ρ v.toNatClampNeg ∨ wC_50 ρ x.toNatClampNeg = wC_50 ρ v.toNatClampNeg ∧ v.toInt < ((x.toNatClampNeg : Nat) : Int) := t4
    refine ⟨.inr ⟨t1, t2, t3.trans x3⟩, ?_⟩
    have e0 : lft_50 ρ d r v = Rm (wS_50 ρ) (wP_50 ρ) (wC_50 ρ) d (r : Int) v.toNatClampNeg := if_neg (by omega)
    rw [e0, eL]
    exact Rm_step hS x3 (by omega)
/-- the first child -/
theorem first_50 {ρ σ : ST} (hI : IA σ) (hm : SM ρ σ) {d : Nat} {x : Int32} (x1 : 0 ≤ x.toInt) (x2 : x.toInt < (ρ.1 50 1).toInt) : OK (f_X7_firstOf 50 x σ) (RO σ fun v => isC_50 ρ x.toNatClampNeg v ∧ 1 + lft_50 ρ d x.toNatClampNeg v ≤ Wt (wS_50 ρ) (wP_50 ρ) (d + 1) x.toNatClampNeg) := by
  have e1 : σ.1 50 = ρ.1 50 := hm 50 (by decide) (by decide)
  have e2 : σ.1 (50 + 2) = ρ.1 52 := hm 52 (by decide) (by decide)
  have e7 : σ.1 (50 + 7) = ρ.1 57 := hm 57 (by decide) (by decide)
  refine (k_X7_firstOf_50 x σ hI).roq (fun v hv => ?_)
  have nx := nN_ x1
  rw [e1, e7] at hv
  have hv : v.toInt = (ρ.1 57 x.toNatClampNeg).toInt := by omega
  have hv2 : ρ.1 57 x.toNatClampNeg = v := (Int32.toInt_inj.mp hv).symm
  have T := ((hI.t50).2.2 x.toNatClampNeg (by rw [e1]; omega)).1
  rw [e1, e2, e7] at T
  dsimp only at T
  rw [hv2] at T
  rcases T with T | ⟨t1, t2, t3⟩
  · refine ⟨.inl T, ?_⟩
    have e0 : lft_50 ρ d x.toNatClampNeg v = 0 := if_pos T
    rw [e0, Wt]
    omega
  · have t1 : 0 ≤ v.toInt := t1
    refine ⟨.inr ⟨t1, t2, t3⟩, ?_⟩
    have e0 : lft_50 ρ d x.toNatClampNeg v = Rm (wS_50 ρ) (wP_50 ρ) (wC_50 ρ) d ((x.toNatClampNeg : Nat) : Int) v.toNatClampNeg := if_neg (by omega)
    rw [e0]
    exact Rm_all
/-- what packing a row costs -/
def cV_50 (ρ : ST) (N : Nat) (rV : Nat → Int32 → Int32 → Int32 → ST → Option ST) : Prop := ∀ (p1 p2 p3 : Int32) (σ : ST), IA σ → SM ρ σ → (0 ≤ p1.toInt ∧ p1.toInt < (ρ.1 50 1).toInt) → (0 ≤ p3.toInt ∧ p3.toInt ≤ 32 ∧ (66 : Int) ≤ N + 2 * p3.toInt) → ∀ d : Nat, (d : Int) = 32 - p3.toInt → (σ.1 87 2).toInt + 700 * (Wt (wS_50 ρ) (wP_50 ρ) d p1.toNatClampNeg : Nat) < 2000000000 → OK (rV 50 p1 p2 p3 σ) (PK (700 * (Wt (wS_50 ρ) (wP_50 ρ) d p1.toNatClampNeg : Nat)) σ)
theorem loop95_50 {ρ : ST} {N : Nat} {rF rV : Nat → Int32 → Int32 → Int32 → ST → Option ST} (hV : cV_50 ρ N rV) {r : Nat} : ∀ (n : Nat) (x4 x6 x7 x8 : Int32) (σ : ST), IA σ → SM ρ σ → (0 ≤ x8.toInt ∧ x8.toInt ≤ 200 ∧ (200 : Int) - x8.toInt < n) → (0 ≤ x4.toInt ∧ x4.toInt ≤ 31 ∧ (64 : Int) ≤ N + 2 * x4.toInt) → ∀ d : Nat, (d : Int) = 31 - x4.toInt → isC_50 ρ r x7 → (σ.1 87 2).toInt + 700 * (lft_50 ρ d r x7 : Nat) < 2000000000 → OK (f_X2_packValue_95 rF rV 50 n x4 x6 x7 x8 σ) (PK (700 * (lft_50 ρ d r x7 : Nat)) σ) := by
  intro n
  induction n with
  | zero => intro x4 x6 x7 x8 σ hI hm hv; omega
  | succ n ih =>
    intro x4 x6 x7 x8 σ hI hm hv hl d hd hc hs
    rw [f_X2_packValue_95]
    have lt_1 := li_1
    have lt_200 := li_200
    have lm : (-1 : Int32).toInt = -1 := by decide
    obtain ⟨ak, a, al, ar⟩ := i_add x8 1
    try (refine k0el (k := ak) ?_ (fun e0 => ?_); (focus omega); subst e0)
    obtain ⟨bk, b, bl, br⟩ := i_add x4 1
    try (refine k0el (k := bk) ?_ (fun e0 => ?_); (focus omega); subst e0)
    refine OK.ile (fun _ => OK.ret ((PK.rf hI).mono (by omega))) (fun h => ?_)
    refine OK.ieq (fun _ => OK.ret ((PK.rf hI).mono (by omega))) (fun h7 => ?_)
    rw [lm] at h7
    refine OK.bndR (k_X5_innerOf_4 _ _ hI) (fun v hv1 => ?_)
    dsimp only
    obtain ⟨v9, e9, e91, hn, hle⟩ := next_50 (d := d) hI hm hc h7
    have hc1 : 0 ≤ x7.toInt ∧ x7.toInt < (ρ.1 50 1).toInt := by
      rcases hc with hc | hc
      · exact absurd hc h7
      · exact ⟨hc.1, hc.2.1⟩
    refine OK.bndP (hV x7 v (x4 + 1) σ hI hm hc1 (by omega) d (by omega) (by omega)) (PK.rf hI) (fun t ht => ?_)
    refine OK.bndR (next_50 (d := d) ht.1 (ht.sm hm) hc h7) (fun w hw => ?_)
    dsimp only
    have h3 := ht.2.2.2
    have h4 := hw.2
    exact OK.trP (ih _ _ _ _ _ ht.1 (ht.sm hm) (by omega) hl d hd hw.1 (by omega)) ht (by omega)
theorem loop10_50 {ρ : ST} {N : Nat} {rF rV : Nat → Int32 → Int32 → Int32 → ST → Option ST} (hV : cV_50 ρ N rV) {r : Nat} : ∀ (n : Nat) (x3 x4 x5 x6 : Int32) (σ : ST), IA σ → SM ρ σ → (0 ≤ x6.toInt ∧ x6.toInt ≤ 8 ∧ (8 : Int) - x6.toInt < n) → (0 ≤ x4.toInt ∧ x4.toInt ≤ 31 ∧ (64 : Int) ≤ N + 2 * x4.toInt) → ∀ d : Nat, (d : Int) = 31 - x4.toInt → isC_50 ρ r x5 → (σ.1 87 2).toInt + (74 * (8 - x6.toInt) + 700 * (lft_50 ρ d r x5 : Nat)) < 2000000000 → OK (f_X2_packFields_10 rF rV 50 n x3 x4 x5 x6 σ) (PK (74 * (8 - x6.toInt) + 700 * (lft_50 ρ d r x5 : Nat)) σ) := by
  intro n
  induction n with
  | zero => intro x3 x4 x5 x6 σ hI hm hv; omega
  | succ n ih =>
    intro x3 x4 x5 x6 σ hI hm hv hl d hd hc hs
    rw [f_X2_packFields_10]
    have lt_1 := li_1
    have lm : (-1 : Int32).toInt = -1 := by decide
    obtain ⟨ak, a, al, ar⟩ := i_add x6 1
    try (refine k0el (k := ak) ?_ (fun e0 => ?_); (focus omega); subst e0)
    obtain ⟨bk, b, bl, br⟩ := i_add x4 1
    try (refine k0el (k := bk) ?_ (fun e0 => ?_); (focus omega); subst e0)
    refine OK.bndR (k_X5_fieldsOf_4 _ _ hI) (fun v1 hv1 => ?_)
    dsimp only
    refine OK.ile (fun _ => OK.ret ((PK.rf hI).mono (by omega))) (fun h => ?_)
    refine OK.bndR (k_X5_typeOf_4 _ _ _ hI) (fun v3 hv3 => ?_)
    dsimp only
    have h76 : OK (f_X2_packFields_76 rF rV (f_X2_packFields_10 rF rV 50 n) 50 x3 x4 x5 x6 v3 σ) (PK (74 * (8 - x6.toInt) + 700 * (lft_50 ρ d r x5 : Nat)) σ) := by
      unfold f_X2_packFields_76 f_X2_packFields_85
      refine OK.bndP (k_X2_packElse _ _ _ _ hI (by omega)) (PK.rf hI) (fun t ht => ?_)
      have h3 := ht.2.2.2
      exact OK.trP (ih _ _ _ _ _ ht.1 (ht.sm hm) (by omega) hl d hd hc (by omega)) ht (by omega)
    refine OK.ieq (fun _ => h76) (fun h5 => ?_)
    rw [lm] at h5
    refine OK.bndR (k_X7_placeOf_50 _ _ hI) (fun v5 hv5 => ?_)
    dsimp only
    refine OK.ieq (fun _ => ?_) (fun _ => h76)
    obtain ⟨v9, e9, e91, hn, hle⟩ := next_50 (d := d) hI hm hc h5
    have hc1 : 0 ≤ x5.toInt ∧ x5.toInt < (ρ.1 50 1).toInt := by
      rcases hc with hc | hc
      · exact absurd hc h5
      · exact ⟨hc.1, hc.2.1⟩
    refine OK.bndP (hV x5 v3 (x4 + 1) σ hI hm hc1 (by omega) d (by omega) (by omega)) (PK.rf hI) (fun t ht => ?_)
    refine OK.bndR (next_50 (d := d) ht.1 (ht.sm hm) hc h5) (fun w hw => ?_)
    dsimp only
    unfold f_X2_packFields_85
    have h3 := ht.2.2.2
    have h4 := hw.2
    exact OK.trP (ih _ _ _ _ _ ht.1 (ht.sm hm) (by omega) hl d hd hw.1 (by omega)) ht (by omega)
def cF_50 (ρ : ST) (N : Nat) (rF : Nat → Int32 → Int32 → Int32 → ST → Option ST) : Prop := ∀ (p1 p2 p3 : Int32) (σ : ST), IA σ → SM ρ σ → (0 ≤ p1.toInt ∧ p1.toInt < (ρ.1 50 1).toInt) → (0 ≤ p3.toInt ∧ p3.toInt ≤ 31 ∧ (65 : Int) ≤ N + 2 * p3.toInt) → ∀ d : Nat, (d : Int) = 31 - p3.toInt → (σ.1 87 2).toInt + 700 * (Wt (wS_50 ρ) (wP_50 ρ) (d + 1) p1.toNatClampNeg : Nat) < 2000000010 → OK (rF 50 p1 p2 p3 σ) (PK (700 * (Wt (wS_50 ρ) (wP_50 ρ) (d + 1) p1.toNatClampNeg : Nat) - 108) σ)
theorem fields_50 {ρ : ST} {N : Nat} {rF rV : Nat → Int32 → Int32 → Int32 → ST → Option ST} (hV : cV_50 ρ N rV) : cF_50 ρ (N + 1) (f_X2_packFields rF rV) := by
  intro p1 p2 p3 σ hI hm hr hl d hd hs
  unfold f_X2_packFields
  have lt_0 := li_0
  have lFU : ((FU : Nat) : Int) = 100000 := rfl
  refine OK.bndR (first_50 (d := d) hI hm hr.1 hr.2) (fun v hv => ?_)
  dsimp only
  have h2 := hv.2
  exact (loop10_50 hV FU _ _ _ _ _ hI hm (by omega) (by omega) d hd hv.1 (by omega)).mono (fun q hq => hq.mono (by omega))
theorem v39_50 {ρ : ST} {N : Nat} {rF rV : Nat → Int32 → Int32 → Int32 → ST → Option ST} (hF : cF_50 ρ N rF) (hV : cV_50 ρ N rV) (x2 x4 x5 y0 : Int32) (σ : ST) (hI : IA σ) (hm : SM ρ σ) (hr : 0 ≤ x2.toInt ∧ x2.toInt < (ρ.1 50 1).toInt) (hl : 0 ≤ x4.toInt ∧ x4.toInt ≤ 31 ∧ (65 : Int) ≤ N + 2 * x4.toInt) (d : Nat) (hd : (d : Int) = 31 - x4.toInt) (hs : (σ.1 87 2).toInt + 700 * (Wt (wS_50 ρ) (wP_50 ρ) (d + 1) x2.toNatClampNeg : Nat) < 2000000010) : OK (f_X2_packValue_39 rF rV 50 x2 x4 x5 y0 σ) (PK (700 * (Wt (wS_50 ρ) (wP_50 ρ) (d + 1) x2.toNatClampNeg : Nat) - 10) σ) := by
  have lt_0 := li_0
  have lFU : ((FU : Nat) : Int) = 100000 := rfl
  have h1 : 1 ≤ Wt (wS_50 ρ) (wP_50 ρ) (d + 1) x2.toNatClampNeg := by rw [Wt]; omega
  unfold f_X2_packValue_39
  refine OK.ieq (fun _ => ?_) (fun _ => ?_)
  · refine OK.bndR (k_X5_innerOf_4 _ _ hI) (fun v hv => ?_)
    dsimp only
    exact OK.bndP (hF x2 v x4 σ hI hm hr hl d hd hs) (PK.rf hI) (fun t ht => OK.ret (ht.mono (by omega)))
  refine OK.ieq (fun _ => ?_) (fun _ => ?_)
  · refine OK.bndR (k_X7_sizeOf_50 _ _ hI) (fun v hv => ?_)
    dsimp only
    refine OK.bndP (k_X2_putNumber _ _ hI (by omega)) (PK.rf hI) (fun t ht => ?_)
    refine OK.bndR (first_50 (d := d) ht.1 (ht.sm hm) hr.1 hr.2) (fun w hw => ?_)
    dsimp only
    have h3 := ht.2.2.2
    have h4 := hw.2
    exact OK.trP (loop95_50 hV FU _ _ _ _ _ ht.1 (ht.sm hm) (by omega) (by omega) d hd hw.1 (by omega)) ht (by omega)
  · refine OK.bndR (k_X7_worthOf_50 _ _ hI) (fun v hv => ?_)
    dsimp only
    exact OK.bndP (k_X2_packPlain _ _ _ hI (by omega)) (PK.rf hI) (fun t ht => OK.ret (ht.mono (by omega)))
theorem value_50 {ρ : ST} {N : Nat} {rF rV : Nat → Int32 → Int32 → Int32 → ST → Option ST} (hF : cF_50 ρ N rF) (hV : cV_50 ρ N rV) : cV_50 ρ (N + 1) (f_X2_packValue rF rV) := by
  intro p1 p2 p3 σ hI hm hr hl d hd hs
  unfold f_X2_packValue
  have lt_31 := li_31
  refine OK.ile (fun h => ?_) (fun h => OK.ret ((PK.rf hI).mono (by omega)))
  obtain ⟨e, rfl⟩ : ∃ e, d = e + 1 := ⟨d - 1, by omega⟩
  refine OK.bndR (k_X7_sortAt_50 _ _ hI) (fun v hv => ?_)
  dsimp only
  refine OK.bndR (k_X5_sortOf_4 _ _ hI) (fun w hw => ?_)
  dsimp only
  refine OK.ieq (fun _ => ?_) (fun _ => ?_)
  · have h1 : 1 ≤ Wt (wS_50 ρ) (wP_50 ρ) (e + 1) p1.toNatClampNeg := by rw [Wt]; omega
    refine OK.bnd (k_X2_packBranch _ _ _ hI (by omega)) (fun q hq => ?_)
    obtain ⟨u, s⟩ := q
    have hq : PK 10 σ s := hq
    dsimp only
    have h3 := hq.2.2.2
    exact OK.trP (v39_50 hF hV _ _ _ _ _ hq.1 (hq.sm hm) hr (by omega) e (by omega) (by omega)) hq (by omega)
  · exact (v39_50 hF hV _ _ _ _ _ hI hm hr (by omega) e (by omega) (by omega)).mono (fun q hq => hq.mono (by omega))
theorem packR_50 (ρ : ST) : ∀ n : Nat, cF_50 ρ n (R_X2_packFields n).1 ∧ cV_50 ρ n (R_X2_packFields n).2 := by
  intro n
  induction n with
  | zero => exact ⟨fun p1 p2 p3 σ hI hm hr hl d hd hs => by omega, fun p1 p2 p3 σ hI hm hr hl d hd hs => by omega⟩
  | succ n ih => exact ⟨fields_50 ih.2, value_50 ih.1 ih.2⟩
theorem v39n_50 {rF rV : Nat → Int32 → Int32 → Int32 → ST → Option ST} (x2 x4 x5 y0 : Int32) (σ : ST) (hI : IA σ) (h : x5.toInt = -1) (hs : (σ.1 87 2).toInt + 64 < 2000000000) : OK (f_X2_packValue_39 rF rV 50 x2 x4 x5 y0 σ) (PK 64 σ) := by
  have lt_6 := li_6
  have lt_7 := li_7
  unfold f_X2_packValue_39
  refine OK.ieq (fun _ => by omega) (fun _ => ?_)
  refine OK.ieq (fun _ => by omega) (fun _ => ?_)
  refine OK.bndR (k_X7_worthOf_50 _ _ hI) (fun v hv => ?_)
  dsimp only
  exact OK.bndP (k_X2_packPlain _ _ _ hI (by omega)) (PK.rf hI) (fun t ht => OK.ret (ht.mono (by omega)))
theorem k_X2_pack_50 (p1 : Int32) (σ : ST) (hI : IA σ) : OK (f_X2_pack 50 p1 σ) (RS σ) := by
  unfold f_X2_pack
  have lt_0 := li_0
  have lt_31 := li_31
  have iz : IA (stI σ 87 2 0) := ia_J_87_2 hI (by decide)
  have ez : (stI σ 87 2 0).1 87 2 = 0 := rfl
  have e1 : (stI σ 87 2 0).1 50 1 = σ.1 50 1 := rfl
  have fz : Fr σ (stI σ 87 2 0) := ⟨rfl, rfl, ⟨rfl, rfl⟩, rfl⟩
  have g : 0 ≤ (σ.1 50 1).toInt ∧ (σ.1 50 1).toInt ≤ 400 := (hI.t50).2.1
  generalize stI σ 87 2 0 = z at iz ez e1 fz ⊢
  have fin : ∀ (m : Int) (t : ST), PK m z t → OK (some t) (RS σ) := fun m t ht => OK.sret ht.1 (fz.trans ⟨ht.2.1 0 (by decide) (by decide), ht.2.1 1 (by decide) (by decide), ⟨ht.2.1 4 (by decide) (by decide), by rw [ht.2.2.1]⟩, by rw [ht.2.2.1]⟩)
  by_cases h : 0 < (σ.1 50 1).toInt
  · have n0 : (0 : Int32).toNatClampNeg = 0 := by decide
    have hw := Wt_root (S := wS_50 z) (P := wP_50 z) 32 (r := (0 : Int32).toNatClampNeg) (by unfold wS_50; rw [e1, n0]; omega)
    have hS : wS_50 z ≤ 400 := by unfold wS_50; rw [e1]; omega
    have lFR : ((FR : Nat) : Int) = 160 := rfl
    exact OK.bndP ((packR_50 z FR).2 0 p1 0 z iz (fun _ _ _ => rfl) (by rw [e1]; omega) (by omega) 32 (by omega) (by rw [ez]; omega)) (PK.rf iz) (fun t ht => fin _ t ht)
  · have e : FR = 159 + 1 := rfl
    unfold f_T_X2_packValue
    rw [e, R_X2_packFields]
    dsimp only
    refine OK.bndP (m := 74) ?_ (PK.rf iz) (fun t ht => fin _ t ht)
    unfold f_X2_packValue
    refine OK.ile (fun _ => ?_) (fun _ => OK.ret ((PK.rf iz).mono (by omega)))
    refine OK.bndR (k_X7_sortAt_50 _ _ iz) (fun v hv => ?_)
    dsimp only
    rw [e1] at hv
    have hv : v.toInt = -1 := by omega
    refine OK.bndR (k_X5_sortOf_4 _ _ iz) (fun w hw => ?_)
    dsimp only
    refine OK.ieq (fun _ => ?_) (fun _ => ?_)
    · refine OK.bnd (k_X2_packBranch _ _ _ iz (by rw [ez]; omega)) (fun q hq => ?_)
      obtain ⟨u, s⟩ := q
      have hq : PK 10 z s := hq
      dsimp only
      have h3 := hq.2.2.2
      rw [ez] at h3
      exact OK.trP (v39n_50 _ _ _ _ _ hq.1 hv (by omega)) hq (by omega)
    · exact (v39n_50 _ _ _ _ _ iz hv (by rw [ez]; omega)).mono (fun q hq => hq.mono (by omega))
def wS_62 (ρ : ST) : Nat := (ρ.1 62 1).toInt.toNat
def wP_62 (ρ : ST) : Nat → Int := fun c => (ρ.1 64 c).toInt
def wC_62 (ρ : ST) : Nat → Int := fun c => (ρ.1 65 c).toInt
/-- a child: none, or a row of that parent -/
def isC_62 (ρ : ST) (r : Nat) (x : Int32) : Prop := x.toInt = -1 ∨ 0 ≤ x.toInt ∧ x.toInt < (ρ.1 62 1).toInt ∧ (ρ.1 64 x.toNatClampNeg).toInt = (r : Int)
def lft_62 (ρ : ST) (d r : Nat) (x : Int32) : Nat := if x.toInt = -1 then 0 else Rm (wS_62 ρ) (wP_62 ρ) (wC_62 ρ) d (r : Int) x.toNatClampNeg
/-- one child further on -/
theorem next_62 {ρ σ : ST} (hI : IA σ) (hm : SM ρ σ) {d r : Nat} {x : Int32} (hx : isC_62 ρ r x) (h0 : ¬ x.toInt = -1) : OK (f_X7_nextOf 62 x σ) (RO σ fun v => isC_62 ρ r v ∧ lft_62 ρ d r v + Wt (wS_62 ρ) (wP_62 ρ) d x.toNatClampNeg ≤ lft_62 ρ d r x) := by
  have e1 : σ.1 62 = ρ.1 62 := hm 62 (by decide) (by decide)
  have e2 : σ.1 (62 + 2) = ρ.1 64 := hm 64 (by decide) (by decide)
  have e3 : σ.1 (62 + 3) = ρ.1 65 := hm 65 (by decide) (by decide)
  have e9 : σ.1 (62 + 9) = ρ.1 71 := hm 71 (by decide) (by decide)
  rcases hx with hx | ⟨x1, x2, x3⟩
  · exact absurd hx h0
  refine (k_X7_nextOf_62 x σ hI).roq (fun v hv => ?_)
  have nx := nN_ x1
  have hS : x.toNatClampNeg < wS_62 ρ := by unfold wS_62; omega
  rw [e1, e9] at hv
  have hv : v.toInt = (ρ.1 71 x.toNatClampNeg).toInt := by omega
  have hv2 : ρ.1 71 x.toNatClampNeg = v := (Int32.toInt_inj.mp hv).symm
  have eL : lft_62 ρ d r x = Rm (wS_62 ρ) (wP_62 ρ) (wC_62 ρ) d (r : Int) x.toNatClampNeg := if_neg h0
  have T := ((hI.t62).2.2 x.toNatClampNeg (by rw [e1]; omega)).2.2
  rw [e1, e2, e3, e9] at T
  dsimp only at T
  rw [hv2] at T
  rcases T with T | ⟨t1, t2, t3, t4⟩
  · refine ⟨.inl T, ?_⟩
    have e0 : lft_62 ρ d r v = 0 := if_pos T
    rw [e0, eL, Nat.zero_add]
    exact Rm_last hS x3
  · have t1 : 0 ≤ v.toInt := t1
    have nv := nN_ t1
    have t3 : (ρ.1 64 v.toNatClampNeg).toInt = (ρ.1 64 x.toNatClampNeg).toInt := t3
    have t4 : wC_62 ρ x.toNatClampNeg < wC_62 ρ v.toNatClampNeg ∨ wC_62 ρ x.toNatClampNeg = wC_62 ρ v.toNatClampNeg ∧ v.toInt < ((x.toNatClampNeg : Nat) : Int) := t4
    refine ⟨.inr ⟨t1, t2, t3.trans x3⟩, ?_⟩
    have e0 : lft_62 ρ d r v = Rm (wS_62 ρ) (wP_62 ρ) (wC_62 ρ) d (r : Int) v.toNatClampNeg := if_neg (by omega)
    rw [e0, eL]
    exact Rm_step hS x3 (by omega)
/-- the first child -/
theorem first_62 {ρ σ : ST} (hI : IA σ) (hm : SM ρ σ) {d : Nat} {x : Int32} (x1 : 0 ≤ x.toInt) (x2 : x.toInt < (ρ.1 62 1).toInt) : OK (f_X7_firstOf 62 x σ) (RO σ fun v => isC_62 ρ x.toNatClampNeg v ∧ 1 + lft_62 ρ d x.toNatClampNeg v ≤ Wt (wS_62 ρ) (wP_62 ρ) (d + 1) x.toNatClampNeg) := by
  have e1 : σ.1 62 = ρ.1 62 := hm 62 (by decide) (by decide)
  have e2 : σ.1 (62 + 2) = ρ.1 64 := hm 64 (by decide) (by decide)
  have e7 : σ.1 (62 + 7) = ρ.1 69 := hm 69 (by decide) (by decide)
  refine (k_X7_firstOf_62 x σ hI).roq (fun v hv => ?_)
  have nx := nN_ x1
  rw [e1, e7] at hv
  have hv : v.toInt = (ρ.1 69 x.toNatClampNeg).toInt := by omega
  have hv2 : ρ.1 69 x.toNatClampNeg = v := (Int32.toInt_inj.mp hv).symm
  have T := ((hI.t62).2.2 x.toNatClampNeg (by rw [e1]; omega)).1
  rw [e1, e2, e7] at T
  dsimp only at T
  rw [hv2] at T
  rcases T with T | ⟨t1, t2, t3⟩
  · refine ⟨.inl T, ?_⟩
    have e0 : lft_62 ρ d x.toNatClampNeg v = 0 := if_pos T
    rw [e0, Wt]
    omega
  · have t1 : 0 ≤ v.toInt := t1
    refine ⟨.inr ⟨t1, t2, t3⟩, ?_⟩
    have e0 : lft_62 ρ d x.toNatClampNeg v = Rm (wS_62 ρ) (wP_62 ρ) (wC_62 ρ) d ((x.toNatClampNeg : Nat) : Int) v.toNatClampNeg := if_neg (by omega)
    rw [e0]
    exact Rm_all
/-- what packing a row costs -/
def cV_62 (ρ : ST) (N : Nat) (rV : Nat → Int32 → Int32 → Int32 → ST → Option ST) : Prop := ∀ (p1 p2 p3 : Int32) (σ : ST), IA σ → SM ρ σ → (0 ≤ p1.toInt ∧ p1.toInt < (ρ.1 62 1).toInt) → (0 ≤ p3.toInt ∧ p3.toInt ≤ 32 ∧ (66 : Int) ≤ N + 2 * p3.toInt) → ∀ d : Nat, (d : Int) = 32 - p3.toInt → (σ.1 87 2).toInt + 700 * (Wt (wS_62 ρ) (wP_62 ρ) d p1.toNatClampNeg : Nat) < 2000000000 → OK (rV 62 p1 p2 p3 σ) (PK (700 * (Wt (wS_62 ρ) (wP_62 ρ) d p1.toNatClampNeg : Nat)) σ)
theorem loop95_62 {ρ : ST} {N : Nat} {rF rV : Nat → Int32 → Int32 → Int32 → ST → Option ST} (hV : cV_62 ρ N rV) {r : Nat} : ∀ (n : Nat) (x4 x6 x7 x8 : Int32) (σ : ST), IA σ → SM ρ σ → (0 ≤ x8.toInt ∧ x8.toInt ≤ 200 ∧ (200 : Int) - x8.toInt < n) → (0 ≤ x4.toInt ∧ x4.toInt ≤ 31 ∧ (64 : Int) ≤ N + 2 * x4.toInt) → ∀ d : Nat, (d : Int) = 31 - x4.toInt → isC_62 ρ r x7 → (σ.1 87 2).toInt + 700 * (lft_62 ρ d r x7 : Nat) < 2000000000 → OK (f_X2_packValue_95 rF rV 62 n x4 x6 x7 x8 σ) (PK (700 * (lft_62 ρ d r x7 : Nat)) σ) := by
  intro n
  induction n with
  | zero => intro x4 x6 x7 x8 σ hI hm hv; omega
  | succ n ih =>
    intro x4 x6 x7 x8 σ hI hm hv hl d hd hc hs
    rw [f_X2_packValue_95]
    have lt_1 := li_1
    have lt_200 := li_200
    have lm : (-1 : Int32).toInt = -1 := by decide
    obtain ⟨ak, a, al, ar⟩ := i_add x8 1
    try (refine k0el (k := ak) ?_ (fun e0 => ?_); (focus omega); subst e0)
    obtain ⟨bk, b, bl, br⟩ := i_add x4 1
    try (refine k0el (k := bk) ?_ (fun e0 => ?_); (focus omega); subst e0)
    refine OK.ile (fun _ => OK.ret ((PK.rf hI).mono (by omega))) (fun h => ?_)
    refine OK.ieq (fun _ => OK.ret ((PK.rf hI).mono (by omega))) (fun h7 => ?_)
    rw [lm] at h7
    refine OK.bndR (k_X5_innerOf_4 _ _ hI) (fun v hv1 => ?_)
    dsimp only
    obtain ⟨v9, e9, e91, hn, hle⟩ := next_62 (d := d) hI hm hc h7
    have hc1 : 0 ≤ x7.toInt ∧ x7.toInt < (ρ.1 62 1).toInt := by
      rcases hc with hc | hc
      · exact absurd hc h7
      · exact ⟨hc.1, hc.2.1⟩
    refine OK.bndP (hV x7 v (x4 + 1) σ hI hm hc1 (by omega) d (by omega) (by omega)) (PK.rf hI) (fun t ht => ?_)
    refine OK.bndR (next_62 (d := d) ht.1 (ht.sm hm) hc h7) (fun w hw => ?_)
    dsimp only
    have h3 := ht.2.2.2
    have h4 := hw.2
    exact OK.trP (ih _ _ _ _ _ ht.1 (ht.sm hm) (by omega) hl d hd hw.1 (by omega)) ht (by omega)
theorem loop10_62 {ρ : ST} {N : Nat} {rF rV : Nat → Int32 → Int32 → Int32 → ST → Option ST} (hV : cV_62 ρ N rV) {r : Nat} : ∀ (n : Nat) (x3 x4 x5 x6 : Int32) (σ : ST), IA σ → SM ρ σ → (0 ≤ x6.toInt ∧ x6.toInt ≤ 8 ∧ (8 : Int) - x6.toInt < n) → (0 ≤ x4.toInt ∧ x4.toInt ≤ 31 ∧ (64 : Int) ≤ N + 2 * x4.toInt) → ∀ d : Nat, (d : Int) = 31 - x4.toInt → isC_62 ρ r x5 → (σ.1 87 2).toInt + (74 * (8 - x6.toInt) + 700 * (lft_62 ρ d r x5 : Nat)) < 2000000000 → OK (f_X2_packFields_10 rF rV 62 n x3 x4 x5 x6 σ) (PK (74 * (8 - x6.toInt) + 700 * (lft_62 ρ d r x5 : Nat)) σ) := by
  intro n
  induction n with
  | zero => intro x3 x4 x5 x6 σ hI hm hv; omega
  | succ n ih =>
    intro x3 x4 x5 x6 σ hI hm hv hl d hd hc hs
    rw [f_X2_packFields_10]
    have lt_1 := li_1
    have lm : (-1 : Int32).toInt = -1 := by decide
    obtain ⟨ak, a, al, ar⟩ := i_add x6 1
    try (refine k0el (k := ak) ?_ (fun e0 => ?_); (focus omega); subst e0)
    obtain ⟨bk, b, bl, br⟩ := i_add x4 1
    try (refine k0el (k := bk) ?_ (fun e0 => ?_); (focus omega); subst e0)
    refine OK.bndR (k_X5_fieldsOf_4 _ _ hI) (fun v1 hv1 => ?_)
    dsimp only
    refine OK.ile (fun _ => OK.ret ((PK.rf hI).mono (by omega))) (fun h => ?_)
    refine OK.bndR (k_X5_typeOf_4 _ _ _ hI) (fun v3 hv3 => ?_)
    dsimp only
    have h76 : OK (f_X2_packFields_76 rF rV (f_X2_packFields_10 rF rV 62 n) 62 x3 x4 x5 x6 v3 σ) (PK (74 * (8 - x6.toInt) + 700 * (lft_62 ρ d r x5 : Nat)) σ) := by
      unfold f_X2_packFields_76 f_X2_packFields_85
      refine OK.bndP (k_X2_packElse _ _ _ _ hI (by omega)) (PK.rf hI) (fun t ht => ?_)
      have h3 := ht.2.2.2
      exact OK.trP (ih _ _ _ _ _ ht.1 (ht.sm hm) (by omega) hl d hd hc (by omega)) ht (by omega)
    refine OK.ieq (fun _ => h76) (fun h5 => ?_)
    rw [lm] at h5
    refine OK.bndR (k_X7_placeOf_62 _ _ hI) (fun v5 hv5 => ?_)
    dsimp only
    refine OK.ieq (fun _ => ?_) (fun _ => h76)
    obtain ⟨v9, e9, e91, hn, hle⟩ := next_62 (d := d) hI hm hc h5
    have hc1 : 0 ≤ x5.toInt ∧ x5.toInt < (ρ.1 62 1).toInt := by
      rcases hc with hc | hc
      · exact absurd hc h5
      · exact ⟨hc.1, hc.2.1⟩
    refine OK.bndP (hV x5 v3 (x4 + 1) σ hI hm hc1 (by omega) d (by omega) (by omega)) (PK.rf hI) (fun t ht => ?_)
    refine OK.bndR (next_62 (d := d) ht.1 (ht.sm hm) hc h5) (fun w hw => ?_)
    dsimp only
    unfold f_X2_packFields_85
    have h3 := ht.2.2.2
    have h4 := hw.2
    exact OK.trP (ih _ _ _ _ _ ht.1 (ht.sm hm) (by omega) hl d hd hw.1 (by omega)) ht (by omega)
def cF_62 (ρ : ST) (N : Nat) (rF : Nat → Int32 → Int32 → Int32 → ST → Option ST) : Prop := ∀ (p1 p2 p3 : Int32) (σ : ST), IA σ → SM ρ σ → (0 ≤ p1.toInt ∧ p1.toInt < (ρ.1 62 1).toInt) → (0 ≤ p3.toInt ∧ p3.toInt ≤ 31 ∧ (65 : Int) ≤ N + 2 * p3.toInt) → ∀ d : Nat, (d : Int) = 31 - p3.toInt → (σ.1 87 2).toInt + 700 * (Wt (wS_62 ρ) (wP_62 ρ) (d + 1) p1.toNatClampNeg : Nat) < 2000000010 → OK (rF 62 p1 p2 p3 σ) (PK (700 * (Wt (wS_62 ρ) (wP_62 ρ) (d + 1) p1.toNatClampNeg : Nat) - 108) σ)
theorem fields_62 {ρ : ST} {N : Nat} {rF rV : Nat → Int32 → Int32 → Int32 → ST → Option ST} (hV : cV_62 ρ N rV) : cF_62 ρ (N + 1) (f_X2_packFields rF rV) := by
  intro p1 p2 p3 σ hI hm hr hl d hd hs
  unfold f_X2_packFields
  have lt_0 := li_0
  have lFU : ((FU : Nat) : Int) = 100000 := rfl
  refine OK.bndR (first_62 (d := d) hI hm hr.1 hr.2) (fun v hv => ?_)
  dsimp only
  have h2 := hv.2
  exact (loop10_62 hV FU _ _ _ _ _ hI hm (by omega) (by omega) d hd hv.1 (by omega)).mono (fun q hq => hq.mono (by omega))
theorem v39_62 {ρ : ST} {N : Nat} {rF rV : Nat → Int32 → Int32 → Int32 → ST → Option ST} (hF : cF_62 ρ N rF) (hV : cV_62 ρ N rV) (x2 x4 x5 y0 : Int32) (σ : ST) (hI : IA σ) (hm : SM ρ σ) (hr : 0 ≤ x2.toInt ∧ x2.toInt < (ρ.1 62 1).toInt) (hl : 0 ≤ x4.toInt ∧ x4.toInt ≤ 31 ∧ (65 : Int) ≤ N + 2 * x4.toInt) (d : Nat) (hd : (d : Int) = 31 - x4.toInt) (hs : (σ.1 87 2).toInt + 700 * (Wt (wS_62 ρ) (wP_62 ρ) (d + 1) x2.toNatClampNeg : Nat) < 2000000010) : OK (f_X2_packValue_39 rF rV 62 x2 x4 x5 y0 σ) (PK (700 * (Wt (wS_62 ρ) (wP_62 ρ) (d + 1) x2.toNatClampNeg : Nat) - 10) σ) := by
  have lt_0 := li_0
  have lFU : ((FU : Nat) : Int) = 100000 := rfl
  have h1 : 1 ≤ Wt (wS_62 ρ) (wP_62 ρ) (d + 1) x2.toNatClampNeg := by rw [Wt]; omega
  unfold f_X2_packValue_39
  refine OK.ieq (fun _ => ?_) (fun _ => ?_)
  · refine OK.bndR (k_X5_innerOf_4 _ _ hI) (fun v hv => ?_)
    dsimp only
    exact OK.bndP (hF x2 v x4 σ hI hm hr hl d hd hs) (PK.rf hI) (fun t ht => OK.ret (ht.mono (by omega)))
  refine OK.ieq (fun _ => ?_) (fun _ => ?_)
  · refine OK.bndR (k_X7_sizeOf_62 _ _ hI) (fun v hv => ?_)
    dsimp only
    refine OK.bndP (k_X2_putNumber _ _ hI (by omega)) (PK.rf hI) (fun t ht => ?_)
    refine OK.bndR (first_62 (d := d) ht.1 (ht.sm hm) hr.1 hr.2) (fun w hw => ?_)
    dsimp only
    have h3 := ht.2.2.2
    have h4 := hw.2
    exact OK.trP (loop95_62 hV FU _ _ _ _ _ ht.1 (ht.sm hm) (by omega) (by omega) d hd hw.1 (by omega)) ht (by omega)
  · refine OK.bndR (k_X7_worthOf_62 _ _ hI) (fun v hv => ?_)
    dsimp only
    exact OK.bndP (k_X2_packPlain _ _ _ hI (by omega)) (PK.rf hI) (fun t ht => OK.ret (ht.mono (by omega)))
theorem value_62 {ρ : ST} {N : Nat} {rF rV : Nat → Int32 → Int32 → Int32 → ST → Option ST} (hF : cF_62 ρ N rF) (hV : cV_62 ρ N rV) : cV_62 ρ (N + 1) (f_X2_packValue rF rV) := by
  intro p1 p2 p3 σ hI hm hr hl d hd hs
  unfold f_X2_packValue
  have lt_31 := li_31
  refine OK.ile (fun h => ?_) (fun h => OK.ret ((PK.rf hI).mono (by omega)))
  obtain ⟨e, rfl⟩ : ∃ e, d = e + 1 := ⟨d - 1, by omega⟩
  refine OK.bndR (k_X7_sortAt_62 _ _ hI) (fun v hv => ?_)
  dsimp only
  refine OK.bndR (k_X5_sortOf_4 _ _ hI) (fun w hw => ?_)
  dsimp only
  refine OK.ieq (fun _ => ?_) (fun _ => ?_)
  · have h1 : 1 ≤ Wt (wS_62 ρ) (wP_62 ρ) (e + 1) p1.toNatClampNeg := by rw [Wt]; omega
    refine OK.bnd (k_X2_packBranch _ _ _ hI (by omega)) (fun q hq => ?_)
    obtain ⟨u, s⟩ := q
    have hq : PK 10 σ s := hq
    dsimp only
    have h3 := hq.2.2.2
    exact OK.trP (v39_62 hF hV _ _ _ _ _ hq.1 (hq.sm hm) hr (by omega) e (by omega) (by omega)) hq (by omega)
  · exact (v39_62 hF hV _ _ _ _ _ hI hm hr (by omega) e (by omega) (by omega)).mono (fun q hq => hq.mono (by omega))
theorem packR_62 (ρ : ST) : ∀ n : Nat, cF_62 ρ n (R_X2_packFields n).1 ∧ cV_62 ρ n (R_X2_packFields n).2 := by
  intro n
  induction n with
  | zero => exact ⟨fun p1 p2 p3 σ hI hm hr hl d hd hs => by omega, fun p1 p2 p3 σ hI hm hr hl d hd hs => by omega⟩
  | succ n ih => exact ⟨fields_62 ih.2, value_62 ih.1 ih.2⟩
theorem v39n_62 {rF rV : Nat → Int32 → Int32 → Int32 → ST → Option ST} (x2 x4 x5 y0 : Int32) (σ : ST) (hI : IA σ) (h : x5.toInt = -1) (hs : (σ.1 87 2).toInt + 64 < 2000000000) : OK (f_X2_packValue_39 rF rV 62 x2 x4 x5 y0 σ) (PK 64 σ) := by
  have lt_6 := li_6
  have lt_7 := li_7
  unfold f_X2_packValue_39
  refine OK.ieq (fun _ => by omega) (fun _ => ?_)
  refine OK.ieq (fun _ => by omega) (fun _ => ?_)
  refine OK.bndR (k_X7_worthOf_62 _ _ hI) (fun v hv => ?_)
  dsimp only
  exact OK.bndP (k_X2_packPlain _ _ _ hI (by omega)) (PK.rf hI) (fun t ht => OK.ret (ht.mono (by omega)))
theorem k_X2_pack_62 (p1 : Int32) (σ : ST) (hI : IA σ) : OK (f_X2_pack 62 p1 σ) (RS σ) := by
  unfold f_X2_pack
  have lt_0 := li_0
  have lt_31 := li_31
  have iz : IA (stI σ 87 2 0) := ia_J_87_2 hI (by decide)
  have ez : (stI σ 87 2 0).1 87 2 = 0 := rfl
  have e1 : (stI σ 87 2 0).1 62 1 = σ.1 62 1 := rfl
  have fz : Fr σ (stI σ 87 2 0) := ⟨rfl, rfl, ⟨rfl, rfl⟩, rfl⟩
  have g : 0 ≤ (σ.1 62 1).toInt ∧ (σ.1 62 1).toInt ≤ 502 := (hI.t62).2.1
  generalize stI σ 87 2 0 = z at iz ez e1 fz ⊢
  have fin : ∀ (m : Int) (t : ST), PK m z t → OK (some t) (RS σ) := fun m t ht => OK.sret ht.1 (fz.trans ⟨ht.2.1 0 (by decide) (by decide), ht.2.1 1 (by decide) (by decide), ⟨ht.2.1 4 (by decide) (by decide), by rw [ht.2.2.1]⟩, by rw [ht.2.2.1]⟩)
  by_cases h : 0 < (σ.1 62 1).toInt
  · have n0 : (0 : Int32).toNatClampNeg = 0 := by decide
    have hw := Wt_root (S := wS_62 z) (P := wP_62 z) 32 (r := (0 : Int32).toNatClampNeg) (by unfold wS_62; rw [e1, n0]; omega)
    have hS : wS_62 z ≤ 502 := by unfold wS_62; rw [e1]; omega
    have lFR : ((FR : Nat) : Int) = 160 := rfl
    exact OK.bndP ((packR_62 z FR).2 0 p1 0 z iz (fun _ _ _ => rfl) (by rw [e1]; omega) (by omega) 32 (by omega) (by rw [ez]; omega)) (PK.rf iz) (fun t ht => fin _ t ht)
  · have e : FR = 159 + 1 := rfl
    unfold f_T_X2_packValue
    rw [e, R_X2_packFields]
    dsimp only
    refine OK.bndP (m := 74) ?_ (PK.rf iz) (fun t ht => fin _ t ht)
    unfold f_X2_packValue
    refine OK.ile (fun _ => ?_) (fun _ => OK.ret ((PK.rf iz).mono (by omega)))
    refine OK.bndR (k_X7_sortAt_62 _ _ iz) (fun v hv => ?_)
    dsimp only
    rw [e1] at hv
    have hv : v.toInt = -1 := by omega
    refine OK.bndR (k_X5_sortOf_4 _ _ iz) (fun w hw => ?_)
    dsimp only
    refine OK.ieq (fun _ => ?_) (fun _ => ?_)
    · refine OK.bnd (k_X2_packBranch _ _ _ iz (by rw [ez]; omega)) (fun q hq => ?_)
      obtain ⟨u, s⟩ := q
      have hq : PK 10 z s := hq
      dsimp only
      have h3 := hq.2.2.2
      rw [ez] at h3
      exact OK.trP (v39n_62 _ _ _ _ _ hq.1 hv (by omega)) hq (by omega)
    · exact (v39n_62 _ _ _ _ _ iz hv (by rw [ez]; omega)).mono (fun q hq => hq.mono (by omega))
