/-! the reference's choice, exactly; what both walks need -/
theorem bz_chosen_5 {rc rm : Int32 → Int32 → ST → Option (Int32 × ST)} (w r : Int32) (σ : ST) (m : Nat) (hm : m ≤ 4) (hw : 0 ≤ w.toInt ∧ w.toInt < 800) (hr : 0 ≤ r.toInt ∧ r.toInt < 800) (hM : (σ.1 4 r.toNatClampNeg).toInt = m) (hv : ∀ k : Nat, k < m → (0 ≤ (σ.1 5 (4 * r.toNatClampNeg + k)).toInt ∧ (σ.1 5 (4 * r.toNatClampNeg + k)).toInt < 800) ∧ OK (rm w (σ.1 5 (4 * r.toNatClampNeg + k)) σ) (RO σ fun v => v.toInt = 0 ∧ ¬ MS σ w (σ.1 5 (4 * r.toNatClampNeg + k)) ∨ v.toInt = 1 ∧ MS σ w (σ.1 5 (4 * r.toNatClampNeg + k)))) : ∀ (n k : Nat) (x3 x4 : Int32), x4.toInt = k → k ≤ m → m < n + k → CHI k (fun k => MS σ w (σ.1 5 (4 * r.toNatClampNeg + k))) (fun k => (σ.1 2 (σ.1 5 (4 * r.toNatClampNeg + k)).toNatClampNeg).toInt = (σ.1 2 w.toNatClampNeg).toInt) (fun k => (k : Int)) x3.toInt → OK (f_X11_chosen_5 rc rm n w r x3 x4 σ) (RO σ fun z => CHR m (fun k => MS σ w (σ.1 5 (4 * r.toNatClampNeg + k))) (fun k => (σ.1 2 (σ.1 5 (4 * r.toNatClampNeg + k)).toNatClampNeg).toInt = (σ.1 2 w.toNatClampNeg).toInt) (fun k => (k : Int)) z.toInt) := by
  intro n
  have l0 := li_0
  have l1 := li_1
  have l4 := li_4
  induction n with
  | zero => intro k x3 x4 h1 h2 h3; omega
  | succ n ih =>
    intro k x3 x4 h4 hk hn hI
    rw [f_X11_chosen_5]
    unfold f_X11_chosen_68 f_X11_chosen_69
    have n1 := nN_ hr.1
    have e1 := mlE (k := 4) (y := r) 4 li_4 (by omega) (by omega)
    have e2 := il_addE (x := 4 * r) (y := x4) (by omega) (by omega)
    have e3 := il_addE (x := x4) (y := 1) (by omega) (by omega)
    have e4 : (4 * r + x4).toNatClampNeg = 4 * r.toNatClampNeg + k := nC (by omega)
    refine OK.grd hr ?_
    refine OK.ile (fun h => ?_) (fun h => ?_)
    · have e : k = m := by omega
      subst e
      exact OK.roret hI.fin
    obtain ⟨v1, v2⟩ := hv k (by omega)
    refine OK.grd ⟨by omega, by omega⟩ ?_
    rw [e4]
    refine OK.bndR v2 (fun u hu => ?_)
    dsimp only
    refine OK.ieq (fun hu0 => ?_) (fun hu0 => ?_)
    · refine ih (k + 1) x3 (x4 + 1) (by omega) (by omega) (by omega) (hI.miss ?_)
      rcases hu with hu | hu
      · exact hu.2
      · omega
    have hmt : MS σ w (σ.1 5 (4 * r.toNatClampNeg + k)) := by
      rcases hu with hu | hu
      · omega
      · exact hu.2
    refine OK.grd v1 ?_
    refine OK.grd hw ?_
    refine OK.ieq (fun he => OK.roret (hI.hit (by omega) hmt he h4)) (fun he => ?_)
    have x3v : x3.toInt = -1 ∨ 0 ≤ x3.toInt := by
      rcases hI.2 with h | ⟨i, _, h, _⟩
      · exact .inl h.1
      · have h : x3.toInt = (i : Int) := h
        omega
    refine OK.ile (fun h0 => ?_) (fun h0 => ?_)
    · exact ih (k + 1) x3 (x4 + 1) (by omega) (by omega) (by omega) (hI.take hmt he (fun i _ => by omega) (fun h => by omega) (fun _ => rfl))
    · exact ih (k + 1) x4 (x4 + 1) (by omega) (by omega) (by omega) (hI.take hmt he (fun i _ => by omega) (fun _ => h4) (fun h => by omega))
theorem bz_chosen (w r : Int32) (σ : ST) {a b : Int} {d e : Nat} (ha : a ≤ 6) (hb : b ≤ 6) (hP : PB σ) (hw : VS σ a d w) (hr : VS σ b e r) (hd : d ≤ 8) (he : e ≤ 8) (hs : (σ.1 2 r.toNatClampNeg).toInt = 8) : OK (f_T_X11_chosen w r σ) (RO σ fun z => CHR (σ.1 4 r.toNatClampNeg).toInt.toNat (fun k => MS σ w (σ.1 5 (4 * r.toNatClampNeg + k))) (fun k => (σ.1 2 (σ.1 5 (4 * r.toNatClampNeg + k)).toNatClampNeg).toInt = (σ.1 2 w.toNatClampNeg).toInt) (fun k => (k : Int)) z.toInt) := by
  obtain ⟨g1, g2, g3, g4⟩ := hr.eit hs
  obtain ⟨m, hm⟩ : ∃ m : Nat, (σ.1 4 r.toNatClampNeg).toInt = m := ⟨_, (Int.toNat_of_nonneg (by omega)).symm⟩
  have em : (σ.1 4 r.toNatClampNeg).toInt.toNat = m := by omega
  have lu := FUi
  rw [em]
  show OK (f_X11_chosen_5 (R_X11_chosen 339).1 (R_X11_chosen 339).2 FU w r (-1) 0 σ) _
  refine bz_chosen_5 w r σ m (by omega) hw.rng hr.rng hm (fun k hk => ⟨(g3 k (by omega)).1.rng, ?_⟩) FU 0 (-1) 0 li_0 (by omega) (by omega) (by rw [li_m1]; exact CHI.zero)
  exact (b_RM 339).2 w _ σ a b d (e - 1) ha hb hP hw (g3 k (by omega)).1 (by omega)
theorem TYR.vt {n : Int} {SA IA NA SB AB MB BB : Nat → Int32} {p : Nat} {rm : Int} : ∀ (d : Nat) (x y : Int32), TYR n SA IA NA SB AB MB BB p rm d x y → VT 400 SB AB MB BB rm d y := by
  intro d
  induction d with
  | zero => intro x y h; exact h.elim
  | succ d ih =>
    intro x y h
    obtain ⟨⟨h1, h2⟩, h3, h4, h5, h6, h7, h8⟩ := h
    refine ⟨h2, h4, fun e => ih _ _ (h5 e), fun e => (h6 e).1, fun e => ?_⟩
    obtain ⟨u1, u2, u3, u4⟩ := h8 e
    exact ⟨u1, fun k hk => ⟨ih _ _ (u2 k hk).1, (u2 k hk).2⟩, u4⟩
theorem TY.vs {p d : Nat} {rm : Int} {σ τ : ST} {x u : Int32} (h : TY p rm σ τ d x u) : VS τ rm d u := (TYR.vt d x u h).wk (by decide)
theorem TY.to {p d : Nat} {rm : Int} {σ τ s t : ST} {C I : List Nat} {x u : Int32} (h : TY p rm σ τ d x u) (k : KTA σ s) (c : CH C I τ t) (hC : ∀ c, c ∈ [2, 3, 4, 5] → c ∉ C) : TY p rm s t d x u := by
  unfold TY
  rw [(k 4 (by omega) (by omega)).1, (k 15 (by omega) (by omega)).1, (k 16 (by omega) (by omega)).1, (k 17 (by omega) (by omega)).1, c.1 2 (by decide) (hC 2 (by decide)), c.1 3 (by decide) (hC 3 (by decide)), c.1 4 (by decide) (hC 4 (by decide)), c.1 5 (by decide) (hC 5 (by decide))]
  exact h
/-- a pair that may yet be gone into -/
abbrev CAN (τ : ST) (k : Nat) : Prop := τ.1 40 k = 0 ∧ (((k / 6 : Nat) : Int) < rmW τ ∧ ((k % 6 : Nat) : Int) < rmR τ) ∧ (((Int32.ofNat (k / 6)).toInt = 0 ∧ (Int32.ofNat (k % 6)).toInt = 0) ∨ τ.2.1 9 (6 * (τ.1 0 53).toNatClampNeg + (Int32.ofNat (k / 6)).toNatClampNeg) = τ.2.1 9 (6 * (τ.1 0 54).toNatClampNeg + (Int32.ofNat (k % 6)).toNatClampNeg))
def uP (τ : ST) : Nat := cntZ (CAN τ) 36
theorem CAN.back {τ t : ST} {k : Nat} (c : CH LC LI τ t) (h : CAN t k) (h40 : τ.1 40 k = 0) : CAN τ k := by
  obtain ⟨h1, ⟨h2, h3⟩, h4⟩ := h
  obtain ⟨e1, e2⟩ := rm_ch c (by decide) (by decide) (by decide)
  rw [e1] at h2
  rw [e2] at h3
  exact ⟨h40, ⟨h2, h3⟩, NYS.tr (σ := t) (t := τ) (w := Int32.ofNat (k / 6)) (r := Int32.ofNat (k % 6)) h4 c.symm (by decide) (by decide)⟩
theorem uP_le {τ t : ST} (c : CH LC LI τ t) (h : ∀ k, t.1 40 k = 0 → τ.1 40 k = 0) : uP t ≤ uP τ := cntZ_mono (p := CAN t) (q := CAN τ) (fun k hk => hk.back c (h k hk.1)) 36
theorem uP_lt {τ t : ST} (c : CH LC LI τ t) (h : ∀ k, t.1 40 k = 0 → τ.1 40 k = 0) {k : Nat} (hk : k < 36) (h1 : ¬ t.1 40 k = 0) (h2 : CAN τ k) : uP t + 1 ≤ uP τ := cntZ_lt (p := CAN t) (q := CAN τ) (fun k hk => hk.back c (h k hk.1)) (c := k) (fun h9 => h1 h9.1) h2 36 hk
/-- how far both have gone, if it matters -/
def LVB (lev : Int32) (τ : ST) (n : Nat) : Prop := (τ.1 0 61).toInt < 20 → lev.toInt = (τ.1 0 57).toInt ∧ (τ.1 0 57).toInt + n + 4 * (uP τ : Int) ≤ 29
theorem LVB.to {lev : Int32} {n : Nat} {σ τ s t : ST} (h : LVB lev τ n) (k : PWX σ τ s t) : LVB lev t n := fun h9 => by
  obtain ⟨x1, x2, x3⟩ := k.2.2.2 h9
  obtain ⟨y1, y2⟩ := h x1
  have := uP_le k.2.1 x3
  rw [x2]
  exact ⟨y1, by omega⟩
theorem LVB.inn {lev l' : Int32} {n m : Nat} {σ τ s t : ST} (h : LVB lev τ n) (k : EW σ τ s t) (hn : m + 1 ≤ n) (hl : l' = lev + 1) (h0 : (τ.1 0 61).toInt < 20 → 0 ≤ (τ.1 0 57).toInt) : LVB l' t m := fun h9 => by
  obtain ⟨e1, e2, e3, e4, e5, e6⟩ := k
  rw [e4] at h9
  obtain ⟨y1, y2⟩ := h h9
  have y6 := e6 h9
  have y0 := h0 h9
  have := uP_le e2 (fun k hk => by rw [← e5]; exact hk)
  have l1 := li_1
  have s1 := il_addE (x := lev) (y := 1) (by omega) (by omega)
  rw [hl]
  exact ⟨by omega, by omega⟩
/-- where both are -/
def STT (p q : Nat) (σ τ : ST) : Prop := PQ p q σ τ ∧ (∀ k, k < 36 → (τ.1 35 k = 0 ↔ lbt (σ.2.1 41 4) k = false)) ∧ XW σ τ
theorem CH.kr {C I : List Nat} {τ t : ST} (c : CH C I τ t) (hC : ∀ c, c ∈ [2, 3, 4, 5, 8, 10, 11, 13, 15, 16, 19] → c ∉ C) : KR τ t := KR.eq (fun d hd => c.1 d (fun e => by rw [e] at hd; revert hd; decide) (hC d hd)) (fun d hd => by
  simp only [List.mem_cons, List.not_mem_nil, or_false] at hd
  rcases hd with rfl | rfl | rfl | rfl | rfl
  · exact c.2.2.1
  · exact c.2.2.2.1
  · exact c.2.2.2.2.1
  · exact c.2.2.2.2.2.1
  · exact c.2.2.2.2.2.2)
theorem STT.to {p q : Nat} {σ τ s t : ST} (h : STT p q σ τ) (k : KWK σ s) (c : CH LC LI τ t) (x : XW s t) : STT p q s t := by
  obtain ⟨⟨a1, ⟨a2, a3⟩, ⟨a4, a5⟩, a6⟩, h2, _⟩ := h
  have kr := c.kr (by decide)
  refine ⟨⟨a1, ⟨by rw [c.2.1 53 (by decide)]; exact a2, by rw [c.2.1 54 (by decide)]; exact a3⟩, ⟨a4.keep a1.1 k.kta kr, a5.keep a1.2 k.kta kr⟩, a6.ch c (by decide) (by decide)⟩, fun j hj => ?_, x⟩
  rw [c.1 35 (by decide) (by decide), k.2.2.2.2 4 (by decide)]
  exact h2 j hj
theorem STT.sp {p q : Nat} {σ τ s t : ST} (h : STT p q σ τ) (k : PWX σ τ s t) : STT p q s t := h.to k.1 k.2.1 k.2.2.1
theorem STT.se {p q : Nat} {σ τ s t : ST} (h : STT p q σ τ) (k : EW σ τ s t) : STT p q s t := h.to k.1 k.2.1 k.2.2.1
theorem STT.n0 {p q : Nat} {σ τ : ST} (h : STT p q σ τ) : (τ.1 0 61).toInt < 20 → 0 ≤ (τ.1 0 57).toInt := fun h9 => (h.2.2.2 h9).2.1
