/-! a plan: both read the same -/
def FV (K t0 R : Nat) (τ b : ST) : Prop := (∀ c, c ∉ [0, 2, 3, 4, 5, 7, 8, 10, 11, 13, 15, 16, 19] → b.1 c = τ.1 c) ∧ (∀ i, i ∉ [4, 5, 6, 8, 10, 12, 13, 33, 34] → b.1 0 i = τ.1 0 i) ∧ (∀ j, j < t0 → b.1 2 j = τ.1 2 j ∧ b.1 3 j = τ.1 3 j ∧ b.1 4 j = τ.1 4 j) ∧ (∀ j, j < 4 * t0 → b.1 5 j = τ.1 5 j) ∧ (∀ i, i < K → b.1 8 i = τ.1 8 i) ∧ (∀ i, i < R → b.1 11 i = τ.1 11 i) ∧ (∀ i, i < 8 * R → b.1 15 i = τ.1 15 i ∧ b.1 13 i = τ.1 13 i ∧ b.1 16 i = τ.1 16 i ∧ b.1 19 i = τ.1 19 i) ∧ ((∀ i, bI (τ.1 19 i) 0 12) → ∀ i, bI (b.1 19 i) 0 12) ∧ (∀ i, i < R → b.1 10 i = τ.1 10 i) ∧ BQ R τ b
theorem FV.rf {K t0 R : Nat} {τ : ST} : FV K t0 R τ τ := ⟨fun _ _ => rfl, fun _ _ => rfl, fun _ _ => ⟨rfl, rfl, rfl⟩, fun _ _ => rfl, fun _ _ => rfl, fun _ _ => rfl, fun _ _ => ⟨rfl, rfl, rfl, rfl⟩, fun h => h, fun _ _ => rfl, BQ.rf⟩
theorem FV.trans {K t0 R K1 t1 R1 : Nat} {τ b w : ST} (h : FV K t0 R τ b) (k : FV K1 t1 R1 b w) (hK : K ≤ K1) (ht : t0 ≤ t1) (hR : R ≤ R1) : FV K t0 R τ w := ⟨fun c hc => (k.1 c hc).trans (h.1 c hc), fun i hi => (k.2.1 i hi).trans (h.2.1 i hi), fun j hj => by
  have a := h.2.2.1 j hj
  have b := k.2.2.1 j (by omega)
  exact ⟨b.1.trans a.1, b.2.1.trans a.2.1, b.2.2.trans a.2.2⟩, fun j hj => (k.2.2.2.1 j (by omega)).trans (h.2.2.2.1 j hj), fun i hi => (k.2.2.2.2.1 i (by omega)).trans (h.2.2.2.2.1 i hi), fun i hi => (k.2.2.2.2.2.1 i (by omega)).trans (h.2.2.2.2.2.1 i hi), fun i hi => by
  have a := h.2.2.2.2.2.2.1 i hi
  have b := k.2.2.2.2.2.2.1 i (by omega)
  exact ⟨b.1.trans a.1, b.2.1.trans a.2.1, b.2.2.1.trans a.2.2.1, b.2.2.2.trans a.2.2.2⟩, fun h9 => k.2.2.2.2.2.2.2.1 (h.2.2.2.2.2.2.2.1 h9), fun i hi => (k.2.2.2.2.2.2.2.2.1 i (by omega)).trans (h.2.2.2.2.2.2.2.2.1 i hi), h.2.2.2.2.2.2.2.2.2.trans k.2.2.2.2.2.2.2.2.2 hR⟩
theorem FV.weak {K t0 R K1 t1 R1 : Nat} {τ b : ST} (h : FV K1 t1 R1 τ b) (hK : K ≤ K1) (ht : t0 ≤ t1) (hR : R ≤ R1) : FV K t0 R τ b := (FV.rf (K := K) (t0 := t0) (R := R)).trans h hK ht hR
theorem FW.fv {K t0 R : Nat} {τ b : ST} (h : FW K t0 R τ b) : FV K t0 R τ b := by
  refine ⟨h.1, fun i hi => h.2.1 i (fun h9 => hi ?_), h.2.2.1, h.2.2.2.1, h.2.2.2.2.1, h.2.2.2.2.2.1, h.2.2.2.2.2.2.1, h.2.2.2.2.2.2.2⟩
  simp only [List.mem_cons, List.not_mem_nil, or_false] at h9 ⊢
  omega
theorem FV.s33 {K t0 R : Nat} {τ : ST} {v : Int32} : FV K t0 R τ (stI τ 0 33 v) := by
  refine ⟨fun c hc => stI_ne (fun e => hc (by rw [e]; decide)), fun i hi => ?_, fun _ _ => ⟨rfl, rfl, rfl⟩, fun _ _ => rfl, fun _ _ => rfl, fun _ _ => rfl, fun _ _ => ⟨rfl, rfl, rfl, rfl⟩, fun h => h, fun _ _ => rfl, BQ.rf⟩
  show upd (τ.1 0) 33 v i = _
  rw [upd_no (fun e => hi (by rw [e]; decide))]
theorem B3.fv {K t0 R : Nat} {τ b : ST} (h : B3 t0 τ b) : FV K t0 R τ b := ⟨fun c hc => h.1 c (fun e => hc (by rw [e]; decide)), fun i _ => by rw [h.1 0 (by decide)], fun j hj => ⟨by rw [h.1 2 (by decide)], h.2.1 j (.inl hj), by rw [h.1 4 (by decide)]⟩, fun j _ => by rw [h.1 5 (by decide)], fun i _ => by rw [h.1 8 (by decide)], fun i _ => by rw [h.1 11 (by decide)], fun i _ => ⟨by rw [h.1 15 (by decide)], by rw [h.1 13 (by decide)], by rw [h.1 16 (by decide)], by rw [h.1 19 (by decide)]⟩, fun h9 i => by rw [h.1 19 (by decide)]; exact h9 i, fun i _ => by rw [h.1 10 (by decide)], BQ.l0 (fun c _ => by rw [h.2.2])⟩
/-- a plan of the draft that has ended -/
def PLD (p t : Nat) (b : ST) : Prop := ∃ lo hi : Nat, (400 ≤ lo ∧ lo ≤ hi ∧ hi ≤ t) ∧ (1 ≤ (b.1 8 (6 + p)).toInt ∧ (b.1 8 (6 + p)).toInt ≤ 6) ∧ (∀ i : Nat, (i : Int) < (b.1 8 (6 + p)).toInt → bI (b.1 11 (36 + (6 * p + i))) 0 8 ∧ ∀ j : Nat, (j : Int) < (b.1 11 (36 + (6 * p + i))).toInt → VD lo hi (b.1 2) (b.1 3) (b.1 4) (b.1 5) 4 (b.1 15 (8 * (36 + (6 * p + i)) + j))) ∧ (∀ q : Nat, lo ≤ q → q < hi → (b.1 2 q).toInt = 7 → 0 ≤ (b.1 3 q).toInt ∧ (b.1 3 q).toInt < (b.1 8 (6 + p)).toInt)
theorem PLD.fv {p t t' K t1 R : Nat} {τ b : ST} (h : PLD p t τ) (hF : FV K t1 R τ b) (ht : t ≤ t1) (ht2 : t ≤ t') (hK : 6 + p < K) (hR : 36 + 6 * p + 6 ≤ R) : PLD p t' b := by
  obtain ⟨lo, hi, h1, h2, h3, h4⟩ := h
  have e8 := hF.2.2.2.2.1 (6 + p) hK
  refine ⟨lo, hi, by omega, by rw [e8]; exact h2, ?_, ?_⟩
  · rw [e8]
    intro i hi9
    have e11 := hF.2.2.2.2.2.1 (36 + (6 * p + i)) (by omega)
    rw [e11]
    obtain ⟨a1, a2⟩ := h3 i hi9
    have a3 := a1.2
    refine ⟨a1, fun j hj => ?_⟩
    rw [(hF.2.2.2.2.2.2.1 (8 * (36 + (6 * p + i)) + j) (by omega)).1]
    refine VD.ext (by omega) (Int.le_refl _) (Int.le_refl _) (fun q hq1 hq2 => ?_) _ _ (a2 j hj)
    have e := hF.2.2.1 q (by omega)
    exact ⟨e.1, fun _ => e.2.1, e.2.2, fun k hk => hF.2.2.2.1 _ (by omega)⟩
  · rw [e8]
    intro q hq1 hq2
    have e := hF.2.2.1 q (by omega)
    rw [e.1, e.2.1]
    exact h4 q hq1 hq2
/-- what of the rows of the draft is bounded -/
def M4 (t : Nat) (b : ST) : Prop := ∀ q : Nat, 400 ≤ q → q < t → 0 ≤ (b.1 4 q).toInt ∧ (b.1 4 q).toInt ≤ 4
theorem sbnd {α β : Type} {e : α} {f : α → Option β} : (some e).bind f = f e := rfl
theorem a_isKw (p0 : Int32) (σ τ : ST) (h : TK σ τ) {k : Nat} (hk : k < 15) (e : p0.toInt = k) : (W_ τ (kwV k) → f_X6_isKeyword p0 σ = some (1, σ)) ∧ (¬ W_ τ (kwV k) → f_X6_isKeyword p0 σ = some (0, σ)) := by
  obtain ⟨q, eq, h1, h2⟩ := a_isKeyword p0 σ τ h hk e
  have l0 := li_0
  have l1 := li_1
  obtain ⟨v, s⟩ := q
  have h1 : s = σ := h1
  refine ⟨fun hW => ?_, fun hW => ?_⟩
  · have hv : v.toInt = 1 := h2.elim (fun h => absurd hW h.2) (fun h => h.1)
    have ev : v = 1 := Int32.toInt_inj.mp (by omega)
    rw [eq, h1, ev]
  · have hv : v.toInt = 0 := h2.elim (fun h => h.1) (fun h => absurd h.2 hW)
    have ev : v = 0 := Int32.toInt_inj.mp (by omega)
    rw [eq, h1, ev]
theorem a_parse_it (n : Nat) (xk x2 : Int32) (σ : ST) {k m : Nat} (hxk : xk.toInt = k) (hk : k < 6) (hx2 : x2.toInt ≤ 42) (h21 : (σ.1 21 k).toInt = m) : f_X3_parse_11 (n + 1) xk x2 σ = f_X3_parse_33 (f_X3_parse_11 n) xk x2 (if m = 0 then 0 else 1) σ := by
  have l0 := li_0
  have l42 := li_42
  rw [f_X3_parse_11, if_neg (by rw [Int32.lt_iff_toInt_lt]; omega), a_recordsOf xk σ hxk hk]
  show (if σ.1 21 k ≤ 0 then _ else _) = _
  by_cases hm : m = 0
  · rw [if_pos (by rw [Int32.le_iff_toInt_le]; omega), if_pos hm]
  · rw [if_neg (by rw [Int32.le_iff_toInt_le]; omega), if_neg hm]
theorem a_parse_33 (kk : Int32 → Int32 → ST → Option (Int32 × ST)) (xk x2 y : Int32) (σ τ : ST) (hK : TK σ τ) (hxk : 0 ≤ xk.toInt) : (W_ τ v_record → f_X3_parse_33 kk xk x2 y σ = (f_X3_parseRecord xk σ).bind fun q3 => if q3.1 = 0 then some (0, q3.2) else kk xk (x2 + 1) q3.2) ∧ (¬ W_ τ v_record → f_X3_parse_33 kk xk x2 y σ = f_X3_parse_60 kk xk x2 y σ) := by
  have lm := li_m1
  have e1 : kwV 1 = v_record := rfl
  have hk := a_isKw 1 σ τ hK (k := 1) (by omega) li_1
  rw [e1] at hk
  have hn : ¬ xk = -1 := fun e => by rw [e] at hxk; omega
  refine ⟨fun hW => ?_, fun hW => ?_⟩
  · unfold f_X3_parse_33 f_X3_parse_157
    rw [if_neg hn, hk.1 hW]
    rw [sbnd]
    dsimp only
    rw [if_neg (by decide)]
  · unfold f_X3_parse_33
    rw [if_neg hn, hk.2 hW]
    rw [sbnd]
    dsimp only
    rw [if_pos rfl]
/-- the class goes on with another plan -/
def NX (n : Nat) (x1 x2 : Int32) (σ : ST) : Option (Int32 × ST) := (f_X3_beginPlan (x1 + 1) σ).bind fun q3 => if q3.1 = 0 then some (0, q3.2) else f_X3_parse_11 n (x1 + 1) (x2 + 1) q3.2
theorem a_parse_60_end (kk : Int32 → Int32 → ST → Option (Int32 × ST)) (xk x2 : Int32) (σ τ : ST) (hK : TK σ τ) (h0 : (σ.1 2 4).toInt = 0) : f_X3_parse_60 kk xk x2 1 σ = (f_X3_resolve xk σ).bind fun q1 => if q1.1 = 0 then some (0, q1.2) else some (1, q1.2) := by
  have hk := a_isKw 0 σ τ hK (k := 0) (by omega) li_0
  have hW : ¬ W_ τ (kwV 0) := fun h => by
    have := (hK.kw (k := 0) (by omega)).mp h
    omega
  have e0 : σ.1 2 4 = 0 := Int32.toInt_inj.mp h0
  have n1 : ¬ (1 : Int32) = 0 := by decide
  unfold f_X3_parse_60 f_X3_parse_79 f_X3_parse_90
  rw [if_neg n1, if_pos e0, if_neg n1, hk.2 hW]
  rw [sbnd]
  dsimp only
  rw [if_pos rfl]
  unfold f_X3_parse_105 f_X3_parse_106 f_X3_parse_127
  rw [if_neg n1]
  simp only [if_neg n1]
theorem a_parse_60_no (kk : Int32 → Int32 → ST → Option (Int32 × ST)) (xk x2 : Int32) (σ τ : ST) (hK : TK σ τ) (h0 : ¬ (σ.1 2 4).toInt = 0) (hW : ¬ W_ τ v_plan) : OK (f_X3_parse_60 kk xk x2 1 σ) (fun q => q.1.toInt = 0) := by
  have hk := a_isKw 0 σ τ hK (k := 0) (by omega) li_0
  have e1 : kwV 0 = v_plan := rfl
  rw [e1] at hk
  have e0 : ¬ σ.1 2 4 = 0 := fun e => h0 (by rw [e]; exact li_0)
  have n1 : ¬ (1 : Int32) = 0 := by decide
  unfold f_X3_parse_60 f_X3_parse_78 f_X3_parse_79 f_X3_parse_90
  rw [if_neg n1, if_neg e0, if_neg n1, hk.2 hW]
  rw [sbnd]
  dsimp only
  rw [if_pos rfl]
  unfold f_X3_parse_105 f_X3_parse_106
  rw [if_pos rfl, if_pos rfl]
  refine OK.bnd (a_refuse _ _) (fun q hq => ?_)
  exact OK.grd (b01 (.inl hq)) (OK.ret hq)
theorem a_parse_60_nx (n : Nat) (xk x2 : Int32) (σ τ : ST) (hK : TK σ τ) (hW : W_ τ v_plan) : f_X3_parse_60 (f_X3_parse_11 n) xk x2 1 σ = (f_X3_resolve xk σ).bind fun q1 => if q1.1 = 0 then some (0, q1.2) else NX n xk x2 q1.2 := by
  have hk := a_isKw 0 σ τ hK (k := 0) (by omega) li_0
  have e1 : kwV 0 = v_plan := rfl
  have kA := (hK.kw (k := 0) (by omega)).mp (by rw [e1]; exact hW)
  rw [e1] at hk
  have e0 : ¬ σ.1 2 4 = 0 := fun e => by
    rw [e] at kA
    have := kA.1
    revert this
    decide
  have n1 : ¬ (1 : Int32) = 0 := by decide
  unfold f_X3_parse_60 f_X3_parse_78 f_X3_parse_79 f_X3_parse_90
  rw [if_neg n1, if_neg e0, if_neg n1, hk.1 hW]
  rw [sbnd]
  dsimp only
  rw [if_neg n1]
  unfold f_X3_parse_106 f_X3_parse_127 f_X3_parse_157
  rw [if_pos rfl, if_neg n1]
  rfl
theorem a_parse_0 (kk : Int32 → Int32 → ST → Option (Int32 × ST)) (xk x2 : Int32) (σ : ST) (hxk : 0 ≤ xk.toInt) : OK (f_X3_parse_60 kk xk x2 0 σ) (fun q => q.1.toInt = 0) := by
  have lm := li_m1
  have hn : ¬ xk = -1 := fun e => by rw [e] at hxk; omega
  unfold f_X3_parse_60 f_X3_parse_78 f_X3_parse_79 f_X3_parse_105 f_X3_parse_106
  rw [if_pos rfl, if_pos rfl, if_neg hn, if_pos rfl, if_pos rfl]
  refine OK.bnd (a_refuse _ _) (fun q hq => ?_)
  exact OK.grd (b01 (.inl hq)) (OK.ret hq)
/-- a plan so far, at a token -/
def PST (P lo t k m : Nat) (σ τ : ST) : Prop := PB_ P lo t k m σ τ ∧ BR_ lo t k m τ ∧ ((σ.1 21 k).toInt = m ∧ (τ.1 8 (6 + k)).toInt = m) ∧ LX σ τ ∧ 4 * ((t : Int) - 400) ≤ (τ.1 0 4).toInt
/-- the rows of both, with their records -/
def RSD (p lo hi : Nat) (rm : Int) (a b : ST) : Prop := ∀ j : Nat, lo ≤ j → j < hi → a.1 31 (j + (p + 1) - 400) = b.1 2 j ∧ ((b.1 2 j).toInt = 8 → (a.1 32 (j + (p + 1) - 400)).toInt = (b.1 5 (4 * j)).toInt + (p + 1 : Nat) - 400) ∧ ((b.1 2 j).toInt = 7 → (0 ≤ (b.1 3 j).toInt ∧ (b.1 3 j).toInt < rm) ∧ (a.1 32 (j + (p + 1) - 400)).toInt = 6 * (p : Int) + (b.1 3 j).toInt) ∧ 0 ≤ (b.1 4 j).toInt ∧ (b.1 4 j).toInt ≤ 4
/-- a plan of both drafts, side by side -/
def FPA (p t : Nat) (σ τ : ST) : Prop := ∃ lo hi : Nat, (400 ≤ lo ∧ lo ≤ hi ∧ hi ≤ t ∧ hi ≤ 650) ∧ (σ.1 21 p = τ.1 8 (6 + p) ∧ (1 ≤ (σ.1 21 p).toInt ∧ (σ.1 21 p).toInt ≤ 6)) ∧ ((σ.1 22 p).toInt = (lo : Int) + p - 400 ∧ (σ.1 31 (lo + p - 400)).toInt = 7 ∧ (σ.1 32 (lo + p - 400)).toInt = 6 * (p : Int)) ∧ RSD p lo hi (σ.1 21 p).toInt σ τ ∧ RX (p + 1) lo hi σ τ ∧ ∀ i : Nat, (i : Int) < (σ.1 21 p).toInt → (WL (σ.2.1 24 (6 * p + i)) (τ.2.1 9 (36 + (6 * p + i))) ∧ DNM (σ.2.1 24) (6 * p) i) ∧ RLEN (σ.2.1 24 (6 * p + i)) (τ.1 10 (36 + (6 * p + i))) ∧ (σ.1 23 (6 * p + i) = τ.1 11 (36 + (6 * p + i)) ∧ bI (τ.1 11 (36 + (6 * p + i))) 0 8) ∧ FRL (p + 1) hi (6 * p + i) (τ.1 11 (36 + (6 * p + i))).toInt.toNat σ τ ∧ ∀ j : Nat, (j : Int) < (τ.1 11 (36 + (6 * p + i))).toInt → VD lo hi (τ.1 2) (τ.1 3) (τ.1 4) (τ.1 5) 4 (τ.1 15 (8 * (36 + (6 * p + i)) + j))
theorem FPA.keep {p t k c t0 t' : Nat} {σ τ a b : ST} (h : FPA p t σ τ) (hp : p < k) (hA : AP k c σ a) (hF : FV (6 + k) t0 (36 + 6 * k) τ b) (ht : t ≤ t0) (ht2 : t ≤ t') (hc : t + (p + 1) - 400 ≤ c) : FPA p t' a b := by
  obtain ⟨lo, hi, h1, ⟨h2, h3⟩, ⟨h4, h5, h6⟩, h7, h8, h9⟩ := h
  have e1 := hA.1 p hp
  have hQ := hF.2.2.2.2.2.2.2.2.2
  by_cases hlh : hi = lo
  · refine ⟨lo, hi, by omega, ⟨by rw [e1.1, hF.2.2.2.2.1 (6 + p) (by omega)]; exact h2, by rw [e1.1]; exact h3⟩, ?_, fun j _ _ => by omega, fun j _ _ => by omega, ?_⟩
    · have e2 := hA.2.2.2 (lo + p - 400) (by omega)
      rw [e1.2, e2.1, e2.2.1]
      exact ⟨h4, h5, h6⟩
    · rw [e1.1]
      intro i hi9
      obtain ⟨x1, x2, ⟨x3, x4⟩, x5, x6⟩ := h9 i hi9
      have e2 := hA.2.1 (6 * p + i) (by omega)
      have x7 := x4.2
      have xd : DNM (a.2.1 24) (6 * p) i := fun j hj => by
        rw [(hA.2.1 (6 * p + j) (by omega)).2.1, e2.2.1]
        exact x1.2 j hj
      rw [e2.1, e2.2.1, hQ.1 _ (by omega), hF.2.2.2.2.2.1 (36 + (6 * p + i)) (by omega), hF.2.2.2.2.2.2.2.2.1 (36 + (6 * p + i)) (by omega)]
      refine ⟨⟨x1.1, xd⟩, x2, ⟨x3, x4⟩, x5.ext (Nat.le_refl _) e2.2.2 (fun w hw => hA.2.2.1 _ (by omega)) (fun w hw => hF.2.2.2.2.2.2.1 _ (by omega)) (fun w hw => hQ.2 _ (by omega)) (fun w hw => (hF.2.2.1 w (by omega)).1) (fun w hw => hF.2.2.2.1 w (by omega)), fun j hj => ?_⟩
      have := (x6 j hj).rng
      omega
  have rA : ∀ j : Nat, lo ≤ j → j < hi → a.1 31 (j + (p + 1) - 400) = σ.1 31 (j + (p + 1) - 400) ∧ a.1 32 (j + (p + 1) - 400) = σ.1 32 (j + (p + 1) - 400) ∧ a.1 33 (j + (p + 1) - 400) = σ.1 33 (j + (p + 1) - 400) := fun j j1 j2 => hA.2.2.2 _ (by omega)
  have rB : ∀ j : Nat, j < hi → b.1 2 j = τ.1 2 j ∧ b.1 3 j = τ.1 3 j ∧ b.1 4 j = τ.1 4 j := fun j j2 => hF.2.2.1 j (by omega)
  have rC : ∀ j : Nat, j < 4 * hi → b.1 5 j = τ.1 5 j := fun j j2 => hF.2.2.2.1 j (by omega)
  refine ⟨lo, hi, by omega, ⟨by rw [e1.1, hF.2.2.2.2.1 (6 + p) (by omega)]; exact h2, by rw [e1.1]; exact h3⟩, ?_, ?_, ?_, ?_⟩
  · have e2 := hA.2.2.2 (lo + p - 400) (by omega)
    rw [e1.2, e2.1, e2.2.1]
    exact ⟨h4, h5, h6⟩
  · rw [e1.1]
    intro j j1 j2
    obtain ⟨r1, r2, r3⟩ := rA j j1 j2
    obtain ⟨s1, s2, s3⟩ := rB j j2
    rw [r1, r2, s1, s2, s3, rC _ (by omega)]
    exact h7 j j1 j2
  · exact h8.ext (fun j j1 j2 => (h7 j j1 j2).2.2.2.2) (fun j j1 j2 _ => (rA j j1 j2).2.1) (fun j j1 j2 => (rA j (by omega) j2).2.2) (fun j j1 j2 => ⟨(rB j j2).1, fun _ => (rB j j2).2.1, (rB j j2).2.2, fun k hk => rC _ (by omega)⟩)
  · rw [e1.1]
    intro i hi9
    obtain ⟨x1, x2, ⟨x3, x4⟩, x5, x6⟩ := h9 i hi9
    have e2 := hA.2.1 (6 * p + i) (by omega)
    have x7 := x4.2
    have xd : DNM (a.2.1 24) (6 * p) i := fun j hj => by
      rw [(hA.2.1 (6 * p + j) (by omega)).2.1, e2.2.1]
      exact x1.2 j hj
    rw [e2.1, e2.2.1, hQ.1 _ (by omega), hF.2.2.2.2.2.1 (36 + (6 * p + i)) (by omega), hF.2.2.2.2.2.2.2.2.1 (36 + (6 * p + i)) (by omega)]
    refine ⟨⟨x1.1, xd⟩, x2, ⟨x3, x4⟩, x5.ext (Nat.le_refl _) e2.2.2 (fun w hw => hA.2.2.1 _ (by omega)) (fun w hw => hF.2.2.2.2.2.2.1 _ (by omega)) (fun w hw => hQ.2 _ (by omega)) (fun w hw => (rB w hw).1) (fun w hw => rC w hw), fun j hj => ?_⟩
    rw [(hF.2.2.2.2.2.2.1 (8 * (36 + (6 * p + i)) + j) (by omega)).1]
    exact VD.ext (by omega) (Int.le_refl _) (Int.le_refl _) (fun q q1 q2 => ⟨(rB q (by omega)).1, fun _ => (rB q (by omega)).2.1, (rB q (by omega)).2.2, fun k hk => rC _ (by omega)⟩) _ _ (x6 j hj)
/-- a plan has ended on both sides -/
def PLE (P t k : Nat) (σ0 : ST) (A : Option (Int32 × ST)) (b : ST) : Prop := ∃ t1 : Nat, (t ≤ t1 ∧ t1 ≤ 650) ∧ PLD k t1 b ∧ (b.1 0 34).toInt = t1 ∧ (∀ q : Nat, t ≤ q → q < t1 → 0 ≤ (b.1 4 q).toInt ∧ (b.1 4 q).toInt ≤ 4) ∧
  (((b.1 0 6).toInt = 0 ∧ OK A (fun qa => qa.1.toInt = 1 ∧ (qa.2.1 20 0).toInt = P ∧ (qa.2.1 20 1).toInt = (t1 : Int) + P - 400 ∧ AP k (t + k - 400) σ0 qa.2 ∧ FPA k t1 qa.2 b)) ∨
   (∃ (n : Nat) (xk x2 : Int32) (σ : ST), W_ b v_plan ∧ A = NX n xk x2 σ ∧ LX σ b ∧ xk.toInt = k ∧ (σ.1 20 1).toInt = (t1 : Int) + P - 400 ∧ 4 * ((t1 : Int) - 400) ≤ (b.1 0 4).toInt ∧ (0 ≤ x2.toInt ∧ x2.toInt ≤ 7 * (k : Int) + 7) ∧ 42 < (n : Int) + 1 + x2.toInt ∧ AP k (t + k - 400) σ0 σ ∧ FPA k t1 σ b))
def PLO (P lo k : Nat) (σ0 τ : ST) (A : Option (Int32 × ST)) (z : (Int32 × ST) × Nat) : Prop := FV (6 + k) lo (36 + 6 * k) τ z.1.2 ∧
  ((z.1.1.toInt = 0 ∧ OK A (fun qa => qa.1.toInt = 0) ∧ z.2 + 40 * uT z.1.2 ≤ 40 * uT τ + 26) ∨
   (z.1.1.toInt = 1 ∧ PLE P lo k σ0 A z.1.2 ∧ z.1.2.1 0 33 = τ.1 0 33 + 1 ∧ z.2 + 40 * uT z.1.2 ≤ 40 * uT τ + 3))
