/-! the class's relation of two plans: the reference's pairs -/
def K41 (σ s : ST) : Prop := s.1 = σ.1 ∧ s.2.2 = σ.2.2 ∧ (∀ c, c ≠ 41 → s.2.1 c = σ.2.1 c) ∧ ∀ i, i ≠ 4 → s.2.1 41 i = σ.2.1 41 i
theorem K41.rf {σ : ST} : K41 σ σ := ⟨rfl, rfl, fun _ _ => rfl, fun _ _ => rfl⟩
theorem K41.trans {a b c : ST} (h : K41 a b) (k : K41 b c) : K41 a c := ⟨k.1.trans h.1, k.2.1.trans h.2.1, fun d hd => (k.2.2.1 d hd).trans (h.2.2.1 d hd), fun i hi => (k.2.2.2 i hi).trans (h.2.2.2 i hi)⟩
theorem K41.l {σ : ST} {v : Int64} : K41 σ (stL σ 41 4 v) := ⟨rfl, rfl, fun c hc => stL_ne hc, fun i hi => by
  show vp_updL (σ.2.1 41) 4 v i = _
  rw [updL_no hi]⟩
theorem stL_at {σ : ST} {c i : Nat} {v : Int64} : (stL σ c i v).2.1 c i = v := by
  show (bif Nat.beq c c then vp_updL (σ.2.1 c) i v else σ.2.1 c) i = v
  rw [Nat.beq_refl]
  exact updL_at
theorem cntZ_eq {p q : Nat → Prop} [DecidablePred p] [DecidablePred q] : ∀ n : Nat, (∀ k, k < n → (p k ↔ q k)) → cntZ p n = cntZ q n := by
  intro n
  induction n with
  | zero => intro _; rfl
  | succ n ih =>
    intro h
    show cntZ p n + (if p n then 1 else 0) = cntZ q n + (if q n then 1 else 0)
    rw [ih (fun k hk => h k (by omega))]
    have hn := h n (by omega)
    by_cases e : p n
    · rw [if_pos e, if_pos (hn.mp e)]
    · rw [if_neg e, if_neg (fun h9 => e (hn.mpr h9))]
theorem K41.kta {σ s : ST} (h : K41 σ s) : KTA σ s := fun c h1 h2 => ⟨by rw [h.1], h.2.2.1 c (by omega)⟩
theorem KR.self {s : ST} : KR s s := KR.rf
theorem PQ.keep {p q : Nat} {σ s τ : ST} (h : PQ p q σ τ) (k : KTA σ s) : PQ p q s τ := ⟨h.1, h.2.1, ⟨h.2.2.1.1.keep h.1.1 k KR.rf, h.2.2.1.2.keep h.1.2 k KR.rf⟩, h.2.2.2⟩
def cnL (L : Int64) : Nat := cntZ (fun k => lbt L k = true) 36
/-- the pairs so far: in the tables' range, none wanting -/
def IVL (p q : Nat) (τ : ST) (L : Int64) : Prop := ∀ a b : Nat, a < 6 → b < 6 → lbt L (6 * a + b) = true → ((a : Int) < (τ.1 8 p).toInt ∧ (b : Int) < (τ.1 8 q).toInt) ∧ NYS τ (Int32.ofNat a) (Int32.ofNat b)
def JRL (p q : Nat) (L0 : Int64) (w r : Nat) (s τ : ST) : Prop := PQ p q s τ ∧ IVL p q τ (s.2.1 41 4) ∧ GMX τ (RBX (s.2.1 41 4)) ∧ (s.2.1 41 4 = L0 ∧ (∀ a b : Nat, a < 6 → b < 6 → (a < w ∨ a = w ∧ b < r) → lbt (s.2.1 41 4) (6 * a + b) = true → HXP τ (RBX (s.2.1 41 4)) (Int32.ofNat a) (Int32.ofNat b)) ∨ cnL (s.2.1 41 4) + 1 ≤ cnL L0)
theorem ar_121 {p q : Nat} {τ : ST} {L0 : Int64} {k87 : Int32 → Int32 → Int64 → Int32 → ST → Option ST} {k111 : Int32 → Int32 → Int64 → Int32 → Int32 → ST → Option ST} {P : ST → Prop} (x1 x2 : Int32) (x3 : Int64) (x5 x6 : Int32) (w : Nat) (h1 : x1.toInt = p) (h2 : x2.toInt = q) (h6 : x6.toInt = w) (hw : w < 6) : ∀ (n r : Nat) (x7 : Int32) (s : ST), x7.toInt = r → r ≤ 6 → 6 < n + r → JRL p q L0 w r s τ → (∀ t, K41 s t → JRL p q L0 (w + 1) 0 t τ → OK (k111 x1 x2 x3 x5 (x6 + 1) t) P) → OK (f_X0_relate_121 k87 k111 n x1 x2 x3 x5 x6 x7 s) P := by
  intro n
  have l1 := li_1
  have l0 := li_0
  have l6 := li_6
  induction n with
  | zero => intro r x7 s h7 h8 h9; omega
  | succ n ih =>
    intro r x7 s h7 hr hn hJ hk
    rw [f_X0_relate_121]
    unfold f_X0_relate_186
    obtain ⟨hPQ, hV, hG, hD⟩ := hJ
    by_cases er : r = 6
    · subst er
      refine OK.ile (fun _ => ?_) (fun h => by omega)
      refine hk s K41.rf ⟨hPQ, hV, hG, ?_⟩
      rcases hD with ⟨d1, d2⟩ | hD
      · exact .inl ⟨d1, fun a b ha hb hab => d2 a b ha hb (by omega)⟩
      · exact .inr hD
    refine OK.ile (fun h => by omega) (fun _ => ?_)
    have e7 := il_addE (x := x7) (y := 1) (by omega) (by omega)
    have hp6 := hPQ.1.1
    have hq6 := hPQ.1.2
    have ek : 6 * (w % 6) + r % 6 = 6 * w + r := by omega
    have hbit := a_bitOf x6 x7 s (a := w) (b := r) h6 h7 (by omega) (by omega)
    rw [ek] at hbit
    rw [hbit, sbnd]
    dsimp only
    have iw := ofNatI (w := w) (by omega)
    have ir := ofNatI (w := r) (by omega)
    have nw : (Int32.ofNat w).toNatClampNeg = w := nC iw
    have nr : (Int32.ofNat r).toNatClampNeg = r := nC ir
    refine OK.ite (fun hb => ?_) (fun hb => ?_)
    · rw [a_has (by omega)] at hb
      refine ih (r + 1) (x7 + 1) s (by omega) (by omega) (by omega) ⟨hPQ, hV, hG, ?_⟩ hk
      rcases hD with ⟨d1, d2⟩ | hD
      · refine .inl ⟨d1, fun a b ha hb' hab h9 => ?_⟩
        by_cases e : a = w ∧ b = r
        · rw [e.1, e.2] at h9
          rw [hb] at h9
          cases h9
        · exact d2 a b ha hb' (by omega) h9
      · exact .inr hD
    · rw [a_has (by omega)] at hb
      have hb1 : lbt (s.2.1 41 4) (6 * w + r) = true := by
        cases e : lbt (s.2.1 41 4) (6 * w + r) with
        | true => rfl
        | false => exact absurd e hb
      obtain ⟨⟨v1, v2⟩, v3⟩ := hV w r hw (by omega) hb1
      have m1 : (x1 * 6).toInt = 6 * x1.toInt := by
        rw [Int32.mul_comm]
        exact mlE (k := 6) (y := x1) 6 l6 (by omega) (by omega)
      have m2 : (x2 * 6).toInt = 6 * x2.toInt := by
        rw [Int32.mul_comm]
        exact mlE (k := 6) (y := x2) 6 l6 (by omega) (by omega)
      have m3 := il_addE (x := x1 * 6) (y := x6) (by omega) (by omega)
      have m4 := il_addE (x := x2 * 6) (y := x7) (by omega) (by omega)
      refine OK.bndR (ab_fieldsFit hPQ (PR := RBX (s.2.1 41 4)) (fun k _ => RBX_iff) (x1 * 6 + x6) (x2 * 6 + x7) (Int32.ofNat w) (Int32.ofNat r) w r v1 v2 (by omega) (by omega) iw ir) (fun z hz => ?_)
      dsimp only
      refine OK.ieq (fun hz0 => ?_) (fun hz0 => ?_)
      · have hno : ¬ HXP τ (RBX (s.2.1 41 4)) (Int32.ofNat w) (Int32.ofNat r) := by
          rcases hz with hz | hz
          · exact hz.2
          · omega
        rw [hbit, sbnd]
        dsimp only
        have ev : (stL s 41 4 (s.2.1 41 4 &&& (lb1 (6 * w + r) ^^^ -1))).2.1 41 4 = (s.2.1 41 4 &&& (lb1 (6 * w + r) ^^^ -1)) := stL_at
        have kk : K41 s (stL s 41 4 (s.2.1 41 4 &&& (lb1 (6 * w + r) ^^^ -1))) := K41.l
        have hoff : ∀ j, j < 64 → lbt (s.2.1 41 4 &&& (lb1 (6 * w + r) ^^^ -1)) j = (lbt (s.2.1 41 4) j && !decide (j = 6 * w + r)) := fun j hj => lbt_off (by omega) hj
        generalize stL s 41 4 (s.2.1 41 4 &&& (lb1 (6 * w + r) ^^^ -1)) = t at ev kk ⊢
        generalize (s.2.1 41 4 &&& (lb1 (6 * w + r) ^^^ -1)) = L' at ev hoff
        have hsub : ∀ j, j < 36 → lbt L' j = true → lbt (s.2.1 41 4) j = true ∧ ¬ j = 6 * w + r := fun j hj h9 => by
          rw [hoff j (by omega)] at h9
          simpa using h9
        have hcn : cnL L' + 1 ≤ cnL (s.2.1 41 4) := by
          have := cntZ_lt (p := fun k => k < 36 ∧ lbt L' k = true) (q := fun k => k < 36 ∧ lbt (s.2.1 41 4) k = true) (fun k hk => ⟨hk.1, (hsub k hk.1 hk.2).1⟩) (c := 6 * w + r) (fun h9 => (hsub _ h9.1 h9.2).2 rfl) ⟨by omega, hb1⟩ 36 (by omega)
          have z : ∀ M : Int64, cnL M = cntZ (fun k => k < 36 ∧ lbt M k = true) 36 := fun M => cntZ_eq 36 (fun k hk => ⟨fun h => ⟨hk, h⟩, fun h => h.2⟩)
          rw [z, z]
          exact this
        refine ih (r + 1) (x7 + 1) t (by omega) (by omega) (by omega) ⟨hPQ.keep kk.kta, ?_, ?_, ?_⟩ (fun u hu => hk u (kk.trans hu))
        · rw [ev]
          exact fun a b ha hb' h9 => hV a b ha hb' (hsub _ (by omega) h9).1
        · rw [ev]
          intro Q hQ k hk' h9
          have h8 := hG Q hQ k hk' h9
          intro h7'
          apply h8
          rw [RBX_iff] at h7' ⊢
          rw [hoff k (by omega)] at h7'
          by_cases e : k = 6 * w + r
          · exfalso
            rw [e] at h9
            have n1 : 6 * (Int32.ofNat w).toNatClampNeg + (Int32.ofNat r).toNatClampNeg = 6 * w + r := by rw [nw, nr]
            obtain ⟨y1, y2, y3⟩ := hQ (Int32.ofNat w) (Int32.ofNat r) (by omega) (by omega) (by omega) (by omega) (by rw [n1]; exact h9)
            have hrm := hPQ.rm
            exact hno (y3.mono hPQ.2.2.2 (wrec_i (by omega) y1.1) (rrec_i (by omega) y1.2) (fun k hk h => hG Q hQ k hk h))
          · simpa [e] using h7'
        · rw [ev]
          rcases hD with ⟨d1, _⟩ | hD
          · rw [← d1]
            exact .inr hcn
          · exact .inr (by omega)
      · have hyes : HXP τ (RBX (s.2.1 41 4)) (Int32.ofNat w) (Int32.ofNat r) := by
          rcases hz with hz | hz
          · omega
          · exact hz.2
        refine ih (r + 1) (x7 + 1) s (by omega) (by omega) (by omega) ⟨hPQ, hV, hG, ?_⟩ hk
        rcases hD with ⟨d1, d2⟩ | hD
        · refine .inl ⟨d1, fun a b ha hb' hab h9 => ?_⟩
          by_cases e : a = w ∧ b = r
          · rw [e.1, e.2]
            exact hyes
          · exact d2 a b ha hb' (by omega) h9
        · exact .inr hD
theorem ar_111 {p q : Nat} {τ : ST} {L0 : Int64} {k87 : Int32 → Int32 → Int64 → Int32 → ST → Option ST} {P : ST → Prop} (x1 x2 : Int32) (x3 : Int64) (x5 : Int32) (h1 : x1.toInt = p) (h2 : x2.toInt = q) : ∀ (n w : Nat) (x6 : Int32) (s : ST), x6.toInt = w → w ≤ 6 → 6 < n + w → JRL p q L0 w 0 s τ → (∀ t, K41 s t → JRL p q L0 6 0 t τ → OK (k87 x1 x2 x3 (x5 + 1) t) P) → OK (f_X0_relate_111 k87 n x1 x2 x3 x5 x6 s) P := by
  intro n
  have l1 := li_1
  have l0 := li_0
  have l6 := li_6
  have lu := FUi
  induction n with
  | zero => intro w x6 s h7 h8 h9; omega
  | succ n ih =>
    intro w x6 s h6 hw hn hJ hk
    rw [f_X0_relate_111]
    by_cases ew : w = 6
    · subst ew
      refine OK.ile (fun _ => hk s K41.rf hJ) (fun h => by omega)
    refine OK.ile (fun h => by omega) (fun _ => ?_)
    have e7 := il_addE (x := x6) (y := 1) (by omega) (by omega)
    exact ar_121 x1 x2 x3 x5 x6 w h1 h2 h6 (by omega) FU 0 0 s l0 (by omega) (by omega) hJ (fun t kt hJt => ih (w + 1) (x6 + 1) t (by omega) (by omega) (by omega) hJt (fun u ku hJu => hk u (kt.trans ku) hJu))
theorem ar_psx {p q : Nat} {s τ : ST} {L : Int64} (hPQ : PQ p q s τ) (hV : IVL p q τ L) (hH : ∀ a b : Nat, a < 6 → b < 6 → lbt L (6 * a + b) = true → HXP τ (RBX L) (Int32.ofNat a) (Int32.ofNat b)) : PSX τ (RBX L) := by
  intro w r a1 a2 a3 a4 a5
  obtain ⟨a, ea⟩ : ∃ a : Nat, w.toInt = a := ⟨_, (Int.toNat_of_nonneg a1).symm⟩
  obtain ⟨b, eb⟩ : ∃ b : Nat, r.toInt = b := ⟨_, (Int.toNat_of_nonneg a3).symm⟩
  have e1 : w = Int32.ofNat a := intOf ea (by omega)
  have e2 : r = Int32.ofNat b := intOf eb (by omega)
  have n1 : w.toNatClampNeg = a := nC ea
  have n2 : r.toNatClampNeg = b := nC eb
  rw [n1, n2] at a5
  have hb : lbt L (6 * a + b) = true := by
    cases e : lbt L (6 * a + b) with
    | true => rfl
    | false => exact absurd (RBX_iff.mpr e) a5
  obtain ⟨⟨v1, v2⟩, v3⟩ := hV a b (by omega) (by omega) hb
  have hrm := hPQ.rm
  have h9 := hH a b (by omega) (by omega) hb
  rw [e1, e2]
  have iw := ofNatI (w := a) (by omega)
  have ir := ofNatI (w := b) (by omega)
  exact ⟨⟨by omega, by omega⟩, v3, h9⟩
theorem ar_87 {p q : Nat} {τ : ST} (x1 x2 : Int32) (h1 : x1.toInt = p) (h2 : x2.toInt = q) : ∀ (n : Nat) (x3 : Int64) (x5 : Int32) (s : ST), 0 ≤ x5.toInt → x5.toInt ≤ 37 → (38 : Int) - x5.toInt < n → PQ p q s τ → IVL p q τ (s.2.1 41 4) → GMX τ (RBX (s.2.1 41 4)) → (PSX τ (RBX (s.2.1 41 4)) ∧ s.2.1 41 4 = x3 ∨ ¬ s.2.1 41 4 = x3 ∧ x5.toInt + cnL (s.2.1 41 4) ≤ 36) → OK (f_X0_relate_87 n x1 x2 x3 x5 s) (fun t => K41 s t ∧ GFX τ (RBX (t.2.1 41 4))) := by
  intro n
  have l1 := li_1
  have l0 := li_0
  have l36 := li_36
  have lu := FUi
  induction n with
  | zero => intro x3 x5 s a b c; omega
  | succ n ih =>
    intro x3 x5 s a b c hPQ hV hG hD
    rw [f_X0_relate_87]
    have e5 := il_addE (x := x5) (y := 1) (by omega) (by omega)
    refine OK.ilt (fun h => ?_) (fun h => ?_)
    · refine OK.ret ⟨K41.rf, ?_, hG⟩
      rcases hD with hD | hD
      · exact hD.1
      · omega
    refine OK.ite (fun h9 => ?_) (fun h9 => ?_)
    · rw [lg_cmp_eq] at h9
      refine OK.ret ⟨K41.rf, ?_, hG⟩
      rcases hD with hD | hD
      · exact hD.1
      · exact absurd h9 hD.1
    · rw [lg_cmp_eq] at h9
      have hD : ¬ s.2.1 41 4 = x3 ∧ x5.toInt + cnL (s.2.1 41 4) ≤ 36 := by
        rcases hD with hD | hD
        · exact absurd hD.2 h9
        · exact hD
      refine ar_111 x1 x2 (s.2.1 41 4) x5 h1 h2 FU 0 0 s l0 (by omega) (by omega) ⟨hPQ, hV, hG, .inl ⟨rfl, fun a b ha hb h => by omega⟩⟩ (fun t kt hJ => ?_)
      obtain ⟨tPQ, tV, tG, tD⟩ := hJ
      refine (ih (s.2.1 41 4) (x5 + 1) t (by omega) (by omega) (by omega) tPQ tV tG ?_).mono (fun u hu => ⟨kt.trans hu.1, hu.2⟩)
      rcases tD with ⟨d1, d2⟩ | d
      · exact .inl ⟨ar_psx tPQ tV (fun a b ha hb => d2 a b ha hb (by omega)), d1⟩
      · refine .inr ⟨fun e => ?_, by omega⟩
        rw [e] at d
        omega
def IVI (p q : Nat) (w r : Nat) (τ : ST) (L : Int64) : Prop := ∀ a b : Nat, a < 6 → b < 6 → (lbt L (6 * a + b) = true ↔ (a < w ∨ a = w ∧ b < r) ∧ ((a : Int) < (τ.1 8 p).toInt ∧ (b : Int) < (τ.1 8 q).toInt) ∧ NYS τ (Int32.ofNat a) (Int32.ofNat b))
theorem ar_22 {p q : Nat} {τ : ST} {k7 : Int32 → Int32 → Int32 → ST → Option ST} {P : ST → Prop} (x1 x2 x3 : Int32) (w : Nat) (h1 : x1.toInt = p) (h2 : x2.toInt = q) (h3 : x3.toInt = w) (hw : (w : Int) < (τ.1 8 p).toInt) : ∀ (n r : Nat) (x4 : Int32) (s : ST), x4.toInt = r → (r : Int) ≤ (τ.1 8 q).toInt → 7 < n + r → PQ p q s τ → IVI p q w r τ (s.2.1 41 4) → (∀ t, K41 s t → PQ p q t τ → IVI p q (w + 1) 0 τ (t.2.1 41 4) → OK (k7 x1 x2 (x3 + 1) t) P) → OK (f_X0_relate_22 k7 n x1 x2 x3 x4 s) P := by
  intro n
  have l1 := li_1
  have l0 := li_0
  have l6 := li_6
  induction n with
  | zero =>
    intro r x4 s h7 h8 h9 hPQ
    have := hPQ.2.2.1.2.cnt
    omega
  | succ n ih =>
    intro r x4 s h4 hr hn hPQ hI hk
    rw [f_X0_relate_22]
    unfold f_X0_relate_70
    have cP := hPQ.2.2.1.1.cnt
    have cQ := hPQ.2.2.1.2.cnt
    have hp6 := hPQ.1.1
    have hq6 := hPQ.1.2
    rw [a4_recordsOf x2 s h2 hq6, sbnd]
    dsimp only
    rw [cQ.1]
    refine OK.ile (fun h => ?_) (fun h => ?_)
    · refine hk s K41.rf hPQ (fun a b ha hb => ?_)
      rw [hI a b ha hb]
      exact ⟨fun h => ⟨by omega, h.2⟩, fun h => ⟨by omega, h.2⟩⟩
    have e4 := il_addE (x := x4) (y := 1) (by omega) (by omega)
    have m1 : (x1 * 6).toInt = 6 * x1.toInt := by
      rw [Int32.mul_comm]
      exact mlE (k := 6) (y := x1) 6 l6 (by omega) (by omega)
    have m2 : (x2 * 6).toInt = 6 * x2.toInt := by
      rw [Int32.mul_comm]
      exact mlE (k := 6) (y := x2) 6 l6 (by omega) (by omega)
    have m3 := il_addE (x := x1 * 6) (y := x3) (by omega) (by omega)
    have m4 := il_addE (x := x2 * 6) (y := x4) (by omega) (by omega)
    have iw := ofNatI (w := w) (by omega)
    have ir := ofNatI (w := r) (by omega)
    refine OK.bndR (ab_mayPair hPQ (x1 * 6 + x3) (x2 * 6 + x4) (Int32.ofNat w) (Int32.ofNat r) w r hw (by omega) (by omega) (by omega) iw ir) (fun z hz => ?_)
    dsimp only
    refine OK.ieq (fun hz0 => ?_) (fun hz0 => ?_)
    · refine ih (r + 1) (x4 + 1) s (by omega) (by omega) (by omega) hPQ (fun a b ha hb => ?_) hk
      rw [hI a b ha hb]
      by_cases e : a = w ∧ b = r
      · obtain ⟨rfl, rfl⟩ := e
        refine ⟨fun h => by omega, fun h => ?_⟩
        rcases hz with hz | hz
        · exact absurd h.2.2 hz.2
        · omega
      · exact ⟨fun h => ⟨by omega, h.2⟩, fun h => ⟨by omega, h.2⟩⟩
    · have hN : NYS τ (Int32.ofNat w) (Int32.ofNat r) := by
        rcases hz with hz | hz
        · omega
        · exact hz.2
      have ek : 6 * (w % 6) + r % 6 = 6 * w + r := by omega
      have hbit := a_bitOf x3 x4 s (a := w) (b := r) h3 h4 (by omega) (by omega)
      rw [ek] at hbit
      rw [hbit, sbnd]
      dsimp only
      have ev : (stL s 41 4 (s.2.1 41 4 ||| lb1 (6 * w + r))).2.1 41 4 = (s.2.1 41 4 ||| lb1 (6 * w + r)) := stL_at
      have kk : K41 s (stL s 41 4 (s.2.1 41 4 ||| lb1 (6 * w + r))) := K41.l
      have hon : ∀ j, lbt (s.2.1 41 4 ||| lb1 (6 * w + r)) j = (lbt (s.2.1 41 4) j || decide (j = 6 * w + r)) := fun j => lbt_or (by omega)
      generalize stL s 41 4 (s.2.1 41 4 ||| lb1 (6 * w + r)) = t at ev kk ⊢
      generalize (s.2.1 41 4 ||| lb1 (6 * w + r)) = L' at ev hon
      refine ih (r + 1) (x4 + 1) t (by omega) (by omega) (by omega) (hPQ.keep kk.kta) (fun a b ha hb => ?_) (fun u ku => hk u (kk.trans ku))
      rw [ev, hon]
      have h9 := hI a b ha hb
      by_cases e : a = w ∧ b = r
      · obtain ⟨rfl, rfl⟩ := e
        exact ⟨fun _ => ⟨by omega, ⟨hw, by omega⟩, hN⟩, fun _ => by simp⟩
      · have e2 : ¬ 6 * a + b = 6 * w + r := by omega
        simp only [e2, decide_false, Bool.or_false]
        rw [h9]
        exact ⟨fun h => ⟨by omega, h.2⟩, fun h => ⟨by omega, h.2⟩⟩
theorem ar_7 {p q : Nat} {τ : ST} (x1 x2 : Int32) (h1 : x1.toInt = p) (h2 : x2.toInt = q) : ∀ (n w : Nat) (x3 : Int32) (s : ST), x3.toInt = w → (w : Int) ≤ (τ.1 8 p).toInt → 7 < n + w → PQ p q s τ → IVI p q w 0 τ (s.2.1 41 4) → OK (f_X0_relate_7 n x1 x2 x3 s) (fun t => K41 s t ∧ GFX τ (RBX (t.2.1 41 4))) := by
  intro n
  have l1 := li_1
  have l0 := li_0
  have lu := FUi
  induction n with
  | zero =>
    intro w x3 s h7 h8 h9 hPQ
    have := hPQ.2.2.1.1.cnt
    omega
  | succ n ih =>
    intro w x3 s h3 hw hn hPQ hI
    rw [f_X0_relate_7]
    have cP := hPQ.2.2.1.1.cnt
    have cQ := hPQ.2.2.1.2.cnt
    have hp6 := hPQ.1.1
    rw [a4_recordsOf x1 s h1 hp6, sbnd]
    dsimp only
    rw [cP.1]
    have e3 := il_addE (x := x3) (y := 1) (by omega) (by omega)
    refine OK.ile (fun h => ?_) (fun h => ?_)
    · have hG : GMX τ (RBX (s.2.1 41 4)) := by
        intro Q hQ k hk h9 h8
        rw [RBX_iff] at h8
        obtain ⟨a, ea⟩ : ∃ a : Nat, a = k / 6 := ⟨_, rfl⟩
        obtain ⟨b, eb⟩ : ∃ b : Nat, b = k % 6 := ⟨_, rfl⟩
        have e6 : k = 6 * a + b := by omega
        have iw := ofNatI (w := a) (by omega)
        have ir := ofNatI (w := b) (by omega)
        have nw : (Int32.ofNat a).toNatClampNeg = a := nC iw
        have nr : (Int32.ofNat b).toNatClampNeg = b := nC ir
        obtain ⟨y1, y2, y3⟩ := hQ (Int32.ofNat a) (Int32.ofNat b) (by omega) (by omega) (by omega) (by omega) (by rw [nw, nr, ← e6]; exact h9)
        have hrm := hPQ.rm
        have h7 := (hI a b (by omega) (by omega)).mpr ⟨by omega, ⟨by omega, by omega⟩, y2⟩
        rw [e6, h7] at h8
        cases h8
      have hV : IVL p q τ (s.2.1 41 4) := fun a b ha hb h9 => ((hI a b ha hb).mp h9).2
      refine ar_87 x1 x2 h1 h2 FU 0 0 s (by omega) (by omega) (by omega) hPQ hV hG ?_
      by_cases e : s.2.1 41 4 = 0
      · refine .inl ⟨ar_psx hPQ hV (fun a b ha hb h9 => ?_), e⟩
        rw [e, lbt_0] at h9
        cases h9
      · have := cntZ_le (p := fun k => lbt (s.2.1 41 4) k = true) 36
        have e2 : cnL (s.2.1 41 4) = cntZ (fun k => lbt (s.2.1 41 4) k = true) 36 := rfl
        exact .inr ⟨e, by omega⟩
    · exact ar_22 x1 x2 x3 w h1 h2 h3 (by omega) FU 0 0 s l0 (by omega) (by omega) hPQ hI (fun t kt tPQ tI => (ih (w + 1) (x3 + 1) t (by omega) (by omega) (by omega) tPQ tI).mono (fun u hu => ⟨kt.trans hu.1, hu.2⟩))
/-- the class relates two plans as the reference pairs their records -/
theorem ab_relate {p q : Nat} {σ τ : ST} (h : PQ p q σ τ) (p0 p1 : Int32) (h0 : p0.toInt = p) (h1 : p1.toInt = q) : OK (f_X0_relate p0 p1 σ) (fun t => K41 σ t ∧ GFX τ (RBX (t.2.1 41 4))) := by
  unfold f_X0_relate
  have lu := FUi
  have cP := h.2.2.1.1.cnt
  have kk : K41 σ (stL σ 41 4 0) := K41.l
  have ev : (stL σ 41 4 0).2.1 41 4 = 0 := stL_at
  refine (ar_7 p0 p1 h0 h1 FU 0 0 (stL σ 41 4 0) li_0 (by omega) (by omega) (h.keep kk.kta) (fun a b ha hb => ?_)).mono (fun u hu => ⟨kk.trans hu.1, hu.2⟩)
  rw [ev, lbt_0]
  exact ⟨fun h => (by cases h), fun h => by omega⟩
