/-! the draft becomes what holds: the reference -/
def mv (x : Int32) : Int32 := if 0 ≤ x then x - 400 else x
theorem mv_pos {x : Int32} (h : 400 ≤ x.toInt) : (mv x).toInt = x.toInt - 400 := by
  have l0 := li_0
  have l400 := li_400
  have r := i_rng x
  unfold mv
  rw [if_pos (by rw [Int32.le_iff_toInt_le]; omega)]
  have e := il_subE (x := x) (y := 400) (by omega) (by omega)
  omega
theorem b_moved (x : Int32) (σ : ST) : f_X11_moved x σ = some (mv x, σ) := by
  unfold f_X11_moved mv
  by_cases h : 0 ≤ x
  · rw [if_pos h, if_pos h]
  · rw [if_neg h, if_neg h]
/-- a field's cells are those of another row -/
def TF (s σ : ST) (i j : Nat) : Prop := σ.1 13 i = s.1 13 j ∧ σ.1 19 i = s.1 19 j ∧ σ.2.1 12 i = s.2.1 12 j ∧ σ.2.1 14 i = s.2.1 14 j ∧ σ.2.1 17 i = s.2.1 17 j ∧ σ.2.1 18 i = s.2.1 18 j
def TH_ (s σ : ST) (a b c : Nat) : Prop := (∀ d, d ∉ [2, 3, 4, 5, 8, 10, 11, 13, 15, 16, 19] → σ.1 d = s.1 d) ∧ ((∀ i, i < a → σ.1 8 i = s.1 8 (6 + i)) ∧ ∀ i, 6 ≤ i → σ.1 8 i = s.1 8 i) ∧ ((∀ i, i < b → σ.1 11 i = s.1 11 (36 + i) ∧ σ.1 10 i = s.1 10 (36 + i) ∧ σ.2.1 9 i = s.2.1 9 (36 + i)) ∧ ∀ i, 36 ≤ i → σ.1 11 i = s.1 11 i ∧ σ.1 10 i = s.1 10 i ∧ σ.2.1 9 i = s.2.1 9 i) ∧ ((∀ i, i < c → σ.1 15 i = mv (s.1 15 (288 + i)) ∧ σ.1 16 i = vp_nar .boolean (s.1 16 (288 + i)) ∧ TF s σ i (288 + i)) ∧ ∀ i, 288 ≤ i → σ.1 15 i = s.1 15 i ∧ σ.1 16 i = s.1 16 i ∧ TF s σ i i) ∧ ∀ i, bI (σ.1 19 i) 0 12
def RW1 (s σ : ST) (q : Nat) : Prop := σ.1 2 q = s.1 2 (400 + q) ∧ ((s.1 2 (400 + q)).toInt = 6 → σ.1 3 q = mv (s.1 3 (400 + q))) ∧ (¬ (s.1 2 (400 + q)).toInt = 6 → σ.1 3 q = s.1 3 (400 + q)) ∧ σ.1 4 q = s.1 4 (400 + q)
def TR_ (s σ : ST) (d : Nat) : Prop := (∀ q, q < d → RW1 s σ q ∧ ∀ w : Nat, (w : Int) < (s.1 4 (400 + q)).toInt → σ.1 5 (4 * q + w) = mv (s.1 5 (4 * (400 + q) + w))) ∧ (∀ q, 400 ≤ q → σ.1 2 q = s.1 2 q ∧ σ.1 3 q = s.1 3 q ∧ σ.1 4 q = s.1 4 q) ∧ ∀ q, 1600 ≤ q → σ.1 5 q = s.1 5 q
theorem TH_.ext {s σ z : ST} {a b c : Nat} (h : TH_ s σ a b c) (e : ∀ d, d ∉ [2, 3, 4, 5] → z.1 d = σ.1 d) (eL : z.2.1 = σ.2.1) : TH_ s z a b c := by
  obtain ⟨h1, h2, h3, h4, h5⟩ := h
  refine ⟨fun d hd => ?_, ?_, ?_, ?_, ?_⟩
  · rw [e d (fun h9 => hd ?_)]
    · exact h1 d hd
    · simp only [List.mem_cons, List.not_mem_nil, or_false] at h9 ⊢
      omega
  · rw [e 8 (by decide)]
    exact h2
  · rw [e 11 (by decide), e 10 (by decide), eL]
    exact h3
  · unfold TF at h4 ⊢
    rw [e 15 (by decide), e 16 (by decide), e 13 (by decide), e 19 (by decide), eL]
    exact h4
  · rw [e 19 (by decide)]
    exact h5
theorem TR_.ext {s σ z : ST} {d : Nat} (h : TR_ s σ d) (e : ∀ c, c ∈ [2, 3, 4, 5] → z.1 c = σ.1 c) : TR_ s z d := by
  unfold TR_ RW1
  rw [e 2 (by decide), e 3 (by decide), e 4 (by decide), e 5 (by decide)]
  exact h
theorem b_takes_301 (s : ST) (q : Nat) (hq : q < 400) (m : Nat) (hm : (s.1 4 (400 + q)).toInt = m) (hm4 : m ≤ 4) (hM : ∀ p, p < q → 0 ≤ (s.1 4 (400 + p)).toInt ∧ (s.1 4 (400 + p)).toInt ≤ 4) (kk : Int32 → ST → Option ST) (Q : ST → Prop) (hk : ∀ (x : Int32) (z : ST), x.toInt = 401 + (q : Int) → TH_ s z 6 36 288 → TR_ s z (q + 1) → OK (kk x z) Q) : ∀ (f w : Nat) (x1 x2 : Int32) (σ : ST), m < f + w → w ≤ m → x1.toInt = 400 + (q : Int) → x2.toInt = w → TH_ s σ 6 36 288 → TR_ s σ q → RW1 s σ q → (∀ i : Nat, i < w → σ.1 5 (4 * q + i) = mv (s.1 5 (4 * (400 + q) + i))) → OK (f_X11_takes_301 kk f x1 x2 σ) Q := by
  intro f
  have l1 := li_1
  have l400 := li_400
  induction f with
  | zero => intro w x1 x2 σ h1 h2; omega
  | succ f ih =>
    intro w x1 x2 σ hf hw h1 h2 hT hR hW hB
    rw [f_X11_takes_301]
    have n1 : x1.toNatClampNeg = 400 + q := nC (by omega)
    rw [n1]
    refine OK.grd ⟨by omega, by omega⟩ ?_
    have e4 : σ.1 4 (400 + q) = s.1 4 (400 + q) := (hR.2.1 (400 + q) (by omega)).2.2
    rw [e4]
    have ex1 := il_addE (x := x1) (y := 1) (by omega) (by omega)
    refine OK.ile (fun h => ?_) (fun h => ?_)
    · refine hk (x1 + 1) σ (by omega) hT ⟨fun p hp => ?_, hR.2⟩
      by_cases e : p = q
      · subst e
        exact ⟨hW, fun i hi => hB i (by omega)⟩
      · exact hR.1 p (by omega)
    · have ex2 := il_addE (x := x2) (y := 1) (by omega) (by omega)
      have em := mlE (k := 4) (y := x1) 4 (by decide) (by omega) (by omega)
      have ea := il_addE (x := 4 * x1) (y := x2) (by omega) (by omega)
      have na : (4 * x1 + x2).toNatClampNeg = 4 * (400 + q) + w := nC (by omega)
      have es := il_subE (x := x1) (y := 400) (by omega) (by omega)
      have em2 := mlE (k := 4) (y := x1 - 400) 4 (by decide) (by omega) (by omega)
      have ea2 := il_addE (x := 4 * (x1 - 400)) (y := x2) (by omega) (by omega)
      have na2 : (4 * (x1 - 400) + x2).toNatClampNeg = 4 * q + w := nC (by omega)
      refine OK.grd ⟨by omega, by omega⟩ ?_
      rw [b_moved, sbnd, na, na2]
      dsimp only
      refine OK.grd ⟨by omega, by omega⟩ ?_
      rw [hR.2.2 (4 * (400 + q) + w) (by omega)]
      have z5 : (stI σ 5 (4 * q + w) (mv (s.1 5 (4 * (400 + q) + w)))).1 5 = upd (σ.1 5) (4 * q + w) (mv (s.1 5 (4 * (400 + q) + w))) := rfl
      have z1 : ∀ c, c ≠ 5 → (stI σ 5 (4 * q + w) (mv (s.1 5 (4 * (400 + q) + w)))).1 c = σ.1 c := fun c hc => stI_ne hc
      have zL : (stI σ 5 (4 * q + w) (mv (s.1 5 (4 * (400 + q) + w)))).2.1 = σ.2.1 := rfl
      generalize stI σ 5 (4 * q + w) (mv (s.1 5 (4 * (400 + q) + w))) = z at z5 z1 zL ⊢
      refine ih (w + 1) x1 (x2 + 1) z (by omega) (by omega) h1 (by omega) (hT.ext (fun d hd => z1 d (fun e => hd (by rw [e]; decide))) zL) ⟨fun p hp => ?_, fun p hp => ?_, fun p hp => ?_⟩ ?_ (fun i hi => ?_)
      · obtain ⟨r1, r2⟩ := hR.1 p hp
        have h9 := hM p hp
        refine ⟨?_, fun i hi => ?_⟩
        · unfold RW1
          rw [z1 2 (by decide), z1 3 (by decide), z1 4 (by decide)]
          exact r1
        · rw [z5, upd_no (by omega)]
          exact r2 i hi
      · rw [z1 2 (by decide), z1 3 (by decide), z1 4 (by decide)]
        exact hR.2.1 p hp
      · rw [z5, upd_no (by omega)]
        exact hR.2.2 p hp
      · unfold RW1
        rw [z1 2 (by decide), z1 3 (by decide), z1 4 (by decide)]
        exact hW
      · by_cases e : i = w
        · subst e
          rw [z5, upd_at]
        · rw [z5, upd_no (by omega)]
          exact hB i (by omega)
theorem b_takes_220 (s : ST) (t : Nat) (ht : 400 ≤ t ∧ t ≤ 650) (h34 : (s.1 0 34).toInt = t) (hM : M4 t s) : ∀ (f q : Nat) (x1 : Int32) (σ : ST), t < f + q + 400 → 400 + q ≤ t → x1.toInt = 400 + (q : Int) → TH_ s σ 6 36 288 → TR_ s σ q → OK (f_X11_takes_220 f x1 σ) (fun z => TH_ s z 6 36 288 ∧ TR_ s z (t - 400)) := by
  intro f
  have l6 := li_6
  have l400 := li_400
  have lu := FUi
  induction f with
  | zero => intro q x1 σ h1 h2; omega
  | succ f ih =>
    intro q x1 σ hf hq h1 hT hR
    rw [f_X11_takes_220]
    have c34 : (σ.1 0 34).toInt = t := by rw [hT.1 0 (by decide)]; exact h34
    refine OK.ile (fun h => ?_) (fun h => ?_)
    · have e : q = t - 400 := by omega
      rw [e] at hR
      exact OK.ret ⟨hT, hR⟩
    have n1 : x1.toNatClampNeg = 400 + q := nC (by omega)
    have es := il_subE (x := x1) (y := 400) (by omega) (by omega)
    have ns : (x1 - 400).toNatClampNeg = q := nC (by omega)
    rw [n1, ns]
    refine OK.grd ⟨by omega, by omega⟩ ?_
    refine OK.grd ⟨by omega, by omega⟩ ?_
    have r0 := hR.2.1 (400 + q) (by omega)
    have hm := hM (400 + q) (by omega) (by omega)
    have a2 : (stI σ 2 q (σ.1 2 (400 + q))).1 2 = upd (σ.1 2) q (σ.1 2 (400 + q)) := rfl
    have a1 : ∀ c, c ≠ 2 → (stI σ 2 q (σ.1 2 (400 + q))).1 c = σ.1 c := fun c hc => stI_ne hc
    have aL : (stI σ 2 q (σ.1 2 (400 + q))).2.1 = σ.2.1 := rfl
    generalize stI σ 2 q (σ.1 2 (400 + q)) = u at a2 a1 aL ⊢
    have u2 : u.1 2 (400 + q) = s.1 2 (400 + q) := by rw [a2, upd_no (by omega)]; exact r0.1
    have u2q : u.1 2 q = s.1 2 (400 + q) := by rw [a2, upd_at]; exact r0.1
    have u3 : u.1 3 (400 + q) = s.1 3 (400 + q) := by rw [a1 3 (by decide)]; exact r0.2.1
    have fin : ∀ y0 : Int32, ((s.1 2 (400 + q)).toInt = 6 → y0 = mv (s.1 3 (400 + q))) → (¬ (s.1 2 (400 + q)).toInt = 6 → y0 = s.1 3 (400 + q)) → OK (f_X11_takes_282 (f_X11_takes_220 f) x1 y0 (x1 - 400) u) (fun z => TH_ s z 6 36 288 ∧ TR_ s z (t - 400)) := by
      intro y0 y1 y2
      unfold f_X11_takes_282
      rw [n1, ns]
      refine OK.grd ⟨by omega, by omega⟩ ?_
      refine OK.grd ⟨by omega, by omega⟩ ?_
      refine OK.grd ⟨by omega, by omega⟩ ?_
      refine OK.lt (fun z hz => ?_)
      have z3 : z.1 3 = upd (u.1 3) q y0 := by rw [hz]; rfl
      have z4 : z.1 4 = upd (u.1 4) q (u.1 4 (400 + q)) := by rw [hz]; rfl
      have z1 : ∀ c, c ∉ [3, 4] → z.1 c = u.1 c := fun c hc => by
        simp only [List.mem_cons, List.not_mem_nil, or_false, not_or] at hc
        rw [hz, stI_ne hc.2, stI_ne hc.1]
      have zL : z.2.1 = σ.2.1 := by rw [hz]; exact aL
      clear hz
      have z2 : z.1 2 = u.1 2 := z1 2 (by decide)
      have u4 : u.1 4 (400 + q) = s.1 4 (400 + q) := by rw [a1 4 (by decide)]; exact r0.2.2
      refine b_takes_301 s q (by omega) (s.1 4 (400 + q)).toInt.toNat (by omega) (by omega) (fun p hp => hM (400 + p) (by omega) (by omega)) (f_X11_takes_220 f) _ (fun x z9 hx hT9 hR9 => ih (q + 1) x z9 (by omega) (by omega) (by omega) hT9 hR9) FU 0 x1 0 z (by omega) (by omega) h1 li_0 ?_ ⟨fun p hp => ?_, fun p hp => ?_, fun p hp => ?_⟩ ⟨?_, ?_, ?_, ?_⟩ (fun i hi => by omega)
      · refine hT.ext (fun d hd => ?_) zL
        simp only [List.mem_cons, List.not_mem_nil, or_false, not_or] at hd
        rw [z1 d (by simp only [List.mem_cons, List.not_mem_nil, or_false, not_or]; exact ⟨hd.2.1, hd.2.2.1⟩), a1 d hd.1]
      · obtain ⟨r1, r2⟩ := hR.1 p hp
        refine ⟨?_, fun i hi => ?_⟩
        · unfold RW1
          rw [z2, a2, upd_no (by omega), z3, upd_no (by omega), z4, upd_no (by omega), a1 3 (by decide), a1 4 (by decide)]
          exact r1
        · rw [z1 5 (by decide), a1 5 (by decide)]
          exact r2 i hi
      · rw [z2, a2, upd_no (by omega), z3, upd_no (by omega), z4, upd_no (by omega), a1 3 (by decide), a1 4 (by decide)]
        exact hR.2.1 p hp
      · rw [z1 5 (by decide), a1 5 (by decide)]
        exact hR.2.2 p hp
      · rw [z2]
        exact u2q
      · intro h9
        rw [z3, upd_at]
        exact y1 h9
      · intro h9
        rw [z3, upd_at]
        exact y2 h9
      · rw [z4, upd_at]
        exact u4
    rw [u2, u3, b_moved, sbnd]
    refine OK.ieq (fun h9 => ?_) (fun h9 => ?_)
    · exact fin _ (fun _ => rfl) (fun h => by omega)
    · exact fin _ (fun h => by omega) (fun _ => rfl)
theorem b_takes_98 (s : ST) (t : Nat) (ht : 400 ≤ t ∧ t ≤ 650) (h34 : (s.1 0 34).toInt = t) (hM : M4 t s) : ∀ (f i : Nat) (x1 : Int32) (σ : ST), 288 < f + i → i ≤ 288 → x1.toInt = i → TH_ s σ 6 36 i → TR_ s σ 0 → OK (f_X11_takes_98 f x1 σ) (fun z => TH_ s z 6 36 288 ∧ TR_ s z (t - 400)) := by
  intro f
  have l1 := li_1
  have l288 := li_288
  have lu := FUi
  induction f with
  | zero => intro i x1 σ h1 h2; omega
  | succ f ih =>
    intro i x1 σ hf hi h1 hT hR
    rw [f_X11_takes_98]
    refine OK.ile (fun h => ?_) (fun h => ?_)
    · have e : i = 288 := by omega
      subst e
      exact b_takes_220 s t ht h34 hM FU 0 400 σ (by omega) (by omega) li_400 hT hR
    have ea := il_addE (x := x1) (y := 288) (by omega) (by omega)
    have na : (x1 + 288).toNatClampNeg = 288 + i := nC (by omega)
    have n1 : x1.toNatClampNeg = i := nC h1
    have ex := il_addE (x := x1) (y := 1) (by omega) (by omega)
    rw [n1, na]
    refine OK.grd ⟨by omega, by omega⟩ ?_
    refine OK.grd ⟨by omega, by omega⟩ ?_
    refine OK.lt (fun z3 h3 => ?_)
    rw [b_moved, sbnd]
    refine OK.lt (fun z6 h6 => ?_)
    refine OK.lt (fun z7 h7 => ?_)
    have k15 : (stI z7 19 i (z7.1 19 (288 + i))).1 15 = upd (σ.1 15) i (mv (σ.1 15 (288 + i))) := by
      rw [h7, h6, h3]
      rfl
    have k19 : (stI z7 19 i (z7.1 19 (288 + i))).1 19 = upd (σ.1 19) i (σ.1 19 (288 + i)) := by
      rw [h7, h6, h3]
      rfl
    have k1 : ∀ c, c ∉ [13, 15, 16, 19] → (stI z7 19 i (z7.1 19 (288 + i))).1 c = σ.1 c := fun c hc => by
      simp only [List.mem_cons, List.not_mem_nil, or_false, not_or] at hc
      rw [stI_ne hc.2.2.2, h7]
      show z6.1 c = _
      rw [h6, stI_ne hc.2.2.1, stI_ne hc.2.1]
      show z3.1 c = _
      rw [h3, stI_ne hc.1]
      rfl
    have k13 : (stI z7 19 i (z7.1 19 (288 + i))).1 13 = upd (σ.1 13) i (σ.1 13 (288 + i)) := by
      rw [h7, h6, h3]
      rfl
    have k16 : (stI z7 19 i (z7.1 19 (288 + i))).1 16 = upd (σ.1 16) i (vp_nar .boolean (σ.1 16 (288 + i))) := by
      rw [h7, h6, h3]
      rfl
    have k12 : (stI z7 19 i (z7.1 19 (288 + i))).2.1 12 = vp_updL (σ.2.1 12) i (σ.2.1 12 (288 + i)) := by
      rw [h7, h6, h3]
      rfl
    have k14 : (stI z7 19 i (z7.1 19 (288 + i))).2.1 14 = vp_updL (σ.2.1 14) i (σ.2.1 14 (288 + i)) := by
      rw [h7, h6, h3]
      rfl
    have k17 : (stI z7 19 i (z7.1 19 (288 + i))).2.1 17 = vp_updL (σ.2.1 17) i (σ.2.1 17 (288 + i)) := by
      rw [h7, h6, h3]
      rfl
    have k18 : (stI z7 19 i (z7.1 19 (288 + i))).2.1 18 = vp_updL (σ.2.1 18) i (σ.2.1 18 (288 + i)) := by
      rw [h7, h6, h3]
      rfl
    have k9 : (stI z7 19 i (z7.1 19 (288 + i))).2.1 9 = σ.2.1 9 := by
      rw [h7, h6, h3]
      rfl
    clear h7 h6 h3
    generalize stI z7 19 i (z7.1 19 (288 + i)) = z at k15 k19 k1 k13 k16 k12 k14 k17 k18 k9 ⊢
    obtain ⟨t1, t2, t3, t4, t5⟩ := hT
    refine ih (i + 1) (x1 + 1) z (by omega) (by omega) (by omega) ⟨fun d hd => ?_, ?_, ?_, ⟨fun p hp => ?_, fun p hp => ?_⟩, fun p => ?_⟩ (hR.ext (fun c hc => k1 c (fun h9 => by
      simp only [List.mem_cons, List.not_mem_nil, or_false] at h9 hc
      omega)))
    · rw [k1 d (fun h9 => hd ?_)]
      · exact t1 d hd
      · simp only [List.mem_cons, List.not_mem_nil, or_false] at h9 ⊢
        omega
    · rw [k1 8 (by decide)]
      exact t2
    · rw [k1 11 (by decide), k1 10 (by decide), k9]
      exact t3
    · by_cases e : p = i
      · subst e
        obtain ⟨y1, y2, y3, y4, y5, y6, y7, y8⟩ := t4.2 (288 + p) (by omega)
        unfold TF
        rw [k15, upd_at, k16, upd_at, k13, upd_at, k19, upd_at, k12, updL_at, k14, updL_at, k17, updL_at, k18, updL_at, y1, y2]
        exact ⟨rfl, rfl, y3, y4, y5, y6, y7, y8⟩
      · unfold TF
        rw [k15, upd_no e, k16, upd_no e, k13, upd_no e, k19, upd_no e, k12, updL_no e, k14, updL_no e, k17, updL_no e, k18, updL_no e]
        exact t4.1 p (by omega)
    · unfold TF
      rw [k15, upd_no (by omega), k16, upd_no (by omega), k13, upd_no (by omega), k19, upd_no (by omega), k12, updL_no (by omega), k14, updL_no (by omega), k17, updL_no (by omega), k18, updL_no (by omega)]
      exact t4.2 p hp
    · rw [k19]
      exact upd_all (P := fun x => bI x 0 12) t5 (t5 _) p
theorem b_takes_39 (s : ST) (t : Nat) (ht : 400 ≤ t ∧ t ≤ 650) (h34 : (s.1 0 34).toInt = t) (hM : M4 t s) : ∀ (f i : Nat) (x1 : Int32) (σ : ST), 36 < f + i → i ≤ 36 → x1.toInt = i → TH_ s σ 6 i 0 → TR_ s σ 0 → OK (f_X11_takes_39 f x1 σ) (fun z => TH_ s z 6 36 288 ∧ TR_ s z (t - 400)) := by
  intro f
  have l1 := li_1
  have l36 := li_36
  have lu := FUi
  induction f with
  | zero => intro i x1 σ h1 h2; omega
  | succ f ih =>
    intro i x1 σ hf hi h1 hT hR
    rw [f_X11_takes_39]
    refine OK.ile (fun h => ?_) (fun h => ?_)
    · have e : i = 36 := by omega
      subst e
      exact b_takes_98 s t ht h34 hM FU 0 0 σ (by omega) (by omega) li_0 hT hR
    have ea := il_addE (x := x1) (y := 36) (by omega) (by omega)
    have na : (x1 + 36).toNatClampNeg = 36 + i := nC (by omega)
    have n1 : x1.toNatClampNeg = i := nC h1
    have ex := il_addE (x := x1) (y := 1) (by omega) (by omega)
    rw [n1, na]
    refine OK.grd ⟨by omega, by omega⟩ ?_
    refine OK.grd ⟨by omega, by omega⟩ ?_
    refine OK.lt (fun z3 h3 => ?_)
    have k11 : (stI z3 11 i (z3.1 11 (36 + i))).1 11 = upd (σ.1 11) i (σ.1 11 (36 + i)) := by
      rw [h3]
      rfl
    have k10 : (stI z3 11 i (z3.1 11 (36 + i))).1 10 = upd (σ.1 10) i (σ.1 10 (36 + i)) := by
      rw [h3]
      rfl
    have k1 : ∀ c, c ∉ [10, 11] → (stI z3 11 i (z3.1 11 (36 + i))).1 c = σ.1 c := fun c hc => by
      simp only [List.mem_cons, List.not_mem_nil, or_false, not_or] at hc
      rw [stI_ne hc.2, h3, stI_ne hc.1]
      rfl
    have k9 : (stI z3 11 i (z3.1 11 (36 + i))).2.1 9 = vp_updL (σ.2.1 9) i (σ.2.1 9 (36 + i)) := by
      rw [h3]
      rfl
    have kL : ∀ c, c ≠ 9 → (stI z3 11 i (z3.1 11 (36 + i))).2.1 c = σ.2.1 c := fun c hc => by
      show z3.2.1 c = _
      rw [h3]
      show (stL σ 9 _ _).2.1 c = _
      rw [stL_ne hc]
    clear h3
    generalize stI z3 11 i (z3.1 11 (36 + i)) = z at k11 k10 k1 k9 kL ⊢
    obtain ⟨t1, t2, t3, t4, t5⟩ := hT
    refine ih (i + 1) (x1 + 1) z (by omega) (by omega) (by omega) ⟨fun d hd => ?_, ?_, ⟨fun p hp => ?_, fun p hp => ?_⟩, ?_, ?_⟩ (hR.ext (fun c hc => k1 c (fun h9 => by
      simp only [List.mem_cons, List.not_mem_nil, or_false] at h9 hc
      omega)))
    · rw [k1 d (fun h9 => hd ?_)]
      · exact t1 d hd
      · simp only [List.mem_cons, List.not_mem_nil, or_false] at h9 ⊢
        omega
    · rw [k1 8 (by decide)]
      exact t2
    · by_cases e : p = i
      · subst e
        have e9 := t3.2 (36 + p) (by omega)
        rw [k11, upd_at, k10, upd_at, k9, updL_at]
        exact e9
      · rw [k11, upd_no e, k10, upd_no e, k9, updL_no e]
        exact t3.1 p (by omega)
    · rw [k11, upd_no (by omega), k10, upd_no (by omega), k9, updL_no (by omega)]
      exact t3.2 p hp
    · unfold TF at t4 ⊢
      rw [k1 15 (by decide), k1 16 (by decide), k1 13 (by decide), k1 19 (by decide), kL 12 (by decide), kL 14 (by decide), kL 17 (by decide), kL 18 (by decide)]
      exact t4
    · rw [k1 19 (by decide)]
      exact t5
theorem b_takes_10 (s : ST) (t : Nat) (ht : 400 ≤ t ∧ t ≤ 650) (h34 : (s.1 0 34).toInt = t) (hM : M4 t s) : ∀ (f i : Nat) (x1 : Int32) (σ : ST), 6 < f + i → i ≤ 6 → x1.toInt = i → TH_ s σ i 0 0 → TR_ s σ 0 → OK (f_X11_takes_10 f x1 σ) (fun z => TH_ s z 6 36 288 ∧ TR_ s z (t - 400)) := by
  intro f
  have l1 := li_1
  have l6 := li_6
  have lu := FUi
  induction f with
  | zero => intro i x1 σ h1 h2; omega
  | succ f ih =>
    intro i x1 σ hf hi h1 hT hR
    rw [f_X11_takes_10]
    refine OK.ile (fun h => ?_) (fun h => ?_)
    · have e : i = 6 := by omega
      subst e
      exact b_takes_39 s t ht h34 hM FU 0 0 σ (by omega) (by omega) li_0 hT hR
    have ea := il_addE (x := x1) (y := 6) (by omega) (by omega)
    have na : (x1 + 6).toNatClampNeg = 6 + i := nC (by omega)
    have n1 : x1.toNatClampNeg = i := nC h1
    have ex := il_addE (x := x1) (y := 1) (by omega) (by omega)
    rw [n1, na]
    refine OK.grd ⟨by omega, by omega⟩ ?_
    refine OK.grd ⟨by omega, by omega⟩ ?_
    have k8 : (stI σ 8 i (σ.1 8 (6 + i))).1 8 = upd (σ.1 8) i (σ.1 8 (6 + i)) := rfl
    have k1 : ∀ c, c ≠ 8 → (stI σ 8 i (σ.1 8 (6 + i))).1 c = σ.1 c := fun c hc => stI_ne hc
    have kL : (stI σ 8 i (σ.1 8 (6 + i))).2.1 = σ.2.1 := rfl
    generalize stI σ 8 i (σ.1 8 (6 + i)) = z at k8 k1 kL ⊢
    obtain ⟨t1, t2, t3, t4, t5⟩ := hT
    refine ih (i + 1) (x1 + 1) z (by omega) (by omega) (by omega) ⟨fun d hd => ?_, ⟨fun p hp => ?_, fun p hp => ?_⟩, ?_, ?_, ?_⟩ (hR.ext (fun c hc => k1 c (fun h9 => by
      rw [h9] at hc
      revert hc
      decide)))
    · rw [k1 d (fun h9 => hd (by rw [h9]; decide))]
      exact t1 d hd
    · by_cases e : p = i
      · subst e
        rw [k8, upd_at, t2.2 (6 + p) (by omega)]
      · rw [k8, upd_no e]
        exact t2.1 p (by omega)
    · rw [k8, upd_no (by omega)]
      exact t2.2 p hp
    · rw [k1 11 (by decide), k1 10 (by decide), kL]
      exact t3
    · unfold TF at t4 ⊢
      rw [k1 15 (by decide), k1 16 (by decide), k1 13 (by decide), k1 19 (by decide), kL]
      exact t4
    · rw [k1 19 (by decide)]
      exact t5
