/-! the draft becomes what holds: the reference -/
def mv (x : Int32) : Int32 := if 0 ≤ x then x - 400 else x
theorem mv_pos {x : Int32} (h : 400 ≤ x.toInt) : (mv x).toInt = x.toInt - 400 := by
  have l0 := li_0
  have l400 := li_400
  have r := i_rng x
  unfold mv
  rw [if_pos (by rw [Int32.le_iff_toInt_le]; omega)]
  have e := il_subE (x := x) (y := 400) (by omega) (by omega)
  omega
theorem b_moved (x : Int32) (σ : ST) : f_X11_moved x σ = some (mv x, σ) := by
  unfold f_X11_moved mv
  by_cases h : 0 ≤ x
  · rw [if_pos h, if_pos h]
  · rw [if_neg h, if_neg h]
/-- a field's cells are those of another row -/
def TF (s σ : ST) (i j : Nat) : Prop := σ.1 13 i = s.1 13 j ∧ σ.1 19 i = s.1 19 j ∧ σ.2.1 12 i = s.2.1 12 j ∧ σ.2.1 14 i = s.2.1 14 j ∧ σ.2.1 17 i = s.2.1 17 j ∧ σ.2.1 18 i = s.2.1 18 j
def TH_ (s σ : ST) (a b c : Nat) : Prop := (∀ d, d ∉ [2, 3, 4, 5, 8, 10, 11, 13, 15, 16, 19] → σ.1 d = s.1 d) ∧ ((∀ i, i < a → σ.1 8 i = s.1 8 (6 + i)) ∧ ∀ i, 6 ≤ i → σ.1 8 i = s.1 8 i) ∧ ((∀ i, i < b → σ.1 11 i = s.1 11 (36 + i) ∧ σ.1 10 i = s.1 10 (36 + i) ∧ σ.2.1 9 i = s.2.1 9 (36 + i)) ∧ ∀ i, 36 ≤ i → σ.1 11 i = s.1 11 i ∧ σ.1 10 i = s.1 10 i ∧ σ.2.1 9 i = s.2.1 9 i) ∧ ((∀ i, i < c → σ.1 15 i = mv (s.1 15 (288 + i)) ∧ σ.1 16 i = vp_nar .boolean (s.1 16 (288 + i)) ∧ TF s σ i (288 + i)) ∧ ∀ i, 288 ≤ i → σ.1 15 i = s.1 15 i ∧ σ.1 16 i = s.1 16 i ∧ TF s σ i i) ∧ ∀ i, bI (σ.1 19 i) 0 12
def RW1 (s σ : ST) (q : Nat) : Prop := σ.1 2 q = s.1 2 (400 + q) ∧ ((s.1 2 (400 + q)).toInt = 6 → σ.1 3 q = mv (s.1 3 (400 + q))) ∧ (¬ (s.1 2 (400 + q)).toInt = 6 → σ.1 3 q = s.1 3 (400 + q)) ∧ σ.1 4 q = s.1 4 (400 + q)
def TR_ (s σ : ST) (d : Nat) : Prop := (∀ q, q < d → RW1 s σ q ∧ ∀ w : Nat, (w : Int) < (s.1 4 (400 + q)).toInt → σ.1 5 (4 * q + w) = mv (s.1 5 (4 * (400 + q) + w))) ∧ (∀ q, 400 ≤ q → σ.1 2 q = s.1 2 q ∧ σ.1 3 q = s.1 3 q ∧ σ.1 4 q = s.1 4 q) ∧ ∀ q, 1600 ≤ q → σ.1 5 q = s.1 5 q
theorem TH_.ext {s σ z : ST} {a b c : Nat} (h : TH_ s σ a b c) (e : ∀ d, d ∉ [2, 3, 4, 5] → z.1 d = σ.1 d) (eL : z.2.1 = σ.2.1) : TH_ s z a b c := by
  obtain ⟨h1, h2, h3, h4, h5⟩ := h
  refine ⟨fun d hd => ?_, ?_, ?_, ?_, ?_⟩
  · rw [e d (fun h9 => hd ?_)]
    · exact h1 d hd
    · simp only [List.mem_cons, List.not_mem_nil, or_false] at h9 ⊢
      omega
  · rw [e 8 (by decide)]
    exact h2
  · rw [e 11 (by decide), e 10 (by decide), eL]
    exact h3
  · unfold TF at h4 ⊢
    rw [e 15 (by decide), e 16 (by decide), e 13 (by decide), e 19 (by decide), eL]
    exact h4
  · rw [e 19 (by decide)]
    exact h5
theorem TR_.ext {s σ z : ST} {d : Nat} (h : TR_ s σ d) (e : ∀ c, c ∈ [2, 3, 4, 5] → z.1 c = σ.1 c) : TR_ s z d := by
  unfold TR_ RW1
  rw [e 2 (by decide), e 3 (by decide), e 4 (by decide), e 5 (by decide)]
  exact h
theorem b_takes_301 (s : ST) (q : Nat) (hq : q < 400) (m : Nat) (hm : (s.1 4 (400 + q)).toInt = m) (hm4 : m ≤ 4) (hM : ∀ p, p < q → 0 ≤ (s.1 4 (400 + p)).toInt ∧ (s.1 4 (400 + p)).toInt ≤ 4) (kk : Int32 → ST → Option ST) (Q : ST → Prop) (hk : ∀ (x : Int32) (z : ST), x.toInt = 401 + (q : Int) → TH_ s z 6 36 288 → TR_ s z (q + 1) → OK (kk x z) Q) : ∀ (f w : Nat) (x1 x2 : Int32) (σ : ST), m < f + w → w ≤ m → x1.toInt = 400 + (q : Int) → x2.toInt = w → TH_ s σ 6 36 288 → TR_ s σ q → RW1 s σ q → (∀ i : Nat, i < w → σ.1 5 (4 * q + i) = mv (s.1 5 (4 * (400 + q) + i))) → OK (f_X11_takes_301 kk f x1 x2 σ) Q := by
  intro f
  have l1 := li_1
  have l400 := li_400
  induction f with
  | zero => intro w x1 x2 σ h1 h2; omega
  | succ f ih =>
    intro w x1 x2 σ hf hw h1 h2 hT hR hW hB
    rw [f_X11_takes_301]
    have n1 : x1.toNatClampNeg = 400 + q := nC (by omega)
    rw [n1]
    refine OK.grd ⟨by omega, by omega⟩ ?_
    have e4 : σ.1 4 (400 + q) = s.1 4 (400 + q) := (hR.2.1 (400 + q) (by omega)).2.2
    rw [e4]
    have ex1 := il_addE (x := x1) (y := 1) (by omega) (by omega)
    refine OK.ile (fun h => ?_) (fun h => ?_)
    · refine hk (x1 + 1) σ (by omega) hT ⟨fun p hp => ?_, hR.2⟩
      by_cases e : p = q
      · subst e
        exact ⟨hW, fun i hi => hB i (by omega)⟩
      · exact hR.1 p (by omega)
    · have ex2 := il_addE (x := x2) (y := 1) (by omega) (by omega)
      have em := mlE (k := 4) (y := x1) 4 (by decide) (by omega) (by omega)
      have ea := il_addE (x := 4 * x1) (y := x2) (by omega) (by omega)
      have na : (4 * x1 + x2).toNatClampNeg = 4 * (400 + q) + w := nC (by omega)
      have es := il_subE (x := x1) (y := 400) (by omega) (by omega)
      have em2 := mlE (k := 4) (y := x1 - 400) 4 (by decide) (by omega) (by omega)
      have ea2 := il_addE (x := 4 * (x1 - 400)) (y := x2) (by omega) (by omega)
      have na2 : (4 * (x1 - 400) + x2).toNatClampNeg = 4 * q + w := nC (by omega)
      refine OK.grd ⟨by omega, by omega⟩ ?_
      rw [b_moved, sbnd, na, na2]
      dsimp only
      refine OK.grd ⟨by omega, by omega⟩ ?_
      rw [hR.2.2 (4 * (400 + q) + w) (by omega)]
      have z5 : (stI σ 5 (4 * q + w) (mv (s.1 5 (4 * (400 + q) + w)))).1 5 = upd (σ.1 5) (4 * q + w) (mv (s.1 5 (4 * (400 + q) + w))) := rfl
      have z1 : ∀ c, c ≠ 5 → (stI σ 5 (4 * q + w) (mv (s.1 5 (4 * (400 + q) + w)))).1 c = σ.1 c := fun c hc => stI_ne hc
      have zL : (stI σ 5 (4 * q + w) (mv (s.1 5 (4 * (400 + q) + w)))).2.1 = σ.2.1 := rfl
      generalize stI σ 5 (4 * q + w) (mv (s.1 5 (4 * (400 + q) + w))) = z at z5 z1 zL ⊢
      refine ih (w + 1) x1 (x2 + 1) z (by omega) (by omega) h1 (by omega) (hT.ext (fun d hd => z1 d (fun e => hd (by rw [e]; decide))) zL) ⟨fun p hp => ?_, fun p hp => ?_, fun p hp => ?_⟩ ?_ (fun i hi => ?_)
      · obtain ⟨r1, r2⟩ := hR.1 p hp
        have h9 := hM p hp
        refine ⟨?_, fun i hi => ?_⟩
        · unfold RW1
          rw [z1 2 (by decide), z1 3 (by decide), z1 4 (by decide)]
          exact r1
        · rw [z5, upd_no (by omega)]
          exact r2 i hi
      · rw [z1 2 (by decide), z1 3 (by decide), z1 4 (by decide)]
        exact hR.2.1 p hp
      · rw [z5, upd_no (by omega)]
        exact hR.2.2 p hp
      · unfold RW1
        rw [z1 2 (by decide), z1 3 (by decide), z1 4 (by decide)]
        exact hW
      · by_cases e : i = w
        · subst e
          rw [z5, upd_at]
        · rw [z5, upd_no (by omega)]
          exact hB i (by omega)
theorem b_takes_220 (s : ST) (t : Nat) (ht : 400 ≤ t ∧ t ≤ 650) (h34 : (s.1 0 34).toInt = t) (hM : M4 t s) : ∀ (f q : Nat) (x1 : Int32) (σ : ST), t < f + q + 400 → 400 + q ≤ t → x1.toInt = 400 + (q : Int) → TH_ s σ 6 36 288 → TR_ s σ q → OK (f_X11_takes_220 f x1 σ) (fun z => TH_ s z 6 36 288 ∧ TR_ s z (t - 400)) := by
  intro f
  have l6 := li_6
  have l400 := li_400
  have lu := FUi
  induction f with
  | zero => intro q x1 σ h1 h2; omega
  | succ f ih =>
    intro q x1 σ hf hq h1 hT hR
    rw [f_X11_takes_220]
    have c34 : (σ.1 0 34).toInt = t := by rw [hT.1 0 (by decide)]; exact h34
    refine OK.ile (fun h => ?_) (fun h => ?_)
    · have e : q = t - 400 := by omega
      rw [e] at hR
      exact OK.ret ⟨hT, hR⟩
    have n1 : x1.toNatClampNeg = 400 + q := nC (by omega)
    have es := il_subE (x := x1) (y := 400) (by omega) (by omega)
    have ns : (x1 - 400).toNatClampNeg = q := nC (by omega)
    rw [n1, ns]
    refine OK.grd ⟨by omega, by omega⟩ ?_
    refine OK.grd ⟨by omega, by omega⟩ ?_
    have r0 := hR.2.1 (400 + q) (by omega)
    have hm := hM (400 + q) (by omega) (by omega)
    have a2 : (stI σ 2 q (σ.1 2 (400 + q))).1 2 = upd (σ.1 2) q (σ.1 2 (400 + q)) := rfl
    have a1 : ∀ c, c ≠ 2 → (stI σ 2 q (σ.1 2 (400 + q))).1 c = σ.1 c := fun c hc => stI_ne hc
    have aL : (stI σ 2 q (σ.1 2 (400 + q))).2.1 = σ.2.1 := rfl
    generalize stI σ 2 q (σ.1 2 (400 + q)) = u at a2 a1 aL ⊢
    have u2 : u.1 2 (400 + q) = s.1 2 (400 + q) := by rw [a2, upd_no (by omega)]; exact r0.1
    have u2q : u.1 2 q = s.1 2 (400 + q) := by rw [a2, upd_at]; exact r0.1
    have u3 : u.1 3 (400 + q) = s.1 3 (400 + q) := by rw [a1 3 (by decide)]; exact r0.2.1
    have fin : ∀ y0 : Int32, ((s.1 2 (400 + q)).toInt = 6 → y0 = mv (s.1 3 (400 + q))) → (¬ (s.1 2 (400 + q)).toInt = 6 → y0 = s.1 3 (400 + q)) → OK (f_X11_takes_282 (f_X11_takes_220 f) x1 y0 (x1 - 400) u) (fun z => TH_ s z 6 36 288 ∧ TR_ s z (t - 400)) := by
      intro y0 y1 y2
      unfold f_X11_takes_282
      rw [n1, ns]
      refine OK.grd ⟨by omega, by omega⟩ ?_
      refine OK.grd ⟨by omega, by omega⟩ ?_
      refine OK.grd ⟨by omega, by omega⟩ ?_
      refine OK.lt (fun z hz => ?_)
      have z3 : z.1 3 = upd (u.1 3) q y0 := by rw [hz]; rfl
      have z4 : z.1 4 = upd (u.1 4) q (u.1 4 (400 + q)) := by rw [hz]; rfl
      have z1 : ∀ c, c ∉ [3, 4] → z.1 c = u.1 c := fun c hc => by
        simp only [List.mem_cons, List.not_mem_nil, or_false, not_or] at hc
        rw [hz, stI_ne hc.2, stI_ne hc.1]
      have zL : z.2.1 = σ.2.1 := by rw [hz]; exact aL
      clear hz
      have z2 : z.1 2 = u.1 2 := z1 2 (by decide)
      have u4 : u.1 4 (400 + q) = s.1 4 (400 + q) := by rw [a1 4 (by decide)]; exact r0.2.2
      refine b_takes_301 s q (by omega) (s.1 4 (400 + q)).toInt.toNat (by omega) (by omega) (fun p hp => hM (400 + p) (by omega) (by omega)) (f_X11_takes_220 f) _ (fun x z9 hx hT9 hR9 => ih (q + 1) x z9 (by omega) (by omega) (by omega) hT9 hR9) FU 0 x1 0 z (by omega) (by omega) h1 li_0 ?_ ⟨fun p hp => ?_, fun p hp => ?_, fun p hp => ?_⟩ ⟨?_, ?_, ?_, ?_⟩ (fun i hi => by omega)
      · refine hT.ext (fun d hd => ?_) zL
        simp only [List.mem_cons, List.not_mem_nil, or_false, not_or] at hd
        rw [z1 d (by simp only [List.mem_cons, List.not_mem_nil, or_false, not_or]; exact ⟨hd.2.1, hd.2.2.1⟩), a1 d hd.1]
      · obtain ⟨r1, r2⟩ := hR.1 p hp
        refine ⟨?_, fun i hi => ?_⟩
        · unfold RW1
          rw [z2, a2, upd_no (by omega), z3, upd_no (by omega), z4, upd_no (by omega), a1 3 (by decide), a1 4 (by decide)]
          exact r1
        · rw [z1 5 (by decide), a1 5 (by decide)]
          exact r2 i hi
      · rw [z2, a2, upd_no (by omega), z3, upd_no (by omega), z4, upd_no (by omega), a1 3 (by decide), a1 4 (by decide)]
        exact hR.2.1 p hp
      · rw [z1 5 (by decide), a1 5 (by decide)]
        exact hR.2.2 p hp
      · rw [z2]
        exact u2q
      · intro h9
        rw [z3, upd_at]
        exact y1 h9
      · intro h9
        rw [z3, upd_at]
        exact y2 h9
      · rw [z4, upd_at]
        exact u4
    rw [u2, u3, b_moved, sbnd]
    refine OK.ieq (fun h9 => ?_) (fun h9 => ?_)
    · exact fin _ (fun _ => rfl) (fun h => by omega)
    · exact fin _ (fun h => by omega) (fun _ => rfl)
theorem b_takes_98 (s : ST) (t : Nat) (ht : 400 ≤ t ∧ t ≤ 650) (h34 : (s.1 0 34).toInt = t) (hM : M4 t s) : ∀ (f i : Nat) (x1 : Int32) (σ : ST), 288 < f + i → i ≤ 288 → x1.toInt = i → TH_ s σ 6 36 i → TR_ s σ 0 → OK (f_X11_takes_98 f x1 σ) (fun z => TH_ s z 6 36 288 ∧ TR_ s z (t - 400)) := by
  intro f
  have l1 := li_1
  have l288 := li_288
  have lu := FUi
  induction f with
  | zero => intro i x1 σ h1 h2; omega
  | succ f ih =>
    intro i x1 σ hf hi h1 hT hR
    rw [f_X11_takes_98]
    refine OK.ile (fun h => ?_) (fun h => ?_)
    · have e : i = 288 := by omega
      subst e
      exact b_takes_220 s t ht h34 hM FU 0 400 σ (by omega) (by omega) li_400 hT hR
    have ea := il_addE (x := x1) (y := 288) (by omega) (by omega)
    have na : (x1 + 288).toNatClampNeg = 288 + i := nC (by omega)
    have n1 : x1.toNatClampNeg = i := nC h1
    have ex := il_addE (x := x1) (y := 1) (by omega) (by omega)
    rw [n1, na]
    refine OK.grd ⟨by omega, by omega⟩ ?_
    refine OK.grd ⟨by omega, by omega⟩ ?_
    refine OK.lt (fun z3 h3 => ?_)
    rw [b_moved, sbnd]
    refine OK.lt (fun z6 h6 => ?_)
    refine OK.lt (fun z7 h7 => ?_)
    have k15 : (stI z7 19 i (z7.1 19 (288 + i))).1 15 = upd (σ.1 15) i (mv (σ.1 15 (288 + i))) := by
      rw [h7, h6, h3]
      rfl
    have k19 : (stI z7 19 i (z7.1 19 (288 + i))).1 19 = upd (σ.1 19) i (σ.1 19 (288 + i)) := by
      rw [h7, h6, h3]
      rfl
    have k1 : ∀ c, c ∉ [13, 15, 16, 19] → (stI z7 19 i (z7.1 19 (288 + i))).1 c = σ.1 c := fun c hc => by
      simp only [List.mem_cons, List.not_mem_nil, or_false, not_or] at hc
      rw [stI_ne hc.2.2.2, h7]
      show z6.1 c = _
      rw [h6, stI_ne hc.2.2.1, stI_ne hc.2.1]
      show z3.1 c = _
      rw [h3, stI_ne hc.1]
      rfl
    have k13 : (stI z7 19 i (z7.1 19 (288 + i))).1 13 = upd (σ.1 13) i (σ.1 13 (288 + i)) := by
      rw [h7, h6, h3]
      rfl
    have k16 : (stI z7 19 i (z7.1 19 (288 + i))).1 16 = upd (σ.1 16) i (vp_nar .boolean (σ.1 16 (288 + i))) := by
      rw [h7, h6, h3]
      rfl
    have k12 : (stI z7 19 i (z7.1 19 (288 + i))).2.1 12 = vp_updL (σ.2.1 12) i (σ.2.1 12 (288 + i)) := by
      rw [h7, h6, h3]
      rfl
    have k14 : (stI z7 19 i (z7.1 19 (288 + i))).2.1 14 = vp_updL (σ.2.1 14) i (σ.2.1 14 (288 + i)) := by
      rw [h7, h6, h3]
      rfl
    have k17 : (stI z7 19 i (z7.1 19 (288 + i))).2.1 17 = vp_updL (σ.2.1 17) i (σ.2.1 17 (288 + i)) := by
      rw [h7, h6, h3]
      rfl
    have k18 : (stI z7 19 i (z7.1 19 (288 + i))).2.1 18 = vp_updL (σ.2.1 18) i (σ.2.1 18 (288 + i)) := by
      rw [h7, h6, h3]
      rfl
    have k9 : (stI z7 19 i (z7.1 19 (288 + i))).2.1 9 = σ.2.1 9 := by
      rw [h7, h6, h3]
      rfl
    clear h7 h6 h3
    generalize stI z7 19 i (z7.1 19 (288 + i)) = z at k15 k19 k1 k13 k16 k12 k14 k17 k18 k9 ⊢
    obtain ⟨t1, t2, t3, t4, t5⟩ := hT
    refine ih (i + 1) (x1 + 1) z (by omega) (by omega) (by omega) ⟨fun d hd => ?_, ?_, ?_, ⟨fun p hp => ?_, fun p hp => ?_⟩, fun p => ?_⟩ (hR.ext (fun c hc => k1 c (fun h9 => by
      simp only [List.mem_cons, List.not_mem_nil, or_false] at h9 hc
      omega)))
    · rw [k1 d (fun h9 => hd ?_)]
      · exact t1 d hd
      · simp only [List.mem_cons, List.not_mem_nil, or_false] at h9 ⊢
        omega
    · rw [k1 8 (by decide)]
      exact t2
    · rw [k1 11 (by decide), k1 10 (by decide), k9]
      exact t3
    · by_cases e : p = i
      · subst e
        obtain ⟨y1, y2, y3, y4, y5, y6, y7, y8⟩ := t4.2 (288 + p) (by omega)
        unfold TF
        rw [k15, upd_at, k16, upd_at, k13, upd_at, k19, upd_at, k12, updL_at, k14, updL_at, k17, updL_at, k18, updL_at, y1, y2]
        exact ⟨rfl, rfl, y3, y4, y5, y6, y7, y8⟩
      · unfold TF
        rw [k15, upd_no e, k16, upd_no e, k13, upd_no e, k19, upd_no e, k12, updL_no e, k14, updL_no e, k17, updL_no e, k18, updL_no e]
        exact t4.1 p (by omega)
    · unfold TF
      rw [k15, upd_no (by omega), k16, upd_no (by omega), k13, upd_no (by omega), k19, upd_no (by omega), k12, updL_no (by omega), k14, updL_no (by omega), k17, updL_no (by omega), k18, updL_no (by omega)]
      exact t4.2 p hp
    · rw [k19]
      exact upd_all (P := fun x => bI x 0 12) t5 (t5 _) p
theorem b_takes_39 (s : ST) (t : Nat) (ht : 400 ≤ t ∧ t ≤ 650) (h34 : (s.1 0 34).toInt = t) (hM : M4 t s) : ∀ (f i : Nat) (x1 : Int32) (σ : ST), 36 < f + i → i ≤ 36 → x1.toInt = i → TH_ s σ 6 i 0 → TR_ s σ 0 → OK (f_X11_takes_39 f x1 σ) (fun z => TH_ s z 6 36 288 ∧ TR_ s z (t - 400)) := by
  intro f
  have l1 := li_1
  have l36 := li_36
  have lu := FUi
  induction f with
  | zero => intro i x1 σ h1 h2; omega
  | succ f ih =>
    intro i x1 σ hf hi h1 hT hR
    rw [f_X11_takes_39]
    refine OK.ile (fun h => ?_) (fun h => ?_)
    · have e : i = 36 := by omega
      subst e
      exact b_takes_98 s t ht h34 hM FU 0 0 σ (by omega) (by omega) li_0 hT hR
    have ea := il_addE (x := x1) (y := 36) (by omega) (by omega)
    have na : (x1 + 36).toNatClampNeg = 36 + i := nC (by omega)
    have n1 : x1.toNatClampNeg = i := nC h1
    have ex := il_addE (x := x1) (y := 1) (by omega) (by omega)
    rw [n1, na]
    refine OK.grd ⟨by omega, by omega⟩ ?_
    refine OK.grd ⟨by omega, by omega⟩ ?_
    refine OK.lt (fun z3 h3 => ?_)
    have k11 : (stI z3 11 i (z3.1 11 (36 + i))).1 11 = upd (σ.1 11) i (σ.1 11 (36 + i)) := by
      rw [h3]
      rfl
    have k10 : (stI z3 11 i (z3.1 11 (36 + i))).1 10 = upd (σ.1 10) i (σ.1 10 (36 + i)) := by
      rw [h3]
      rfl
    have k1 : ∀ c, c ∉ [10, 11] → (stI z3 11 i (z3.1 11 (36 + i))).1 c = σ.1 c := fun c hc => by
      simp only [List.mem_cons, List.not_mem_nil, or_false, not_or] at hc
      rw [stI_ne hc.2, h3, stI_ne hc.1]
      rfl
    have k9 : (stI z3 11 i (z3.1 11 (36 + i))).2.1 9 = vp_updL (σ.2.1 9) i (σ.2.1 9 (36 + i)) := by
      rw [h3]
      rfl
    have kL : ∀ c, c ≠ 9 → (stI z3 11 i (z3.1 11 (36 + i))).2.1 c = σ.2.1 c := fun c hc => by
      show z3.2.1 c = _
      rw [h3]
      show (stL σ 9 _ _).2.1 c = _
      rw [stL_ne hc]
    clear h3
    generalize stI z3 11 i (z3.1 11 (36 + i)) = z at k11 k10 k1 k9 kL ⊢
    obtain ⟨t1, t2, t3, t4, t5⟩ := hT
    refine ih (i + 1) (x1 + 1) z (by omega) (by omega) (by omega) ⟨fun d hd => ?_, ?_, ⟨fun p hp => ?_, fun p hp => ?_⟩, ?_, ?_⟩ (hR.ext (fun c hc => k1 c (fun h9 => by
      simp only [List.mem_cons, List.not_mem_nil, or_false] at h9 hc
      omega)))
    · rw [k1 d (fun h9 => hd ?_)]
      · exact t1 d hd
      · simp only [List.mem_cons, List.not_mem_nil, or_false] at h9 ⊢
        omega
    · rw [k1 8 (by decide)]
      exact t2
    · by_cases e : p = i
      · subst e
        have e9 := t3.2 (36 + p) (by omega)
        rw [k11, upd_at, k10, upd_at, k9, updL_at]
        exact e9
      · rw [k11, upd_no e, k10, upd_no e, k9, updL_no e]
        exact t3.1 p (by omega)
    · rw [k11, upd_no (by omega), k10, upd_no (by omega), k9, updL_no (by omega)]
      exact t3.2 p hp
    · unfold TF at t4 ⊢
      rw [k1 15 (by decide), k1 16 (by decide), k1 13 (by decide), k1 19 (by decide), kL 12 (by decide), kL 14 (by decide), kL 17 (by decide), kL 18 (by decide)]
      exact t4
    · rw [k1 19 (by decide)]
      exact t5
theorem b_takes_10 (s : ST) (t : Nat) (ht : 400 ≤ t ∧ t ≤ 650) (h34 : (s.1 0 34).toInt = t) (hM : M4 t s) : ∀ (f i : Nat) (x1 : Int32) (σ : ST), 6 < f + i → i ≤ 6 → x1.toInt = i → TH_ s σ i 0 0 → TR_ s σ 0 → OK (f_X11_takes_10 f x1 σ) (fun z => TH_ s z 6 36 288 ∧ TR_ s z (t - 400)) := by
  intro f
  have l1 := li_1
  have l6 := li_6
  have lu := FUi
  induction f with
  | zero => intro i x1 σ h1 h2; omega
  | succ f ih =>
    intro i x1 σ hf hi h1 hT hR
    rw [f_X11_takes_10]
    refine OK.ile (fun h => ?_) (fun h => ?_)
    · have e : i = 6 := by omega
      subst e
      exact b_takes_39 s t ht h34 hM FU 0 0 σ (by omega) (by omega) li_0 hT hR
    have ea := il_addE (x := x1) (y := 6) (by omega) (by omega)
    have na : (x1 + 6).toNatClampNeg = 6 + i := nC (by omega)
    have n1 : x1.toNatClampNeg = i := nC h1
    have ex := il_addE (x := x1) (y := 1) (by omega) (by omega)
    rw [n1, na]
    refine OK.grd ⟨by omega, by omega⟩ ?_
    refine OK.grd ⟨by omega, by omega⟩ ?_
    have k8 : (stI σ 8 i (σ.1 8 (6 + i))).1 8 = upd (σ.1 8) i (σ.1 8 (6 + i)) := rfl
    have k1 : ∀ c, c ≠ 8 → (stI σ 8 i (σ.1 8 (6 + i))).1 c = σ.1 c := fun c hc => stI_ne hc
    have kL : (stI σ 8 i (σ.1 8 (6 + i))).2.1 = σ.2.1 := rfl
    generalize stI σ 8 i (σ.1 8 (6 + i)) = z at k8 k1 kL ⊢
    obtain ⟨t1, t2, t3, t4, t5⟩ := hT
    refine ih (i + 1) (x1 + 1) z (by omega) (by omega) (by omega) ⟨fun d hd => ?_, ⟨fun p hp => ?_, fun p hp => ?_⟩, ?_, ?_, ?_⟩ (hR.ext (fun c hc => k1 c (fun h9 => by
      rw [h9] at hc
      revert hc
      decide)))
    · rw [k1 d (fun h9 => hd (by rw [h9]; decide))]
      exact t1 d hd
    · by_cases e : p = i
      · subst e
        rw [k8, upd_at, t2.2 (6 + p) (by omega)]
      · rw [k8, upd_no e]
        exact t2.1 p (by omega)
    · rw [k8, upd_no (by omega)]
      exact t2.2 p hp
    · rw [k1 11 (by decide), k1 10 (by decide), kL]
      exact t3
    · unfold TF at t4 ⊢
      rw [k1 15 (by decide), k1 16 (by decide), k1 13 (by decide), k1 19 (by decide), kL]
      exact t4
    · rw [k1 19 (by decide)]
      exact t5
/-! what holds after plans -/
theorem VDmv {lo hi : Int} {S A M B S' A' M' B' : Nat → Int32} {rm : Int} (h0 : 400 ≤ lo) (hr : ∀ q : Nat, lo ≤ (400 + q : Int) → (400 + q : Int) < hi → S' q = S (400 + q) ∧ ((S (400 + q)).toInt = 6 → A' q = mv (A (400 + q))) ∧ (¬ (S (400 + q)).toInt = 6 → A' q = A (400 + q)) ∧ M' q = M (400 + q) ∧ ∀ w : Nat, (w : Int) < (M (400 + q)).toInt → B' (4 * q + w) = mv (B (4 * (400 + q) + w))) (h7 : ∀ q : Nat, lo ≤ (q : Int) → (q : Int) < hi → (S q).toInt = 7 → 0 ≤ (A q).toInt ∧ (A q).toInt < rm) : ∀ (d : Nat) (t : Int32), VD lo hi S A M B d t → VT (hi - 400) S' A' M' B' rm d (mv t) := by
  have nrow : ∀ {d : Nat} {t : Int32}, VD lo hi S A M B d t → ∃ q : Nat, t.toInt = 400 + (q : Int) ∧ t.toNatClampNeg = 400 + q ∧ (mv t).toInt = q ∧ (mv t).toNatClampNeg = q ∧ S' q = S t.toNatClampNeg := fun {d t} h => by
    have v1 := h.rng
    have mp := mv_pos (x := t) (by omega)
    refine ⟨(t.toInt - 400).toNat, by omega, nC (by omega), by omega, nC (by omega), ?_⟩
    have e : t.toNatClampNeg = 400 + (t.toInt - 400).toNat := nC (by omega)
    rw [e]
    exact (hr _ (by omega) (by omega)).1
  intro d
  induction d with
  | zero => intro t h; exact h
  | succ d ih =>
    intro t h
    obtain ⟨q, e1, e2, e3, e4, _⟩ := nrow h
    obtain ⟨v1, v2, v3, v4⟩ := h
    obtain ⟨r1, r2, r3, r4, r5⟩ := hr q (by omega) (by omega)
    rw [e2] at v2 v3 v4
    refine ⟨by omega, ?_, ?_, ?_, ?_⟩
    · rw [e4, r1]
      exact v2
    · rw [e4, r1]
      intro h6
      rw [r2 h6]
      exact ih _ (v3 h6)
    · rw [e4, r1]
      intro h9
      rw [r3 (by omega)]
      exact h7 (400 + q) (by omega) (by omega) h9
    · rw [e4, r1]
      intro h8
      obtain ⟨w1, w2, w3⟩ := v4 h8
      rw [r4]
      have sub : ∀ k : Nat, (k : Int) < (M (400 + q)).toInt → S' (B' (4 * q + k)).toNatClampNeg = S (B (4 * (400 + q) + k)).toNatClampNeg := fun k hk => by
        obtain ⟨p, _, _, _, p4, p5⟩ := nrow (w2 k hk).1
        rw [r5 k hk, p4]
        exact p5
      refine ⟨w1, fun k hk => ⟨?_, ?_⟩, fun j k hjk hk => ?_⟩
      · rw [r5 k hk]
        exact ih _ (w2 k hk).1
      · rw [sub k hk]
        exact (w2 k hk).2
      · rw [sub j (by omega), sub k hk]
        exact w3 j k hjk hk
theorem VT.ex {hi : Int} {S A M B S' A' M' B' : Nat → Int32} {rm : Int} (hr : ∀ q : Nat, (q : Int) < hi → S' q = S q ∧ A' q = A q ∧ M' q = M q ∧ ∀ w : Nat, w < 4 → B' (4 * q + w) = B (4 * q + w)) : ∀ (d : Nat) (t : Int32), VT hi S A M B rm d t → VT hi S' A' M' B' rm d t := by
  have nrow : ∀ {d : Nat} {t : Int32}, VT hi S A M B rm d t → (t.toNatClampNeg : Int) < hi := fun {d t} h => by
    have v1 := h.rng
    have n1 := nN_ v1.1
    omega
  intro d
  induction d with
  | zero => intro t h; exact h
  | succ d ih =>
    intro t h
    obtain ⟨r1, r2, r3, r4⟩ := hr _ (nrow h)
    obtain ⟨v1, v2, v3, v4, v5⟩ := h
    refine ⟨v1, by rw [r1]; exact v2, ?_, ?_, ?_⟩
    · rw [r1, r2]
      exact fun h6 => ih _ (v3 h6)
    · rw [r1, r2]
      exact v4
    · rw [r1, r3]
      intro h8
      obtain ⟨w1, w2, w3⟩ := v5 h8
      have sub : ∀ k : Nat, (k : Int) < (M t.toNatClampNeg).toInt → S' (B (4 * t.toNatClampNeg + k)).toNatClampNeg = S (B (4 * t.toNatClampNeg + k)).toNatClampNeg := fun k hk => (hr _ (nrow (w2 k hk).1)).1
      refine ⟨w1, fun k hk => ?_, fun j k hjk hk => ?_⟩
      · rw [r4 k (by omega), sub k hk]
        exact ⟨ih _ (w2 k hk).1, (w2 k hk).2⟩
      · rw [r4 k (by omega), r4 j (by omega), sub k hk, sub j (by omega)]
        exact w3 j k hjk hk
theorem IB.fv {τ b : ST} (h : IB τ) (hF : FV 6 400 36 τ b) : IB b := by
  obtain ⟨⟨p1, p2, p3⟩, h2, h3, h4, h5, h6, h7, h8, h9, h10⟩ := h
  obtain ⟨f1, f2, f3, f4, f5, f6, f7, f8⟩ := hF
  have e32 := f2 32 (by decide)
  refine ⟨⟨by rw [e32]; exact p1, ?_, f8.1 p3⟩, ?_, ?_, ?_, ?_, ?_, ?_, ?_, ?_, ?_⟩
  · rw [e32]
    intro p hp
    have p6 := p1.2
    rw [f5 p (by omega)]
    obtain ⟨a1, a2⟩ := p2 p hp
    refine ⟨a1, fun k hk => ?_⟩
    rw [f6 (6 * p + k) (by omega)]
    obtain ⟨c1, c2⟩ := a2 k hk
    have c3 := c1.2
    refine ⟨c1, fun j hj => ?_⟩
    rw [(f7 _ (by omega)).1]
    refine VT.ex (fun q hq => ?_) _ _ (c2 j hj)
    have e := f3 q (by omega)
    exact ⟨e.1, e.2.1, e.2.2, fun w hw => f4 _ (by omega)⟩
  · unfold PB
    rw [f1 35 (by decide)]
    exact h2
  · rw [f1 32 (by decide), e32]
    exact h3
  · rw [f1 33 (by decide)]
    exact h4
  · rw [f1 38 (by decide)]
    exact h5
  · rw [f2 68 (by decide)]
    exact h6
  · rw [f2 73 (by decide)]
    exact h7
  · rw [f2 83 (by decide)]
    exact h8
  · rw [f2 92 (by decide)]
    exact h9
  · unfold TH
    rw [f1 45 (by decide)]
    exact h10
/-- the messages are gone -/
def P80 (z y : ST) : Prop := y.2.1 = z.2.1 ∧ (∀ c, c ∉ [0, 32] → y.1 c = z.1 c) ∧ (∀ i, i ∉ [73, 81, 92, 93, 94] → y.1 0 i = z.1 0 i) ∧ (∀ i, i < 4 → y.1 32 i = -1) ∧ (y.1 0 73 = 0 ∧ y.1 0 92 = 0)
theorem b_plans_80 (z : ST) : ∀ (f i : Nat) (x3 : Int32) (σ : ST), 4 < f + i → i ≤ 4 → x3.toInt = i → (∀ c, c ≠ 32 → σ.1 c = z.1 c) → σ.2.1 = z.2.1 → (∀ j, j < i → σ.1 32 j = -1) → OK (f_X11_plans_80 f x3 σ) (fun y => y.2 = 0 ∧ P80 z y.1.2) := by
  intro f
  have l1 := li_1
  have l4 := li_4
  induction f with
  | zero => intro i x3 σ h1 h2; omega
  | succ f ih =>
    intro i x3 σ hf hi h3 hC hL hD
    rw [f_X11_plans_80]
    refine OK.ile (fun h => ?_) (fun h => ?_)
    · refine OK.ret ⟨rfl, hL, fun c hc => ?_, fun j hj => ?_, fun j hj => ?_, rfl, rfl⟩
      · simp only [List.mem_cons, List.not_mem_nil, or_false, not_or] at hc
        show (stI (stI (stI (stI (stI σ 0 73 0) 0 81 0) 0 92 0) 0 93 0) 0 94 0).1 c = _
        rw [stI_ne hc.1, stI_ne hc.1, stI_ne hc.1, stI_ne hc.1, stI_ne hc.1]
        exact hC c hc.2
      · simp only [List.mem_cons, List.not_mem_nil, or_false, not_or] at hj
        show upd (upd (upd (upd (upd (σ.1 0) 73 0) 81 0) 92 0) 93 0) 94 0 j = _
        rw [upd_no hj.2.2.2.2, upd_no hj.2.2.2.1, upd_no hj.2.2.1, upd_no hj.2.1, upd_no hj.1, hC 0 (by decide)]
      · exact hD j (by omega)
    · have n3 : x3.toNatClampNeg = i := nC h3
      have ex := il_addE (x := x3) (y := 1) (by omega) (by omega)
      refine OK.grd ⟨by omega, by omega⟩ ?_
      rw [n3]
      refine ih (i + 1) (x3 + 1) _ (by omega) (by omega) (by omega) (fun c hc => by rw [stI_ne hc]; exact hC c hc) hL (fun j hj => ?_)
      have e9 : (stI σ 32 i (-1)).1 32 = upd (σ.1 32) i (-1) := rfl
      by_cases e : j = i
      · subst e
        rw [e9, upd_at]
      · rw [e9, upd_no e]
        exact hD j (by omega)
/-- what the reference takes over of its draft -/
def Y6 (t : Nat) (b y : ST) : Prop := (∀ p, p < 6 → y.1 8 p = b.1 8 (6 + p)) ∧ (∀ i, i < 36 → y.1 11 i = b.1 11 (36 + i) ∧ y.1 10 i = b.1 10 (36 + i) ∧ y.2.1 9 i = b.2.1 9 (36 + i)) ∧ (∀ i, i < 288 → y.1 15 i = mv (b.1 15 (288 + i)) ∧ y.1 16 i = vp_nar .boolean (b.1 16 (288 + i)) ∧ TF b y i (288 + i)) ∧ ∀ q, 400 + q < t → RW1 b y q ∧ ∀ w : Nat, (w : Int) < (b.1 4 (400 + q)).toInt → y.1 5 (4 * q + w) = mv (b.1 5 (4 * (400 + q) + w))
/-- what holds in the reference stays -/
def KR (s y : ST) : Prop := (∀ p, p < 6 → y.1 8 p = s.1 8 p) ∧ (∀ i, i < 36 → y.1 11 i = s.1 11 i ∧ y.1 10 i = s.1 10 i ∧ y.2.1 9 i = s.2.1 9 i) ∧ (∀ i, i < 288 → y.1 15 i = s.1 15 i ∧ y.1 16 i = s.1 16 i ∧ TF s y i i) ∧ (∀ q, q < 400 → y.1 2 q = s.1 2 q ∧ y.1 3 q = s.1 3 q ∧ y.1 4 q = s.1 4 q) ∧ ∀ q, q < 1600 → y.1 5 q = s.1 5 q
theorem TF.rf {s : ST} {i : Nat} : TF s s i i := ⟨rfl, rfl, rfl, rfl, rfl, rfl⟩
theorem TF.trans {s a b : ST} {i j : Nat} (h : TF s a j j) (k : TF a b i j) : TF s b i j := ⟨k.1.trans h.1, k.2.1.trans h.2.1, k.2.2.1.trans h.2.2.1, k.2.2.2.1.trans h.2.2.2.1, k.2.2.2.2.1.trans h.2.2.2.2.1, k.2.2.2.2.2.trans h.2.2.2.2.2⟩
theorem KR.rf {s : ST} : KR s s := ⟨fun _ _ => rfl, fun _ _ => ⟨rfl, rfl, rfl⟩, fun _ _ => ⟨rfl, rfl, TF.rf⟩, fun _ _ => ⟨rfl, rfl, rfl⟩, fun _ _ => rfl⟩
theorem KR.trans {s a b : ST} (h : KR s a) (k : KR a b) : KR s b := ⟨fun p hp => (k.1 p hp).trans (h.1 p hp), fun i hi => by
  have x := h.2.1 i hi
  have y := k.2.1 i hi
  exact ⟨y.1.trans x.1, y.2.1.trans x.2.1, y.2.2.trans x.2.2⟩, fun i hi => by
  have x := h.2.2.1 i hi
  have y := k.2.2.1 i hi
  exact ⟨y.1.trans x.1, y.2.1.trans x.2.1, x.2.2.trans y.2.2⟩, fun i hi => by
  have x := h.2.2.2.1 i hi
  have y := k.2.2.2.1 i hi
  exact ⟨y.1.trans x.1, y.2.1.trans x.2.1, y.2.2.trans x.2.2⟩, fun i hi => (k.2.2.2.2 i hi).trans (h.2.2.2.2 i hi)⟩
theorem FV.kr {τ b : ST} (h : FV 6 400 36 τ b) : KR τ b := by
  obtain ⟨f1, f2, f3, f4, f5, f6, f7, f8, f9, f10⟩ := h
  exact ⟨fun p hp => f5 p hp, fun i hi => ⟨f6 i hi, f9 i hi, f10.1 i hi⟩, fun i hi => by
    have x := f7 i (by omega)
    have y := f10.2 i (by omega)
    exact ⟨x.1, x.2.2.1, x.2.1, x.2.2.2, y.1, y.2.1, y.2.2.1, y.2.2.2⟩, fun q hq => f3 q hq, fun q hq => f4 q (by omega)⟩
theorem KR.eq {s y : ST} (h1 : ∀ c, c ∈ [2, 3, 4, 5, 8, 10, 11, 13, 15, 16, 19] → y.1 c = s.1 c) (h2 : ∀ c, c ∈ [9, 12, 14, 17, 18] → y.2.1 c = s.2.1 c) : KR s y := by
  unfold KR TF
  rw [h1 2 (by decide), h1 3 (by decide), h1 4 (by decide), h1 5 (by decide), h1 8 (by decide), h1 10 (by decide), h1 11 (by decide), h1 13 (by decide), h1 15 (by decide), h1 16 (by decide), h1 19 (by decide), h2 9 (by decide), h2 12 (by decide), h2 14 (by decide), h2 17 (by decide), h2 18 (by decide)]
  exact ⟨fun _ _ => rfl, fun _ _ => ⟨rfl, rfl, rfl⟩, fun _ _ => ⟨rfl, rfl, rfl, rfl, rfl, rfl, rfl, rfl⟩, fun _ _ => ⟨rfl, rfl, rfl⟩, fun _ _ => rfl⟩
/-- along the branches of an either, the class's -/
def chn (N : Nat → Int32) (x : Int32) : Nat → Int32
  | 0 => x
  | k + 1 => N (chn N x k).toNatClampNeg
/-- one type: the class's x, the reference's y -/
def TYR (n : Int) (SA IA NA SB AB MB BB : Nat → Int32) (p : Nat) (rm : Int) : Nat → Int32 → Int32 → Prop
  | 0, _, _ => False
  | d + 1, x, y => ((0 ≤ x.toInt ∧ x.toInt < n) ∧ (0 ≤ y.toInt ∧ y.toInt < 400)) ∧ SA x.toNatClampNeg = SB y.toNatClampNeg ∧ (0 ≤ (SB y.toNatClampNeg).toInt ∧ (SB y.toNatClampNeg).toInt ≤ 8) ∧
    ((SB y.toNatClampNeg).toInt = 6 → TYR n SA IA NA SB AB MB BB p rm d (IA x.toNatClampNeg) (AB y.toNatClampNeg)) ∧
    ((SB y.toNatClampNeg).toInt = 7 → (0 ≤ (AB y.toNatClampNeg).toInt ∧ (AB y.toNatClampNeg).toInt < rm) ∧ (IA x.toNatClampNeg).toInt = 6 * (p : Int) + (AB y.toNatClampNeg).toInt) ∧
    (¬ (SB y.toNatClampNeg).toInt = 8 → (MB y.toNatClampNeg).toInt = 0) ∧
    ((SB y.toNatClampNeg).toInt = 8 → (1 ≤ (MB y.toNatClampNeg).toInt ∧ (MB y.toNatClampNeg).toInt ≤ 4) ∧
      (∀ k : Nat, (k : Int) < (MB y.toNatClampNeg).toInt → TYR n SA IA NA SB AB MB BB p rm d (chn NA (IA x.toNatClampNeg) k) (BB (4 * y.toNatClampNeg + k)) ∧ ¬ (SB (BB (4 * y.toNatClampNeg + k)).toNatClampNeg).toInt = 8) ∧
      (chn NA (IA x.toNatClampNeg) (MB y.toNatClampNeg).toInt.toNat).toInt = -1 ∧
      (∀ j k : Nat, j < k → (k : Int) < (MB y.toNatClampNeg).toInt → ¬ (SB (BB (4 * y.toNatClampNeg + j)).toNatClampNeg).toInt = (SB (BB (4 * y.toNatClampNeg + k)).toNatClampNeg).toInt))
theorem TYR.rng {n : Int} {SA IA NA SB AB MB BB : Nat → Int32} {p : Nat} {rm : Int} {d : Nat} {x y : Int32} (h : TYR n SA IA NA SB AB MB BB p rm d x y) : (0 ≤ x.toInt ∧ x.toInt < n) ∧ 0 ≤ y.toInt ∧ y.toInt < 400 := by
  cases d with
  | zero => exact h.elim
  | succ d => exact h.1
theorem TYR.mk {p lo hi : Nat} {n rm : Int} {σ b y : ST} (h400 : 400 ≤ lo) (h650 : hi ≤ 650) (hn : (hi : Int) + p + 1 - 400 ≤ n) (hR : RSD p lo hi rm σ b) (hX : RX (p + 1) lo hi σ b) (hy : ∀ q, 400 + q < hi → RW1 b y q ∧ ∀ w : Nat, (w : Int) < (b.1 4 (400 + q)).toInt → y.1 5 (4 * q + w) = mv (b.1 5 (4 * (400 + q) + w))) : ∀ (d : Nat) (t x : Int32), VD lo hi (b.1 2) (b.1 3) (b.1 4) (b.1 5) d t → x.toInt = t.toInt + p + 1 - 400 → TYR n (σ.1 31) (σ.1 32) (σ.1 33) (y.1 2) (y.1 3) (y.1 4) (y.1 5) p rm d x (mv t) := by
  intro d
  induction d with
  | zero => intro t x h; exact h.elim
  | succ d ih =>
    intro t x h hx
    obtain ⟨v1, v2, v3, v4⟩ := h
    have mp := mv_pos (x := t) (by omega)
    obtain ⟨q, eq⟩ : ∃ q : Nat, t.toInt = 400 + (q : Int) := ⟨(t.toInt - 400).toNat, by omega⟩
    have et : t.toNatClampNeg = 400 + q := nC (by omega)
    have em : (mv t).toNatClampNeg = q := nC (by omega)
    have ex : x.toNatClampNeg = 400 + q + (p + 1) - 400 := nC (by omega)
    rw [et] at v2 v3 v4
    obtain ⟨r1, r2, r3, r4⟩ := hR (400 + q) (by omega) (by omega)
    obtain ⟨x1, x2, x3⟩ := hX (400 + q) (by omega) (by omega)
    obtain ⟨⟨w1, w2, w3, w4⟩, w5⟩ := hy q (by omega)
    have z8 : (b.1 2 (400 + q)).toInt = 8 → ∀ k : Nat, (k : Int) < (b.1 4 (400 + q)).toInt → (chn (σ.1 33) (σ.1 32 (400 + q + (p + 1) - 400)) k).toInt = (b.1 5 (4 * (400 + q) + k)).toInt + p + 1 - 400 := by
      intro h8 k
      induction k with
      | zero =>
        intro hk
        have := r2 h8
        show (σ.1 32 (400 + q + (p + 1) - 400)).toInt = (b.1 5 (4 * (400 + q))).toInt + p + 1 - 400
        omega
      | succ k ik =>
        intro hk
        have i1 := ik (by omega)
        obtain ⟨⟨y1, y2⟩, y3, _⟩ := x3 h8 k (by omega)
        have n9 := nN_ (x := b.1 5 (4 * (400 + q) + k)) (by omega)
        have e9 : (chn (σ.1 33) (σ.1 32 (400 + q + (p + 1) - 400)) k).toNatClampNeg = (b.1 5 (4 * (400 + q) + k)).toNatClampNeg + (p + 1) - 400 := nC (by omega)
        show (σ.1 33 (chn (σ.1 33) (σ.1 32 (400 + q + (p + 1) - 400)) k).toNatClampNeg).toInt = _
        rw [e9, y3 (by omega)]
        show (b.1 5 (4 * (400 + q) + k + 1)).toInt + ((p + 1 : Nat) : Int) - 400 = (b.1 5 (4 * (400 + q) + k + 1)).toInt + p + 1 - 400
        omega
    have sub : ∀ {t' : Int32}, VD lo hi (b.1 2) (b.1 3) (b.1 4) (b.1 5) d t' → y.1 2 (mv t').toNatClampNeg = b.1 2 t'.toNatClampNeg := fun {t'} h => by
      have r := h.rng
      have mp := mv_pos (x := t') (by omega)
      obtain ⟨q', eq'⟩ : ∃ q : Nat, t'.toInt = 400 + (q : Int) := ⟨(t'.toInt - 400).toNat, by omega⟩
      have et' : t'.toNatClampNeg = 400 + q' := nC (by omega)
      have em' : (mv t').toNatClampNeg = q' := nC (by omega)
      rw [et', em']
      exact (hy q' (by omega)).1.1
    refine ⟨⟨by omega, by omega⟩, ?_, ?_, ?_, ?_, ?_, ?_⟩
    · rw [ex, em, w1]
      exact r1
    · rw [em, w1]
      exact v2
    · rw [em, ex, w1]
      intro h6
      rw [w2 h6]
      have := x1 h6
      exact ih _ _ (v3 h6) (by omega)
    · rw [em, ex, w1]
      intro h7
      rw [w3 (by omega)]
      exact r3 h7
    · rw [em, w1, w4]
      exact x2
    · rw [em, ex, w1]
      intro h8
      obtain ⟨u1, u2, u3⟩ := v4 h8
      rw [w4]
      refine ⟨u1, fun k hk => ⟨?_, ?_⟩, ?_, fun j k hjk hk => ?_⟩
      · rw [w5 k hk]
        exact ih _ _ (u2 k hk).1 (z8 h8 k hk)
      · rw [w5 k hk, sub (u2 k hk).1]
        exact (u2 k hk).2
      · obtain ⟨m, hm⟩ : ∃ m : Nat, (b.1 4 (400 + q)).toInt = (m : Int) + 1 := ⟨((b.1 4 (400 + q)).toInt - 1).toNat, by omega⟩
        have e1 : (b.1 4 (400 + q)).toInt.toNat = m + 1 := by omega
        have i1 := z8 h8 m (by omega)
        obtain ⟨⟨y1, y2⟩, _, y4⟩ := x3 h8 m (by omega)
        have n9 := nN_ (x := b.1 5 (4 * (400 + q) + m)) (by omega)
        have e9 : (chn (σ.1 33) (σ.1 32 (400 + q + (p + 1) - 400)) m).toNatClampNeg = (b.1 5 (4 * (400 + q) + m)).toNatClampNeg + (p + 1) - 400 := nC (by omega)
        rw [e1]
        show (σ.1 33 (chn (σ.1 33) (σ.1 32 (400 + q + (p + 1) - 400)) m).toNatClampNeg).toInt = _
        rw [e9]
        exact y4 (by omega)
      · rw [w5 j (by omega), w5 k hk, sub (u2 j (by omega)).1, sub (u2 k hk).1]
        exact u3 j k hjk hk
theorem TYR.ext {n n' : Int} {SA IA NA SB AB MB BB SA' IA' NA' SB' AB' MB' BB' : Nat → Int32} {p : Nat} {rm : Int} (hn : n ≤ n') (ha : ∀ i : Nat, (i : Int) < n → SA' i = SA i ∧ IA' i = IA i ∧ NA' i = NA i) (hb : ∀ q : Nat, q < 400 → SB' q = SB q ∧ AB' q = AB q ∧ MB' q = MB q ∧ ∀ w, w < 4 → BB' (4 * q + w) = BB (4 * q + w)) : ∀ (d : Nat) (x y : Int32), TYR n SA IA NA SB AB MB BB p rm d x y → TYR n' SA' IA' NA' SB' AB' MB' BB' p rm d x y := by
  intro d
  induction d with
  | zero => intro x y h; exact h.elim
  | succ d ih =>
    intro x y h
    obtain ⟨⟨h1, h2⟩, h3, h4, h5, h6, h7, h8⟩ := h
    have nx := nN_ h1.1
    have ny := nN_ h2.1
    obtain ⟨a1, a2, a3⟩ := ha x.toNatClampNeg (by omega)
    obtain ⟨b1, b2, b3, b4⟩ := hb y.toNatClampNeg (by omega)
    refine ⟨⟨by omega, h2⟩, by rw [a1, b1]; exact h3, by rw [b1]; exact h4, ?_, ?_, ?_, ?_⟩
    · rw [b1, a2, b2]
      exact fun e => ih _ _ (h5 e)
    · rw [b1, a2, b2]
      exact h6
    · rw [b1, b3]
      exact h7
    · rw [b1, a2, b3]
      intro e
      obtain ⟨u1, u2, u3, u4⟩ := h8 e
      have ch : ∀ k : Nat, (k : Int) ≤ (MB y.toNatClampNeg).toInt → chn NA' (IA x.toNatClampNeg) k = chn NA (IA x.toNatClampNeg) k := by
        intro k
        induction k with
        | zero => intro _; rfl
        | succ k ik =>
          intro hk
          have r := (u2 k (by omega)).1.rng
          have n9 := nN_ r.1.1
          show NA' (chn NA' (IA x.toNatClampNeg) k).toNatClampNeg = NA (chn NA (IA x.toNatClampNeg) k).toNatClampNeg
          rw [ik (by omega)]
          exact (ha _ (by omega)).2.2
      have sb : ∀ k : Nat, (k : Int) < (MB y.toNatClampNeg).toInt → BB' (4 * y.toNatClampNeg + k) = BB (4 * y.toNatClampNeg + k) ∧ SB' (BB (4 * y.toNatClampNeg + k)).toNatClampNeg = SB (BB (4 * y.toNatClampNeg + k)).toNatClampNeg := fun k hk => by
        have r := (u2 k hk).1.rng
        have n9 := nN_ r.2.1
        exact ⟨b4 k (by omega), (hb _ (by omega)).1⟩
      refine ⟨u1, fun k hk => ?_, ?_, fun j k hjk hk => ?_⟩
      · rw [ch k (by omega), (sb k hk).1, (sb k hk).2]
        exact ⟨ih _ _ (u2 k hk).1, (u2 k hk).2⟩
      · rw [ch _ (by omega)]
        exact u3
      · rw [(sb k hk).1, (sb k hk).2, (sb j (by omega)).1, (sb j (by omega)).2]
        exact u4 j k hjk hk
/-- one field that holds: of both, at N -/
def FLH (b p : Nat) (rm : Int) (N : Nat) (σ τ : ST) : Prop := (WL (σ.2.1 (b + 7) N) (τ.2.1 12 N) ∧ RLEN (σ.2.1 (b + 7) N) (τ.1 13 N)) ∧ FMR (σ.2.1 (b + 8) N) (τ.2.1 14 N) ∧ TYR (σ.1 b 1).toInt (σ.1 (b + 11)) (σ.1 (b + 12)) (σ.1 (b + 13)) (τ.1 2) (τ.1 3) (τ.1 4) (τ.1 5) p rm 4 (σ.1 (b + 9) N) (τ.1 15 N) ∧ ((τ.1 16 N).toInt = 0 ∨ (τ.1 16 N).toInt = 1 ∧ EWF (FCS (τ.1 2) (τ.1 5) (τ.1 15 N)) (σ.2.1 (b + 10) N) (τ.2.1 17 N) (τ.2.1 18 N) (τ.1 19 N))
/-- which fields of a record that holds have an else -/
def ELH (b r m : Nat) (σ τ : ST) : Prop := ∃ w : Nat, w < 512 ∧ σ.1 (b + 5) r = Int32.ofNat w ∧ ∀ i : Nat, i < 9 → (w.testBit i = true ↔ i < m ∧ (τ.1 16 (8 * r + i)).toInt = 1)
/-- a plan that holds, of both; the class's at b -/
def PHB (b p : Nat) (σ τ : ST) : Prop := (σ.1 (b + 1) p = τ.1 8 p ∧ (1 ≤ (τ.1 8 p).toInt ∧ (τ.1 8 p).toInt ≤ 6)) ∧ ((0 ≤ (σ.1 (b + 2) p).toInt ∧ (σ.1 (b + 2) p).toInt < (σ.1 b 1).toInt) ∧ (σ.1 (b + 11) (σ.1 (b + 2) p).toNatClampNeg).toInt = 7 ∧ (σ.1 (b + 12) (σ.1 (b + 2) p).toNatClampNeg).toInt = 6 * (p : Int)) ∧ (σ.1 b 1).toInt ≤ 262 ∧ ∀ i : Nat, (i : Int) < (τ.1 8 p).toInt → (WL (σ.2.1 (b + 4) (6 * p + i)) (τ.2.1 9 (6 * p + i)) ∧ DNM (σ.2.1 (b + 4)) (6 * p) i) ∧ RLEN (σ.2.1 (b + 4) (6 * p + i)) (τ.1 10 (6 * p + i)) ∧ (σ.1 (b + 3) (6 * p + i) = τ.1 11 (6 * p + i) ∧ bI (τ.1 11 (6 * p + i)) 0 8) ∧ ELH b (6 * p + i) (τ.1 11 (6 * p + i)).toInt.toNat σ τ ∧ ∀ j : Nat, (j : Int) < (τ.1 11 (6 * p + i)).toInt → FLH b p (τ.1 8 p).toInt (8 * (6 * p + i) + j) σ τ
theorem bool01 {v : Int32} : (v.toInt = 0 → (vp_nar .boolean v).toInt = 0) ∧ (v.toInt = 1 → (vp_nar .boolean v).toInt = 1) := by
  refine ⟨fun h => ?_, fun h => ?_⟩
  · have e : v = 0 := Int32.toInt_inj.mp (h.trans li_0.symm)
    rw [e]
    decide
  · have e : v = 1 := Int32.toInt_inj.mp (h.trans li_1.symm)
    rw [e]
    decide
theorem FCSmv {p lo hi : Nat} {rm : Int} {σ b y : ST} (h400 : 400 ≤ lo) (h650 : hi ≤ 650) (hy : ∀ q, 400 + q < hi → RW1 b y q ∧ ∀ w : Nat, (w : Int) < (b.1 4 (400 + q)).toInt → y.1 5 (4 * q + w) = mv (b.1 5 (4 * (400 + q) + w))) {t : Int32} {d : Nat} (h : VD lo hi (b.1 2) (b.1 3) (b.1 4) (b.1 5) d t) : FCS (y.1 2) (y.1 5) (mv t) = FCS (b.1 2) (b.1 5) t := by
  have rw_ : ∀ {t' : Int32}, lo ≤ t'.toInt ∧ t'.toInt < hi → y.1 2 (mv t').toNatClampNeg = b.1 2 t'.toNatClampNeg ∧ t'.toNatClampNeg = 400 + (mv t').toNatClampNeg ∧ 400 + (mv t').toNatClampNeg < hi := fun {t'} r => by
    have mp := mv_pos (x := t') (by omega)
    obtain ⟨q', eq'⟩ : ∃ q : Nat, t'.toInt = 400 + (q : Int) := ⟨(t'.toInt - 400).toNat, by omega⟩
    have et' : t'.toNatClampNeg = 400 + q' := nC (by omega)
    have em' : (mv t').toNatClampNeg = q' := nC (by omega)
    rw [et', em']
    exact ⟨(hy q' (by omega)).1.1, rfl, by omega⟩
  have r := h.rng
  obtain ⟨e1, e2, e3⟩ := rw_ r
  have hf := h.first
  have hM : (b.1 2 t.toNatClampNeg).toInt = 8 → 1 ≤ (b.1 4 t.toNatClampNeg).toInt := by
    cases d with
    | zero => exact h.elim
    | succ d =>
      intro h8
      exact (h.2.2.2 h8).1.1
  unfold FCS
  rw [e1]
  by_cases h8 : (b.1 2 t.toNatClampNeg).toInt = 8
  · rw [if_pos h8, if_pos h8]
    have r2 := hf h8
    have m1 := hM h8
    obtain ⟨y1, _, _⟩ := rw_ r2
    have w5 := (hy (mv t).toNatClampNeg e3).2 0 (by rw [← e2]; omega)
    rw [← e2] at w5
    have w5 : y.1 5 (4 * (mv t).toNatClampNeg) = mv (b.1 5 (4 * t.toNatClampNeg)) := w5
    rw [w5, y1]
  · rw [if_neg h8, if_neg h8]
theorem FPA.phb {p t t' : Nat} {σ b y : ST} (h : FPA p t σ b) (hp : p < 6) (hy : Y6 t' b y) (ht : t ≤ t') (hn : (t : Int) + p + 1 - 400 ≤ (σ.1 20 1).toInt) (hn2 : (σ.1 20 1).toInt ≤ 262) : PHB 20 p σ y := by
  obtain ⟨lo, hi, h1, ⟨h2, h3⟩, ⟨h4, h5, h6⟩, h7, h8, h9⟩ := h
  obtain ⟨y1, y2, y3, y4⟩ := hy
  have e8 := y1 p hp
  have yr : ∀ q, 400 + q < hi → RW1 b y q ∧ ∀ w : Nat, (w : Int) < (b.1 4 (400 + q)).toInt → y.1 5 (4 * q + w) = mv (b.1 5 (4 * (400 + q) + w)) := fun q hq => y4 q (by omega)
  have h2' : (σ.1 21 p).toInt = (b.1 8 (6 + p)).toInt := by rw [h2]
  have er : (σ.1 22 p).toNatClampNeg = lo + p - 400 := nC (by omega)
  refine ⟨⟨by rw [e8]; exact h2, by rw [e8]; omega⟩, ⟨by show 0 ≤ (σ.1 22 p).toInt ∧ (σ.1 22 p).toInt < (σ.1 20 1).toInt; omega, by show (σ.1 31 (σ.1 22 p).toNatClampNeg).toInt = 7; rw [er]; exact h5, by show (σ.1 32 (σ.1 22 p).toNatClampNeg).toInt = _; rw [er]; exact h6⟩, hn2, fun i hi9 => ?_⟩
  rw [e8] at hi9 ⊢
  obtain ⟨x1, x2, ⟨x3, x4⟩, x5, x6⟩ := h9 i (by omega)
  obtain ⟨z1, z2, z3⟩ := y2 (6 * p + i) (by omega)
  have x7 := x4.2
  rw [z1, z2, z3]
  refine ⟨x1, x2, ⟨x3, x4⟩, ?_, fun j hj => ?_⟩
  · obtain ⟨w, w1, w2, w3⟩ := x5.1
    refine ⟨w, w1, w2, fun q hq => ?_⟩
    rw [w3 q hq]
    constructor
    · rintro ⟨a1, a2⟩
      have y9 := (y3 (8 * (6 * p + i) + q) (by omega)).2.1
      have e9 : 288 + (8 * (6 * p + i) + q) = 8 * (36 + (6 * p + i)) + q := by omega
      rw [y9, e9]
      exact ⟨a1, bool01.2 a2⟩
    · rintro ⟨a1, a2⟩
      have y9 := (y3 (8 * (6 * p + i) + q) (by omega)).2.1
      have e9 : 288 + (8 * (6 * p + i) + q) = 8 * (36 + (6 * p + i)) + q := by omega
      rw [y9, e9] at a2
      rcases (x5.2 q a1).2.2.2 with h0 | h0
      · rw [bool01.1 h0] at a2
        omega
      · exact ⟨a1, h0.1⟩
  · obtain ⟨f1, f2, ⟨f3, f4, f5⟩, f6⟩ := x5.2 j (by omega)
    obtain ⟨g1, g2, g3, g4, g5, g6, g7, g8⟩ := y3 (8 * (6 * p + i) + j) (by omega)
    have e9 : 288 + (8 * (6 * p + i) + j) = 8 * (36 + (6 * p + i)) + j := by omega
    rw [e9] at g1 g2 g3 g4 g5 g6 g7 g8
    have hv := x6 j hj
    unfold FLH
    rw [g1, g2, g3, g4, g5, g6, g7, g8, FCSmv (p := p) (rm := 0) (σ := σ) h1.1 (by omega) yr hv, ← h2']
    refine ⟨f1, f2, TYR.mk h1.1 (by omega) (by omega) h7 h8 yr 4 _ _ hv (by show (σ.1 29 _).toInt = _; omega), ?_⟩
    rcases f6 with h0 | h0
    · exact .inl (bool01.1 h0)
    · exact .inr ⟨bool01.2 h0.1, h0.2⟩
theorem b_plans_62 (b : ST) (P t : Nat) (hI : IB b) (hP : 1 ≤ P ∧ P ≤ 6) (h33 : (b.1 0 33).toInt = P) (h34 : (b.1 0 34).toInt = t) (ht : 400 ≤ t ∧ t ≤ 650) (hD : ∀ p, p < P → PLD p t b) (hM : M4 t b) : OK (f_X11_plans_62 1 b) (fun y => y.2 = 0 ∧ IB y.1.2 ∧ y.1.2.1 1 = b.1 1 ∧ y.1.2.1 0 2 = b.1 0 2 ∧ (y.1.2.1 0 32).toInt = P ∧ Y6 t b y.1.2) := by
  unfold f_X11_plans_62 f_X11_takes
  have lu := FUi
  have l0 := li_0
  have lm := li_m1
  rw [if_neg (by decide)]
  obtain ⟨⟨p1, p2, p3⟩, h2, h3, h4, h5, h6, h7, h8, h9, h10⟩ := hI
  have s9 : (stI b 0 32 (b.1 0 33)).1 0 = upd (b.1 0) 32 (b.1 0 33) := rfl
  have s1 : ∀ c, c ≠ 0 → (stI b 0 32 (b.1 0 33)).1 c = b.1 c := fun c hc => stI_ne hc
  have sL : (stI b 0 32 (b.1 0 33)).2.1 = b.2.1 := rfl
  generalize stI b 0 32 (b.1 0 33) = s at s9 s1 sL ⊢
  have s34 : (s.1 0 34).toInt = t := by rw [s9, upd_no (by decide)]; exact h34
  have sM : M4 t s := by
    unfold M4
    rw [s1 4 (by decide)]
    exact hM
  refine OK.bnd (b_takes_10 s t ht s34 sM FU 0 0 s (by omega) (by omega) l0 ⟨fun _ _ => rfl, ⟨fun i hi => by omega, fun _ _ => rfl⟩, ⟨fun i hi => by omega, fun _ _ => ⟨rfl, rfl, rfl⟩⟩, ⟨fun i hi => by omega, fun _ _ => ⟨rfl, rfl, TF.rf⟩⟩, by rw [s1 19 (by decide)]; exact p3⟩ ⟨fun q hq => by omega, fun _ _ => ⟨rfl, rfl, rfl⟩, fun _ _ => rfl⟩) (fun z hz => ?_)
  obtain ⟨⟨z1, z2, z3, z4, z5⟩, zR, _⟩ := hz
  refine (b_plans_80 z FU 0 0 z (by omega) (by omega) l0 (fun _ _ => rfl) rfl (fun j hj => by omega)).mono (fun y hy => ?_)
  obtain ⟨y0, yL, y1, y2, y3, y4, y5⟩ := hy
  have e32 : (y.1.2.1 0 32).toInt = P := by
    rw [y2 32 (by decide), z1 0 (by decide), s9, upd_at]
    exact h33
  have e0 : ∀ i, i ∉ [32, 73, 81, 92, 93, 94] → y.1.2.1 0 i = b.1 0 i := fun i hi => by
    simp only [List.mem_cons, List.not_mem_nil, or_false, not_or] at hi
    rw [y2 i (by simp only [List.mem_cons, List.not_mem_nil, or_false, not_or]; exact hi.2), z1 0 (by decide), s9, upd_no hi.1]
  have e1 : ∀ c, c ∉ [0, 2, 3, 4, 5, 8, 10, 11, 13, 15, 16, 19, 32] → y.1.2.1 c = b.1 c := fun c hc => by
    simp only [List.mem_cons, List.not_mem_nil, or_false, not_or] at hc
    rw [y1 c (by simp only [List.mem_cons, List.not_mem_nil, or_false, not_or]; omega), z1 c (by simp only [List.mem_cons, List.not_mem_nil, or_false, not_or]; omega), s1 c hc.1]
  refine ⟨y0, ⟨⟨⟨by omega, by omega⟩, ?_, ?_⟩, ?_, ?_, ?_, ?_, ?_, ?_, ?_, ?_, ?_⟩, e1 1 (by decide), e0 2 (by decide), e32, ?_⟩
  · rw [e32, y1 2 (by decide), y1 3 (by decide), y1 4 (by decide), y1 5 (by decide), y1 8 (by decide), y1 11 (by decide), y1 15 (by decide)]
    intro p hp
    obtain ⟨lo, hi, d1, d2, d3, d4⟩ := hD p (by omega)
    rw [z2.1 p (by omega), s1 8 (by decide)]
    refine ⟨d2, fun k hk => ?_⟩
    rw [(z3.1 (6 * p + k) (by omega)).1, s1 11 (by decide)]
    obtain ⟨c1, c2⟩ := d3 k hk
    have c3 := c1.2
    refine ⟨c1, fun j hj => ?_⟩
    have ej : 288 + (8 * (6 * p + k) + j) = 8 * (36 + (6 * p + k)) + j := by omega
    rw [(z4.1 (8 * (6 * p + k) + j) (by omega)).1, s1 15 (by decide), ej]
    refine VT.wk (hi := (hi : Int) - 400) (by omega) ?_
    refine VDmv (lo := lo) (hi := hi) (by omega) (fun q hq1 hq2 => ?_) (fun q hq1 hq2 => d4 q (by omega) (by omega)) 4 _ (c2 j hj)
    obtain ⟨⟨r1, r2, r3, r4⟩, r5⟩ := zR q (by omega)
    rw [s1 2 (by decide), s1 3 (by decide)] at r2 r3
    rw [s1 2 (by decide)] at r1
    rw [s1 4 (by decide)] at r4 r5
    rw [s1 5 (by decide)] at r5
    exact ⟨r1, r2, r3, r4, r5⟩
  · rw [y1 19 (by decide)]
    exact z5
  · unfold PB
    rw [e1 35 (by decide)]
    exact h2
  · intro i hi
    rw [y3 i hi, e32, lm]
    omega
  · rw [e1 33 (by decide)]
    exact h4
  · rw [e1 38 (by decide)]
    exact h5
  · rw [e0 68 (by decide)]
    exact h6
  · rw [y4]
    unfold bI
    omega
  · rw [e0 83 (by decide)]
    exact h8
  · rw [y5]
    unfold bI
    omega
  · unfold TH
    rw [e1 45 (by decide)]
    exact h10
  · refine ⟨fun p hp => ?_, fun i hi => ?_, fun i hi => ?_, fun q hq => ?_⟩
    · rw [y1 8 (by decide), z2.1 p hp, s1 8 (by decide)]
    · have e := z3.1 i hi
      rw [y1 11 (by decide), y1 10 (by decide), yL, e.1, e.2.1, e.2.2, s1 11 (by decide), s1 10 (by decide), sL]
      exact ⟨rfl, rfl, rfl⟩
    · have e := z4.1 i hi
      unfold TF at e ⊢
      rw [s1 15 (by decide), s1 16 (by decide), s1 13 (by decide), s1 19 (by decide), sL] at e
      rw [y1 15 (by decide), y1 16 (by decide), y1 13 (by decide), y1 19 (by decide), yL]
      exact e
    · have e := zR q (by omega)
      unfold RW1 at e ⊢
      rw [s1 2 (by decide), s1 3 (by decide), s1 4 (by decide), s1 5 (by decide)] at e
      rw [y1 2 (by decide), y1 3 (by decide), y1 4 (by decide), y1 5 (by decide)]
      exact e
/-! plans: both take the same text -/
theorem ab_plans_loop (τ0 : ST) (hI : IB τ0) : ∀ (g k t : Nat) (σ0 τ : ST) (A : Option (Int32 × ST)) (v : Int32) (b : ST) (x : Nat), 8 < g + k → k ≤ 6 → FV 6 400 36 τ0 τ → (∀ p, p < k → PLD p t τ) → (∀ p, p < k → FPA p t σ0 τ) → M4 t τ → (τ.1 0 33).toInt = k → 400 ≤ t → PLO (k + 1) t k σ0 τ A ((v, b), x) → (v.toInt = 1 → k < 6 ∧ x + 40 * uT b ≤ 40 * uT τ) → OK (f_X11_plans_43 g v b) (fun y => x + y.2 ≤ 40 * uT τ + 30 ∧ IB y.1.2 ∧ y.1.2.1 1 = τ0.1 1 ∧ y.1.2.1 0 2 = τ0.1 0 2 ∧ OK A (fun qa => (qa.1.toInt = 0 ∧ y.1.2.1 0 32 = τ0.1 0 32 ∧ KR τ0 y.1.2) ∨ (qa.1.toInt = 1 ∧ (y.1.2.1 0 32).toInt = (qa.2.1 20 0).toInt ∧ ∀ p : Nat, (p : Int) < (qa.2.1 20 0).toInt → PHB 20 p qa.2 y.1.2))) := by
  intro g
  have l0 := li_0
  have l1 := li_1
  induction g with
  | zero => intro k t σ0 τ A v b x h1 h2; omega
  | succ g ih =>
    intro k t σ0 τ A v b x hg hk hF hD hE0 hM h33 ht hO hc
    obtain ⟨zF, hz⟩ := hO
    dsimp only at zF hz
    have zF0 : FV 6 400 36 τ0 b := hF.trans zF (by omega) ht (by omega)
    rw [f_X11_plans_43]
    rcases hz with ⟨z1, z2, z3⟩ | ⟨z1, ⟨t1, ⟨ht1, ht2⟩, hPk, h34, hMr, hE⟩, z33, z4⟩
    · refine OK.ieq (fun _ => ?_) (fun h => by omega)
      unfold f_X11_plans_62
      refine OK.ieq (fun _ => ?_) (fun h => by omega)
      exact OK.ret ⟨by show x + 0 ≤ _; omega, hI.fv zF0, zF0.1 1 (by decide), zF0.2.1 2 (by decide), z2.mono (fun qa h => .inl ⟨h, zF0.2.1 32 (by decide), zF0.kr⟩)⟩
    · obtain ⟨hk6, hc⟩ := hc z1
      refine OK.ieq (fun h => by omega) (fun _ => ?_)
      have e33 := il_addE (x := τ.1 0 33) (y := 1) (by omega) (by omega)
      have hz33 : (b.1 0 33).toInt = ((k + 1 : Nat) : Int) := by rw [z33]; omega
      have hD1 : ∀ p, p < k + 1 → PLD p t1 b := fun p hp => by
        by_cases e : p = k
        · rw [e]
          exact hPk
        · exact (hD p (by omega)).fv zF (Nat.le_refl _) ht1 (by omega) (by omega)
      have hM1 : M4 t1 b := fun q hq1 hq2 => by
        by_cases e : q < t
        · rw [(zF.2.2.1 q e).2.2]
          exact hM q hq1 e
        · exact hMr q (by omega) hq2
      rcases hE with ⟨h0, hA⟩ | ⟨n, xk, x2, σ, hW, eA, hX, hxk, hcA, hat, hx2, hn, hP0, hQ0⟩
      · refine OK.ieq (fun _ => ?_) (fun h => by omega)
        have ez : v = 1 := Int32.toInt_inj.mp (by omega)
        rw [ez]
        refine (b_plans_62 b (k + 1) t1 (hI.fv zF0) (by omega) hz33 h34 (by omega) hD1 hM1).mono (fun y hy => ?_)
        obtain ⟨y0, y1, y2, y3, y4, y5⟩ := hy
        refine ⟨by omega, y1, y2.trans (zF0.1 1 (by decide)), y3.trans (zF0.2.1 2 (by decide)), hA.mono (fun qa h => .inr ⟨h.1, by rw [y4, h.2.1], fun p hp => ?_⟩)⟩
        have hp9 : p < k + 1 := by have := h.2.1; omega
        have hf : FPA p t1 qa.2 b := by
          by_cases e : p = k
          · rw [e]
            exact h.2.2.2.2
          · exact (hE0 p (by omega)).keep (by omega) h.2.2.2.1 zF (Nat.le_refl _) ht1 (by omega)
        have h3 := h.2.2.1
        exact hf.phb (by omega) y5 (Nat.le_refl _) (by omega) (by omega)
      · have w1 := hW.1
        refine OK.ieq (fun h => by omega) (fun _ => ?_)
        have hpl := ab_plan (k + 1) t1 n xk x2 σ b hX hW (by omega) hz33 h34 (by omega) (by omega) hat (by omega) (by omega) hn
        rw [← eA] at hpl
        have hE1 : ∀ p, p < k + 1 → FPA p t1 σ b := fun p hp => by
          by_cases e : p = k
          · rw [e]
            exact hQ0
          · exact (hE0 p (by omega)).keep (by omega) hP0 zF (Nat.le_refl _) ht1 (by omega)
        refine OK.bnd hpl (fun z' hz' => ?_)
        obtain ⟨⟨v', b'⟩, x'⟩ := z'
        obtain ⟨p1, p2⟩ := hz'
        refine OK.kac ?_
        refine (ih (k + 1) t1 σ b A v' b' x' (by omega) (by omega) zF0 hD1 hE1 hM1 hz33 (by omega) p1 p2).mono (fun y hy => ?_)
        obtain ⟨y0, y1⟩ := hy
        exact ⟨by show x + (x' + y.2) ≤ _; omega, y1⟩
theorem a_resolve_m1 (σ : ST) (hc : (σ.1 20 1).toInt = 0) : f_X3_resolve (-1) σ = some (1, σ) := by
  have lm := li_m1
  have l0 := li_0
  have ef : FU = 99999 + 1 := rfl
  have ef2 : (99999 : Nat) = 99998 + 1 := rfl
  have ei : f_X5_isType 20 (-1) σ = some (0, σ) := by
    unfold f_X5_isType
    rw [if_pos (by decide)]
  have ea : (-1 : Int32) + 1 = 0 := by decide
  unfold f_X3_resolve f_X5_resolve f_X5_rootType
  rw [if_pos (by decide), sbnd, ef, f_X5_resolve_6, if_neg (by rw [Int32.le_iff_toInt_le]; show ¬ (σ.1 20 1).toInt ≤ (-1 : Int32).toInt; omega), ei, sbnd]
  dsimp only
  rw [if_pos rfl]
  unfold f_X5_resolve_62
  rw [ea, ef2, f_X5_resolve_6, if_pos (by rw [Int32.le_iff_toInt_le]; omega), sbnd]
  dsimp only
  rw [if_pos rfl]
  rfl
theorem a_parse_top (σ τ : ST) (hK : TK σ τ) (hc : (σ.1 20 1).toInt = 0) : (W_ τ v_plan → f_X3_parse_11 FU (-1) 0 σ = NX 99999 (-1) 0 σ) ∧ (¬ W_ τ v_plan → OK (f_X3_parse_11 FU (-1) 0 σ) (fun q => q.1.toInt = 0)) := by
  have ef : FU = 99999 + 1 := rfl
  have e1 : kwV 0 = v_plan := rfl
  have hk := a_isKw 0 σ τ hK (k := 0) (by omega) li_0
  rw [e1] at hk
  have er : f_X5_recordsOf 20 (-1) σ = some (0, σ) := by
    unfold f_X5_recordsOf
    rw [if_pos (by decide)]
  have e0 : f_X3_parse_11 FU (-1) 0 σ = f_X3_parse_90 (f_X3_parse_11 99999) (-1) 0 0 σ := by
    rw [ef, f_X3_parse_11, if_neg (by decide), er, sbnd]
    dsimp only
    rw [if_pos (by decide)]
    unfold f_X3_parse_33 f_X3_parse_60 f_X3_parse_78 f_X3_parse_79
    rw [if_pos rfl, if_pos rfl, if_pos rfl, if_pos rfl]
  have n1 : ¬ (1 : Int32) = 0 := by decide
  refine ⟨fun hW => ?_, fun hW => ?_⟩
  · rw [e0]
    unfold f_X3_parse_90
    rw [hk.1 hW, sbnd]
    dsimp only
    rw [if_neg n1]
    unfold f_X3_parse_106 f_X3_parse_127
    rw [if_pos rfl, if_neg n1, a_resolve_m1 σ hc, sbnd]
    dsimp only
    rw [if_neg n1, if_pos rfl]
    rfl
  · rw [e0]
    unfold f_X3_parse_90
    rw [hk.2 hW, sbnd]
    dsimp only
    rw [if_pos rfl]
    unfold f_X3_parse_105 f_X3_parse_106
    rw [if_pos rfl, if_pos rfl]
    refine OK.bnd (a_refuse _ _) (fun q hq => ?_)
    exact OK.grd (b01 (.inl hq)) (OK.ret hq)
theorem ab_plans (p0 : Int32) (σ τ : ST) (h1 : σ.1 1 = τ.1 1) (hT8 : ∀ i, bI (τ.1 1 i) (-128) 127) (hkw : σ.2.1 3 = kw0) (hI : IB τ) (hp : 0 ≤ p0.toInt ∧ p0.toInt ≤ 1000) (s1 : ST) (e1 : f_X6_begin p0 σ = some s1) (r : Int32) (s2 : ST) (e2 : f_X3_parse s1 = some (r, s2)) : OK ((f_X11_begins p0 τ).bind fun q3 => (f_X11_plan (stI (stI q3 0 33 0) 0 34 400)).bind fun q5 => ac q5.2 (f_X11_plans_43 FU q5.1.1 q5.1.2)) (fun y => (y.2 : Int) ≤ 40 * p0.toInt + 80 ∧ IB y.1.2 ∧ y.1.2.1 1 = τ.1 1 ∧ y.1.2.1 0 2 = 0 ∧ ((r.toInt = 0 ∧ y.1.2.1 0 32 = τ.1 0 32 ∧ KR τ y.1.2) ∨ (¬ r.toInt = 0 ∧ (y.1.2.1 0 32).toInt = (s2.1 20 0).toInt ∧ ∀ p : Nat, (p : Int) < (s2.1 20 0).toInt → PHB 20 p s2 y.1.2))) := by
  have l0 := li_0
  have l1 := li_1
  have lm := li_m1
  have lu := FUi
  refine OK.bnd (b_begins p0 τ hp) (fun t ht => ?_)
  obtain ⟨ct, tx, tu, t2, t3, t12, s, hsk, hTB⟩ := ht
  -- the class at its first token
  have cI : IB t := hI.ch ct (by decide) (by decide)
  have g9 : (stI (stI t 0 33 0) 0 34 400).1 0 = upd (upd (t.1 0) 33 0) 34 400 := rfl
  have g0 : ∀ i, i ∉ [33, 34] → (stI (stI t 0 33 0) 0 34 400).1 0 i = t.1 0 i := fun i hi => by
    simp only [List.mem_cons, List.not_mem_nil, or_false, not_or] at hi
    rw [g9, upd_no hi.2, upd_no hi.1]
  have g33 : (stI (stI t 0 33 0) 0 34 400).1 0 33 = 0 := by rw [g9, upd_no (by decide), upd_at]
  have g34 : (stI (stI t 0 33 0) 0 34 400).1 0 34 = 400 := by rw [g9, upd_at]
  have g1 : ∀ c, c ≠ 0 → (stI (stI t 0 33 0) 0 34 400).1 c = t.1 c := fun c hc => by rw [stI_ne hc, stI_ne hc]
  have g2 : (stI (stI t 0 33 0) 0 34 400).2.1 = t.2.1 := rfl
  have gC : CH [] [33, 34] t (stI (stI t 0 33 0) 0 34 400) := (CH.rf.o (by decide)).o (by decide)
  clear g9
  generalize stI (stI t 0 33 0) 0 34 400 = b at g0 g33 g34 g1 g2 gC ⊢
  have bI_ : IB b := cI.ch gC (by decide) (by decide)
  have ub : uT b = uT t := uT_eq (g0 3 (by decide)) (g0 5 (by decide)) (g0 6 (by decide))
  unfold f_X6_begin at e1
  have a9 : (stI (stI (stI (stI σ 2 2 p0) 2 3 0) 2 12 0) 2 13 0).1 2 = upd (upd (upd (upd (σ.1 2) 2 p0) 3 0) 12 0) 13 0 := rfl
  have a1 : ∀ c, c ≠ 2 → (stI (stI (stI (stI σ 2 2 p0) 2 3 0) 2 12 0) 2 13 0).1 c = σ.1 c := fun c hc => by rw [stI_ne hc, stI_ne hc, stI_ne hc, stI_ne hc]
  have a2 : (stI (stI (stI (stI σ 2 2 p0) 2 3 0) 2 12 0) 2 13 0).1 2 2 = p0 := by rw [a9, upd_no (by decide), upd_no (by decide), upd_no (by decide), upd_at]
  have a3 : (stI (stI (stI (stI σ 2 2 p0) 2 3 0) 2 12 0) 2 13 0).1 2 3 = 0 := by rw [a9, upd_no (by decide), upd_no (by decide), upd_at]
  have aL : (stI (stI (stI (stI σ 2 2 p0) 2 3 0) 2 12 0) 2 13 0).2.1 = σ.2.1 := rfl
  clear a9
  generalize stI (stI (stI (stI σ 2 2 p0) 2 3 0) 2 12 0) 2 13 0 = u at a1 a2 a3 aL e1
  obtain ⟨u9, eu, ca, s', hs', hTA⟩ := a_advance u 0 (by rw [a1 1 (by decide), h1]; exact hT8) (by rw [a2]; exact hp) (by rw [a3]; exact l0) (by omega)
  rw [eu, sbnd] at e1
  cases e1
  rw [a1 1 (by decide), a2, h1] at hs' hTA
  have es : s' = s := hs'.uniq hsk
  subst es
  have t1 : t.1 1 = τ.1 1 := ct.1 1 (by decide) (by decide)
  have hkw9 : s1.2.1 3 = kw0 := by rw [ca.2.2.1 3 (by decide), aL]; exact hkw
  have hK : TK s1 t := TK.mk hT8 hkw9 t1 (by rw [t3]) hTA hTB
  have hX : LX s1 t := by
    refine ⟨⟨?_, ?_, ?_, hkw9⟩, ?_, hK, 0, s', by omega, ?_, ?_⟩
    · rw [ca.1 1 (by decide), a1 1 (by decide), h1, t1]
    · rw [ca.2.1, a2, t3]
    · rw [t1]
      exact hT8
    · rw [t3]
      exact hp
    · rw [t1, t3]
      exact hsk
    · rw [t1, t3]
      exact hTB
  -- the class's draft is emptied
  unfold f_X3_parse f_X5_clear at e2
  rw [sbnd] at e2
  have c1 : ∀ c, c ≠ 20 → (stI (stI s1 20 0 0) 20 1 0).1 c = s1.1 c := fun c hc => by rw [stI_ne hc, stI_ne hc]
  have c20 : (stI (stI s1 20 0 0) 20 1 0).1 20 1 = 0 := by
    have e9 : (stI (stI s1 20 0 0) 20 1 0).1 20 = upd (upd (s1.1 20) 0 0) 1 0 := rfl
    rw [e9, upd_at]
  have cL : (stI (stI s1 20 0 0) 20 1 0).2.1 = s1.2.1 := rfl
  generalize stI (stI s1 20 0 0) 20 1 0 = a at c1 c20 cL e2
  have hXa : LX a b := hX.ext (c1 1 (by decide)) (c1 2 (by decide)) (by rw [cL]) (by rw [cL]) (g1 1 (by decide)) (fun i hi => g0 i (fun h9 => by
    simp only [List.mem_cons, List.not_mem_nil, or_false] at h9 hi
    omega)) (by rw [g2])
  have htop := a_parse_top a b hXa.2.2.1 (by rw [c20]; exact l0)
  have bc : ∀ c, c ≠ 0 → b.1 c = τ.1 c := fun c hc => (g1 c hc).trans (ct.1 c hc (by simp))
  have b1 : b.1 1 = τ.1 1 := (g1 1 (by decide)).trans t1
  have tL5 := ct.l5
  have bKR : KR τ b := KR.eq (fun c hc => bc c (fun e => by rw [e] at hc; revert hc; decide)) (fun c hc => by
    rw [g2]
    simp only [List.mem_cons, List.not_mem_nil, or_false] at hc
    rcases hc with e | e | e | e | e
    · rw [e]; exact tL5.1
    · rw [e]; exact tL5.2.1
    · rw [e]; exact tL5.2.2.1
    · rw [e]; exact tL5.2.2.2.1
    · rw [e]; exact tL5.2.2.2.2)
  have b32 : b.1 0 32 = τ.1 0 32 := (g0 32 (by decide)).trans (ct.2.1 32 (by decide))
  have b2 : b.1 0 2 = 0 := (g0 2 (by decide)).trans t2
  by_cases hW : W_ b v_plan
  · have eA := htop.1 hW
    have hat : (0 : Int) ≤ (b.1 0 4).toInt := by
      rw [g0 4 (by decide), hTB.1]
      omega
    refine OK.bnd (ab_plan 0 400 99999 (-1) 0 a b hXa hW (by omega) (by rw [g33]; exact l0) (by rw [g34]; exact li_400) (by omega) (by rw [c20, l0]; rfl) (by omega) (by rw [lm]; rfl) (by omega) (by omega)) (fun z hz => ?_)
    obtain ⟨⟨zv, zs⟩, zx⟩ := z
    refine OK.kac ?_
    refine (ab_plans_loop b bI_ FU 0 400 a b _ zv zs zx (by omega) (by omega) FV.rf (fun p hp => by omega) (fun p hp => by omega) (fun q h1 h2 => by omega) (by rw [g33]; exact l0) (by omega) hz.1 hz.2).mono (fun y hy => ?_)
    obtain ⟨y0, y1, y2, y3, qa, ea, y4⟩ := hy
    rw [← eA, e2] at ea
    cases ea
    refine ⟨by show ((zx + y.2 : Nat) : Int) ≤ _; omega, y1, y2.trans b1, y3.trans b2, ?_⟩
    rcases y4 with ⟨q1, q2, q3⟩ | ⟨q1, q2⟩
    · exact .inl ⟨q1, q2.trans b32, bKR.trans q3⟩
    · have q1 : r.toInt = 1 := q1
      exact .inr ⟨by omega, q2⟩
  · obtain ⟨qa, ea, hq⟩ := htop.2 hW
    rw [e2] at ea
    cases ea
    unfold f_X11_plan
    refine OK.bnd (Q := fun q => q.1.1.toInt = 0 ∧ CH [] [12] b q.1.2 ∧ q.2 ≤ 1) ?_ (fun z hz => ?_)
    · refine OK.bndK (b_isPlan b) (fun v x hv hx => ?_)
      refine OK.kac ?_
      dsimp only
      have hv0 : v.toInt = 0 := by
        rcases hv with hv | hv
        · exact hv.1
        · exact absurd hv.2 hW
      refine OK.ieq (fun _ => ?_) (fun h => by omega)
      refine OK.bndC (b_wrongHere 1 b) (fun v2 s9 c2 hv2 => ?_)
      refine OK.grd (b01 (.inl hv2)) ?_
      exact OK.ret ⟨hv2, c2, by show x + 0 ≤ 1; omega⟩
    · obtain ⟨⟨zv, zs⟩, zx⟩ := z
      obtain ⟨z1, z2, z3⟩ := hz
      dsimp only at z1 z2 z3
      refine OK.kac ?_
      have ef : FU = 99999 + 1 := rfl
      dsimp only
      rw [ef, f_X11_plans_43]
      refine OK.ieq (fun _ => ?_) (fun h => by omega)
      unfold f_X11_plans_62
      refine OK.ieq (fun _ => ?_) (fun h => by omega)
      refine OK.ret ⟨by show ((zx + 0 : Nat) : Int) ≤ _; omega, bI_.ch z2 (by decide) (by decide), (z2.1 1 (by decide) (by decide)).trans b1, (z2.2.1 2 (by decide)).trans b2, .inl ⟨hq, (z2.2.1 32 (by decide)).trans b32, bKR.trans (z2.fw (K := 6) (t0 := 400) (R := 36) (by decide)).fv.kr⟩⟩
/-! what a call leaves of the tables of the plans: the rules -/
theorem bnd_some {α β : Type} {o : Option α} {f : α → Option β} {z : β} (h : o.bind f = some z) : ∃ x, o = some x ∧ f x = some z := by
  cases o with
  | none => cases h
  | some x => exact ⟨x, rfl, h⟩
def PF {β : Type} (st : β → ST) (K : ST → Prop) (o : Option β) : Prop := ∀ q, o = some q → K (st q)
abbrev st0 : ST → ST := fun q => q
abbrev st1 {α : Type} : α × ST → ST := fun q => q.2
abbrev st2 {α : Type} : (α × ST) × Nat → ST := fun q => q.1.2
theorem PF.none {β : Type} {st : β → ST} {K : ST → Prop} : PF st K (none : Option β) := fun _ h => by cases h
theorem PF.ite {β : Type} {st : β → ST} {K : ST → Prop} {c : Prop} {i : Decidable c} {x y : Option β} (h1 : c → PF st K x) (h2 : ¬ c → PF st K y) : PF st K (@_root_.ite (Option β) c i x y) := by
  by_cases h : c
  · rw [if_pos h]; exact h1 h
  · rw [if_neg h]; exact h2 h
theorem PF.bnd {β γ : Type} {st : β → ST} {st' : γ → ST} {K : ST → Prop} {o : Option β} {f : β → Option γ} (h : PF st K o) (k : ∀ q, K (st q) → PF st' K (f q)) : PF st' K (o.bind f) := by
  cases o with
  | none => exact PF.none
  | some x => exact k x (h x rfl)
theorem PF.val {α β : Type} {st : β → ST} {K : ST → Prop} {e : α} {f : α → Option β} (h : PF st K (f e)) : PF st K ((some e).bind f) := h
theorem PF.ret0 {K : ST → Prop} {σ : ST} (h : K σ) : PF st0 K (some σ) := fun q e => by cases e; exact h
theorem PF.ret1 {α : Type} {K : ST → Prop} {σ : ST} {v : α} (h : K σ) : PF st1 K (some (v, σ)) := fun q e => by cases e; exact h
theorem PF.ret2 {α : Type} {K : ST → Prop} {σ : ST} {v : α} {x : Nat} (h : K σ) : PF st2 K (some ((v, σ), x)) := fun q e => by cases e; exact h
theorem PF.ac {α : Type} {K : ST → Prop} {k : Nat} {o : Option ((α × ST) × Nat)} (h : PF st2 K o) : PF st2 K (ac k o) := by
  intro q e
  cases o with
  | none => cases e
  | some x =>
    have e2 : (x.1, k + x.2) = q := Option.some.inj e
    rw [← e2]
    exact h x rfl
def KTB (s σ : ST) : Prop := (∀ c, c ∈ [4, 5, 8, 10, 11, 13, 15, 16, 19] → σ.1 c = s.1 c) ∧ (∀ i, i < 400 → σ.1 2 i = s.1 2 i ∧ σ.1 3 i = s.1 3 i) ∧ (∀ c, c ∈ [9, 12, 14, 17, 18] → σ.2.1 c = s.2.1 c)
theorem KTB.rf {s : ST} : KTB s s := ⟨fun _ _ => rfl, fun _ _ => ⟨rfl, rfl⟩, fun _ _ => rfl⟩
theorem KTB.i {s σ : ST} {c i : Nat} {v : Int32} (hc : c ∉ [2, 3, 4, 5, 8, 10, 11, 13, 15, 16, 19]) (h : KTB s σ) : KTB s (stI σ c i v) := by
  simp only [List.mem_cons, List.not_mem_nil, or_false, not_or] at hc
  refine ⟨fun d hd => ?_, fun j hj => ?_, h.2.2⟩
  · rw [stI_ne (fun e => by
      simp only [List.mem_cons, List.not_mem_nil, or_false] at hd
      omega)]
    exact h.1 d hd
  · rw [stI_ne (fun e => hc.1 e.symm), stI_ne (fun e => hc.2.1 e.symm)]
    exact h.2.1 j hj
theorem KTB.l {s σ : ST} {c i : Nat} {v : Int64} (hc : c ∉ [9, 12, 14, 17, 18]) (h : KTB s σ) : KTB s (stL σ c i v) := by
  simp only [List.mem_cons, List.not_mem_nil, or_false, not_or] at hc
  refine ⟨h.1, h.2.1, fun d hd => ?_⟩
  rw [stL_ne (fun e => by
    simp only [List.mem_cons, List.not_mem_nil, or_false] at hd
    omega)]
  exact h.2.2 d hd
theorem KTB.d {s σ : ST} {c i : Nat} {v : UInt64} (h : KTB s σ) : KTB s (stD σ c i v) := h
theorem KTB.t {s σ : ST} {v w : Int32} (h : KTB s σ) : KTB s (stI (stI σ 2 799 v) 3 799 w) := by
  refine ⟨fun d hd => ?_, fun j hj => ⟨?_, ?_⟩, h.2.2⟩
  · rw [stI_ne (fun e => by rw [e] at hd; revert hd; decide), stI_ne (fun e => by rw [e] at hd; revert hd; decide)]
    exact h.1 d hd
  · rw [stI_ne (by decide)]
    show upd (σ.1 2) 799 v j = _
    rw [upd_no (by omega)]
    exact (h.2.1 j hj).1
  · have e9 : (stI (stI σ 2 799 v) 3 799 w).1 3 = upd (σ.1 3) 799 w := rfl
    rw [e9, upd_no (by omega)]
    exact (h.2.1 j hj).2
theorem w_X11_rootType {s : ST} {σ : ST} (h : KTB s σ) : PF st1 (KTB s) (f_X11_rootType σ) := by
  unfold f_X11_rootType
  have n799 : (799 : Int32).toNatClampNeg = 799 := by decide
  rw [n799]
  exact PF.ret1 (KTB.t h)
theorem w_X11_spelt {s : ST} {p0 p1 p2 p3 p4 p5 : Int32} {σ : ST} (h : KTB s σ) : PF st2 (KTB s) (f_X11_spelt p0 p1 p2 p3 p4 p5 σ) := by
  unfold f_X11_spelt
  intro q e
  obtain ⟨r, e1, e2⟩ := bnd_some e
  cases e2
  exact h
def KTA (s σ : ST) : Prop := ∀ c, 4 ≤ c → c < 20 → σ.1 c = s.1 c ∧ σ.2.1 c = s.2.1 c
theorem KTA.rf {s : ST} : KTA s s := fun _ _ _ => ⟨rfl, rfl⟩
theorem KTA.i {s σ : ST} {c i : Nat} {v : Int32} (hc : c < 4 ∨ 20 ≤ c) (h : KTA s σ) : KTA s (stI σ c i v) := fun d h1 h2 => by
  rw [stI_ne (by omega)]
  exact h d h1 h2
theorem KTA.l {s σ : ST} {c i : Nat} {v : Int64} (hc : c < 4 ∨ 20 ≤ c) (h : KTA s σ) : KTA s (stL σ c i v) := fun d h1 h2 => by
  rw [stL_ne (by omega)]
  exact h d h1 h2
theorem stF_ne5 {σ : ST} {q c : Nat} {f : Nat → Int32} (h : c ≠ q) : (stF σ q f).1 c = σ.1 c := by
  have e : Nat.beq c q = false := by
    cases h9 : Nat.beq c q with
    | false => rfl
    | true => exact absurd (Nat.eq_of_beq_eq_true h9) h
  show (bif Nat.beq c q then f else σ.1 c) = _
  rw [e]
  rfl
theorem stFL_ne5 {σ : ST} {q c : Nat} {f : Nat → Int64} (h : c ≠ q) : (stFL σ q f).2.1 c = σ.2.1 c := by
  have e : Nat.beq c q = false := by
    cases h9 : Nat.beq c q with
    | false => rfl
    | true => exact absurd (Nat.eq_of_beq_eq_true h9) h
  show (bif Nat.beq c q then f else σ.2.1 c) = _
  rw [e]
  rfl
theorem KTA.f {s σ : ST} {c : Nat} {f : Nat → Int32} (hc : c < 4 ∨ 20 ≤ c) (h : KTA s σ) : KTA s (stF σ c f) := fun d h1 h2 => by
  rw [stF_ne5 (by omega)]
  exact h d h1 h2
theorem KTA.fl {s σ : ST} {c : Nat} {f : Nat → Int64} (hc : c < 4 ∨ 20 ≤ c) (h : KTA s σ) : KTA s (stFL σ c f) := fun d h1 h2 => by
  rw [stFL_ne5 (by omega)]
  exact h d h1 h2
theorem KTA.d {s σ : ST} {c i : Nat} {v : UInt64} (h : KTA s σ) : KTA s (stD σ c i v) := h
theorem KTA.r {s σ : ST} {c v : Nat} (h : KTA s σ) : KTA s (stR σ c v) := h
