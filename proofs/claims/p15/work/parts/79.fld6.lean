/-! the plans that hold: kept, copied, asked for fields -/
theorem FLH.ext {b b' p N : Nat} {rm : Int} {σ τ a t : ST} (h : FLH b p rm N σ τ) (hn : a.1 b' 1 = σ.1 b 1) (h262 : (σ.1 b 1).toInt ≤ 262) (c : a.2.1 (b' + 7) N = σ.2.1 (b + 7) N ∧ a.2.1 (b' + 8) N = σ.2.1 (b + 8) N ∧ a.2.1 (b' + 10) N = σ.2.1 (b + 10) N ∧ a.1 (b' + 9) N = σ.1 (b + 9) N) (c11 : ∀ i, i < 262 → a.1 (b' + 11) i = σ.1 (b + 11) i ∧ a.1 (b' + 12) i = σ.1 (b + 12) i ∧ a.1 (b' + 13) i = σ.1 (b + 13) i) (k : t.1 15 N = τ.1 15 N ∧ t.1 16 N = τ.1 16 N ∧ TF τ t N N) (k2 : ∀ q, q < 400 → t.1 2 q = τ.1 2 q ∧ t.1 3 q = τ.1 3 q ∧ t.1 4 q = τ.1 4 q) (k5 : ∀ q, q < 1600 → t.1 5 q = τ.1 5 q) : FLH b' p rm N a t := by
  obtain ⟨h1, h2, h3, h4⟩ := h
  obtain ⟨c7, c8, c10, c9⟩ := c
  obtain ⟨k15, k16, k13, k19, k12, k14, k17, k18⟩ := k
  have r := h3.rng.2
  have hb : (τ.1 2 (τ.1 15 N).toNatClampNeg).toInt = 8 → 0 ≤ (τ.1 5 (4 * (τ.1 15 N).toNatClampNeg)).toInt ∧ (τ.1 5 (4 * (τ.1 15 N).toNatClampNeg)).toInt < (400 : Nat) := fun h8 => by
    obtain ⟨_, _, _, _, _, _, u⟩ := h3
    obtain ⟨u1, u2, _⟩ := u h8
    exact (u2 0 (by omega)).1.rng.2
  unfold FLH
  rw [c7, c8, c10, c9, k15, k16, k13, k19, k12, k14, k17, k18, hn, FCS.ext (t := 400) r hb (fun j hj => (k2 j hj).1) (fun j hj => k5 j (by omega))]
  exact ⟨h1, h2, TYR.ext (Int.le_refl _) (fun i hi => c11 i (by omega)) (fun q hq => ⟨(k2 q hq).1, (k2 q hq).2.1, (k2 q hq).2.2, fun w hw => k5 _ (by omega)⟩) 4 _ _ h3, h4⟩
theorem PHB.ext {b b' p : Nat} {σ τ a t : ST} (h : PHB b p σ τ) (hp : p < 6) (hn : a.1 b' 1 = σ.1 b 1) (c1 : ∀ i, i < 6 → a.1 (b' + 1) i = σ.1 (b + 1) i ∧ a.1 (b' + 2) i = σ.1 (b + 2) i) (c3 : ∀ i, i < 36 → a.1 (b' + 3) i = σ.1 (b + 3) i ∧ a.2.1 (b' + 4) i = σ.2.1 (b + 4) i ∧ a.1 (b' + 5) i = σ.1 (b + 5) i) (c7 : ∀ N, N < 288 → a.2.1 (b' + 7) N = σ.2.1 (b + 7) N ∧ a.2.1 (b' + 8) N = σ.2.1 (b + 8) N ∧ a.2.1 (b' + 10) N = σ.2.1 (b + 10) N ∧ a.1 (b' + 9) N = σ.1 (b + 9) N) (c11 : ∀ i, i < 262 → a.1 (b' + 11) i = σ.1 (b + 11) i ∧ a.1 (b' + 12) i = σ.1 (b + 12) i ∧ a.1 (b' + 13) i = σ.1 (b + 13) i) (k : KR τ t) : PHB b' p a t := by
  obtain ⟨⟨h1, h2⟩, ⟨h3, h4, h5⟩, h6, h7⟩ := h
  obtain ⟨k1, k2, k3, k4, k5⟩ := k
  have n3 := nN_ h3.1
  unfold PHB
  rw [k1 p hp, (c1 p hp).1, (c1 p hp).2, hn, (c11 _ (by omega)).1, (c11 _ (by omega)).2.1]
  refine ⟨⟨h1, h2⟩, ⟨h3, h4, h5⟩, h6, fun i hi => ?_⟩
  obtain ⟨x1, x2, ⟨x3, x4⟩, x5, x6⟩ := h7 i hi
  have e1 := k2 (6 * p + i) (by omega)
  have e2 := c3 (6 * p + i) (by omega)
  have x8 := x4.2
  have xd : DNM (a.2.1 (b' + 4)) (6 * p) i := fun j hj => by
    rw [(c3 (6 * p + j) (by omega)).2.1, e2.2.1]
    exact x1.2 j hj
  rw [e1.1, e1.2.1, e1.2.2, e2.1, e2.2.1]
  refine ⟨⟨x1.1, xd⟩, x2, ⟨x3, x4⟩, ?_, fun j hj => (x6 j hj).ext hn h6 (c7 _ (by omega)) c11 (k3 _ (by omega)) k4 k5⟩
  obtain ⟨w, w1, w2, w3⟩ := x5
  refine ⟨w, w1, e2.2.2.trans w2, fun q hq => ?_⟩
  rw [w3 q hq]
  constructor
  · rintro ⟨a1, a2⟩
    exact ⟨a1, by rw [(k3 (8 * (6 * p + i) + q) (by omega)).2.1]; exact a2⟩
  · rintro ⟨a1, a2⟩
    rw [(k3 (8 * (6 * p + i) + q) (by omega)).2.1] at a2
    exact ⟨a1, a2⟩
theorem PHB.keep {p : Nat} {σ τ a t : ST} (h : PHB 4 p σ τ) (hp : p < 6) (hA : KTA σ a) (k : KR τ t) : PHB 4 p a t := by
  have e : ∀ c, c < 16 → a.1 (4 + c) = σ.1 (4 + c) ∧ a.2.1 (4 + c) = σ.2.1 (4 + c) := fun c hc => hA (4 + c) (by omega) (by omega)
  have e0 : a.1 4 = σ.1 4 := (hA 4 (by omega) (by omega)).1
  exact h.ext hp (by rw [e0]) (fun i _ => ⟨by rw [(e 1 (by omega)).1], by rw [(e 2 (by omega)).1]⟩) (fun i _ => ⟨by rw [(e 3 (by omega)).1], by rw [(e 4 (by omega)).2], by rw [(e 5 (by omega)).1]⟩) (fun i _ => ⟨by rw [(e 7 (by omega)).2], by rw [(e 8 (by omega)).2], by rw [(e 10 (by omega)).2], by rw [(e 9 (by omega)).1]⟩) (fun i _ => ⟨by rw [(e 11 (by omega)).1], by rw [(e 12 (by omega)).1], by rw [(e 13 (by omega)).1]⟩) k
theorem PHB.copy {p : Nat} {s z a τ : ST} (h : PHB 20 p s τ) (hp : p < 6) (hc : CPS [(13, 262), (12, 262), (11, 262), (9, 288), (5, 36), (3, 36), (2, 6), (1, 6)] [(10, 288), (8, 288), (7, 288), (4, 36)] s z) (hk : K5A z a) : PHB 4 p a τ := by
  obtain ⟨h0, _, h2, h3⟩ := hc
  have e : ∀ c, c < 16 → c ≠ 6 → a.1 (4 + c) = z.1 (4 + c) ∧ a.2.1 (4 + c) = z.2.1 (4 + c) := fun c hc h6 => hk (4 + c) (by omega) (by omega) (by omega)
  have e0 : a.1 4 = z.1 4 := (hk 4 (by omega) (by omega) (by omega)).1
  have d : ∀ (q : Nat × Nat), q ∈ [(13, 262), (12, 262), (11, 262), (9, 288), (5, 36), (3, 36), (2, 6), (1, 6)] → q.1 < 16 → q.1 ≠ 6 → ∀ i, i < q.2 → a.1 (4 + q.1) i = s.1 (20 + q.1) i := fun q hq h1 h6 i hi => by
    rw [(e q.1 h1 h6).1]
    exact h2 q hq i hi
  have l : ∀ (q : Nat × Nat), q ∈ [(10, 288), (8, 288), (7, 288), (4, 36)] → q.1 < 16 → q.1 ≠ 6 → ∀ i, i < q.2 → a.2.1 (4 + q.1) i = s.2.1 (20 + q.1) i := fun q hq h1 h6 i hi => by
    rw [(e q.1 h1 h6).2]
    exact h3 q hq i hi
  exact h.ext (b' := 4) hp (by rw [e0]; exact h0) (fun i hi => ⟨d (1, 6) (by decide) (by decide) (by decide) i hi, d (2, 6) (by decide) (by decide) (by decide) i hi⟩) (fun i hi => ⟨d (3, 36) (by decide) (by decide) (by decide) i hi, l (4, 36) (by decide) (by decide) (by decide) i hi, d (5, 36) (by decide) (by decide) (by decide) i hi⟩) (fun i hi => ⟨l (7, 288) (by decide) (by decide) (by decide) i hi, l (8, 288) (by decide) (by decide) (by decide) i hi, l (10, 288) (by decide) (by decide) (by decide) i hi, d (9, 288) (by decide) (by decide) (by decide) i hi⟩) (fun i hi => ⟨d (11, 262) (by decide) (by decide) (by decide) i hi, d (12, 262) (by decide) (by decide) (by decide) i hi, d (13, 262) (by decide) (by decide) (by decide) i hi⟩) KR.rf
theorem KTB.kr {s y : ST} (h : KTB s y) : KR s y := by
  unfold KR TF
  rw [h.1 8 (by decide), h.1 11 (by decide), h.1 10 (by decide), h.1 15 (by decide), h.1 16 (by decide), h.1 13 (by decide), h.1 19 (by decide), h.1 4 (by decide), h.1 5 (by decide), h.2.2 9 (by decide), h.2.2 12 (by decide), h.2.2 14 (by decide), h.2.2 17 (by decide), h.2.2 18 (by decide)]
  exact ⟨fun _ _ => rfl, fun _ _ => ⟨rfl, rfl, rfl⟩, fun _ _ => ⟨rfl, rfl, rfl, rfl, rfl, rfl, rfl, rfl⟩, fun q hq => ⟨(h.2.1 q hq).1, (h.2.1 q hq).2, rfl⟩, fun _ _ => rfl⟩
theorem k6_plans (p0 : Int32) (σ : ST) (q : Int32 × ST) (h : f_X10_plans p0 σ = some q) (hr : 0 ≤ p0.toInt ∧ p0.toInt ≤ (σ.1 0 1).toInt) (s1 : ST) (r : Int32) (s2 : ST) (e1 : f_X6_begin p0 (stI σ 0 1 0) = some s1) (e2 : f_X3_parse s1 = some (r, s2)) : (r.toInt = 0 → KTA σ q.2) ∧ (¬ r.toInt = 0 → ∀ (p : Nat) (τ : ST), p < 6 → PHB 20 p s2 τ → PHB 4 p q.2 τ) := by
  have l0 := li_0
  unfold f_X10_plans at h
  rw [if_neg (by rw [Int32.lt_iff_toInt_lt]; omega), if_pos (by rw [Int32.le_iff_toInt_le]; omega), e1, sbnd, e2, sbnd] at h
  dsimp only at h
  refine ⟨fun r0 => ?_, fun r1 => ?_⟩
  · rw [if_pos (Int32.toInt_inj.mp (r0.trans l0.symm))] at h
    obtain ⟨x, ex, h⟩ := bnd_some h
    cases h
    have k1 : KTA σ s1 := w_X6_begin (KTA.i (by omega) KTA.rf) s1 e1
    have k2 : KTA σ s2 := w_X3_parse k1 (r, s2) e2
    exact w_X6_faultAnswer k2 x ex
  · rw [if_neg (fun e => r1 (by rw [e]; exact l0))] at h
    obtain ⟨c, ec, h⟩ := bnd_some h
    obtain ⟨d, ed, h⟩ := bnd_some h
    obtain ⟨x1, e3, h⟩ := bnd_some h
    obtain ⟨x2, e4, h⟩ := bnd_some h
    obtain ⟨x3, e5, h⟩ := bnd_some h
    obtain ⟨x4, e6, h⟩ := bnd_some h
    cases h
    have k1 : K5A c d := v_X5_findEmptyRecords (by omega) K5A.rf d ed
    have k2 : K5A c x1 := v_X1_clear k1 x1 e3
    have k3 : K5A c x2 := v_X0_clear k2 x2 e4
    have k4 : K5A c x3 := v_X9_clear k3 x3 e5
    have k5 : K5A c x4 := v_X7_clear (by omega) k4 x4 e6
    exact fun p τ hp hP => hP.copy hp (a_copy s2 c ec) k5
