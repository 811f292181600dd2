/-! what of a field and of a record is one on both sides -/
/-- a name's letters, counted -/
def RLEN (x : Int64) (n : Int32) : Prop := ∃ (m : Nat) (g : Nat → Nat), m ≤ 8 ∧ GL g m ∧ x.toInt = (n5 m g : Int) ∧ n.toInt = m
theorem LX.rlen {σ τ : ST} (h : LX σ τ) (hN : NM τ) : RLEN (σ.2.1 2 7) (τ.1 0 8) := by
  have hK := h.2.2.1
  obtain ⟨w1, w2, m, g, w3, w4, w5, w6⟩ := hK.wd (by rw [sv_nm hK hN]; omega)
  obtain ⟨s, e4, _, hT⟩ := h.tb
  obtain h1 | h1 | h1 | h1 | h1 := hT
  · have := h1.2.1
    clear h1
    omega
  · obtain ⟨hL, _, k, hR, h5, h8, h7, h6⟩ := h1
    have hk : k ≤ 8 := by omega
    have e : min k 8 = k := by omega
    rw [e] at h7
    have e3 := w27_n k hk hR.1
    rw [← h7, w6] at e3
    obtain ⟨q1, _⟩ := n27_inj m k g (gT (τ.1 1) s) w4 (gT_L hR.1).1 (by omega)
    exact ⟨m, g, w3, w4, w5, by rw [h8, q1]⟩
  · obtain ⟨_, ⟨_, k, hk⟩ | ⟨_, k, hk⟩⟩ := h1
    · obtain ⟨_, _, _, h9 | h9⟩ := hk
      · have : (τ.1 0 6).toInt = 2 ∨ (τ.1 0 6).toInt = 5 := h9.2.2.2.2.elim (fun h => .inl h.1) (fun h => .inr h.1)
        clear h9
        omega
      · have : (τ.1 0 6).toInt = 2 ∨ (τ.1 0 6).toInt = 5 := h9.2.2.2.elim (fun h => .inl h.1) (fun h => .inr h.1)
        clear h9
        omega
    · obtain ⟨_, _, _, h9 | h9⟩ := hk
      · have : (τ.1 0 6).toInt = 2 ∨ (τ.1 0 6).toInt = 5 := h9.2.2.2.2.elim (fun h => .inl h.1) (fun h => .inr h.1)
        clear h9
        omega
      · have : (τ.1 0 6).toInt = 2 ∨ (τ.1 0 6).toInt = 5 := h9.2.2.2.elim (fun h => .inl h.1) (fun h => .inr h.1)
        clear h9
        omega
  · obtain ⟨_, _, k, _, _, _, h6⟩ := h1
    omega
  · have h6 : (τ.1 0 6).toInt = 4 ∨ (τ.1 0 6).toInt = 5 := h1.2.2.elim (fun h => .inl h.2.1) (fun h => .inr h.2.1)
    clear h1
    omega
/-- a word is not nothing -/
theorem LX.wnz {σ τ : ST} (h : LX σ τ) (hN : NM τ) : ¬ σ.2.1 2 7 = 0 := by
  have hK := h.2.2.1
  obtain ⟨w1, w2, w3⟩ := hK.wd (by rw [sv_nm hK hN]; omega)
  obtain ⟨s0, hs0, hTB⟩ := h.tb
  intro e0
  obtain ⟨m, gg, _, hgl, e1, e2⟩ := w3
  obtain ⟨_, mm, hR, _, hm, hw⟩ := hTB.word w1
  have e3 := w27_n mm hm.2 hR.1
  rw [← hw, e2] at e3
  obtain ⟨q1, _⟩ := n27_inj m mm gg (gT (τ.1 1) s0) hgl (gT_L hR.1).1 (by omega)
  rw [e0, l64_0] at e1
  obtain ⟨q2, _⟩ := n5_inj m 0 gg gg hgl (fun i hi => by omega) (by show n5 m gg = 0; omega)
  omega
/-- what a field was called, if it was -/
def FMR (x y : Int64) : Prop := (x = 0 ∧ y = 0) ∨ (WL x y ∧ ¬ x = 0)
/-- the sort of a type's first choice -/
def FCS (S B : Nat → Int32) (t : Int32) : Int := if (S t.toNatClampNeg).toInt = 8 then (S (B (4 * t.toNatClampNeg)).toNatClampNeg).toInt else (S t.toNatClampNeg).toInt
/-- what stands for a field that is missing: of a sort that a literal may have -/
def EWF (s : Int) (w b t : Int64) (n : Int32) : Prop := EWR s w b t n ∧ 0 ≤ s ∧ s ≤ 6
/-- one field: the class's at N, the reference's at M, its type's rows below t -/
def FLR (P t N M : Nat) (σ τ : ST) : Prop := (WL (σ.2.1 27 N) (τ.2.1 12 M) ∧ RLEN (σ.2.1 27 N) (τ.1 13 M)) ∧ FMR (σ.2.1 28 N) (τ.2.1 14 M) ∧ ((σ.1 29 N).toInt = (τ.1 15 M).toInt + P - 400 ∧ (0 ≤ (τ.1 15 M).toInt ∧ (τ.1 15 M).toInt < t) ∧ ((τ.1 2 (τ.1 15 M).toNatClampNeg).toInt = 8 → 0 ≤ (τ.1 5 (4 * (τ.1 15 M).toNatClampNeg)).toInt ∧ (τ.1 5 (4 * (τ.1 15 M).toNatClampNeg)).toInt < t)) ∧ ((τ.1 16 M).toInt = 0 ∨ (τ.1 16 M).toInt = 1 ∧ EWF (FCS (τ.1 2) (τ.1 5) (τ.1 15 M)) (σ.2.1 30 N) (τ.2.1 17 M) (τ.2.1 18 M) (τ.1 19 M))
theorem FCS.ext {S B S' B' : Nat → Int32} {x : Int32} {t : Nat} (hx : 0 ≤ x.toInt ∧ x.toInt < t) (hb : (S x.toNatClampNeg).toInt = 8 → 0 ≤ (B (4 * x.toNatClampNeg)).toInt ∧ (B (4 * x.toNatClampNeg)).toInt < t) (h2 : ∀ j, j < t → S' j = S j) (h5 : ∀ j, j < 4 * t → B' j = B j) : FCS S' B' x = FCS S B x := by
  have n1 := nN_ hx.1
  unfold FCS
  rw [h2 _ (by omega), h5 _ (by omega)]
  by_cases h : (S x.toNatClampNeg).toInt = 8
  · have r := hb h
    have n2 := nN_ r.1
    rw [if_pos h, if_pos h, h2 _ (by omega)]
  · rw [if_neg h, if_neg h]
theorem FLR.ext {P t t' N M : Nat} {σ τ a b : ST} (h : FLR P t N M σ τ) (ht : t ≤ t') (a1 : a.2.1 27 N = σ.2.1 27 N ∧ a.2.1 28 N = σ.2.1 28 N ∧ a.2.1 30 N = σ.2.1 30 N ∧ a.1 29 N = σ.1 29 N) (b1 : b.1 15 M = τ.1 15 M ∧ b.1 13 M = τ.1 13 M ∧ b.1 16 M = τ.1 16 M ∧ b.1 19 M = τ.1 19 M) (b2 : b.2.1 12 M = τ.2.1 12 M ∧ b.2.1 14 M = τ.2.1 14 M ∧ b.2.1 17 M = τ.2.1 17 M ∧ b.2.1 18 M = τ.2.1 18 M) (c2 : ∀ j, j < t → b.1 2 j = τ.1 2 j) (c5 : ∀ j, j < 4 * t → b.1 5 j = τ.1 5 j) : FLR P t' N M a b := by
  obtain ⟨h1, h2, ⟨h3, h4, h5⟩, h6⟩ := h
  have n1 := nN_ h4.1
  unfold FLR
  rw [a1.1, a1.2.1, a1.2.2.1, a1.2.2.2, b1.1, b1.2.1, b1.2.2.1, b1.2.2.2, b2.1, b2.2.1, b2.2.2.1, b2.2.2.2, FCS.ext h4 h5 c2 c5, c2 _ (by omega), c5 _ (by omega)]
  exact ⟨h1, h2, ⟨h3, by omega, fun h => by have := h5 h; omega⟩, h6⟩
/-- which fields of a record have an else -/
def ELB (r m : Nat) (σ τ : ST) : Prop := ∃ w : Nat, w < 512 ∧ σ.1 25 r = Int32.ofNat w ∧ ∀ i : Nat, i < 9 → (w.testBit i = true ↔ i < m ∧ (τ.1 16 (8 * (36 + r) + i)).toInt = 1)
theorem ELB.ext {r m : Nat} {σ τ a b : ST} (h : ELB r m σ τ) (h1 : a.1 25 r = σ.1 25 r) (h2 : ∀ i, i < m → b.1 16 (8 * (36 + r) + i) = τ.1 16 (8 * (36 + r) + i)) : ELB r m a b := by
  obtain ⟨w, w1, w2, w3⟩ := h
  refine ⟨w, w1, h1.trans w2, fun i hi => ?_⟩
  rw [w3 i hi]
  constructor
  · rintro ⟨a1, a2⟩
    exact ⟨a1, by rw [h2 i a1]; exact a2⟩
  · rintro ⟨a1, a2⟩
    exact ⟨a1, by rw [h2 i a1] at a2; exact a2⟩
theorem ELB.same {r m : Nat} {σ τ : ST} (h : ELB r m σ τ) (h0 : ¬ (τ.1 16 (8 * (36 + r) + m)).toInt = 1) : ELB r (m + 1) σ τ := by
  obtain ⟨w, w1, w2, w3⟩ := h
  refine ⟨w, w1, w2, fun i hi => ?_⟩
  rw [w3 i hi]
  constructor
  · rintro ⟨a1, a2⟩
    exact ⟨by omega, a2⟩
  · rintro ⟨a1, a2⟩
    have : i ≠ m := fun e => h0 (by rw [← e]; exact a2)
    exact ⟨by omega, a2⟩
theorem ELB.one {r m : Nat} {σ τ a b : ST} (h : ELB r m σ τ) (hm : m < 8) (h1 : a.1 25 r = σ.1 25 r ||| (1 <<< ((Int32.ofNat m) &&& 31))) (h2 : ∀ i, i < m → b.1 16 (8 * (36 + r) + i) = τ.1 16 (8 * (36 + r) + i)) (h3 : (b.1 16 (8 * (36 + r) + m)).toInt = 1) : ELB r (m + 1) a b := by
  obtain ⟨w, w1, w2, w3⟩ := h
  have ht : w.testBit m = false := by
    cases e : w.testBit m with
    | false => rfl
    | true => have := ((w3 m (by omega)).mp e).1; omega
  obtain ⟨o1, o2, _, o4⟩ := mk_or w w1 m (by omega) ht
  refine ⟨w + 2 ^ m, o2, by rw [h1, w2, o1], fun i hi => ?_⟩
  rw [o4 i hi]
  constructor
  · intro h9
    rcases Bool.or_eq_true _ _ ▸ h9 with h9 | h9
    · obtain ⟨a1, a2⟩ := (w3 i hi).mp h9
      exact ⟨by omega, by rw [h2 i a1]; exact a2⟩
    · have e : i = m := by simpa using h9
      rw [e]
      exact ⟨by omega, h3⟩
  · rintro ⟨a1, a2⟩
    by_cases e : i = m
    · rw [e]
      simp
    · rw [h2 i (by omega)] at a2
      rw [(w3 i hi).mpr ⟨by omega, a2⟩]
      rfl
/-- so many fields of a record -/
def FRL (P t r m : Nat) (σ τ : ST) : Prop := ELB r m σ τ ∧ ∀ i : Nat, i < m → FLR P t (8 * r + i) (8 * (36 + r) + i) σ τ
theorem FRL.ext {P t t' r m : Nat} {σ τ a b : ST} (h : FRL P t r m σ τ) (ht : t ≤ t') (a25 : a.1 25 r = σ.1 25 r) (a1 : ∀ i, i < m → a.2.1 27 (8 * r + i) = σ.2.1 27 (8 * r + i) ∧ a.2.1 28 (8 * r + i) = σ.2.1 28 (8 * r + i) ∧ a.2.1 30 (8 * r + i) = σ.2.1 30 (8 * r + i) ∧ a.1 29 (8 * r + i) = σ.1 29 (8 * r + i)) (b1 : ∀ i, i < m → b.1 15 (8 * (36 + r) + i) = τ.1 15 (8 * (36 + r) + i) ∧ b.1 13 (8 * (36 + r) + i) = τ.1 13 (8 * (36 + r) + i) ∧ b.1 16 (8 * (36 + r) + i) = τ.1 16 (8 * (36 + r) + i) ∧ b.1 19 (8 * (36 + r) + i) = τ.1 19 (8 * (36 + r) + i)) (b2 : ∀ i, i < m → b.2.1 12 (8 * (36 + r) + i) = τ.2.1 12 (8 * (36 + r) + i) ∧ b.2.1 14 (8 * (36 + r) + i) = τ.2.1 14 (8 * (36 + r) + i) ∧ b.2.1 17 (8 * (36 + r) + i) = τ.2.1 17 (8 * (36 + r) + i) ∧ b.2.1 18 (8 * (36 + r) + i) = τ.2.1 18 (8 * (36 + r) + i)) (c2 : ∀ j, j < t → b.1 2 j = τ.1 2 j) (c5 : ∀ j, j < 4 * t → b.1 5 j = τ.1 5 j) : FRL P t' r m a b :=
  ⟨h.1.ext a25 (fun i hi => (b1 i hi).2.2.1), fun i hi => (h.2 i hi).ext ht (a1 i hi) (b1 i hi) (b2 i hi) c2 c5⟩
