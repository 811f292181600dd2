/-! a field: both read the same -/
def NMS (r j : Nat) (σ τ : ST) : Prop := ∀ i : Nat, i < j → WL (σ.2.1 27 (8 * r + i)) (τ.2.1 12 (8 * (36 + r) + i))
theorem FRL.nms {P t r j : Nat} {σ τ : ST} (h : FRL P t r j σ τ) : NMS r j σ τ := fun i hi => (h.2 i hi).1.1
theorem VD.first {lo hi : Int} {S A M B : Nat → Int32} {d : Nat} {t : Int32} (h : VD lo hi S A M B d t) : (S t.toNatClampNeg).toInt = 8 → lo ≤ (B (4 * t.toNatClampNeg)).toInt ∧ (B (4 * t.toNatClampNeg)).toInt < hi := by
  cases d with
  | zero => exact h.elim
  | succ d =>
    intro h8
    obtain ⟨_, _, _, hb⟩ := h
    obtain ⟨hm, hb, _⟩ := hb h8
    exact (hb 0 (by omega)).1.rng
def FZ (t0 R N : Nat) (τ b : ST) : Prop := (∀ c, c ∉ [0, 2, 3, 4, 5, 7, 11, 13, 15, 16, 19] → b.1 c = τ.1 c) ∧ (∀ i, i ∉ [4, 5, 6, 8, 10, 12, 13, 34] → b.1 0 i = τ.1 0 i) ∧ (∀ j, j < t0 → b.1 2 j = τ.1 2 j ∧ b.1 3 j = τ.1 3 j ∧ b.1 4 j = τ.1 4 j) ∧ (∀ j, j < 4 * t0 → b.1 5 j = τ.1 5 j) ∧ (∀ i, i < R → b.1 11 i = τ.1 11 i) ∧ (∀ i, i < N → b.1 15 i = τ.1 15 i ∧ b.1 13 i = τ.1 13 i ∧ b.1 16 i = τ.1 16 i ∧ b.1 19 i = τ.1 19 i) ∧ ((∀ i, bI (τ.1 19 i) 0 12) → ∀ i, bI (b.1 19 i) 0 12) ∧ b.2.1 9 = τ.2.1 9 ∧ ∀ i, i < N → b.2.1 12 i = τ.2.1 12 i ∧ b.2.1 14 i = τ.2.1 14 i ∧ b.2.1 17 i = τ.2.1 17 i ∧ b.2.1 18 i = τ.2.1 18 i
theorem FZ.rf {t0 R N : Nat} {τ : ST} : FZ t0 R N τ τ := ⟨fun _ _ => rfl, fun _ _ => rfl, fun _ _ => ⟨rfl, rfl, rfl⟩, fun _ _ => rfl, fun _ _ => rfl, fun _ _ => ⟨rfl, rfl, rfl, rfl⟩, fun h => h, rfl, fun _ _ => ⟨rfl, rfl, rfl, rfl⟩⟩
theorem FZ.trans {t0 R N t1 R1 N1 : Nat} {τ b w : ST} (h : FZ t0 R N τ b) (k : FZ t1 R1 N1 b w) (ht : t0 ≤ t1) (hR : R ≤ R1) (hN : N ≤ N1) : FZ t0 R N τ w := ⟨fun c hc => (k.1 c hc).trans (h.1 c hc), fun i hi => (k.2.1 i hi).trans (h.2.1 i hi), fun j hj => by
  have a := h.2.2.1 j hj
  have b := k.2.2.1 j (by omega)
  exact ⟨b.1.trans a.1, b.2.1.trans a.2.1, b.2.2.trans a.2.2⟩, fun j hj => (k.2.2.2.1 j (by omega)).trans (h.2.2.2.1 j hj), fun i hi => (k.2.2.2.2.1 i (by omega)).trans (h.2.2.2.2.1 i hi), fun i hi => by
  have a := h.2.2.2.2.2.1 i hi
  have b := k.2.2.2.2.2.1 i (by omega)
  exact ⟨b.1.trans a.1, b.2.1.trans a.2.1, b.2.2.1.trans a.2.2.1, b.2.2.2.trans a.2.2.2⟩, fun h9 => k.2.2.2.2.2.2.1 (h.2.2.2.2.2.2.1 h9), k.2.2.2.2.2.2.2.1.trans h.2.2.2.2.2.2.2.1, fun i hi => by
  have a := h.2.2.2.2.2.2.2.2 i hi
  have b := k.2.2.2.2.2.2.2.2 i (by omega)
  exact ⟨b.1.trans a.1, b.2.1.trans a.2.1, b.2.2.1.trans a.2.2.1, b.2.2.2.trans a.2.2.2⟩⟩
theorem FG.fz {t0 R N : Nat} {τ b : ST} (h : FG t0 τ b) : FZ t0 R N τ b := by
  obtain ⟨l9, l12, l14, l17, l18⟩ := h.2.2.2.2
  refine ⟨fun c hc => h.1 c (fun h9 => hc ?_), fun i hi => h.2.1 i hi, h.2.2.1, h.2.2.2.1, fun i _ => by rw [h.1 11 (by decide)], fun i _ => ⟨by rw [h.1 15 (by decide)], by rw [h.1 13 (by decide)], by rw [h.1 16 (by decide)], by rw [h.1 19 (by decide)]⟩, fun h9 i => by rw [h.1 19 (by decide)]; exact h9 i, l9, fun i _ => ⟨by rw [l12], by rw [l14], by rw [l17], by rw [l18]⟩⟩
  simp only [List.mem_cons, List.not_mem_nil, or_false] at h9 ⊢
  omega
theorem FX.fz {t0 R N : Nat} {τ b : ST} (h : FX R N τ b) : FZ t0 R N τ b := by
  refine ⟨fun c hc => h.1 c (fun h9 => hc ?_), fun i hi => h.2.1 i (fun h9 => hi ?_), fun j _ => ⟨by rw [h.1 2 (by decide)], by rw [h.1 3 (by decide)], by rw [h.1 4 (by decide)]⟩, fun j _ => by rw [h.1 5 (by decide)], fun i hi => h.2.2.1 i (by omega), fun i hi => ⟨by rw [h.1 15 (by decide)], by rw [h.1 13 (by decide)], (h.2.2.2.2.1 i (by omega)).1, (h.2.2.2.2.1 i (by omega)).2⟩, h.2.2.2.1, h.2.2.2.2.2.1, fun i hi => ⟨(h.2.2.2.2.2.2.2 i (by omega)).1, by rw [h.2.2.2.2.2.2.1], (h.2.2.2.2.2.2.2 i (by omega)).2.1, (h.2.2.2.2.2.2.2 i (by omega)).2.2⟩⟩
  · simp only [List.mem_cons, List.not_mem_nil, or_false] at h9 ⊢
    omega
  · simp only [List.mem_cons, List.not_mem_nil, or_false] at h9 ⊢
    omega
theorem CH.fz {t0 R N : Nat} {I : List Nat} {τ b : ST} (hI : ∀ i, i ∈ I → i ∈ [4, 5, 6, 8, 10, 12, 13, 34]) (h : CH [] I τ b) : FZ t0 R N τ b := (h.fg hI).fz
def BLs (t0 N : Nat) (τ b : ST) : Prop := (∀ c, c ∉ [0, 6, 12, 14, 17, 18] → b.2.1 c = τ.2.1 c) ∧ (∀ j, j < t0 → b.2.1 6 j = τ.2.1 6 j) ∧ (∀ i, i < N → b.2.1 12 i = τ.2.1 12 i ∧ b.2.1 14 i = τ.2.1 14 i ∧ b.2.1 17 i = τ.2.1 17 i ∧ b.2.1 18 i = τ.2.1 18 i)
theorem BLs.rf {t0 N : Nat} {τ : ST} : BLs t0 N τ τ := ⟨fun _ _ => rfl, fun _ _ => rfl, fun _ _ => ⟨rfl, rfl, rfl, rfl⟩⟩
theorem BLs.trans {t0 N t1 N1 : Nat} {τ b w : ST} (h : BLs t0 N τ b) (k : BLs t1 N1 b w) (ht : t0 ≤ t1) (hN : N ≤ N1) : BLs t0 N τ w := ⟨fun c hc => (k.1 c hc).trans (h.1 c hc), fun j hj => (k.2.1 j (by omega)).trans (h.2.1 j hj), fun i hi => by
  have a := h.2.2 i hi
  have b := k.2.2 i (by omega)
  exact ⟨b.1.trans a.1, b.2.1.trans a.2.1, b.2.2.1.trans a.2.2.1, b.2.2.2.trans a.2.2.2⟩⟩
def AFF (c0 r n : Nat) (σ a : ST) : Prop := (∀ c, c ∉ [2, 20, 23, 25, 29, 31, 32, 33, 35] → a.1 c = σ.1 c) ∧ (∀ i, i ≠ 1 → a.1 20 i = σ.1 20 i) ∧ (∀ i, i < r → a.1 23 i = σ.1 23 i ∧ a.1 25 i = σ.1 25 i) ∧ (∀ c, c ∉ [2, 27, 28, 30, 34] → a.2.1 c = σ.2.1 c) ∧ (∀ i, i < n → a.2.1 27 i = σ.2.1 27 i ∧ a.2.1 28 i = σ.2.1 28 i ∧ a.2.1 30 i = σ.2.1 30 i ∧ a.1 29 i = σ.1 29 i) ∧ (∀ i, i < c0 → a.1 31 i = σ.1 31 i ∧ a.1 32 i = σ.1 32 i ∧ a.2.1 34 i = σ.2.1 34 i ∧ a.1 33 i = σ.1 33 i)
theorem AFF.rf {c0 r n : Nat} {σ : ST} : AFF c0 r n σ σ := ⟨fun _ _ => rfl, fun _ _ => rfl, fun _ _ => ⟨rfl, rfl⟩, fun _ _ => rfl, fun _ _ => ⟨rfl, rfl, rfl, rfl⟩, fun _ _ => ⟨rfl, rfl, rfl, rfl⟩⟩
theorem AFF.trans {c0 r n c1 r1 n1 : Nat} {σ a b : ST} (h : AFF c0 r n σ a) (k : AFF c1 r1 n1 a b) (hc : c0 ≤ c1) (hr : r ≤ r1) (hn : n ≤ n1) : AFF c0 r n σ b := ⟨fun c hc => (k.1 c hc).trans (h.1 c hc), fun i hi => (k.2.1 i hi).trans (h.2.1 i hi), fun i hi => ⟨(k.2.2.1 i (by omega)).1.trans (h.2.2.1 i hi).1, (k.2.2.1 i (by omega)).2.trans (h.2.2.1 i hi).2⟩, fun c hc => (k.2.2.2.1 c hc).trans (h.2.2.2.1 c hc), fun i hi => by
  have a := h.2.2.2.2.1 i hi
  have b := k.2.2.2.2.1 i (by omega)
  exact ⟨b.1.trans a.1, b.2.1.trans a.2.1, b.2.2.1.trans a.2.2.1, b.2.2.2.trans a.2.2.2⟩, fun i hi => by
  have a := h.2.2.2.2.2 i hi
  have b := k.2.2.2.2.2 i (by omega)
  exact ⟨b.1.trans a.1, b.2.1.trans a.2.1, b.2.2.1.trans a.2.2.1, b.2.2.2.trans a.2.2.2⟩⟩
theorem FA.aff {c0 r n : Nat} {σ a : ST} (h : FA c0 σ a) : AFF c0 r n σ a := by
  refine ⟨fun c hc => h.1 c (fun h9 => hc ?_), h.2.1, fun i _ => ⟨by rw [h.1 23 (by decide)], by rw [h.1 25 (by decide)]⟩, fun c hc => h.2.2.1 c (fun h9 => hc ?_), fun i _ => ⟨by rw [h.2.2.1 27 (by decide)], by rw [h.2.2.1 28 (by decide)], by rw [h.2.2.1 30 (by decide)], by rw [h.1 29 (by decide)]⟩, h.2.2.2⟩
  · simp only [List.mem_cons, List.not_mem_nil, or_false] at h9 ⊢
    omega
  · simp only [List.mem_cons, List.not_mem_nil, or_false] at h9 ⊢
    omega
theorem CA.aff {c0 r n : Nat} {σ a : ST} (h : CA σ a) : AFF c0 r n σ a := (h.fa (c0 := c0)).aff
theorem AFr.aff {c0 r n : Nat} {σ a : ST} (h : AFr r n σ a) : AFF c0 r n σ a := by
  refine ⟨fun c hc => h.1 c (fun h9 => hc ?_), fun i _ => by rw [h.1 20 (by decide)], fun i hi => ⟨by rw [h.1 23 (by decide)], h.2.2.1 i (by omega)⟩, fun c hc => h.2.1 c (fun h9 => hc ?_), fun i hi => ⟨by rw [h.2.1 27 (by decide)], by rw [h.2.1 28 (by decide)], h.2.2.2 i (by omega), by rw [h.1 29 (by decide)]⟩, fun i _ => ⟨by rw [h.1 31 (by decide)], by rw [h.1 32 (by decide)], by rw [h.2.1 34 (by decide)], by rw [h.1 33 (by decide)]⟩⟩
  · simp only [List.mem_cons, List.not_mem_nil, or_false] at h9 ⊢
    omega
  · simp only [List.mem_cons, List.not_mem_nil, or_false] at h9 ⊢
    omega
/-- a field whose type was read: its name's letters, what it was called, no else yet -/
def FSX (r j : Nat) (nA : Int64) (σ a b : ST) : Prop := RLEN nA (b.1 13 (8 * (36 + r) + j)) ∧ FMR (a.2.1 28 (8 * r + j)) (b.2.1 14 (8 * (36 + r) + j)) ∧ (b.1 16 (8 * (36 + r) + j)).toInt = 0 ∧ a.1 25 r = σ.1 25 r
/-- a field whose type was read -/
def FS (P t0 t1 r j : Nat) (nA nB : Int64) (σ τ a b : ST) : Prop := LX a b ∧ ((b.1 0 34).toInt = t1 ∧ (a.1 20 1).toInt = (t1 : Int) + P - 400 ∧ t0 < t1 ∧ t1 ≤ 650) ∧ ((a.1 29 (8 * r + j)).toInt = (t0 : Int) + P - 400 ∧ (b.1 15 (8 * (36 + r) + j)).toInt = t0) ∧ (RWS P t0 t1 a b ∧ VD t0 t1 (b.1 2) (b.1 3) (b.1 4) (b.1 5) 4 (b.1 15 (8 * (36 + r) + j))) ∧ ((a.1 23 r).toInt = (j : Int) + 1 ∧ (b.1 11 (36 + r)).toInt = j ∧ a.2.1 27 (8 * r + j) = nA ∧ WL nA nB) ∧ (FZ t0 (36 + r) (8 * (36 + r) + j) τ b ∧ BLs t0 (8 * (36 + r) + j) τ b ∧ AFF (t0 + P - 400) r (8 * r + j) σ a) ∧ 4 * ((t1 : Int) - 400) ≤ (b.1 0 4).toInt + 1 ∧ RX P t0 t1 a b ∧ FSX r j nA σ a b
theorem FS.ext {P t0 t1 r j : Nat} {nA nB : Int64} {σ τ a b a' b' : ST} (h : FS P t0 t1 r j nA nB σ τ a b) (a1 : ∀ c, c ≠ 2 → a'.1 c = a.1 c) (a2 : ∀ c, c ∉ [2, 28] → a'.2.1 c = a.2.1 c) (a28 : ∀ i, i < 8 * r + j → a'.2.1 28 i = a.2.1 28 i) (b1 : ∀ c, c ≠ 0 → b'.1 c = b.1 c) (b0 : ∀ i, i ∉ GJ → b'.1 0 i = b.1 0 i) (b2 : ∀ c, c ∉ [0, 14] → b'.2.1 c = b.2.1 c) (b14 : ∀ i, i < 8 * (36 + r) + j → b'.2.1 14 i = b.2.1 14 i) (hM : FMR (a'.2.1 28 (8 * r + j)) (b'.2.1 14 (8 * (36 + r) + j))) (hX : LX a' b') (hat : (b.1 0 4).toInt ≤ (b'.1 0 4).toInt) : FS P t0 t1 r j nA nB σ τ a' b' := by
  obtain ⟨_, ⟨h1, h2, h3, h4⟩, ⟨h5, h6⟩, ⟨h7, h8⟩, ⟨h9, h10, h11, h12⟩, ⟨h13, h14, h15⟩, h16, h17, h18, h19, h20, h21⟩ := h
  refine ⟨hX, ⟨by rw [b0 34 (by decide)]; exact h1, by rw [a1 20 (by decide)]; exact h2, h3, h4⟩, ⟨by rw [a1 29 (by decide)]; exact h5, by rw [b1 15 (by decide)]; exact h6⟩, ⟨h7.ext (a1 31 (by decide)) (a1 32 (by decide)) (a2 34 (by decide)) (b1 2 (by decide)) (b1 4 (by decide)) (b1 5 (by decide)) (b2 6 (by decide)), ?_⟩, ⟨by rw [a1 23 (by decide)]; exact h9, by rw [b1 11 (by decide)]; exact h10, by rw [a2 27 (by decide)]; exact h11, h12⟩, ⟨?_, ?_, ?_⟩, by omega, h17.eq (a1 32 (by decide)) (a1 33 (by decide)) (b1 2 (by decide)) (b1 3 (by decide)) (b1 4 (by decide)) (b1 5 (by decide)), by rw [b1 13 (by decide)]; exact h18, hM, by rw [b1 16 (by decide)]; exact h20, by rw [a1 25 (by decide)]; exact h21⟩
  · rw [b1 2 (by decide), b1 3 (by decide), b1 4 (by decide), b1 5 (by decide), b1 15 (by decide)]
    exact h8
  · refine h13.trans (t1 := t0) (R1 := 36 + r) (N1 := 8 * (36 + r) + j) ?_ (Nat.le_refl _) (Nat.le_refl _) (Nat.le_refl _)
    refine ⟨fun c hc => b1 c (fun e => hc (by rw [e]; decide)), fun i hi => b0 i (fun h9 => hi ?_), fun j _ => ⟨by rw [b1 2 (by decide)], by rw [b1 3 (by decide)], by rw [b1 4 (by decide)]⟩, fun j _ => by rw [b1 5 (by decide)], fun i _ => by rw [b1 11 (by decide)], fun i _ => ⟨by rw [b1 15 (by decide)], by rw [b1 13 (by decide)], by rw [b1 16 (by decide)], by rw [b1 19 (by decide)]⟩, fun h i => by rw [b1 19 (by decide)]; exact h i, b2 9 (by decide), fun i hi => ⟨by rw [b2 12 (by decide)], b14 i hi, by rw [b2 17 (by decide)], by rw [b2 18 (by decide)]⟩⟩
    simp only [List.mem_cons, List.not_mem_nil, or_false] at h9 ⊢
    omega
  · refine h14.trans (t1 := t0) (N1 := 8 * (36 + r) + j) ⟨fun c hc => b2 c (fun h9 => hc ?_), fun j _ => by rw [b2 6 (by decide)], fun i hi => ⟨by rw [b2 12 (by decide)], b14 i hi, by rw [b2 17 (by decide)], by rw [b2 18 (by decide)]⟩⟩ (Nat.le_refl _) (Nat.le_refl _)
    simp only [List.mem_cons, List.not_mem_nil, or_false] at h9 ⊢
    omega
  · refine h15.trans (c1 := t0 + P - 400) (r1 := r) (n1 := 8 * r + j) ⟨fun c hc => a1 c (fun e => hc (by rw [e]; decide)), fun i _ => by rw [a1 20 (by decide)], fun i _ => ⟨by rw [a1 23 (by decide)], by rw [a1 25 (by decide)]⟩, fun c hc => a2 c (fun h9 => hc ?_), fun i hi => ⟨by rw [a2 27 (by decide)], a28 i hi, by rw [a2 30 (by decide)], by rw [a1 29 (by decide)]⟩, fun i _ => ⟨by rw [a1 31 (by decide)], by rw [a1 32 (by decide)], by rw [a2 34 (by decide)], by rw [a1 33 (by decide)]⟩⟩ (Nat.le_refl _) (Nat.le_refl _) (Nat.le_refl _)
    simp only [List.mem_cons, List.not_mem_nil, or_false] at h9 ⊢
    omega
/-- a field was read -/
def FLS (P t0 r j : Nat) (σ τ a b : ST) : Prop := ∃ t1 : Nat, (j < 8 ∧ t0 < t1 ∧ t1 ≤ 650 ∧ (b.1 0 34).toInt = t1 ∧ (a.1 20 1).toInt = (t1 : Int) + P - 400) ∧ LX a b ∧ ((a.1 23 r).toInt = (j : Int) + 1 ∧ (b.1 11 (36 + r)).toInt = (j : Int) + 1 ∧ FRL P t1 r (j + 1) a b) ∧ RWS P t0 t1 a b ∧ VD t0 t1 (b.1 2) (b.1 3) (b.1 4) (b.1 5) 4 (b.1 15 (8 * (36 + r) + j)) ∧ 4 * ((t1 : Int) - 400) ≤ (b.1 0 4).toInt + 1 ∧ BLs t0 (8 * (36 + r) + j) τ b ∧ AFF (t0 + P - 400) r (8 * r + j) σ a ∧ RX P t0 t1 a b
def FLD (P t0 r j : Nat) (σ τ : ST) (qa : Int32 × ST) (qb : (Int32 × ST) × Nat) : Prop := FZ t0 (36 + r) (8 * (36 + r) + j) τ qb.1.2 ∧ ((qa.1.toInt = 0 ∧ qb.1.1.toInt = 0 ∧ qb.2 + 40 * uT qb.1.2 ≤ 40 * uT τ + 23) ∨ (qa.1.toInt = 0 ∧ qb.1.1.toInt = 1 ∧ (qb.1.2.1 0 13).toInt = 0 ∧ TX qb.1.2 ∧ qb.2 + 40 * uT qb.1.2 ≤ 40 * uT τ + 23) ∨ (qa.1.toInt = 1 ∧ qb.1.1.toInt = 1 ∧ FLS P t0 r j σ τ qa.2 qb.1.2 ∧ qb.2 + 40 * uT qb.1.2 ≤ 40 * uT τ))
theorem ab_field_end (P t0 t1 r j : Nat) (p0 p1 x1 x2 : Int32) (nA nB : Int64) (σ τ a b : ST) (hP : 1 ≤ P ∧ P ≤ 6) (h400 : 400 ≤ t0) (h0 : p0.toInt = r) (h1 : p1.toInt = j) (hr : r < 36) (hj : j < 8) (hx1 : x1.toInt = 36 + (r : Int)) (hx2 : x2.toInt = 288 + 8 * (r : Int) + j) (hN : FRL P t0 r j σ τ) (hS : FS P t0 t1 r j nA nB σ τ a b) (x : Nat) (hx : x + 40 * uT b + 1 ≤ 40 * uT τ) : OK ((f_X3_parseElse p0 p1 a).bind fun q13 => if q13.1 = 0 then some (0, q13.2) else some (1, q13.2)) (fun qa => OK (f_X11_field_169 x1 x2 nB b) (fun y => FLD P t0 r j σ τ qa (y.1, x + y.2))) := by
  obtain ⟨hX, ⟨s1, s2, s3, s4⟩, ⟨s5, s6⟩, ⟨s7, s8⟩, ⟨s9, s10, s11, s12⟩, ⟨s13, s14, s15⟩, s16, s17, s18, s19, s20, s21⟩ := hS
  have e8 : 8 * (36 + r) + j = 288 + 8 * r + j := by omega
  have l0 := li_0
  have l1 := li_1
  rw [e8] at s6 s8 s18 s19 s20
  obtain ⟨qa, ea, hq⟩ := ab_else P t0 t1 r j p0 p1 x1 x2 nB a b hP hX h0 h1 hr hj hx1 hx2 ⟨h400, s4⟩ s5 s6 s2 s7 s8 s10
  rw [ea]
  show OK (if qa.1 = 0 then some (0, qa.2) else some (1, qa.2)) _
  have fz : ∀ w, FX (36 + r) (288 + 8 * r + j) b w → FZ t0 (36 + r) (8 * (36 + r) + j) τ w := fun w h => s13.trans (h.fz (t0 := t0)) (Nat.le_refl _) (Nat.le_refl _) (by omega)
  refine OK.ieq (fun h => ?_) (fun h => ?_)
  · refine OK.ret (hq.mono (fun z hz => ?_))
    obtain ⟨zF, ⟨_, z2, z3⟩ | ⟨_, z2, z3, z4, z5⟩ | ⟨z1, _⟩⟩ := hz
    · exact ⟨fz _ zF, .inl ⟨l0, z2, by show x + z.2 + 40 * uT z.1.2 ≤ _; omega⟩⟩
    · exact ⟨fz _ zF, .inr (.inl ⟨l0, z2, z3, z4, by show x + z.2 + 40 * uT z.1.2 ≤ _; omega⟩)⟩
    · omega
  · refine OK.ret (hq.mono (fun z hz => ?_))
    obtain ⟨zF, ⟨z1, _⟩ | ⟨z1, _⟩ | ⟨_, z2, zX, ⟨z3, z4, z5⟩, zL, zat, zA, zc, zE⟩⟩ := hz
    · omega
    · omega
    refine ⟨fz _ zF, .inr (.inr ⟨l1, z2, ⟨t1, ⟨hj, s3, s4, ?_, ?_⟩, zX, ⟨?_, z3, ?_⟩, ?_, ?_, ?_, ?_, ?_, ?_⟩, by show x + z.2 + 40 * uT z.1.2 ≤ _; omega⟩)⟩
    · rw [zF.2.1 34 (by decide)]
      exact s1
    · rw [zA.1 20 (by decide)]
      exact s2
    · rw [zA.1 23 (by decide)]
      exact s9
    · have d16 : ∀ i, i < j → z.1.2.1 16 (8 * (36 + r) + i) = b.1 16 (8 * (36 + r) + i) := fun i hi => (zF.2.2.2.2.1 _ (by omega)).1
      have B1 : ELB r j a b := hN.1.ext s21 (fun i hi => (s13.2.2.2.2.2.1 _ (by omega)).2.2.1)
      obtain ⟨zE1, zE2⟩ := zE
      have zr : ∀ q, q < t1 → z.1.2.1 2 q = b.1 2 q := fun q _ => by rw [zF.1 2 (by decide)]
      refine ⟨?_, fun i hi => ?_⟩
      · rcases zE2 with ⟨y1, y2⟩ | ⟨y1, y2, y3⟩
        · refine (B1.ext y2 d16).same ?_
          rw [e8, y1, s20]
          omega
        · exact B1.one hj y2 d16 (by rw [e8]; exact y1)
      by_cases e : i = j
      · subst e
        have nf := nN_ (x := b.1 15 (288 + 8 * r + i)) (by omega)
        have vf := s8.first
        unfold FLR
        rw [e8, zA.2.1 27 (by decide), s11, z4, zF.1 13 (by decide), zA.2.1 28 (by decide), zL 14 (by decide), zA.1 29 (by decide), zF.1 15 (by decide), zF.1 2 (by decide), zF.1 5 (by decide)]
        refine ⟨⟨s12, s18⟩, s19, ⟨by omega, by omega, fun h => by have := vf h; omega⟩, ?_⟩
        rcases zE2 with ⟨y1, y2⟩ | ⟨y1, y2, y3⟩
        · exact .inl (by rw [y1]; exact s20)
        · exact .inr ⟨y1, y3⟩
      · refine (hN.2 i (by omega)).ext (by omega) ?_ ?_ ?_ (fun q hq => ?_) (fun q hq => ?_)
        · have o := s15.2.2.2.2.1 (8 * r + i) (by omega)
          exact ⟨(by rw [zA.2.1 27 (by decide)]; exact o.1), (by rw [zA.2.1 28 (by decide)]; exact o.2.1), (by rw [zA.2.2.2 _ (by omega)]; exact o.2.2.1), (by rw [zA.1 29 (by decide)]; exact o.2.2.2)⟩
        · have o := s13.2.2.2.2.2.1 (8 * (36 + r) + i) (by omega)
          have p := zF.2.2.2.2.1 (8 * (36 + r) + i) (by omega)
          exact ⟨(by rw [zF.1 15 (by decide)]; exact o.1), (by rw [zF.1 13 (by decide)]; exact o.2.1), p.1.trans o.2.2.1, p.2.trans o.2.2.2⟩
        · have o := s14.2.2 (8 * (36 + r) + i) (by omega)
          have p := zE1 (8 * (36 + r) + i) (by omega)
          exact ⟨(z5 _ (by omega)).trans o.1, (by rw [zL 14 (by decide)]; exact o.2.1), p.1.trans o.2.2.1, p.2.trans o.2.2.2⟩
        · rw [zF.1 2 (by decide)]
          exact (s13.2.2.1 q hq).1
        · rw [zF.1 5 (by decide)]
          exact s13.2.2.2.1 q hq
    · exact s7.ext (zA.1 31 (by decide)) (zA.1 32 (by decide)) (zA.2.1 34 (by decide)) (zF.1 2 (by decide)) (zF.1 4 (by decide)) (zF.1 5 (by decide)) (zL 6 (by decide))
    · rw [zF.1 2 (by decide), zF.1 3 (by decide), zF.1 4 (by decide), zF.1 5 (by decide), zF.1 15 (by decide), e8]
      exact s8
    · show _ ≤ (z.1.2.1 0 4).toInt + 1
      omega
    · refine s14.trans (t1 := t0) (N1 := 8 * (36 + r) + j) ⟨fun c hc => zL c (fun h9 => hc ?_), fun j _ => by rw [zL 6 (by decide)], fun i hi => ⟨z5 i (by omega), by rw [zL 14 (by decide)], (zE.1 i (by omega)).1, (zE.1 i (by omega)).2⟩⟩ (Nat.le_refl _) (Nat.le_refl _)
      simp only [List.mem_cons, List.not_mem_nil, or_false] at h9 ⊢
      omega
    · exact s15.trans (zA.aff (c0 := t0 + P - 400)) (Nat.le_refl _) (Nat.le_refl _) (Nat.le_refl _)
    · exact s17.eq (zA.1 32 (by decide)) (zA.1 33 (by decide)) (zF.1 2 (by decide)) (zF.1 3 (by decide)) (zF.1 4 (by decide)) (zF.1 5 (by decide))
