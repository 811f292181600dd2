/-! letters, twelve of them -/
theorem shr12 : ∀ (k : Nat), k ≤ 12 → ∀ a : Int64, (a >>> ((5 * Int32.ofNat k).toInt64 &&& 63)).toBitVec = a.toBitVec.sshiftRight (5 * k)
  | 0, _, _ => rfl
  | 1, _, _ => rfl
  | 2, _, _ => rfl
  | 3, _, _ => rfl
  | 4, _, _ => rfl
  | 5, _, _ => rfl
  | 6, _, _ => rfl
  | 7, _, _ => rfl
  | 8, _, _ => rfl
  | 9, _, _ => rfl
  | 10, _, _ => rfl
  | 11, _, _ => rfl
  | 12, _, _ => rfl
  | k + 13, h, _ => by omega
theorem a_letterOf12 (x : Int64) (p : Int32) (σ : ST) {X i : Nat} (hx : x.toInt = (X : Int)) (hp : p.toInt = i) (hi : i < 12) : OK (f_X10_letterOf x p σ) (RO σ fun v => v.toInt = ((X / 32 ^ i % 32 : Nat) : Int)) := by
  unfold f_X10_letterOf
  have l0 := li_0
  have l12 := li_12
  refine OK.ilt (fun h => by omega) (fun _ => ?_)
  refine OK.ilt (fun _ => ?_) (fun h => by omega)
  refine OK.roret ?_
  have ep : p = Int32.ofNat i := intOf hp (by omega)
  have e1 : (x >>> ((5 * p).toInt64 &&& 63)).toInt = ((X / 32 ^ i : Nat) : Int) := by
    have h := shr12 i (by omega) x
    rw [← ep] at h
    have h2 : (x >>> ((5 * p).toInt64 &&& 63)).toInt = (x >>> ((5 * p).toInt64 &&& 63)).toBitVec.toInt := rfl
    have h3 : x.toBitVec.toInt = (X : Int) := hx
    rw [h2, h, BitVec.toInt_sshiftRight, h3, Int.shiftRight_eq_div_pow]
    have h4 : 32 ^ i = 2 ^ (5 * i) := by rw [Nat.pow_mul]
    rw [h4]
    rfl
  generalize x >>> ((5 * p).toInt64 &&& 63) = y at e1 ⊢
  rw [and31]
  have e2 : y.toInt32.toInt = y.toInt.bmod (2 ^ 32) := Int64.toInt_toInt32 y
  obtain ⟨k, hk⟩ := i_bm y.toInt
  rw [e2, hk, e1]
  omega
theorem a_lettersIn12_2 (x : Int64) (σ : ST) {m : Nat} {g : Nat → Nat} (hm : m ≤ 12) (hg : GL g m) (hx : x.toInt = (n5 m g : Int)) : ∀ (f i : Nat) (p : Int32), p.toInt = i → i ≤ m → m < f + i → OK (f_X10_lettersIn_2 f x p σ) (RO σ fun v => v.toInt = m) := by
  intro f
  have l0 := li_0
  have l1 := li_1
  have l12 := li_12
  induction f with
  | zero => intro i p h1 h2 h3; omega
  | succ f ih =>
    intro i p hp hi hf
    rw [f_X10_lettersIn_2]
    refine OK.ile (fun h => OK.roret (by omega)) (fun h12 => ?_)
    refine OK.bndR (a_letterOf12 x p σ hx hp (by omega)) (fun v hv => ?_)
    dsimp only
    rw [n5_get m g hg i] at hv
    have e1 := il_addE (x := p) (y := 1) (by omega) (by omega)
    by_cases h : i < m
    · rw [if_pos h] at hv
      have := hg i h
      refine OK.ieq (fun h9 => by omega) (fun _ => ?_)
      exact ih (i + 1) (p + 1) (by omega) (by omega) (by omega)
    · rw [if_neg h] at hv
      refine OK.ieq (fun _ => ?_) (fun h9 => absurd (hv.trans l0.symm) h9)
      refine OK.roret ?_
      omega
theorem a_lettersIn12 (x y : Int64) (n : Int32) (σ : ST) (h : WLT x y n) : f_X10_lettersIn x σ = some (n, σ) := by
  obtain ⟨m, g, h1, h2, h3, _, h4⟩ := h
  have lu := FUi
  have k : OK (f_X10_lettersIn x σ) (RO σ fun v => v = n) := by
    unfold f_X10_lettersIn
    refine (a_lettersIn12_2 x σ h1 h2 h3 FU 0 0 li_0 (by omega) (by omega)).roq (fun v hv => Int32.toInt_inj.mp (by omega))
  obtain ⟨⟨v, s⟩, e, e1, e2⟩ := k
  have e1 : s = σ := e1
  have e2 : v = n := e2
  rw [e, e1, e2]
/-! the type of a value: the class's x, the reference's y; the root's, too -/
def TG (p : Nat) (rm : Int) (S T : ST) (d : Nat) (x y : Int32) : Prop := ((0 ≤ x.toInt ∧ x.toInt < (S.1 4 1).toInt) ∧ (0 ≤ y.toInt ∧ y.toInt < 800)) ∧ S.1 15 x.toNatClampNeg = T.1 2 y.toNatClampNeg ∧ (0 ≤ (T.1 2 y.toNatClampNeg).toInt ∧ (T.1 2 y.toNatClampNeg).toInt ≤ 8) ∧
  ((T.1 2 y.toNatClampNeg).toInt = 6 → TY p rm S T d (S.1 16 x.toNatClampNeg) (T.1 3 y.toNatClampNeg)) ∧
  ((T.1 2 y.toNatClampNeg).toInt = 7 → (0 ≤ (T.1 3 y.toNatClampNeg).toInt ∧ (T.1 3 y.toNatClampNeg).toInt < rm) ∧ (S.1 16 x.toNatClampNeg).toInt = 6 * (p : Int) + (T.1 3 y.toNatClampNeg).toInt) ∧
  ((T.1 2 y.toNatClampNeg).toInt = 8 → ∃ m : Nat, (1 ≤ m ∧ m ≤ 4) ∧ (T.1 4 y.toNatClampNeg).toInt = m ∧ (∀ k : Nat, k < m → TY p rm S T d (chn (S.1 17) (S.1 16 x.toNatClampNeg) k) (T.1 5 (4 * y.toNatClampNeg + k)) ∧ ¬ (T.1 2 (T.1 5 (4 * y.toNatClampNeg + k)).toNatClampNeg).toInt = 8) ∧ (chn (S.1 17) (S.1 16 x.toNatClampNeg) m).toInt = -1 ∧ ∀ j k : Nat, j < k → k < m → ¬ (T.1 2 (T.1 5 (4 * y.toNatClampNeg + j)).toNatClampNeg).toInt = (T.1 2 (T.1 5 (4 * y.toNatClampNeg + k)).toNatClampNeg).toInt)
theorem TG.of {p : Nat} {rm : Int} {S T : ST} {d : Nat} {x y : Int32} (h : TY p rm S T (d + 1) x y) : TG p rm S T d x y := by
  obtain ⟨⟨h1, h2⟩, h3, h4, h5, h6, _, h8⟩ := h
  refine ⟨⟨h1, by omega⟩, h3, h4, h5, h6, fun h9 => ?_⟩
  obtain ⟨k1, k2, k3, k4⟩ := h8 h9
  exact ⟨(T.1 4 y.toNatClampNeg).toInt.toNat, by omega, by omega, fun k hk => k2 k (by omega), k3, fun j k h1 h2 => k4 j k h1 (by omega)⟩
theorem TG.ex {p : Nat} {rm : Int} {S T : ST} {d : Nat} {x y : Int32} (h : TY p rm S T d x y) : ∃ d', TG p rm S T d' x y := by
  cases d with
  | zero => exact h.elim
  | succ d => exact ⟨d, .of h⟩
theorem KVA.t {s σ : ST} (h : KVA s σ) : (σ.1 4 = s.1 4 ∧ σ.1 7 = s.1 7) ∧ (σ.1 9 = s.1 9 ∧ σ.1 13 = s.1 13) ∧ σ.1 15 = s.1 15 ∧ σ.1 16 = s.1 16 ∧ σ.1 17 = s.1 17 ∧ σ.2.1 11 = s.2.1 11 := ⟨⟨h.1 4 (by omega) (by omega), h.1 7 (by omega) (by omega)⟩, ⟨h.1 9 (by omega) (by omega), h.1 13 (by omega) (by omega)⟩, h.1 15 (by omega) (by omega), h.1 16 (by omega) (by omega), h.1 17 (by omega) (by omega), h.2.2.1 11 (by omega) (by omega)⟩
theorem KVB.t {s σ : ST} (h : KVB s σ) : (σ.1 2 = s.1 2 ∧ σ.1 3 = s.1 3 ∧ σ.1 4 = s.1 4 ∧ σ.1 5 = s.1 5) ∧ (σ.1 11 = s.1 11 ∧ σ.1 15 = s.1 15 ∧ σ.1 16 = s.1 16 ∧ σ.1 19 = s.1 19) ∧ σ.2.1 12 = s.2.1 12 ∧ σ.2.1 17 = s.2.1 17 ∧ σ.2.1 18 = s.2.1 18 := ⟨⟨h.1 2 (by omega) (by omega) (by omega), h.1 3 (by omega) (by omega) (by omega), h.1 4 (by omega) (by omega) (by omega), h.1 5 (by omega) (by omega) (by omega)⟩, ⟨h.1 11 (by omega) (by omega) (by omega), h.1 15 (by omega) (by omega) (by omega), h.1 16 (by omega) (by omega) (by omega), h.1 19 (by omega) (by omega) (by omega)⟩, h.2.2 12 (by omega) (by omega) (by omega), h.2.2 17 (by omega) (by omega) (by omega), h.2.2 18 (by omega) (by omega) (by omega)⟩
theorem TG.sA {p : Nat} {rm : Int} {S T σ : ST} {d : Nat} {x y : Int32} (h : TG p rm S T d x y) (hn : (S.1 4 1).toInt ≤ 262) (k : KVA S σ) : f_X5_sortOf 4 x σ = some (T.1 2 y.toNatClampNeg, σ) ∧ f_X5_innerOf 4 x σ = some (S.1 16 x.toNatClampNeg, σ) := by
  obtain ⟨⟨k4, _⟩, _, k15, k16, _⟩ := k.t
  have hb : 0 ≤ x.toInt ∧ x.toInt < (σ.1 4 1).toInt := by rw [k4]; exact h.1.1
  have hn' : (σ.1 4 1).toInt ≤ 262 := by rw [k4]; exact hn
  refine ⟨?_, ?_⟩
  · rw [a4_sortOf x σ hb hn', k15, h.2.1]
  · rw [a4_innerOf x σ hb hn', k16]
/-- whether the token fits the k-th branch -/
def FBR (T τ : ST) (y : Int32) (k : Nat) : Prop := FT_ τ (T.1 2 (T.1 5 (4 * y.toNatClampNeg + k)).toNatClampNeg).toInt
/-- what the class chooses for a value: v (none: -1) -/
def FTA (S T τ : ST) (x y v : Int32) : Prop := (¬ (T.1 2 y.toNatClampNeg).toInt = 8 ∧ (v.toInt = -1 ∧ ¬ FT_ τ (T.1 2 y.toNatClampNeg).toInt ∨ v = x ∧ FT_ τ (T.1 2 y.toNatClampNeg).toInt)) ∨ ((T.1 2 y.toNatClampNeg).toInt = 8 ∧ ∃ m : Nat, (T.1 4 y.toNatClampNeg).toInt = m ∧ FIX m (FBR T τ y) (fun i => (chn (S.1 17) (S.1 16 x.toNatClampNeg) i).toInt) v.toInt)
/-- what the reference chooses: the branch br, the type u -/
def CHO (T τ : ST) (y br u : Int32) : Prop := (¬ (T.1 2 y.toNatClampNeg).toInt = 8 ∧ br.toInt = -1 ∧ u = y) ∨ ((T.1 2 y.toNatClampNeg).toInt = 8 ∧ ∃ m : Nat, (T.1 4 y.toNatClampNeg).toInt = m ∧ FIX m (FBR T τ y) (fun i => (i : Int)) br.toInt ∧ (br.toInt = -1 → u = y) ∧ ∀ k : Nat, br.toInt = k → u = T.1 5 (4 * y.toNatClampNeg + k))
theorem a_fit48 {p : Nat} {rm : Int} {S T σ τ : ST} {d : Nat} {x y : Int32} (hn : (S.1 4 1).toInt ≤ 262) (kv : KVA S σ) (hK : TK σ τ) (h1 : ¬ (σ.1 2 4).toInt = 1) {m : Nat} (hm4 : m ≤ 4) (hB : ∀ k : Nat, k < m → TY p rm S T d (chn (S.1 17) (S.1 16 x.toNatClampNeg) k) (T.1 5 (4 * y.toNatClampNeg + k))) (hz : (chn (S.1 17) (S.1 16 x.toNatClampNeg) m).toInt = -1) : ∀ (n k : Nat) (x2 x3 : Int32), x3.toInt = k → k ≤ m → x2 = chn (S.1 17) (S.1 16 x.toNatClampNeg) k → (∀ i, i < k → ¬ FBR T τ y i) → QT (f_X8_fittingType_48 n x2 x3 σ) (fun q => q.2 = σ ∧ FIX m (FBR T τ y) (fun i => (chn (S.1 17) (S.1 16 x.toNatClampNeg) i).toInt) q.1.toInt) := by
  have l0 := li_0
  have l1 := li_1
  have l4 := li_4
  have lm := li_m1
  intro n
  induction n with
  | zero =>
    intro k x2 x3 _ _ _ _
    rw [f_X8_fittingType_48]
    exact QT.none
  | succ n ih =>
    intro k x2 x3 h3 hk h2 hno
    rw [f_X8_fittingType_48]
    refine QT.ile (fun h => QT.ret ⟨rfl, .inl ⟨lm, fun i hi => hno i (by omega)⟩⟩) (fun _ => ?_)
    by_cases hkm : k = m
    · have hx2 : x2.toInt = -1 := by rw [h2, hkm]; exact hz
      refine QT.ieq (fun h => QT.ret ⟨rfl, .inl ⟨lm, fun i hi => hno i (by omega)⟩⟩) (fun h => absurd (by rw [hx2, lm]) h)
    · have hT := hB k (by omega)
      obtain ⟨d', hG⟩ := TG.ex hT
      rw [← h2] at hG
      have hx2 := hG.1.1.1
      refine QT.ieq (fun h => by omega) (fun _ => ?_)
      rw [(hG.sA hn kv).1]
      rw [sbnd]
      dsimp only
      refine QT.bndR (a_fits _ σ τ hK h1) (fun v hv => ?_)
      dsimp only
      refine QT.ieq (fun e0 => ?_) (fun e0 => ?_)
      · obtain ⟨⟨k4, _⟩, _, _, _, k17, _⟩ := kv.t
        rw [a4_branchAfter x2 σ (by rw [k4]; exact hG.1.1) (by rw [k4]; exact hn)]
        rw [sbnd]
        dsimp only
        have e3 := il_addE (x := x3) (y := 1) (by omega) (by omega)
        refine ih (k + 1) _ _ (by omega) (by omega) ?_ (fun i hi => ?_)
        · rw [k17, h2]
          rfl
        · rcases Nat.lt_or_ge i k with h9 | h9
          · exact hno i h9
          · have e9 : i = k := by omega
            rw [e9]
            rcases hv with hv | hv
            · exact hv.2
            · have := hv.1
              omega
      · have hF : FBR T τ y k := by
          rcases hv with hv | hv
          · have := hv.1
            omega
          · exact hv.2
        exact QT.ret ⟨rfl, .inr ⟨k, by omega, by rw [h2], hF, hno⟩⟩
theorem a_fitT {p : Nat} {rm : Int} {S T σ τ : ST} {d : Nat} {x y : Int32} (h : TG p rm S T d x y) (hn : (S.1 4 1).toInt ≤ 262) (kv : KVA S σ) (hK : TK σ τ) (h1 : ¬ (σ.1 2 4).toInt = 1) : QT (f_X8_fittingType x σ) (fun q => q.2 = σ ∧ FTA S T τ x y q.1) := by
  have l0 := li_0
  have l8 : (8 : Int32).toInt = 8 := by decide
  have lm := li_m1
  obtain ⟨s1, s2⟩ := h.sA hn kv
  unfold f_X8_fittingType
  rw [s1]
  rw [sbnd]
  dsimp only
  refine QT.ieq (fun e => ?_) (fun e => ?_)
  · rw [s2]
    rw [sbnd]
    dsimp only
    obtain ⟨m, hm, hM, hB, hz⟩ := h.2.2.2.2.2 (by omega)
    exact (a_fit48 (y := y) hn kv hK h1 hm.2 (fun k hk => (hB k hk).1) hz.1 FU 0 _ 0 l0 (by omega) rfl (fun i hi => by omega)).mono (fun q hq => ⟨hq.1, .inr ⟨by omega, m, hM, hq.2⟩⟩)
  · rw [s1]
    rw [sbnd]
    dsimp only
    refine QT.bndR (a_fits _ σ τ hK h1) (fun v hv => ?_)
    dsimp only
    refine QT.ieq (fun e0 => ?_) (fun e0 => ?_)
    · refine QT.ret ⟨rfl, .inl ⟨by omega, .inl ⟨lm, ?_⟩⟩⟩
      rcases hv with hv | hv
      · exact hv.2
      · have := hv.1
        omega
    · refine QT.ret ⟨rfl, .inl ⟨by omega, .inr ⟨rfl, ?_⟩⟩⟩
      rcases hv with hv | hv
      · have := hv.1
        omega
      · exact hv.2
theorem bq_branchFor_2 {p : Nat} {rm : Int} {S T τ : ST} {d : Nat} {x y : Int32} (hy : 0 ≤ y.toInt ∧ y.toInt < 800) (kv : KVB T τ) {m : Nat} (hm4 : m ≤ 4) (hM : (T.1 4 y.toNatClampNeg).toInt = m) (hB : ∀ k : Nat, k < m → TY p rm S T d (chn (S.1 17) (S.1 16 x.toNatClampNeg) k) (T.1 5 (4 * y.toNatClampNeg + k))) : ∀ (n k : Nat) (x2 : Int32), x2.toInt = k → k ≤ m → (∀ i, i < k → ¬ FBR T τ y i) → QT (f_X11_branchFor_2 n y x2 τ) (fun q => q.1.2 = τ ∧ FIX m (FBR T τ y) (fun i => (i : Int)) q.1.1.toInt) := by
  have l0 := li_0
  have l1 := li_1
  have lm := li_m1
  obtain ⟨⟨k2, _, k4, k5⟩, _⟩ := kv.t
  have ny := nN_ hy.1
  intro n
  induction n with
  | zero =>
    intro k x2 _ _ _
    rw [f_X11_branchFor_2]
    exact QT.none
  | succ n ih =>
    intro k x2 h2 hk hno
    rw [f_X11_branchFor_2]
    rw [k4, k5]
    refine QT.grd (fun _ => ?_)
    refine QT.ile (fun h => QT.ret ⟨rfl, .inl ⟨lm, fun i hi => hno i (by omega)⟩⟩) (fun hlt => ?_)
    refine QT.grd (fun _ => ?_)
    have e1 := mlE (k := 4) (y := y) 4 li_4 (by omega) (by omega)
    have e2 := il_addE (x := 4 * y) (y := x2) (by omega) (by omega)
    have e4 : (4 * y + x2).toNatClampNeg = 4 * y.toNatClampNeg + k := nC (by omega)
    rw [e4]
    obtain ⟨d', hG⟩ := TG.ex (hB k (by omega))
    refine QT.bndK (b_fits _ τ hG.1.2) (fun v c hv => QT.kac ?_)
    dsimp only
    rw [k2] at hv
    have e3 := il_addE (x := x2) (y := 1) (by omega) (by omega)
    refine QT.ieq (fun e0 => ?_) (fun e0 => ?_)
    · refine ih (k + 1) (x2 + 1) (by omega) (by omega) (fun i hi => ?_)
      rcases Nat.lt_or_ge i k with h9 | h9
      · exact hno i h9
      · have e9 : i = k := by omega
        rw [e9]
        rcases hv with hv | hv
        · exact hv.2
        · have := hv.1
          omega
    · have hF : FBR T τ y k := by
        rcases hv with hv | hv
        · have := hv.1
          omega
        · exact hv.2
      exact QT.ret ⟨rfl, .inr ⟨k, by omega, h2, hF, hno⟩⟩
theorem q_isValue (τ : ST) : OK (f_X11_isValue τ) (KO τ 10 fun v => v.toInt = 0 ∧ ¬ (LT_ τ ∨ (τ.1 0 13).toInt = 123) ∨ v.toInt = 1 ∧ (LT_ τ ∨ (τ.1 0 13).toInt = 123)) := by
  unfold f_X11_isValue f_X11_isValue_16
  have lt_0 := li_0
  have lt_1 := li_1
  have l123 : (123 : Int32).toInt = 123 := by decide
  refine OK.bndK (b_isLiteral τ) (fun v x hv hx => ?_)
  refine OK.kac ?_
  dsimp only
  refine OK.ieq (fun e0 => ?_) (fun e0 => ⟨_, rfl, rfl, .inr ⟨lt_1, .inl ?_⟩, hx⟩)
  · have hL : ¬ LT_ τ := by
      rcases hv with hv | hv
      · exact hv.2
      · have := hv.1
        omega
    exact OK.ieq (fun e => ⟨_, rfl, rfl, .inr ⟨lt_1, .inr (by omega)⟩, hx⟩) (fun e => ⟨_, rfl, rfl, .inl ⟨lt_0, fun h9 => h9.elim hL (fun h => e (by omega))⟩, hx⟩)
  · rcases hv with hv | hv
    · have := hv.1
      omega
    · exact hv.2
/-- the reference's way to a value's node: what it asks ahead of it -/
theorem q_val42 {ri rp : Int32 → Int32 → Int32 → Int32 → ST → Option ((Int32 × ST) × Nat)} {rv : Int32 → Int32 → Int32 → Int32 → Int32 → ST → Option ((Int32 × ST) × Nat)} (x1 x3 x4 x5 x6 u : Int32) (τ : ST) (hu : 0 ≤ u.toInt ∧ u.toInt < 800) (P : Int32 × ST → Prop) (hbad : ¬ ((LT_ τ ∨ (τ.1 0 13).toInt = 123) ∧ FT_ τ (τ.1 2 u.toNatClampNeg).toInt ∧ x3.toInt < 31 ∧ (x5.toInt < 200 ∨ x4.toInt < 0 ∨ ¬ (τ.1 20 x4.toNatClampNeg).toInt = 6)) → ∀ q : Int32 × ST, q.1 = 0 → P q) (hgood : (LT_ τ ∨ (τ.1 0 13).toInt = 123) → FT_ τ (τ.1 2 u.toNatClampNeg).toInt → x3.toInt < 31 → (x5.toInt < 200 ∨ x4.toInt < 0 ∨ ¬ (τ.1 20 x4.toNatClampNeg).toInt = 6) → QT (f_X11_value_104 ri rp rv x1 x3 x4 x5 x6 u 0 τ) (fun q => P q.1)) : QT (f_X11_value_42 ri rp rv x1 x3 x4 x5 x6 u τ) (fun q => P q.1) := by
  have l0 := li_0
  have l1 := li_1
  have l2 := li_2
  have l4 := li_4
  have l6 := li_6
  have l31 : (31 : Int32).toInt = 31 := by decide
  have l200 : (200 : Int32).toInt = 200 := by decide
  have bad : ∀ (k : Int32), 0 < k.toInt → ¬ ((LT_ τ ∨ (τ.1 0 13).toInt = 123) ∧ FT_ τ (τ.1 2 u.toNatClampNeg).toInt ∧ x3.toInt < 31 ∧ (x5.toInt < 200 ∨ x4.toInt < 0 ∨ ¬ (τ.1 20 x4.toNatClampNeg).toInt = 6)) → QT (f_X11_value_104 ri rp rv x1 x3 x4 x5 x6 u k τ) (fun q => P q.1) := fun k hk hn => by
    unfold f_X11_value_104
    exact QT.ile (fun h => by omega) (fun _ => (qb_wr k τ).mono (fun z hz => hbad hn z.1 hz))
  unfold f_X11_value_42
  refine QT.bndK (q_isValue τ) (fun v c hv => QT.kac ?_)
  dsimp only
  refine QT.ieq (fun e0 => bad 1 (by omega) (fun h9 => ?_)) (fun e0 => ?_)
  · rcases hv with hv | hv
    · exact hv.2 h9.1
    · have := hv.1
      omega
  have hL : LT_ τ ∨ (τ.1 0 13).toInt = 123 := by
    rcases hv with hv | hv
    · have := hv.1
      omega
    · exact hv.2
  refine QT.bndK (b_fits u τ hu) (fun v2 c2 hv2 => QT.kac ?_)
  dsimp only
  refine QT.ieq (fun e1 => bad 2 (by omega) (fun h9 => ?_)) (fun e1 => ?_)
  · rcases hv2 with hv | hv
    · exact hv.2 h9.2.1
    · have := hv.1
      omega
  have hF : FT_ τ (τ.1 2 u.toNatClampNeg).toInt := by
    rcases hv2 with hv | hv
    · have := hv.1
      omega
    · exact hv.2
  unfold f_X11_value_99 f_X11_value_103
  refine QT.ile (fun h => bad 4 (by omega) (fun h9 => by have := h9.2.2.1; omega)) (fun h31 => ?_)
  refine QT.ilt (fun h => hgood hL hF (by omega) (.inl (by omega))) (fun h200 => ?_)
  refine QT.ilt (fun h => hgood hL hF (by omega) (.inr (.inl (by omega)))) (fun hx4 => ?_)
  refine QT.grd (fun _ => ?_)
  exact QT.ieq (fun h => bad 4 (by omega) (fun h9 => by have := h9.2.2.2; omega)) (fun h => hgood hL hF (by omega) (.inr (.inr (by omega))))
theorem q_value {ri rp : Int32 → Int32 → Int32 → Int32 → ST → Option ((Int32 × ST) × Nat)} {rv : Int32 → Int32 → Int32 → Int32 → Int32 → ST → Option ((Int32 × ST) × Nat)} {p : Nat} {rm : Int} {S T τ : ST} {d : Nat} {x y : Int32} (h : TG p rm S T d x y) (kv : KVB T τ) (p0 p2 p3 p4 : Int32) (P : Int32 × ST → Prop) (k : ∀ br u : Int32, CHO T τ y br u → QT (f_X11_value_42 ri rp rv p0 p2 p3 p4 br u τ) (fun q => P q.1)) : QT (f_X11_value ri rp rv p0 y p2 p3 p4 τ) (fun q => P q.1) := by
  have l0 := li_0
  have l8 : (8 : Int32).toInt = 8 := by decide
  have lm := li_m1
  obtain ⟨⟨k2, _, k4, k5⟩, _⟩ := kv.t
  have ny := nN_ h.1.2.1
  unfold f_X11_value f_X11_value_20
  refine QT.grd (fun _ => ?_)
  rw [k2]
  refine QT.ieq (fun e => ?_) (fun e => ?_)
  · obtain ⟨m, hm, hM, hB, hz⟩ := h.2.2.2.2.2 (by omega)
    refine QT.bnd (bq_branchFor_2 h.1.2 kv hm.2 hM (fun k hk => (hB k hk).1) FU 0 0 l0 (by omega) (fun i hi => by omega)) (fun q hq => QT.kac ?_)
    obtain ⟨⟨v, s⟩, c⟩ := q
    obtain ⟨e1, hv⟩ := hq
    have e1 : s = τ := e1
    subst e1
    have hv : FIX m (FBR T s y) (fun i => (i : Int)) v.toInt := hv
    dsimp only
    rw [k5]
    refine QT.ile (fun h0 => ?_) (fun h0 => ?_)
    · rcases hv with hv | ⟨i, h1, h2, h3, h4⟩
      · have := hv.1
        omega
      · have h2 : v.toInt = (i : Int) := h2
        refine QT.grd (fun _ => ?_)
        have e1 := mlE (k := 4) (y := y) 4 li_4 (by omega) (by omega)
        have e2 := il_addE (x := 4 * y) (y := v) (by omega) (by omega)
        have e4 : (4 * y + v).toNatClampNeg = 4 * y.toNatClampNeg + i := nC (by omega)
        rw [e4]
        refine k v _ (.inr ⟨by omega, m, hM, .inr ⟨i, h1, h2, h3, h4⟩, fun h9 => by omega, fun k9 h9 => ?_⟩)
        rw [show k9 = i by omega]
    · refine k v y (.inr ⟨by omega, m, hM, hv, fun _ => rfl, fun k9 h9 => by omega⟩)
  · refine QT.ite (fun h0 => absurd (Int32.le_iff_toInt_le.mp h0) (by omega)) (fun _ => ?_)
    exact k (-1) y (.inl ⟨by omega, lm, rfl⟩)
/-- both choose alike -/
theorem fit_pair {p : Nat} {rm : Int} {S T τ : ST} {d : Nat} {x y v br u : Int32} (h : TG p rm S T d x y) (hA : FTA S T τ x y v) (hB : CHO T τ y br u) : (v.toInt = -1 ∧ ¬ FT_ τ (T.1 2 u.toNatClampNeg).toInt) ∨ (0 ≤ v.toInt ∧ FT_ τ (T.1 2 u.toNatClampNeg).toInt ∧ OWN S T x y br v u ∧ ∃ d', TG p rm S T d' v u) := by
  rcases hB with ⟨b1, b2, b3⟩ | ⟨b1, m, b2, b3, b4, b5⟩
  · subst b3
    rcases hA with ⟨a1, a2⟩ | ⟨a1, _⟩
    · rcases a2 with a2 | ⟨a2, a3⟩
      · exact .inl a2
      · subst a2
        exact .inr ⟨h.1.1.1, a3, .inl ⟨b2, rfl, rfl, b1⟩, d, h⟩
    · exact absurd a1 b1
  · rcases hA with ⟨a1, _⟩ | ⟨_, m', a2, a3⟩
    · exact absurd b1 a1
    · have em : m' = m := by omega
      subst em
      rcases a3 with ⟨a3, a4⟩ | ⟨i, a3, a4, a5, a6⟩
      · refine .inl ⟨a3, ?_⟩
        rcases b3 with ⟨b3, _⟩ | ⟨j, c3, _, c5, _⟩
        · rw [b4 b3]
          exact ft_8 (by omega)
        · exact absurd c5 (a4 j c3)
      · rcases b3 with ⟨b3, c4⟩ | ⟨j, c3, c4, c5, c6⟩
        · exact absurd a5 (c4 i a3)
        · have eij : i = j := by
            rcases Nat.lt_trichotomy i j with h9 | h9 | h9
            · exact absurd a5 (c6 i h9)
            · exact h9
            · exact absurd c5 (a6 j h9)
          subst eij
          obtain ⟨m2, hm, hM, hT, hz⟩ := h.2.2.2.2.2 b1
          have hT := hT i (by omega)
          have eu := b5 i c4
          have ev : v = chn (S.1 17) (S.1 16 x.toNatClampNeg) i := Int32.toInt_inj.mp a4
          obtain ⟨d', hG⟩ := TG.ex hT.1
          rw [← ev, ← eu] at hG
          refine .inr ⟨hG.1.1.1, ?_, .inr ⟨b1, i, c4, by omega, ev, eu⟩, d', hG⟩
          have a5 : FT_ τ (T.1 2 (T.1 5 (4 * y.toNatClampNeg + i)).toNatClampNeg).toInt := a5
          rw [eu]
          exact a5
theorem OWN.n8 {p : Nat} {rm : Int} {S T : ST} {d : Nat} {x y v br u : Int32} (h : TG p rm S T d x y) (k : OWN S T x y br v u) : ¬ (T.1 2 u.toNatClampNeg).toInt = 8 := by
  rcases k with ⟨_, _, e, h9⟩ | ⟨h8, i, _, h1, _, e⟩
  · rw [e]
    exact h9
  · obtain ⟨m, hm, hM, hT, _⟩ := h.2.2.2.2.2 h8
    rw [e]
    exact (hT i (by omega)).2
